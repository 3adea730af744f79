/-! FenceDuel.addEdgeLetter(IIII)I -/
def f_X6_addEdgeLetter (l1 : Int32) (l2 : Int32) (l3 : Int32) (l4 : Int32) (I : xI) : Option (Int32 × xI) :=
  xb (f_X6_isPlayer l1 I) (fun r1 I1 => if r1 = 0 then some ((-1 : Int32), I1) else xb (f_X1_edgeNumber l3 l4 I1) (fun r2 I2 => xb (f_X6_isEdge r2 I2) (fun r3 I3 => if r3 ≠ 0 then xb (f_X5_addLetter 45 l1 l2 l3 l4 I3) (fun r4 I4 => some (r4, I4)) else some ((-1 : Int32), I3))))
theorem t_X6_addEdgeLetter (l1 : Int32) (l2 : Int32) (l3 : Int32) (l4 : Int32) (I : xI) : Ey none mX6_addEdgeLetter 0 [some (.inr (some 0)), some (.inl l1), some (.inl l2), some (.inl l3), some (.inl l4)] [] I (f_X6_addEdgeLetter l1 l2 l3 l4 I) := by
  unfold f_X6_addEdgeLetter
  refine Ex.iload_n (M := mX6_addEdgeLetter) (pc2 := 1) dX6_addEdgeLetter_0 rfl rfl rfl ?_
  refine Ey.callSi (M := mX6_addEdgeLetter) (pc2 := 4) (as := [.inl l1]) (rest := []) rfl dX6_addEdgeLetter_1 isX6_isPlayer lcX6_239  rfl ⟨(Nat.le_of_ble_eq_true rfl), (Nat.le_of_ble_eq_true rfl)⟩ rfl (Nat.le_of_ble_eq_true rfl) (Nat.le_of_ble_eq_true rfl) (t_X6_isPlayer l1 I) rfl (fun r1 I1 => ?_)
  refine Ey.if_eq (M := mX6_addEdgeLetter) (tgt := 23) (pc2 := 7) dX6_addEdgeLetter_4 rfl (fun _ => ?_) rfl (fun _ => ?_)
  · refine Ex.iconst (M := mX6_addEdgeLetter) (pc2 := 24) dX6_addEdgeLetter_23 ki_m1 rfl ?_
    exact Ey.ireturn (M := mX6_addEdgeLetter) dX6_addEdgeLetter_24 rfl rfl
  · refine Ex.aload_n (M := mX6_addEdgeLetter) (pc2 := 8) dX6_addEdgeLetter_7 rfl rfl rfl ?_
    refine Ex.getR (M := mX6_addEdgeLetter) (pc2 := 11) dX6_addEdgeLetter_8 xck6 lfX6_10 (Nat.le_of_ble_eq_true rfl) sh_0 rfl ff_0_0 rfl ?_
    refine Ex.iload_n (M := mX6_addEdgeLetter) (pc2 := 12) dX6_addEdgeLetter_11 rfl rfl rfl ?_
    refine Ex.iload (M := mX6_addEdgeLetter) (pc2 := 14) dX6_addEdgeLetter_12 rfl rfl ?_
    refine Ey.callVi (M := mX6_addEdgeLetter) (pc2 := 17) (as := [.inl l3, .inl l4]) (rest := []) rfl dX6_addEdgeLetter_14 isX1_edgeNumber lcX6_152 sh_1 rfl rfl ⟨(Nat.le_of_ble_eq_true rfl), (Nat.le_of_ble_eq_true rfl)⟩ rfl (Nat.le_of_ble_eq_true rfl) (Nat.le_of_ble_eq_true rfl) (t_X1_edgeNumber l3 l4 I1) rfl (fun r2 I2 => ?_)
    refine Ey.callSi (M := mX6_addEdgeLetter) (pc2 := 20) (as := [.inl r2]) (rest := []) rfl dX6_addEdgeLetter_17 isX6_isEdge lcX6_155  rfl ⟨(Nat.le_of_ble_eq_true rfl), (Nat.le_of_ble_eq_true rfl)⟩ rfl (Nat.le_of_ble_eq_true rfl) (Nat.le_of_ble_eq_true rfl) (t_X6_isEdge r2 I2) rfl (fun r3 I3 => ?_)
    refine Ey.if_ne (M := mX6_addEdgeLetter) (tgt := 25) (pc2 := 23) dX6_addEdgeLetter_20 rfl (fun _ => ?_) rfl (fun _ => ?_)
    · refine Ex.aload_n (M := mX6_addEdgeLetter) (pc2 := 26) dX6_addEdgeLetter_25 rfl rfl rfl ?_
      refine Ex.getR (M := mX6_addEdgeLetter) (pc2 := 29) dX6_addEdgeLetter_26 xck6 lfX6_51 (Nat.le_of_ble_eq_true rfl) sh_0 rfl ff_0_5 rfl ?_
      refine Ex.iload_n (M := mX6_addEdgeLetter) (pc2 := 30) dX6_addEdgeLetter_29 rfl rfl rfl ?_
      refine Ex.iload_n (M := mX6_addEdgeLetter) (pc2 := 31) dX6_addEdgeLetter_30 rfl rfl rfl ?_
      refine Ex.iload_n (M := mX6_addEdgeLetter) (pc2 := 32) dX6_addEdgeLetter_31 rfl rfl rfl ?_
      refine Ex.iload (M := mX6_addEdgeLetter) (pc2 := 34) dX6_addEdgeLetter_32 rfl rfl ?_
      refine Ey.callVi (M := mX6_addEdgeLetter) (pc2 := 37) (as := [.inl l1, .inl l2, .inl l3, .inl l4]) (rest := []) rfl dX6_addEdgeLetter_34 isX5_addLetter lcX6_242 sh_45 rfl rfl ⟨(Nat.le_of_ble_eq_true rfl), (Nat.le_of_ble_eq_true rfl)⟩ rfl (Nat.le_of_ble_eq_true rfl) (Nat.le_of_ble_eq_true rfl) (t_X5_addLetter 45 xst_45 l1 l2 l3 l4 I3) rfl (fun r4 I4 => ?_)
      exact Ey.ireturn (M := mX6_addEdgeLetter) dX6_addEdgeLetter_37 rfl rfl
    · refine Ex.iconst (M := mX6_addEdgeLetter) (pc2 := 24) dX6_addEdgeLetter_23 ki_m1 rfl ?_
      exact Ey.ireturn (M := mX6_addEdgeLetter) dX6_addEdgeLetter_24 rfl rfl
/-! FenceDuel.recordUnlessError(I)I -/
def f_X6_recordUnlessError (l1 : Int32) (I : xI) : Option (Int32 × xI) :=
  if l1 < 0 then some (l1, I) else xb (f_X2_add 51 I) (fun _ I1 => some (l1, I1))
theorem t_X6_recordUnlessError (l1 : Int32) (I : xI) : Ey none mX6_recordUnlessError 0 [some (.inr (some 0)), some (.inl l1)] [] I (f_X6_recordUnlessError l1 I) := by
  unfold f_X6_recordUnlessError
  refine Ex.iload_n (M := mX6_recordUnlessError) (pc2 := 1) dX6_recordUnlessError_0 rfl rfl rfl ?_
  refine Ey.if_lt (M := mX6_recordUnlessError) (tgt := 15) (pc2 := 4) dX6_recordUnlessError_1 rfl (fun _ => ?_) rfl (fun _ => ?_)
  · refine Ex.iload_n (M := mX6_recordUnlessError) (pc2 := 16) dX6_recordUnlessError_15 rfl rfl rfl ?_
    exact Ey.ireturn (M := mX6_recordUnlessError) dX6_recordUnlessError_16 rfl rfl
  · refine Ex.aload_n (M := mX6_recordUnlessError) (pc2 := 5) dX6_recordUnlessError_4 rfl rfl rfl ?_
    refine Ex.getR (M := mX6_recordUnlessError) (pc2 := 8) dX6_recordUnlessError_5 xck6 lfX6_44 (Nat.le_of_ble_eq_true rfl) sh_0 rfl ff_0_4 rfl ?_
    refine Ex.aload_n (M := mX6_recordUnlessError) (pc2 := 9) dX6_recordUnlessError_8 rfl rfl rfl ?_
    refine Ex.getR (M := mX6_recordUnlessError) (pc2 := 12) dX6_recordUnlessError_9 xck6 lfX6_55 (Nat.le_of_ble_eq_true rfl) sh_0 rfl ff_0_6 rfl ?_
    refine Ey.callVv (M := mX6_recordUnlessError) (pc2 := 15) (as := [.inr (some 51)]) (rest := []) rfl dX6_recordUnlessError_12 isX2_add lcX6_90 sh_19 rfl rfl ⟨(Nat.le_of_ble_eq_true rfl), (Nat.le_of_ble_eq_true rfl)⟩ rfl (Nat.le_of_ble_eq_true rfl) (Nat.le_of_ble_eq_true rfl) (t_X2_add 51 xst_51 I) rfl (fun I1 => ?_)
    refine Ex.iload_n (M := mX6_recordUnlessError) (pc2 := 16) dX6_recordUnlessError_15 rfl rfl rfl ?_
    exact Ey.ireturn (M := mX6_recordUnlessError) dX6_recordUnlessError_16 rfl rfl
/-! FenceDuel.writeEdge(IZII)I -/
def f_X6_writeEdge (l1 : Int32) (l2 : Int32) (l3 : Int32) (l4 : Int32) (I : xI) : Option (Int32 × xI) :=
  xb (f_X5_takeFrom 51 45 I) (fun _ I1 => if l2 = 0 then xb (f_X6_addEdgeLetter l1 (0 : Int32) l3 l4 I1) (fun r2 I2 => xb (f_X6_recordUnlessError r2 I2) (fun r3 I3 => some (r3, I3))) else xb (f_X6_addEdgeLetter l1 (1 : Int32) l3 l4 I1) (fun r4 I4 => xb (f_X6_recordUnlessError r4 I4) (fun r5 I5 => some (r5, I5))))
theorem t_X6_writeEdge (l1 : Int32) (l2 : Int32) (l3 : Int32) (l4 : Int32) (I : xI) : Ey none mX6_writeEdge 0 [some (.inr (some 0)), some (.inl l1), some (.inl l2), some (.inl l3), some (.inl l4)] [] I (f_X6_writeEdge l1 l2 l3 l4 I) := by
  unfold f_X6_writeEdge
  refine Ex.aload_n (M := mX6_writeEdge) (pc2 := 1) dX6_writeEdge_0 rfl rfl rfl ?_
  refine Ex.getR (M := mX6_writeEdge) (pc2 := 4) dX6_writeEdge_1 xck6 lfX6_55 (Nat.le_of_ble_eq_true rfl) sh_0 rfl ff_0_6 rfl ?_
  refine Ex.aload_n (M := mX6_writeEdge) (pc2 := 5) dX6_writeEdge_4 rfl rfl rfl ?_
  refine Ex.getR (M := mX6_writeEdge) (pc2 := 8) dX6_writeEdge_5 xck6 lfX6_51 (Nat.le_of_ble_eq_true rfl) sh_0 rfl ff_0_5 rfl ?_
  refine Ey.callVv (M := mX6_writeEdge) (pc2 := 11) (as := [.inr (some 45)]) (rest := []) rfl dX6_writeEdge_8 isX5_takeFrom lcX6_64 sh_51 rfl rfl ⟨(Nat.le_of_ble_eq_true rfl), (Nat.le_of_ble_eq_true rfl)⟩ rfl (Nat.le_of_ble_eq_true rfl) (Nat.le_of_ble_eq_true rfl) (t_X5_takeFrom 51 xst_51 45 xst_45 I) rfl (fun I1 => ?_)
  refine Ex.aload_n (M := mX6_writeEdge) (pc2 := 12) dX6_writeEdge_11 rfl rfl rfl ?_
  refine Ex.aload_n (M := mX6_writeEdge) (pc2 := 13) dX6_writeEdge_12 rfl rfl rfl ?_
  refine Ex.iload_n (M := mX6_writeEdge) (pc2 := 14) dX6_writeEdge_13 rfl rfl rfl ?_
  refine Ex.iload_n (M := mX6_writeEdge) (pc2 := 15) dX6_writeEdge_14 rfl rfl rfl ?_
  refine Ey.if_eq (M := mX6_writeEdge) (tgt := 22) (pc2 := 18) dX6_writeEdge_15 rfl (fun _ => ?_) rfl (fun _ => ?_)
  · refine Ex.iconst (M := mX6_writeEdge) (pc2 := 23) dX6_writeEdge_22 ki_0 rfl ?_
    refine Ex.iload_n (M := mX6_writeEdge) (pc2 := 24) dX6_writeEdge_23 rfl rfl rfl ?_
    refine Ex.iload (M := mX6_writeEdge) (pc2 := 26) dX6_writeEdge_24 rfl rfl ?_
    refine Ey.callVi (M := mX6_writeEdge) (pc2 := 29) (as := [.inl l1, .inl (0 : Int32), .inl l3, .inl l4]) (rest := [.inr (some 0)]) rfl dX6_writeEdge_26 isX6_addEdgeLetter lcX6_68 sh_0 rfl rfl ⟨(Nat.le_of_ble_eq_true rfl), (Nat.le_of_ble_eq_true rfl)⟩ rfl (Nat.le_of_ble_eq_true rfl) (Nat.le_of_ble_eq_true rfl) (t_X6_addEdgeLetter l1 (0 : Int32) l3 l4 I1) rfl (fun r2 I2 => ?_)
    refine Ey.callVi (M := mX6_writeEdge) (pc2 := 32) (as := [.inl r2]) (rest := []) rfl dX6_writeEdge_29 isX6_recordUnlessError lcX6_72 sh_0 rfl rfl ⟨(Nat.le_of_ble_eq_true rfl), (Nat.le_of_ble_eq_true rfl)⟩ rfl (Nat.le_of_ble_eq_true rfl) (Nat.le_of_ble_eq_true rfl) (t_X6_recordUnlessError r2 I2) rfl (fun r3 I3 => ?_)
    exact Ey.ireturn (M := mX6_writeEdge) dX6_writeEdge_32 rfl rfl
  · refine Ex.iconst (M := mX6_writeEdge) (pc2 := 19) dX6_writeEdge_18 ki_1 rfl ?_
    refine Ex.goto (M := mX6_writeEdge) (tgt := 23) dX6_writeEdge_19 rfl ?_
    refine Ex.iload_n (M := mX6_writeEdge) (pc2 := 24) dX6_writeEdge_23 rfl rfl rfl ?_
    refine Ex.iload (M := mX6_writeEdge) (pc2 := 26) dX6_writeEdge_24 rfl rfl ?_
    refine Ey.callVi (M := mX6_writeEdge) (pc2 := 29) (as := [.inl l1, .inl (1 : Int32), .inl l3, .inl l4]) (rest := [.inr (some 0)]) rfl dX6_writeEdge_26 isX6_addEdgeLetter lcX6_68 sh_0 rfl rfl ⟨(Nat.le_of_ble_eq_true rfl), (Nat.le_of_ble_eq_true rfl)⟩ rfl (Nat.le_of_ble_eq_true rfl) (Nat.le_of_ble_eq_true rfl) (t_X6_addEdgeLetter l1 (1 : Int32) l3 l4 I1) rfl (fun r4 I4 => ?_)
    refine Ey.callVi (M := mX6_writeEdge) (pc2 := 32) (as := [.inl r4]) (rest := []) rfl dX6_writeEdge_29 isX6_recordUnlessError lcX6_72 sh_0 rfl rfl ⟨(Nat.le_of_ble_eq_true rfl), (Nat.le_of_ble_eq_true rfl)⟩ rfl (Nat.le_of_ble_eq_true rfl) (Nat.le_of_ble_eq_true rfl) (t_X6_recordUnlessError r4 I4) rfl (fun r5 I5 => ?_)
    exact Ey.ireturn (M := mX6_writeEdge) dX6_writeEdge_32 rfl rfl
/-! FenceDuel.addClaim(II)I -/
def f_X6_addClaim (l1 : Int32) (l2 : Int32) (I : xI) : Option (Int32 × xI) :=
  xb (f_X6_isPlayer l1 I) (fun r1 I1 => if r1 = 0 then some ((-1 : Int32), I1) else xb (f_X6_isField l2 I1) (fun r2 I2 => if r2 ≠ 0 then xb (f_X5_addLetter 45 l1 (2 : Int32) l2 (-5 : Int32) I2) (fun r3 I3 => some (r3, I3)) else some ((-1 : Int32), I2)))
theorem t_X6_addClaim (l1 : Int32) (l2 : Int32) (I : xI) : Ey none mX6_addClaim 0 [some (.inr (some 0)), some (.inl l1), some (.inl l2)] [] I (f_X6_addClaim l1 l2 I) := by
  unfold f_X6_addClaim
  refine Ex.iload_n (M := mX6_addClaim) (pc2 := 1) dX6_addClaim_0 rfl rfl rfl ?_
  refine Ey.callSi (M := mX6_addClaim) (pc2 := 4) (as := [.inl l1]) (rest := []) rfl dX6_addClaim_1 isX6_isPlayer lcX6_239  rfl ⟨(Nat.le_of_ble_eq_true rfl), (Nat.le_of_ble_eq_true rfl)⟩ rfl (Nat.le_of_ble_eq_true rfl) (Nat.le_of_ble_eq_true rfl) (t_X6_isPlayer l1 I) rfl (fun r1 I1 => ?_)
  refine Ey.if_eq (M := mX6_addClaim) (tgt := 14) (pc2 := 7) dX6_addClaim_4 rfl (fun _ => ?_) rfl (fun _ => ?_)
  · refine Ex.iconst (M := mX6_addClaim) (pc2 := 15) dX6_addClaim_14 ki_m1 rfl ?_
    exact Ey.ireturn (M := mX6_addClaim) dX6_addClaim_15 rfl rfl
  · refine Ex.iload_n (M := mX6_addClaim) (pc2 := 8) dX6_addClaim_7 rfl rfl rfl ?_
    refine Ey.callSi (M := mX6_addClaim) (pc2 := 11) (as := [.inl l2]) (rest := []) rfl dX6_addClaim_8 isX6_isField lcX6_161  rfl ⟨(Nat.le_of_ble_eq_true rfl), (Nat.le_of_ble_eq_true rfl)⟩ rfl (Nat.le_of_ble_eq_true rfl) (Nat.le_of_ble_eq_true rfl) (t_X6_isField l2 I1) rfl (fun r2 I2 => ?_)
    refine Ey.if_ne (M := mX6_addClaim) (tgt := 16) (pc2 := 14) dX6_addClaim_11 rfl (fun _ => ?_) rfl (fun _ => ?_)
    · refine Ex.aload_n (M := mX6_addClaim) (pc2 := 17) dX6_addClaim_16 rfl rfl rfl ?_
      refine Ex.getR (M := mX6_addClaim) (pc2 := 20) dX6_addClaim_17 xck6 lfX6_51 (Nat.le_of_ble_eq_true rfl) sh_0 rfl ff_0_5 rfl ?_
      refine Ex.iload_n (M := mX6_addClaim) (pc2 := 21) dX6_addClaim_20 rfl rfl rfl ?_
      refine Ex.iconst (M := mX6_addClaim) (pc2 := 22) dX6_addClaim_21 ki_2 rfl ?_
      refine Ex.iload_n (M := mX6_addClaim) (pc2 := 23) dX6_addClaim_22 rfl rfl rfl ?_
      refine Ex.bipush (M := mX6_addClaim) (pc2 := 25) dX6_addClaim_23 kb_m5 rfl ?_
      refine Ey.callVi (M := mX6_addClaim) (pc2 := 28) (as := [.inl l1, .inl (2 : Int32), .inl l2, .inl (-5 : Int32)]) (rest := []) rfl dX6_addClaim_25 isX5_addLetter lcX6_242 sh_45 rfl rfl ⟨(Nat.le_of_ble_eq_true rfl), (Nat.le_of_ble_eq_true rfl)⟩ rfl (Nat.le_of_ble_eq_true rfl) (Nat.le_of_ble_eq_true rfl) (t_X5_addLetter 45 xst_45 l1 (2 : Int32) l2 (-5 : Int32) I2) rfl (fun r3 I3 => ?_)
      exact Ey.ireturn (M := mX6_addClaim) dX6_addClaim_28 rfl rfl
    · refine Ex.iconst (M := mX6_addClaim) (pc2 := 15) dX6_addClaim_14 ki_m1 rfl ?_
      exact Ey.ireturn (M := mX6_addClaim) dX6_addClaim_15 rfl rfl
/-! FenceDuel.writeClaim(II)I -/
def f_X6_writeClaim (l1 : Int32) (l2 : Int32) (I : xI) : Option (Int32 × xI) :=
  xb (f_X5_takeFrom 51 45 I) (fun _ I1 => xb (f_X6_addClaim l1 l2 I1) (fun r2 I2 => xb (f_X6_recordUnlessError r2 I2) (fun r3 I3 => some (r3, I3))))
theorem t_X6_writeClaim (l1 : Int32) (l2 : Int32) (I : xI) : Ey none mX6_writeClaim 0 [some (.inr (some 0)), some (.inl l1), some (.inl l2)] [] I (f_X6_writeClaim l1 l2 I) := by
  unfold f_X6_writeClaim
  refine Ex.aload_n (M := mX6_writeClaim) (pc2 := 1) dX6_writeClaim_0 rfl rfl rfl ?_
  refine Ex.getR (M := mX6_writeClaim) (pc2 := 4) dX6_writeClaim_1 xck6 lfX6_55 (Nat.le_of_ble_eq_true rfl) sh_0 rfl ff_0_6 rfl ?_
  refine Ex.aload_n (M := mX6_writeClaim) (pc2 := 5) dX6_writeClaim_4 rfl rfl rfl ?_
  refine Ex.getR (M := mX6_writeClaim) (pc2 := 8) dX6_writeClaim_5 xck6 lfX6_51 (Nat.le_of_ble_eq_true rfl) sh_0 rfl ff_0_5 rfl ?_
  refine Ey.callVv (M := mX6_writeClaim) (pc2 := 11) (as := [.inr (some 45)]) (rest := []) rfl dX6_writeClaim_8 isX5_takeFrom lcX6_64 sh_51 rfl rfl ⟨(Nat.le_of_ble_eq_true rfl), (Nat.le_of_ble_eq_true rfl)⟩ rfl (Nat.le_of_ble_eq_true rfl) (Nat.le_of_ble_eq_true rfl) (t_X5_takeFrom 51 xst_51 45 xst_45 I) rfl (fun I1 => ?_)
  refine Ex.aload_n (M := mX6_writeClaim) (pc2 := 12) dX6_writeClaim_11 rfl rfl rfl ?_
  refine Ex.aload_n (M := mX6_writeClaim) (pc2 := 13) dX6_writeClaim_12 rfl rfl rfl ?_
  refine Ex.iload_n (M := mX6_writeClaim) (pc2 := 14) dX6_writeClaim_13 rfl rfl rfl ?_
  refine Ex.iload_n (M := mX6_writeClaim) (pc2 := 15) dX6_writeClaim_14 rfl rfl rfl ?_
  refine Ey.callVi (M := mX6_writeClaim) (pc2 := 18) (as := [.inl l1, .inl l2]) (rest := [.inr (some 0)]) rfl dX6_writeClaim_15 isX6_addClaim lcX6_76 sh_0 rfl rfl ⟨(Nat.le_of_ble_eq_true rfl), (Nat.le_of_ble_eq_true rfl)⟩ rfl (Nat.le_of_ble_eq_true rfl) (Nat.le_of_ble_eq_true rfl) (t_X6_addClaim l1 l2 I1) rfl (fun r2 I2 => ?_)
  refine Ey.callVi (M := mX6_writeClaim) (pc2 := 21) (as := [.inl r2]) (rest := []) rfl dX6_writeClaim_18 isX6_recordUnlessError lcX6_72 sh_0 rfl rfl ⟨(Nat.le_of_ble_eq_true rfl), (Nat.le_of_ble_eq_true rfl)⟩ rfl (Nat.le_of_ble_eq_true rfl) (Nat.le_of_ble_eq_true rfl) (t_X6_recordUnlessError r2 I2) rfl (fun r3 I3 => ?_)
  exact Ey.ireturn (M := mX6_writeClaim) dX6_writeClaim_21 rfl rfl
/-! FenceDuel.addTruce(II)I -/
def f_X6_addTruce (l1 : Int32) (l2 : Int32) (I : xI) : Option (Int32 × xI) :=
  xb (f_X6_isPlayer l1 I) (fun r1 I1 => if r1 ≠ 0 then if l2 < (1 : Int32) then some ((-2 : Int32), I1) else if l2 ≤ (99 : Int32) then xb (f_X5_addLetter 45 l1 (3 : Int32) (-5 : Int32) l2 I1) (fun r2 I2 => some (r2, I2)) else some ((-2 : Int32), I1) else some ((-1 : Int32), I1))
theorem t_X6_addTruce (l1 : Int32) (l2 : Int32) (I : xI) : Ey none mX6_addTruce 0 [some (.inr (some 0)), some (.inl l1), some (.inl l2)] [] I (f_X6_addTruce l1 l2 I) := by
  unfold f_X6_addTruce
  refine Ex.iload_n (M := mX6_addTruce) (pc2 := 1) dX6_addTruce_0 rfl rfl rfl ?_
  refine Ey.callSi (M := mX6_addTruce) (pc2 := 4) (as := [.inl l1]) (rest := []) rfl dX6_addTruce_1 isX6_isPlayer lcX6_239  rfl ⟨(Nat.le_of_ble_eq_true rfl), (Nat.le_of_ble_eq_true rfl)⟩ rfl (Nat.le_of_ble_eq_true rfl) (Nat.le_of_ble_eq_true rfl) (t_X6_isPlayer l1 I) rfl (fun r1 I1 => ?_)
  refine Ey.if_ne (M := mX6_addTruce) (tgt := 9) (pc2 := 7) dX6_addTruce_4 rfl (fun _ => ?_) rfl (fun _ => ?_)
  · refine Ex.iload_n (M := mX6_addTruce) (pc2 := 10) dX6_addTruce_9 rfl rfl rfl ?_
    refine Ex.iconst (M := mX6_addTruce) (pc2 := 11) dX6_addTruce_10 ki_1 rfl ?_
    refine Ey.icmp_lt (M := mX6_addTruce) (tgt := 20) (pc2 := 14) dX6_addTruce_11 rfl (fun _ => ?_) rfl (fun _ => ?_)
    · refine Ex.bipush (M := mX6_addTruce) (pc2 := 22) dX6_addTruce_20 kb_m2 rfl ?_
      exact Ey.ireturn (M := mX6_addTruce) dX6_addTruce_22 rfl rfl
    · refine Ex.iload_n (M := mX6_addTruce) (pc2 := 15) dX6_addTruce_14 rfl rfl rfl ?_
      refine Ex.bipush (M := mX6_addTruce) (pc2 := 17) dX6_addTruce_15 kb_99 rfl ?_
      refine Ey.icmp_le (M := mX6_addTruce) (tgt := 23) (pc2 := 20) dX6_addTruce_17 rfl (fun _ => ?_) rfl (fun _ => ?_)
      · refine Ex.aload_n (M := mX6_addTruce) (pc2 := 24) dX6_addTruce_23 rfl rfl rfl ?_
        refine Ex.getR (M := mX6_addTruce) (pc2 := 27) dX6_addTruce_24 xck6 lfX6_51 (Nat.le_of_ble_eq_true rfl) sh_0 rfl ff_0_5 rfl ?_
        refine Ex.iload_n (M := mX6_addTruce) (pc2 := 28) dX6_addTruce_27 rfl rfl rfl ?_
        refine Ex.iconst (M := mX6_addTruce) (pc2 := 29) dX6_addTruce_28 ki_3 rfl ?_
        refine Ex.bipush (M := mX6_addTruce) (pc2 := 31) dX6_addTruce_29 kb_m5 rfl ?_
        refine Ex.iload_n (M := mX6_addTruce) (pc2 := 32) dX6_addTruce_31 rfl rfl rfl ?_
        refine Ey.callVi (M := mX6_addTruce) (pc2 := 35) (as := [.inl l1, .inl (3 : Int32), .inl (-5 : Int32), .inl l2]) (rest := []) rfl dX6_addTruce_32 isX5_addLetter lcX6_242 sh_45 rfl rfl ⟨(Nat.le_of_ble_eq_true rfl), (Nat.le_of_ble_eq_true rfl)⟩ rfl (Nat.le_of_ble_eq_true rfl) (Nat.le_of_ble_eq_true rfl) (t_X5_addLetter 45 xst_45 l1 (3 : Int32) (-5 : Int32) l2 I1) rfl (fun r2 I2 => ?_)
        exact Ey.ireturn (M := mX6_addTruce) dX6_addTruce_35 rfl rfl
      · refine Ex.bipush (M := mX6_addTruce) (pc2 := 22) dX6_addTruce_20 kb_m2 rfl ?_
        exact Ey.ireturn (M := mX6_addTruce) dX6_addTruce_22 rfl rfl
  · refine Ex.iconst (M := mX6_addTruce) (pc2 := 8) dX6_addTruce_7 ki_m1 rfl ?_
    exact Ey.ireturn (M := mX6_addTruce) dX6_addTruce_8 rfl rfl
/-! FenceDuel.writeTruce(II)I -/
def f_X6_writeTruce (l1 : Int32) (l2 : Int32) (I : xI) : Option (Int32 × xI) :=
  xb (f_X5_takeFrom 51 45 I) (fun _ I1 => xb (f_X6_addTruce l1 l2 I1) (fun r2 I2 => xb (f_X6_recordUnlessError r2 I2) (fun r3 I3 => some (r3, I3))))
theorem t_X6_writeTruce (l1 : Int32) (l2 : Int32) (I : xI) : Ey none mX6_writeTruce 0 [some (.inr (some 0)), some (.inl l1), some (.inl l2)] [] I (f_X6_writeTruce l1 l2 I) := by
  unfold f_X6_writeTruce
  refine Ex.aload_n (M := mX6_writeTruce) (pc2 := 1) dX6_writeTruce_0 rfl rfl rfl ?_
  refine Ex.getR (M := mX6_writeTruce) (pc2 := 4) dX6_writeTruce_1 xck6 lfX6_55 (Nat.le_of_ble_eq_true rfl) sh_0 rfl ff_0_6 rfl ?_
  refine Ex.aload_n (M := mX6_writeTruce) (pc2 := 5) dX6_writeTruce_4 rfl rfl rfl ?_
  refine Ex.getR (M := mX6_writeTruce) (pc2 := 8) dX6_writeTruce_5 xck6 lfX6_51 (Nat.le_of_ble_eq_true rfl) sh_0 rfl ff_0_5 rfl ?_
  refine Ey.callVv (M := mX6_writeTruce) (pc2 := 11) (as := [.inr (some 45)]) (rest := []) rfl dX6_writeTruce_8 isX5_takeFrom lcX6_64 sh_51 rfl rfl ⟨(Nat.le_of_ble_eq_true rfl), (Nat.le_of_ble_eq_true rfl)⟩ rfl (Nat.le_of_ble_eq_true rfl) (Nat.le_of_ble_eq_true rfl) (t_X5_takeFrom 51 xst_51 45 xst_45 I) rfl (fun I1 => ?_)
  refine Ex.aload_n (M := mX6_writeTruce) (pc2 := 12) dX6_writeTruce_11 rfl rfl rfl ?_
  refine Ex.aload_n (M := mX6_writeTruce) (pc2 := 13) dX6_writeTruce_12 rfl rfl rfl ?_
  refine Ex.iload_n (M := mX6_writeTruce) (pc2 := 14) dX6_writeTruce_13 rfl rfl rfl ?_
  refine Ex.iload_n (M := mX6_writeTruce) (pc2 := 15) dX6_writeTruce_14 rfl rfl rfl ?_
  refine Ey.callVi (M := mX6_writeTruce) (pc2 := 18) (as := [.inl l1, .inl l2]) (rest := [.inr (some 0)]) rfl dX6_writeTruce_15 isX6_addTruce lcX6_80 sh_0 rfl rfl ⟨(Nat.le_of_ble_eq_true rfl), (Nat.le_of_ble_eq_true rfl)⟩ rfl (Nat.le_of_ble_eq_true rfl) (Nat.le_of_ble_eq_true rfl) (t_X6_addTruce l1 l2 I1) rfl (fun r2 I2 => ?_)
  refine Ey.callVi (M := mX6_writeTruce) (pc2 := 21) (as := [.inl r2]) (rest := []) rfl dX6_writeTruce_18 isX6_recordUnlessError lcX6_72 sh_0 rfl rfl ⟨(Nat.le_of_ble_eq_true rfl), (Nat.le_of_ble_eq_true rfl)⟩ rfl (Nat.le_of_ble_eq_true rfl) (Nat.le_of_ble_eq_true rfl) (t_X6_recordUnlessError r2 I2) rfl (fun r3 I3 => ?_)
  exact Ey.ireturn (M := mX6_writeTruce) dX6_writeTruce_21 rfl rfl
/-! FenceDuel.callBack(I)I -/
def f_X6_callBack (l1 : Int32) (I : xI) : Option (Int32 × xI) :=
  xb (f_X5_hasLetter 45 l1 I) (fun r1 I1 => if r1 ≠ 0 then xb (f_X5_told 45 l1 (6 : Int32) I1) (fun r2 I2 => if r2 = 0 then xb (f_X2_add 45 I2) (fun _ I3 => xb (f_X5_mark 45 l1 (6 : Int32) (3 : Int32) I3) (fun _ I4 => xb (f_X5_told 45 l1 (5 : Int32) I4) (fun r5 I5 => some ((r5 - (I5 45 0)), I5)))) else some ((-4 : Int32), I2)) else some ((-1 : Int32), I1))
theorem t_X6_callBack (l1 : Int32) (I : xI) : Ey none mX6_callBack 0 [some (.inr (some 0)), some (.inl l1)] [] I (f_X6_callBack l1 I) := by
  unfold f_X6_callBack
  refine Ex.aload_n (M := mX6_callBack) (pc2 := 1) dX6_callBack_0 rfl rfl rfl ?_
  refine Ex.getR (M := mX6_callBack) (pc2 := 4) dX6_callBack_1 xck6 lfX6_51 (Nat.le_of_ble_eq_true rfl) sh_0 rfl ff_0_5 rfl ?_
  refine Ex.iload_n (M := mX6_callBack) (pc2 := 5) dX6_callBack_4 rfl rfl rfl ?_
  refine Ey.callVi (M := mX6_callBack) (pc2 := 8) (as := [.inl l1]) (rest := []) rfl dX6_callBack_5 isX5_hasLetter lcX6_83 sh_45 rfl rfl ⟨(Nat.le_of_ble_eq_true rfl), (Nat.le_of_ble_eq_true rfl)⟩ rfl (Nat.le_of_ble_eq_true rfl) (Nat.le_of_ble_eq_true rfl) (t_X5_hasLetter 45 xst_45 l1 I) rfl (fun r1 I1 => ?_)
  refine Ey.if_ne (M := mX6_callBack) (tgt := 13) (pc2 := 11) dX6_callBack_8 rfl (fun _ => ?_) rfl (fun _ => ?_)
  · refine Ex.aload_n (M := mX6_callBack) (pc2 := 14) dX6_callBack_13 rfl rfl rfl ?_
    refine Ex.getR (M := mX6_callBack) (pc2 := 17) dX6_callBack_14 xck6 lfX6_51 (Nat.le_of_ble_eq_true rfl) sh_0 rfl ff_0_5 rfl ?_
    refine Ex.iload_n (M := mX6_callBack) (pc2 := 18) dX6_callBack_17 rfl rfl rfl ?_
    refine Ex.bipush (M := mX6_callBack) (pc2 := 20) dX6_callBack_18 kb_6 rfl ?_
    refine Ey.callVi (M := mX6_callBack) (pc2 := 23) (as := [.inl l1, .inl (6 : Int32)]) (rest := []) rfl dX6_callBack_20 isX5_told lcX6_87 sh_45 rfl rfl ⟨(Nat.le_of_ble_eq_true rfl), (Nat.le_of_ble_eq_true rfl)⟩ rfl (Nat.le_of_ble_eq_true rfl) (Nat.le_of_ble_eq_true rfl) (t_X5_told 45 xst_45 l1 (6 : Int32) I1) rfl (fun r2 I2 => ?_)
    refine Ey.if_eq (M := mX6_callBack) (tgt := 29) (pc2 := 26) dX6_callBack_23 rfl (fun _ => ?_) rfl (fun _ => ?_)
    · refine Ex.aload_n (M := mX6_callBack) (pc2 := 30) dX6_callBack_29 rfl rfl rfl ?_
      refine Ex.getR (M := mX6_callBack) (pc2 := 33) dX6_callBack_30 xck6 lfX6_44 (Nat.le_of_ble_eq_true rfl) sh_0 rfl ff_0_4 rfl ?_
      refine Ex.aload_n (M := mX6_callBack) (pc2 := 34) dX6_callBack_33 rfl rfl rfl ?_
      refine Ex.getR (M := mX6_callBack) (pc2 := 37) dX6_callBack_34 xck6 lfX6_51 (Nat.le_of_ble_eq_true rfl) sh_0 rfl ff_0_5 rfl ?_
      refine Ey.callVv (M := mX6_callBack) (pc2 := 40) (as := [.inr (some 45)]) (rest := []) rfl dX6_callBack_37 isX2_add lcX6_90 sh_19 rfl rfl ⟨(Nat.le_of_ble_eq_true rfl), (Nat.le_of_ble_eq_true rfl)⟩ rfl (Nat.le_of_ble_eq_true rfl) (Nat.le_of_ble_eq_true rfl) (t_X2_add 45 xst_45 I2) rfl (fun I3 => ?_)
      refine Ex.aload_n (M := mX6_callBack) (pc2 := 41) dX6_callBack_40 rfl rfl rfl ?_
      refine Ex.getR (M := mX6_callBack) (pc2 := 44) dX6_callBack_41 xck6 lfX6_51 (Nat.le_of_ble_eq_true rfl) sh_0 rfl ff_0_5 rfl ?_
      refine Ex.iload_n (M := mX6_callBack) (pc2 := 45) dX6_callBack_44 rfl rfl rfl ?_
      refine Ex.bipush (M := mX6_callBack) (pc2 := 47) dX6_callBack_45 kb_6 rfl ?_
      refine Ex.iconst (M := mX6_callBack) (pc2 := 48) dX6_callBack_47 ki_3 rfl ?_
      refine Ey.callVv (M := mX6_callBack) (pc2 := 51) (as := [.inl l1, .inl (6 : Int32), .inl (3 : Int32)]) (rest := []) rfl dX6_callBack_48 isX5_mark lcX6_93 sh_45 rfl rfl ⟨(Nat.le_of_ble_eq_true rfl), (Nat.le_of_ble_eq_true rfl)⟩ rfl (Nat.le_of_ble_eq_true rfl) (Nat.le_of_ble_eq_true rfl) (t_X5_mark 45 xst_45 l1 (6 : Int32) (3 : Int32) I3) rfl (fun I4 => ?_)
      refine Ex.aload_n (M := mX6_callBack) (pc2 := 52) dX6_callBack_51 rfl rfl rfl ?_
      refine Ex.getR (M := mX6_callBack) (pc2 := 55) dX6_callBack_52 xck6 lfX6_51 (Nat.le_of_ble_eq_true rfl) sh_0 rfl ff_0_5 rfl ?_
      refine Ex.iload_n (M := mX6_callBack) (pc2 := 56) dX6_callBack_55 rfl rfl rfl ?_
      refine Ex.iconst (M := mX6_callBack) (pc2 := 57) dX6_callBack_56 ki_5 rfl ?_
      refine Ey.callVi (M := mX6_callBack) (pc2 := 60) (as := [.inl l1, .inl (5 : Int32)]) (rest := []) rfl dX6_callBack_57 isX5_told lcX6_87 sh_45 rfl rfl ⟨(Nat.le_of_ble_eq_true rfl), (Nat.le_of_ble_eq_true rfl)⟩ rfl (Nat.le_of_ble_eq_true rfl) (Nat.le_of_ble_eq_true rfl) (t_X5_told 45 xst_45 l1 (5 : Int32) I4) rfl (fun r5 I5 => ?_)
      refine Ex.aload_n (M := mX6_callBack) (pc2 := 61) dX6_callBack_60 rfl rfl rfl ?_
      refine Ex.getR (M := mX6_callBack) (pc2 := 64) dX6_callBack_61 xck6 lfX6_51 (Nat.le_of_ble_eq_true rfl) sh_0 rfl ff_0_5 rfl ?_
      refine Ex.getI (M := mX6_callBack) (pc2 := 67) dX6_callBack_64 xck5 lfX6_97 (Nat.le_of_ble_eq_true rfl) sh_45 rfl rfl ?_
      refine Ex.isub (M := mX6_callBack) (pc2 := 68) dX6_callBack_67 rfl ?_
      exact Ey.ireturn (M := mX6_callBack) dX6_callBack_68 rfl rfl
    · refine Ex.bipush (M := mX6_callBack) (pc2 := 28) dX6_callBack_26 kb_m4 rfl ?_
      exact Ey.ireturn (M := mX6_callBack) dX6_callBack_28 rfl rfl
  · refine Ex.iconst (M := mX6_callBack) (pc2 := 12) dX6_callBack_11 ki_m1 rfl ?_
    exact Ey.ireturn (M := mX6_callBack) dX6_callBack_12 rfl rfl
/-! FenceDuel.letDaysPass(I)I -/
def f_X6_letDaysPass (l1 : Int32) (I : xI) : Option (Int32 × xI) :=
  if l1 < (1 : Int32) then some ((-2 : Int32), I) else if l1 ≤ (99 : Int32) then if ((I 45 0) + l1) ≤ (9999 : Int32) then xb (f_X3_deliver 45 ((I 45 0) + l1) I) (fun r1 I1 => some (r1, I1)) else some ((-3 : Int32), I) else some ((-2 : Int32), I)
theorem t_X6_letDaysPass (l1 : Int32) (I : xI) : Ey none mX6_letDaysPass 0 [some (.inr (some 0)), some (.inl l1)] [] I (f_X6_letDaysPass l1 I) := by
  unfold f_X6_letDaysPass
  refine Ex.iload_n (M := mX6_letDaysPass) (pc2 := 1) dX6_letDaysPass_0 rfl rfl rfl ?_
  refine Ex.iconst (M := mX6_letDaysPass) (pc2 := 2) dX6_letDaysPass_1 ki_1 rfl ?_
  refine Ey.icmp_lt (M := mX6_letDaysPass) (tgt := 11) (pc2 := 5) dX6_letDaysPass_2 rfl (fun _ => ?_) rfl (fun _ => ?_)
  · refine Ex.bipush (M := mX6_letDaysPass) (pc2 := 13) dX6_letDaysPass_11 kb_m2 rfl ?_
    exact Ey.ireturn (M := mX6_letDaysPass) dX6_letDaysPass_13 rfl rfl
  · refine Ex.iload_n (M := mX6_letDaysPass) (pc2 := 6) dX6_letDaysPass_5 rfl rfl rfl ?_
    refine Ex.bipush (M := mX6_letDaysPass) (pc2 := 8) dX6_letDaysPass_6 kb_99 rfl ?_
    refine Ey.icmp_le (M := mX6_letDaysPass) (tgt := 14) (pc2 := 11) dX6_letDaysPass_8 rfl (fun _ => ?_) rfl (fun _ => ?_)
    · refine Ex.aload_n (M := mX6_letDaysPass) (pc2 := 15) dX6_letDaysPass_14 rfl rfl rfl ?_
      refine Ex.getR (M := mX6_letDaysPass) (pc2 := 18) dX6_letDaysPass_15 xck6 lfX6_51 (Nat.le_of_ble_eq_true rfl) sh_0 rfl ff_0_5 rfl ?_
      refine Ex.getI (M := mX6_letDaysPass) (pc2 := 21) dX6_letDaysPass_18 xck5 lfX6_97 (Nat.le_of_ble_eq_true rfl) sh_45 rfl rfl ?_
      refine Ex.iload_n (M := mX6_letDaysPass) (pc2 := 22) dX6_letDaysPass_21 rfl rfl rfl ?_
      refine Ex.iadd (M := mX6_letDaysPass) (pc2 := 23) dX6_letDaysPass_22 rfl ?_
      refine Ex.sipush (M := mX6_letDaysPass) (pc2 := 26) dX6_letDaysPass_23 ks_9999 rfl ?_
      refine Ey.icmp_le (M := mX6_letDaysPass) (tgt := 32) (pc2 := 29) dX6_letDaysPass_26 rfl (fun _ => ?_) rfl (fun _ => ?_)
      · refine Ex.aload_n (M := mX6_letDaysPass) (pc2 := 33) dX6_letDaysPass_32 rfl rfl rfl ?_
        refine Ex.getR (M := mX6_letDaysPass) (pc2 := 36) dX6_letDaysPass_33 xck6 lfX6_30 (Nat.le_of_ble_eq_true rfl) sh_0 rfl ff_0_2 rfl ?_
        refine Ex.aload_n (M := mX6_letDaysPass) (pc2 := 37) dX6_letDaysPass_36 rfl rfl rfl ?_
        refine Ex.getR (M := mX6_letDaysPass) (pc2 := 40) dX6_letDaysPass_37 xck6 lfX6_51 (Nat.le_of_ble_eq_true rfl) sh_0 rfl ff_0_5 rfl ?_
        refine Ex.aload_n (M := mX6_letDaysPass) (pc2 := 41) dX6_letDaysPass_40 rfl rfl rfl ?_
        refine Ex.getR (M := mX6_letDaysPass) (pc2 := 44) dX6_letDaysPass_41 xck6 lfX6_51 (Nat.le_of_ble_eq_true rfl) sh_0 rfl ff_0_5 rfl ?_
        refine Ex.getI (M := mX6_letDaysPass) (pc2 := 47) dX6_letDaysPass_44 xck5 lfX6_97 (Nat.le_of_ble_eq_true rfl) sh_45 rfl rfl ?_
        refine Ex.iload_n (M := mX6_letDaysPass) (pc2 := 48) dX6_letDaysPass_47 rfl rfl rfl ?_
        refine Ex.iadd (M := mX6_letDaysPass) (pc2 := 49) dX6_letDaysPass_48 rfl ?_
        refine Ey.callVi (M := mX6_letDaysPass) (pc2 := 52) (as := [.inr (some 45), .inl ((I 45 0) + l1)]) (rest := []) rfl dX6_letDaysPass_49 isX3_deliver lcX6_202 sh_12 rfl rfl ⟨(Nat.le_of_ble_eq_true rfl), (Nat.le_of_ble_eq_true rfl)⟩ rfl (Nat.le_of_ble_eq_true rfl) (Nat.le_of_ble_eq_true rfl) (t_X3_deliver 45 xst_45 ((I 45 0) + l1) I) rfl (fun r1 I1 => ?_)
        exact Ey.ireturn (M := mX6_letDaysPass) dX6_letDaysPass_52 rfl rfl
      · refine Ex.bipush (M := mX6_letDaysPass) (pc2 := 31) dX6_letDaysPass_29 kb_m3 rfl ?_
        exact Ey.ireturn (M := mX6_letDaysPass) dX6_letDaysPass_31 rfl rfl
    · refine Ex.bipush (M := mX6_letDaysPass) (pc2 := 13) dX6_letDaysPass_11 kb_m2 rfl ?_
      exact Ey.ireturn (M := mX6_letDaysPass) dX6_letDaysPass_13 rfl rfl
/-! FenceDuel.pass(I)I -/
def f_X6_pass (l1 : Int32) (I : xI) : Option (Int32 × xI) :=
  xb (f_X5_takeFrom 51 45 I) (fun _ I1 => xb (f_X6_letDaysPass l1 I1) (fun r2 I2 => xb (f_X6_recordUnlessError r2 I2) (fun r3 I3 => some (r3, I3))))
theorem t_X6_pass (l1 : Int32) (I : xI) : Ey none mX6_pass 0 [some (.inr (some 0)), some (.inl l1)] [] I (f_X6_pass l1 I) := by
  unfold f_X6_pass
  refine Ex.aload_n (M := mX6_pass) (pc2 := 1) dX6_pass_0 rfl rfl rfl ?_
  refine Ex.getR (M := mX6_pass) (pc2 := 4) dX6_pass_1 xck6 lfX6_55 (Nat.le_of_ble_eq_true rfl) sh_0 rfl ff_0_6 rfl ?_
  refine Ex.aload_n (M := mX6_pass) (pc2 := 5) dX6_pass_4 rfl rfl rfl ?_
  refine Ex.getR (M := mX6_pass) (pc2 := 8) dX6_pass_5 xck6 lfX6_51 (Nat.le_of_ble_eq_true rfl) sh_0 rfl ff_0_5 rfl ?_
  refine Ey.callVv (M := mX6_pass) (pc2 := 11) (as := [.inr (some 45)]) (rest := []) rfl dX6_pass_8 isX5_takeFrom lcX6_64 sh_51 rfl rfl ⟨(Nat.le_of_ble_eq_true rfl), (Nat.le_of_ble_eq_true rfl)⟩ rfl (Nat.le_of_ble_eq_true rfl) (Nat.le_of_ble_eq_true rfl) (t_X5_takeFrom 51 xst_51 45 xst_45 I) rfl (fun I1 => ?_)
  refine Ex.aload_n (M := mX6_pass) (pc2 := 12) dX6_pass_11 rfl rfl rfl ?_
  refine Ex.aload_n (M := mX6_pass) (pc2 := 13) dX6_pass_12 rfl rfl rfl ?_
  refine Ex.iload_n (M := mX6_pass) (pc2 := 14) dX6_pass_13 rfl rfl rfl ?_
  refine Ey.callVi (M := mX6_pass) (pc2 := 17) (as := [.inl l1]) (rest := [.inr (some 0)]) rfl dX6_pass_14 isX6_letDaysPass lcX6_101 sh_0 rfl rfl ⟨(Nat.le_of_ble_eq_true rfl), (Nat.le_of_ble_eq_true rfl)⟩ rfl (Nat.le_of_ble_eq_true rfl) (Nat.le_of_ble_eq_true rfl) (t_X6_letDaysPass l1 I1) rfl (fun r2 I2 => ?_)
  refine Ey.callVi (M := mX6_pass) (pc2 := 20) (as := [.inl r2]) (rest := []) rfl dX6_pass_17 isX6_recordUnlessError lcX6_72 sh_0 rfl rfl ⟨(Nat.le_of_ble_eq_true rfl), (Nat.le_of_ble_eq_true rfl)⟩ rfl (Nat.le_of_ble_eq_true rfl) (Nat.le_of_ble_eq_true rfl) (t_X6_recordUnlessError r2 I2) rfl (fun r3 I3 => ?_)
  exact Ey.ireturn (M := mX6_pass) dX6_pass_20 rfl rfl
/-! FenceDuel.set(II)I -/
def f_X6_set_22 (l1 : Int32) (l2 : Int32) (s0 : Int32) (I : xI) : Option (Int32 × xI) :=
  if l2 < (1 : Int32) then some ((-2 : Int32), I) else if l2 ≤ s0 then if xin l1 2 then if (I 46 l1.toNatClampNeg) ≠ l2 then xb (f_X2_add 45 I) (fun _ I2 => if xin l1 2 then some ((I 46 l1.toNatClampNeg), (xup I2 46 l1.toNatClampNeg l2)) else none) else some ((-5 : Int32), I) else none else some ((-2 : Int32), I)
theorem t_X6_set_22 (l1 : Int32) (l2 : Int32) (d3 : Option xV) (d4 : Option xV) (s0 : Int32) (I : xI) : Ey none mX6_set 22 [some (.inr (some 0)), some (.inl l1), some (.inl l2), d3, d4] [.inl s0] I (f_X6_set_22 l1 l2 s0 I) := by
  unfold f_X6_set_22
  refine Ey.istore_n (M := mX6_set) (pc2 := 23) dX6_set_22 rfl (Nat.le_of_ble_eq_true rfl) rfl rfl ?_
  refine Ex.iload_n (M := mX6_set) (pc2 := 24) dX6_set_23 rfl rfl rfl ?_
  refine Ex.iconst (M := mX6_set) (pc2 := 25) dX6_set_24 ki_1 rfl ?_
  refine Ey.icmp_lt (M := mX6_set) (tgt := 33) (pc2 := 28) dX6_set_25 rfl (fun _ => ?_) rfl (fun _ => ?_)
  · refine Ex.bipush (M := mX6_set) (pc2 := 35) dX6_set_33 kb_m2 rfl ?_
    exact Ey.ireturn (M := mX6_set) dX6_set_35 rfl rfl
  · refine Ex.iload_n (M := mX6_set) (pc2 := 29) dX6_set_28 rfl rfl rfl ?_
    refine Ex.iload_n (M := mX6_set) (pc2 := 30) dX6_set_29 rfl rfl rfl ?_
    refine Ey.icmp_le (M := mX6_set) (tgt := 36) (pc2 := 33) dX6_set_30 rfl (fun _ => ?_) rfl (fun _ => ?_)
    · refine Ex.aload_n (M := mX6_set) (pc2 := 37) dX6_set_36 rfl rfl rfl ?_
      refine Ex.getR (M := mX6_set) (pc2 := 40) dX6_set_37 xck6 lfX6_51 (Nat.le_of_ble_eq_true rfl) sh_0 rfl ff_0_5 rfl ?_
      refine Ex.getR (M := mX6_set) (pc2 := 43) dX6_set_40 xck5 lfX6_104 (Nat.le_of_ble_eq_true rfl) sh_45 rfl ff_45_4 rfl ?_
      refine Ex.iload_n (M := mX6_set) (pc2 := 44) dX6_set_43 rfl rfl rfl ?_
      refine Ey.guard (fun hz1 => ?_)
      refine Ey.iaload (M := mX6_set) (pc2 := 45) dX6_set_44 sh_46 rfl hz1 rfl ?_
      refine Ey.istore (M := mX6_set) (pc2 := 47) dX6_set_45 (Nat.le_of_ble_eq_true rfl) rfl rfl ?_
      refine Ex.iload (M := mX6_set) (pc2 := 49) dX6_set_47 rfl rfl ?_
      refine Ex.iload_n (M := mX6_set) (pc2 := 50) dX6_set_49 rfl rfl rfl ?_
      refine Ey.icmp_ne (M := mX6_set) (tgt := 56) (pc2 := 53) dX6_set_50 rfl (fun _ => ?_) rfl (fun _ => ?_)
      · refine Ex.aload_n (M := mX6_set) (pc2 := 57) dX6_set_56 rfl rfl rfl ?_
        refine Ex.getR (M := mX6_set) (pc2 := 60) dX6_set_57 xck6 lfX6_44 (Nat.le_of_ble_eq_true rfl) sh_0 rfl ff_0_4 rfl ?_
        refine Ex.aload_n (M := mX6_set) (pc2 := 61) dX6_set_60 rfl rfl rfl ?_
        refine Ex.getR (M := mX6_set) (pc2 := 64) dX6_set_61 xck6 lfX6_51 (Nat.le_of_ble_eq_true rfl) sh_0 rfl ff_0_5 rfl ?_
        refine Ey.callVv (M := mX6_set) (pc2 := 67) (as := [.inr (some 45)]) (rest := []) rfl dX6_set_64 isX2_add lcX6_90 sh_19 rfl rfl ⟨(Nat.le_of_ble_eq_true rfl), (Nat.le_of_ble_eq_true rfl)⟩ rfl (Nat.le_of_ble_eq_true rfl) (Nat.le_of_ble_eq_true rfl) (t_X2_add 45 xst_45 I) rfl (fun I2 => ?_)
        refine Ex.aload_n (M := mX6_set) (pc2 := 68) dX6_set_67 rfl rfl rfl ?_
        refine Ex.getR (M := mX6_set) (pc2 := 71) dX6_set_68 xck6 lfX6_51 (Nat.le_of_ble_eq_true rfl) sh_0 rfl ff_0_5 rfl ?_
        refine Ex.getR (M := mX6_set) (pc2 := 74) dX6_set_71 xck5 lfX6_104 (Nat.le_of_ble_eq_true rfl) sh_45 rfl ff_45_4 rfl ?_
        refine Ex.iload_n (M := mX6_set) (pc2 := 75) dX6_set_74 rfl rfl rfl ?_
        refine Ex.iload_n (M := mX6_set) (pc2 := 76) dX6_set_75 rfl rfl rfl ?_
        refine Ey.guard (fun hz3 => ?_)
        refine Ey.iastore (M := mX6_set) (pc2 := 77) dX6_set_76 sh_46 rfl hz3 rfl ?_
        refine Ex.iload (M := mX6_set) (pc2 := 79) dX6_set_77 rfl rfl ?_
        exact Ey.ireturn (M := mX6_set) dX6_set_79 rfl rfl
      · refine Ex.bipush (M := mX6_set) (pc2 := 55) dX6_set_53 kb_m5 rfl ?_
        exact Ey.ireturn (M := mX6_set) dX6_set_55 rfl rfl
    · refine Ex.bipush (M := mX6_set) (pc2 := 35) dX6_set_33 kb_m2 rfl ?_
      exact Ey.ireturn (M := mX6_set) dX6_set_35 rfl rfl
def f_X6_set (l1 : Int32) (l2 : Int32) (I : xI) : Option (Int32 × xI) :=
  if l1 < 0 then some ((-1 : Int32), I) else if l1 < (2 : Int32) then if l1 ≠ 0 then f_X6_set_22 l1 l2 (48 : Int32) I else f_X6_set_22 l1 l2 (9 : Int32) I else some ((-1 : Int32), I)
theorem t_X6_set (l1 : Int32) (l2 : Int32) (I : xI) : Ey none mX6_set 0 [some (.inr (some 0)), some (.inl l1), some (.inl l2), none, none] [] I (f_X6_set l1 l2 I) := by
  unfold f_X6_set
  refine Ex.iload_n (M := mX6_set) (pc2 := 1) dX6_set_0 rfl rfl rfl ?_
  refine Ey.if_lt (M := mX6_set) (tgt := 9) (pc2 := 4) dX6_set_1 rfl (fun _ => ?_) rfl (fun _ => ?_)
  · refine Ex.iconst (M := mX6_set) (pc2 := 10) dX6_set_9 ki_m1 rfl ?_
    exact Ey.ireturn (M := mX6_set) dX6_set_10 rfl rfl
  · refine Ex.iload_n (M := mX6_set) (pc2 := 5) dX6_set_4 rfl rfl rfl ?_
    refine Ex.iconst (M := mX6_set) (pc2 := 6) dX6_set_5 ki_2 rfl ?_
    refine Ey.icmp_lt (M := mX6_set) (tgt := 11) (pc2 := 9) dX6_set_6 rfl (fun _ => ?_) rfl (fun _ => ?_)
    · refine Ex.iload_n (M := mX6_set) (pc2 := 12) dX6_set_11 rfl rfl rfl ?_
      refine Ey.if_ne (M := mX6_set) (tgt := 20) (pc2 := 15) dX6_set_12 rfl (fun _ => ?_) rfl (fun _ => ?_)
      · refine Ex.bipush (M := mX6_set) (pc2 := 22) dX6_set_20 kb_48 rfl ?_
        exact t_X6_set_22 _ _ _ _ _ _
      · refine Ex.bipush (M := mX6_set) (pc2 := 17) dX6_set_15 kb_9 rfl ?_
        refine Ex.goto (M := mX6_set) (tgt := 22) dX6_set_17 rfl ?_
        exact t_X6_set_22 _ _ _ _ _ _
    · refine Ex.iconst (M := mX6_set) (pc2 := 10) dX6_set_9 ki_m1 rfl ?_
      exact Ey.ireturn (M := mX6_set) dX6_set_10 rfl rfl
/-! FenceDuel.type(C)I -/
def f_X6_type (l1 : Int32) (I : xI) : Option (Int32 × xI) :=
  xb (f_X0_append l1 I) (fun r1 I1 => some (r1, I1))
theorem t_X6_type (l1 : Int32) (I : xI) : Ey none mX6_type 0 [some (.inr (some 0)), some (.inl l1)] [] I (f_X6_type l1 I) := by
  unfold f_X6_type
  refine Ex.aload_n (M := mX6_type) (pc2 := 1) dX6_type_0 rfl rfl rfl ?_
  refine Ex.getR (M := mX6_type) (pc2 := 4) dX6_type_1 xck6 lfX6_37 (Nat.le_of_ble_eq_true rfl) sh_0 rfl ff_0_3 rfl ?_
  refine Ex.iload_n (M := mX6_type) (pc2 := 5) dX6_type_4 rfl rfl rfl ?_
  refine Ey.callVi (M := mX6_type) (pc2 := 8) (as := [.inl l1]) (rest := []) rfl dX6_type_5 isX0_append lcX6_108 sh_13 rfl rfl ⟨(Nat.le_of_ble_eq_true rfl), (Nat.le_of_ble_eq_true rfl)⟩ rfl (Nat.le_of_ble_eq_true rfl) (Nat.le_of_ble_eq_true rfl) (t_X0_append l1 I) rfl (fun r1 I1 => ?_)
  exact Ey.ireturn (M := mX6_type) dX6_type_8 rfl rfl
/-! FenceDuel.clearText()I -/
def f_X6_clearText (I : xI) : Option (Int32 × xI) :=
  xb (f_X0_empty I) (fun r1 I1 => some (r1, I1))
theorem t_X6_clearText (I : xI) : Ey none mX6_clearText 0 [some (.inr (some 0))] [] I (f_X6_clearText I) := by
  unfold f_X6_clearText
  refine Ex.aload_n (M := mX6_clearText) (pc2 := 1) dX6_clearText_0 rfl rfl rfl ?_
  refine Ex.getR (M := mX6_clearText) (pc2 := 4) dX6_clearText_1 xck6 lfX6_37 (Nat.le_of_ble_eq_true rfl) sh_0 rfl ff_0_3 rfl ?_
  refine Ey.callVi (M := mX6_clearText) (pc2 := 7) (as := []) (rest := []) rfl dX6_clearText_4 isX0_empty lcX6_112 sh_13 rfl rfl ⟨(Nat.le_of_ble_eq_true rfl), (Nat.le_of_ble_eq_true rfl)⟩ rfl (Nat.le_of_ble_eq_true rfl) (Nat.le_of_ble_eq_true rfl) (t_X0_empty I) rfl (fun r1 I1 => ?_)
  exact Ey.ireturn (M := mX6_clearText) dX6_clearText_7 rfl rfl
/-! FenceDuel.addLetterOfGame(I)I -/
def f_X6_addLetterOfGame (l1 : Int32) (I : xI) : Option (Int32 × xI) :=
  xb (f_X0_part 15 l1 I) (fun r1 I1 => xb (f_X0_part 16 l1 I1) (fun r2 I2 => xb (f_X0_part 17 l1 I2) (fun r3 I3 => if r1 = 2 then xb (f_X6_addClaim r2 r3 I3) (fun r5 I5 => some (r5, I5)) else if r1 = 3 then xb (f_X6_addTruce r2 r3 I3) (fun r6 I6 => some (r6, I6)) else xb (f_X0_part 18 l1 I3) (fun r7 I7 => xb (f_X6_addEdgeLetter r2 r1 r3 r7 I7) (fun r8 I8 => some (r8, I8))))))
theorem t_X6_addLetterOfGame (l1 : Int32) (I : xI) : Ey none mX6_addLetterOfGame 0 [some (.inr (some 0)), some (.inl l1), none, none, none] [] I (f_X6_addLetterOfGame l1 I) := by
  unfold f_X6_addLetterOfGame
  refine Ex.aload_n (M := mX6_addLetterOfGame) (pc2 := 1) dX6_addLetterOfGame_0 rfl rfl rfl ?_
  refine Ex.getR (M := mX6_addLetterOfGame) (pc2 := 4) dX6_addLetterOfGame_1 xck6 lfX6_37 (Nat.le_of_ble_eq_true rfl) sh_0 rfl ff_0_3 rfl ?_
  refine Ex.aload_n (M := mX6_addLetterOfGame) (pc2 := 5) dX6_addLetterOfGame_4 rfl rfl rfl ?_
  refine Ex.getR (M := mX6_addLetterOfGame) (pc2 := 8) dX6_addLetterOfGame_5 xck6 lfX6_37 (Nat.le_of_ble_eq_true rfl) sh_0 rfl ff_0_3 rfl ?_
  refine Ex.getR (M := mX6_addLetterOfGame) (pc2 := 11) dX6_addLetterOfGame_8 xck0 lfX6_122 (Nat.le_of_ble_eq_true rfl) sh_13 rfl ff_13_4 rfl ?_
  refine Ex.iload_n (M := mX6_addLetterOfGame) (pc2 := 12) dX6_addLetterOfGame_11 rfl rfl rfl ?_
  refine Ey.callVi (M := mX6_addLetterOfGame) (pc2 := 15) (as := [.inr (some 15), .inl l1]) (rest := []) rfl dX6_addLetterOfGame_12 isX0_part lcX6_125 sh_13 rfl rfl ⟨(Nat.le_of_ble_eq_true rfl), (Nat.le_of_ble_eq_true rfl)⟩ rfl (Nat.le_of_ble_eq_true rfl) (Nat.le_of_ble_eq_true rfl) (t_X0_part 15 xgr_15 l1 I) rfl (fun r1 I1 => ?_)
  refine Ey.istore_n (M := mX6_addLetterOfGame) (pc2 := 16) dX6_addLetterOfGame_15 rfl (Nat.le_of_ble_eq_true rfl) rfl rfl ?_
  refine Ex.aload_n (M := mX6_addLetterOfGame) (pc2 := 17) dX6_addLetterOfGame_16 rfl rfl rfl ?_
  refine Ex.getR (M := mX6_addLetterOfGame) (pc2 := 20) dX6_addLetterOfGame_17 xck6 lfX6_37 (Nat.le_of_ble_eq_true rfl) sh_0 rfl ff_0_3 rfl ?_
  refine Ex.aload_n (M := mX6_addLetterOfGame) (pc2 := 21) dX6_addLetterOfGame_20 rfl rfl rfl ?_
  refine Ex.getR (M := mX6_addLetterOfGame) (pc2 := 24) dX6_addLetterOfGame_21 xck6 lfX6_37 (Nat.le_of_ble_eq_true rfl) sh_0 rfl ff_0_3 rfl ?_
  refine Ex.getR (M := mX6_addLetterOfGame) (pc2 := 27) dX6_addLetterOfGame_24 xck0 lfX6_245 (Nat.le_of_ble_eq_true rfl) sh_13 rfl ff_13_5 rfl ?_
  refine Ex.iload_n (M := mX6_addLetterOfGame) (pc2 := 28) dX6_addLetterOfGame_27 rfl rfl rfl ?_
  refine Ey.callVi (M := mX6_addLetterOfGame) (pc2 := 31) (as := [.inr (some 16), .inl l1]) (rest := []) rfl dX6_addLetterOfGame_28 isX0_part lcX6_125 sh_13 rfl rfl ⟨(Nat.le_of_ble_eq_true rfl), (Nat.le_of_ble_eq_true rfl)⟩ rfl (Nat.le_of_ble_eq_true rfl) (Nat.le_of_ble_eq_true rfl) (t_X0_part 16 xgr_16 l1 I1) rfl (fun r2 I2 => ?_)
  refine Ey.istore_n (M := mX6_addLetterOfGame) (pc2 := 32) dX6_addLetterOfGame_31 rfl (Nat.le_of_ble_eq_true rfl) rfl rfl ?_
  refine Ex.aload_n (M := mX6_addLetterOfGame) (pc2 := 33) dX6_addLetterOfGame_32 rfl rfl rfl ?_
  refine Ex.getR (M := mX6_addLetterOfGame) (pc2 := 36) dX6_addLetterOfGame_33 xck6 lfX6_37 (Nat.le_of_ble_eq_true rfl) sh_0 rfl ff_0_3 rfl ?_
  refine Ex.aload_n (M := mX6_addLetterOfGame) (pc2 := 37) dX6_addLetterOfGame_36 rfl rfl rfl ?_
  refine Ex.getR (M := mX6_addLetterOfGame) (pc2 := 40) dX6_addLetterOfGame_37 xck6 lfX6_37 (Nat.le_of_ble_eq_true rfl) sh_0 rfl ff_0_3 rfl ?_
  refine Ex.getR (M := mX6_addLetterOfGame) (pc2 := 43) dX6_addLetterOfGame_40 xck0 lfX6_129 (Nat.le_of_ble_eq_true rfl) sh_13 rfl ff_13_6 rfl ?_
  refine Ex.iload_n (M := mX6_addLetterOfGame) (pc2 := 44) dX6_addLetterOfGame_43 rfl rfl rfl ?_
  refine Ey.callVi (M := mX6_addLetterOfGame) (pc2 := 47) (as := [.inr (some 17), .inl l1]) (rest := []) rfl dX6_addLetterOfGame_44 isX0_part lcX6_125 sh_13 rfl rfl ⟨(Nat.le_of_ble_eq_true rfl), (Nat.le_of_ble_eq_true rfl)⟩ rfl (Nat.le_of_ble_eq_true rfl) (Nat.le_of_ble_eq_true rfl) (t_X0_part 17 xgr_17 l1 I2) rfl (fun r3 I3 => ?_)
  refine Ey.istore (M := mX6_addLetterOfGame) (pc2 := 49) dX6_addLetterOfGame_47 (Nat.le_of_ble_eq_true rfl) rfl rfl ?_
  refine Ex.iload_n (M := mX6_addLetterOfGame) (pc2 := 50) dX6_addLetterOfGame_49 rfl rfl rfl ?_
  refine Ey.ite (fun hc4_0 => ?_) (fun hc4_0 => ?_)
  · refine Ey.lcase (M := mX6_addLetterOfGame) (c := 2) (off := 26) (tgt := 76) hc4_0 dX6_addLetterOfGame_50 (by decide) (by decide) rfl ?_
    refine Ex.aload_n (M := mX6_addLetterOfGame) (pc2 := 77) dX6_addLetterOfGame_76 rfl rfl rfl ?_
    refine Ex.iload_n (M := mX6_addLetterOfGame) (pc2 := 78) dX6_addLetterOfGame_77 rfl rfl rfl ?_
    refine Ex.iload (M := mX6_addLetterOfGame) (pc2 := 80) dX6_addLetterOfGame_78 rfl rfl ?_
    refine Ey.callVi (M := mX6_addLetterOfGame) (pc2 := 83) (as := [.inl r2, .inl r3]) (rest := []) rfl dX6_addLetterOfGame_80 isX6_addClaim lcX6_76 sh_0 rfl rfl ⟨(Nat.le_of_ble_eq_true rfl), (Nat.le_of_ble_eq_true rfl)⟩ rfl (Nat.le_of_ble_eq_true rfl) (Nat.le_of_ble_eq_true rfl) (t_X6_addClaim r2 r3 I3) rfl (fun r5 I5 => ?_)
    exact Ey.ireturn (M := mX6_addLetterOfGame) dX6_addLetterOfGame_83 rfl rfl
  · refine Ey.ite (fun hc4_1 => ?_) (fun hc4_1 => ?_)
    · refine Ey.lcase (M := mX6_addLetterOfGame) (c := 3) (off := 34) (tgt := 84) hc4_1 dX6_addLetterOfGame_50 (by decide) (by decide) rfl ?_
      refine Ex.aload_n (M := mX6_addLetterOfGame) (pc2 := 85) dX6_addLetterOfGame_84 rfl rfl rfl ?_
      refine Ex.iload_n (M := mX6_addLetterOfGame) (pc2 := 86) dX6_addLetterOfGame_85 rfl rfl rfl ?_
      refine Ex.iload (M := mX6_addLetterOfGame) (pc2 := 88) dX6_addLetterOfGame_86 rfl rfl ?_
      refine Ey.callVi (M := mX6_addLetterOfGame) (pc2 := 91) (as := [.inl r2, .inl r3]) (rest := []) rfl dX6_addLetterOfGame_88 isX6_addTruce lcX6_80 sh_0 rfl rfl ⟨(Nat.le_of_ble_eq_true rfl), (Nat.le_of_ble_eq_true rfl)⟩ rfl (Nat.le_of_ble_eq_true rfl) (Nat.le_of_ble_eq_true rfl) (t_X6_addTruce r2 r3 I3) rfl (fun r6 I6 => ?_)
      exact Ey.ireturn (M := mX6_addLetterOfGame) dX6_addLetterOfGame_91 rfl rfl
    · refine Ex.lookup (M := mX6_addLetterOfGame) (off := 42) (tgt := 92) dX6_addLetterOfGame_50 (by decide) ((lv_osw hc4_0 (by decide)).trans ((lv_osw hc4_1 (by decide)).trans rfl)) rfl ?_
      refine Ex.aload_n (M := mX6_addLetterOfGame) (pc2 := 93) dX6_addLetterOfGame_92 rfl rfl rfl ?_
      refine Ex.iload_n (M := mX6_addLetterOfGame) (pc2 := 94) dX6_addLetterOfGame_93 rfl rfl rfl ?_
      refine Ex.iload_n (M := mX6_addLetterOfGame) (pc2 := 95) dX6_addLetterOfGame_94 rfl rfl rfl ?_
      refine Ex.iload (M := mX6_addLetterOfGame) (pc2 := 97) dX6_addLetterOfGame_95 rfl rfl ?_
      refine Ex.aload_n (M := mX6_addLetterOfGame) (pc2 := 98) dX6_addLetterOfGame_97 rfl rfl rfl ?_
      refine Ex.getR (M := mX6_addLetterOfGame) (pc2 := 101) dX6_addLetterOfGame_98 xck6 lfX6_37 (Nat.le_of_ble_eq_true rfl) sh_0 rfl ff_0_3 rfl ?_
      refine Ex.aload_n (M := mX6_addLetterOfGame) (pc2 := 102) dX6_addLetterOfGame_101 rfl rfl rfl ?_
      refine Ex.getR (M := mX6_addLetterOfGame) (pc2 := 105) dX6_addLetterOfGame_102 xck6 lfX6_37 (Nat.le_of_ble_eq_true rfl) sh_0 rfl ff_0_3 rfl ?_
      refine Ex.getR (M := mX6_addLetterOfGame) (pc2 := 108) dX6_addLetterOfGame_105 xck0 lfX6_248 (Nat.le_of_ble_eq_true rfl) sh_13 rfl ff_13_7 rfl ?_
      refine Ex.iload_n (M := mX6_addLetterOfGame) (pc2 := 109) dX6_addLetterOfGame_108 rfl rfl rfl ?_
      refine Ey.callVi (M := mX6_addLetterOfGame) (pc2 := 112) (as := [.inr (some 18), .inl l1]) (rest := [.inl r3, .inl r1, .inl r2, .inr (some 0)]) rfl dX6_addLetterOfGame_109 isX0_part lcX6_125 sh_13 rfl rfl ⟨(Nat.le_of_ble_eq_true rfl), (Nat.le_of_ble_eq_true rfl)⟩ rfl (Nat.le_of_ble_eq_true rfl) (Nat.le_of_ble_eq_true rfl) (t_X0_part 18 xgr_18 l1 I3) rfl (fun r7 I7 => ?_)
      refine Ey.callVi (M := mX6_addLetterOfGame) (pc2 := 115) (as := [.inl r2, .inl r1, .inl r3, .inl r7]) (rest := []) rfl dX6_addLetterOfGame_112 isX6_addEdgeLetter lcX6_68 sh_0 rfl rfl ⟨(Nat.le_of_ble_eq_true rfl), (Nat.le_of_ble_eq_true rfl)⟩ rfl (Nat.le_of_ble_eq_true rfl) (Nat.le_of_ble_eq_true rfl) (t_X6_addEdgeLetter r2 r1 r3 r7 I7) rfl (fun r8 I8 => ?_)
      exact Ey.ireturn (M := mX6_addLetterOfGame) dX6_addLetterOfGame_115 rfl rfl
/-! FenceDuel.perform()I -/
def f_X6_perform_99 (k32 : Int32 → xI → Option (Int32 × xI)) (l2 : Int32) (s0 : Int32) (I : xI) : Option (Int32 × xI) :=
  if s0 ≥ 0 then k32 (l2 + 1) I else xb (f_X5_takeFrom 45 51 I) (fun _ I1 => some ((-4 : Int32), (xup (xup (xup I1 0 10 (1 : Int32)) 0 11 l2) 0 12 s0)))
theorem t_X6_perform_99 (k32 : Int32 → xI → Option (Int32 × xI)) (hk32 : ∀ (l2 : Int32) (d1 : Option xV) (d3 : Option xV) (d4 : Option xV) (I : xI), Ey none mX6_perform 32 [some (.inr (some 0)), d1, some (.inl l2), d3, d4] [] I (k32 l2 I)) (d1 : Option xV) (l2 : Int32) (d3 : Option xV) (d4 : Option xV) (s0 : Int32) (I : xI) : Ey none mX6_perform 99 [some (.inr (some 0)), d1, some (.inl l2), d3, d4] [.inl s0] I (f_X6_perform_99 k32 l2 s0 I) := by
  unfold f_X6_perform_99
  refine Ey.istore (M := mX6_perform) (pc2 := 101) dX6_perform_99 (Nat.le_of_ble_eq_true rfl) rfl rfl ?_
  refine Ex.iload (M := mX6_perform) (pc2 := 103) dX6_perform_101 rfl rfl ?_
  refine Ey.if_ge (M := mX6_perform) (tgt := 136) (pc2 := 106) dX6_perform_103 rfl (fun _ => ?_) rfl (fun _ => ?_)
  · refine Ey.iinc (M := mX6_perform) (pc2 := 139) dX6_perform_136 rfl ki_1 (Nat.le_of_ble_eq_true rfl) rfl rfl ?_
    refine Ex.goto (M := mX6_perform) (tgt := 32) dX6_perform_139 rfl ?_
    exact hk32 _ _ _ _ _
  · refine Ex.aload_n (M := mX6_perform) (pc2 := 107) dX6_perform_106 rfl rfl rfl ?_
    refine Ex.getR (M := mX6_perform) (pc2 := 110) dX6_perform_107 xck6 lfX6_51 (Nat.le_of_ble_eq_true rfl) sh_0 rfl ff_0_5 rfl ?_
    refine Ex.aload_n (M := mX6_perform) (pc2 := 111) dX6_perform_110 rfl rfl rfl ?_
    refine Ex.getR (M := mX6_perform) (pc2 := 114) dX6_perform_111 xck6 lfX6_55 (Nat.le_of_ble_eq_true rfl) sh_0 rfl ff_0_6 rfl ?_
    refine Ey.callVv (M := mX6_perform) (pc2 := 117) (as := [.inr (some 51)]) (rest := []) rfl dX6_perform_114 isX5_takeFrom lcX6_64 sh_45 rfl rfl ⟨(Nat.le_of_ble_eq_true rfl), (Nat.le_of_ble_eq_true rfl)⟩ rfl (Nat.le_of_ble_eq_true rfl) (Nat.le_of_ble_eq_true rfl) (t_X5_takeFrom 45 xst_45 51 xst_51 I) rfl (fun I1 => ?_)
    refine Ex.aload_n (M := mX6_perform) (pc2 := 118) dX6_perform_117 rfl rfl rfl ?_
    refine Ex.iconst (M := mX6_perform) (pc2 := 119) dX6_perform_118 ki_1 rfl ?_
    refine Ex.putI (M := mX6_perform) (pc2 := 122) dX6_perform_119 xck6 lfX6_135 (Nat.le_of_ble_eq_true rfl) sh_0 rfl rfl ⟨by decide, by decide⟩ rfl ?_
    refine Ex.aload_n (M := mX6_perform) (pc2 := 123) dX6_perform_122 rfl rfl rfl ?_
    refine Ex.iload_n (M := mX6_perform) (pc2 := 124) dX6_perform_123 rfl rfl rfl ?_
    refine Ex.putI (M := mX6_perform) (pc2 := 127) dX6_perform_124 xck6 lfX6_139 (Nat.le_of_ble_eq_true rfl) sh_0 rfl rfl ⟨rfl, rfl⟩ rfl ?_
    refine Ex.aload_n (M := mX6_perform) (pc2 := 128) dX6_perform_127 rfl rfl rfl ?_
    refine Ex.iload (M := mX6_perform) (pc2 := 130) dX6_perform_128 rfl rfl ?_
    refine Ex.putI (M := mX6_perform) (pc2 := 133) dX6_perform_130 xck6 lfX6_142 (Nat.le_of_ble_eq_true rfl) sh_0 rfl rfl ⟨rfl, rfl⟩ rfl ?_
    refine Ex.bipush (M := mX6_perform) (pc2 := 135) dX6_perform_133 kb_m4 rfl ?_
    exact Ey.ireturn (M := mX6_perform) dX6_perform_135 rfl rfl
def f_X6_perform_67 (k32 : Int32 → xI → Option (Int32 × xI)) (l2 : Int32) (s0 : Int32) (I : xI) : Option (Int32 × xI) :=
  if s0 = 0 then xb (f_X6_addLetterOfGame l2 I) (fun r2 I2 => f_X6_perform_99 k32 l2 r2 I2) else xb (f_X0_part 17 l2 I) (fun r3 I3 => xb (f_X6_letDaysPass r3 I3) (fun r4 I4 => f_X6_perform_99 k32 l2 r4 I4))
theorem t_X6_perform_67 (k32 : Int32 → xI → Option (Int32 × xI)) (hk32 : ∀ (l2 : Int32) (d1 : Option xV) (d3 : Option xV) (d4 : Option xV) (I : xI), Ey none mX6_perform 32 [some (.inr (some 0)), d1, some (.inl l2), d3, d4] [] I (k32 l2 I)) (d1 : Option xV) (l2 : Int32) (d3 : Option xV) (d4 : Option xV) (s0 : Int32) (I : xI) : Ey none mX6_perform 67 [some (.inr (some 0)), d1, some (.inl l2), d3, d4] [.inl s0] I (f_X6_perform_67 k32 l2 s0 I) := by
  unfold f_X6_perform_67
  refine Ey.istore_n (M := mX6_perform) (pc2 := 68) dX6_perform_67 rfl (Nat.le_of_ble_eq_true rfl) rfl rfl ?_
  refine Ex.iload_n (M := mX6_perform) (pc2 := 69) dX6_perform_68 rfl rfl rfl ?_
  refine Ey.if_eq (M := mX6_perform) (tgt := 94) (pc2 := 72) dX6_perform_69 rfl (fun _ => ?_) rfl (fun _ => ?_)
  · refine Ex.aload_n (M := mX6_perform) (pc2 := 95) dX6_perform_94 rfl rfl rfl ?_
    refine Ex.iload_n (M := mX6_perform) (pc2 := 96) dX6_perform_95 rfl rfl rfl ?_
    refine Ey.callVi (M := mX6_perform) (pc2 := 99) (as := [.inl l2]) (rest := []) rfl dX6_perform_96 isX6_addLetterOfGame lcX6_132 sh_0 rfl rfl ⟨(Nat.le_of_ble_eq_true rfl), (Nat.le_of_ble_eq_true rfl)⟩ rfl (Nat.le_of_ble_eq_true rfl) (Nat.le_of_ble_eq_true rfl) (t_X6_addLetterOfGame l2 I) rfl (fun r2 I2 => ?_)
    exact t_X6_perform_99 k32 hk32 _ _ _ _ _ _
  · refine Ex.aload_n (M := mX6_perform) (pc2 := 73) dX6_perform_72 rfl rfl rfl ?_
    refine Ex.aload_n (M := mX6_perform) (pc2 := 74) dX6_perform_73 rfl rfl rfl ?_
    refine Ex.getR (M := mX6_perform) (pc2 := 77) dX6_perform_74 xck6 lfX6_37 (Nat.le_of_ble_eq_true rfl) sh_0 rfl ff_0_3 rfl ?_
    refine Ex.aload_n (M := mX6_perform) (pc2 := 78) dX6_perform_77 rfl rfl rfl ?_
    refine Ex.getR (M := mX6_perform) (pc2 := 81) dX6_perform_78 xck6 lfX6_37 (Nat.le_of_ble_eq_true rfl) sh_0 rfl ff_0_3 rfl ?_
    refine Ex.getR (M := mX6_perform) (pc2 := 84) dX6_perform_81 xck0 lfX6_129 (Nat.le_of_ble_eq_true rfl) sh_13 rfl ff_13_6 rfl ?_
    refine Ex.iload_n (M := mX6_perform) (pc2 := 85) dX6_perform_84 rfl rfl rfl ?_
    refine Ey.callVi (M := mX6_perform) (pc2 := 88) (as := [.inr (some 17), .inl l2]) (rest := [.inr (some 0)]) rfl dX6_perform_85 isX0_part lcX6_125 sh_13 rfl rfl ⟨(Nat.le_of_ble_eq_true rfl), (Nat.le_of_ble_eq_true rfl)⟩ rfl (Nat.le_of_ble_eq_true rfl) (Nat.le_of_ble_eq_true rfl) (t_X0_part 17 xgr_17 l2 I) rfl (fun r3 I3 => ?_)
    refine Ey.callVi (M := mX6_perform) (pc2 := 91) (as := [.inl r3]) (rest := []) rfl dX6_perform_88 isX6_letDaysPass lcX6_101 sh_0 rfl rfl ⟨(Nat.le_of_ble_eq_true rfl), (Nat.le_of_ble_eq_true rfl)⟩ rfl (Nat.le_of_ble_eq_true rfl) (Nat.le_of_ble_eq_true rfl) (t_X6_letDaysPass r3 I3) rfl (fun r4 I4 => ?_)
    refine Ex.goto (M := mX6_perform) (tgt := 99) dX6_perform_91 rfl ?_
    exact t_X6_perform_99 k32 hk32 _ _ _ _ _ _
def f_X6_perform_32b (k32 : Int32 → xI → Option (Int32 × xI)) (l2 : Int32) (I : xI) : Option (Int32 × xI) :=
  if l2 ≥ (I 13 3) then xb (f_X6_recordUnlessError (I 13 3) I) (fun r5 I5 => some (r5, I5)) else xb (f_X0_part 15 l2 I) (fun r6 I6 => if r6 ≠ (4 : Int32) then f_X6_perform_67 k32 l2 (0 : Int32) I6 else f_X6_perform_67 k32 l2 (1 : Int32) I6)
theorem t_X6_perform_32b (k32 : Int32 → xI → Option (Int32 × xI)) (hk32 : ∀ (l2 : Int32) (d1 : Option xV) (d3 : Option xV) (d4 : Option xV) (I : xI), Ey none mX6_perform 32 [some (.inr (some 0)), d1, some (.inl l2), d3, d4] [] I (k32 l2 I)) (d1 : Option xV) (l2 : Int32) (d3 : Option xV) (d4 : Option xV) (I : xI) : Ey none mX6_perform 32 [some (.inr (some 0)), d1, some (.inl l2), d3, d4] [] I (f_X6_perform_32b k32 l2 I) := by
  unfold f_X6_perform_32b
  refine Ex.iload_n (M := mX6_perform) (pc2 := 33) dX6_perform_32 rfl rfl rfl ?_
  refine Ex.aload_n (M := mX6_perform) (pc2 := 34) dX6_perform_33 rfl rfl rfl ?_
  refine Ex.getR (M := mX6_perform) (pc2 := 37) dX6_perform_34 xck6 lfX6_37 (Nat.le_of_ble_eq_true rfl) sh_0 rfl ff_0_3 rfl ?_
  refine Ex.getI (M := mX6_perform) (pc2 := 40) dX6_perform_37 xck0 lfX6_119 (Nat.le_of_ble_eq_true rfl) sh_13 rfl rfl ?_
  refine Ey.icmp_ge (M := mX6_perform) (tgt := 142) (pc2 := 43) dX6_perform_40 rfl (fun _ => ?_) rfl (fun _ => ?_)
  · refine Ex.aload_n (M := mX6_perform) (pc2 := 143) dX6_perform_142 rfl rfl rfl ?_
    refine Ex.aload_n (M := mX6_perform) (pc2 := 144) dX6_perform_143 rfl rfl rfl ?_
    refine Ex.getR (M := mX6_perform) (pc2 := 147) dX6_perform_144 xck6 lfX6_37 (Nat.le_of_ble_eq_true rfl) sh_0 rfl ff_0_3 rfl ?_
    refine Ex.getI (M := mX6_perform) (pc2 := 150) dX6_perform_147 xck0 lfX6_119 (Nat.le_of_ble_eq_true rfl) sh_13 rfl rfl ?_
    refine Ey.callVi (M := mX6_perform) (pc2 := 153) (as := [.inl (I 13 3)]) (rest := []) rfl dX6_perform_150 isX6_recordUnlessError lcX6_72 sh_0 rfl rfl ⟨(Nat.le_of_ble_eq_true rfl), (Nat.le_of_ble_eq_true rfl)⟩ rfl (Nat.le_of_ble_eq_true rfl) (Nat.le_of_ble_eq_true rfl) (t_X6_recordUnlessError (I 13 3) I) rfl (fun r5 I5 => ?_)
    exact Ey.ireturn (M := mX6_perform) dX6_perform_153 rfl rfl
  · refine Ex.aload_n (M := mX6_perform) (pc2 := 44) dX6_perform_43 rfl rfl rfl ?_
    refine Ex.getR (M := mX6_perform) (pc2 := 47) dX6_perform_44 xck6 lfX6_37 (Nat.le_of_ble_eq_true rfl) sh_0 rfl ff_0_3 rfl ?_
    refine Ex.aload_n (M := mX6_perform) (pc2 := 48) dX6_perform_47 rfl rfl rfl ?_
    refine Ex.getR (M := mX6_perform) (pc2 := 51) dX6_perform_48 xck6 lfX6_37 (Nat.le_of_ble_eq_true rfl) sh_0 rfl ff_0_3 rfl ?_
    refine Ex.getR (M := mX6_perform) (pc2 := 54) dX6_perform_51 xck0 lfX6_122 (Nat.le_of_ble_eq_true rfl) sh_13 rfl ff_13_4 rfl ?_
    refine Ex.iload_n (M := mX6_perform) (pc2 := 55) dX6_perform_54 rfl rfl rfl ?_
    refine Ey.callVi (M := mX6_perform) (pc2 := 58) (as := [.inr (some 15), .inl l2]) (rest := []) rfl dX6_perform_55 isX0_part lcX6_125 sh_13 rfl rfl ⟨(Nat.le_of_ble_eq_true rfl), (Nat.le_of_ble_eq_true rfl)⟩ rfl (Nat.le_of_ble_eq_true rfl) (Nat.le_of_ble_eq_true rfl) (t_X0_part 15 xgr_15 l2 I) rfl (fun r6 I6 => ?_)
    refine Ex.iconst (M := mX6_perform) (pc2 := 59) dX6_perform_58 ki_4 rfl ?_
    refine Ey.icmp_ne (M := mX6_perform) (tgt := 66) (pc2 := 62) dX6_perform_59 rfl (fun _ => ?_) rfl (fun _ => ?_)
    · refine Ex.iconst (M := mX6_perform) (pc2 := 67) dX6_perform_66 ki_0 rfl ?_
      exact t_X6_perform_67 k32 hk32 _ _ _ _ _ _
    · refine Ex.iconst (M := mX6_perform) (pc2 := 63) dX6_perform_62 ki_1 rfl ?_
      refine Ex.goto (M := mX6_perform) (tgt := 67) dX6_perform_63 rfl ?_
      exact t_X6_perform_67 k32 hk32 _ _ _ _ _ _
def f_X6_perform_32 : Nat → Int32 → xI → Option (Int32 × xI)
  | 0, _, _ => none
  | n + 1, l2, I => f_X6_perform_32b (fun l2 I => f_X6_perform_32 n l2 I) l2 I
theorem t_X6_perform_32 : ∀ (n : Nat) (d1 : Option xV) (l2 : Int32) (d3 : Option xV) (d4 : Option xV) (I : xI), Ey none mX6_perform 32 [some (.inr (some 0)), d1, some (.inl l2), d3, d4] [] I (f_X6_perform_32 n l2 I)
  | 0, d1, l2, d3, d4, I => Ey.nil
  | n + 1, d1, l2, d3, d4, I => t_X6_perform_32b (fun l2 I => f_X6_perform_32 n l2 I) (fun l2 d1 d3 d4 I => t_X6_perform_32 n d1 l2 d3 d4 I) d1 l2 d3 d4 I
def f_X6_perform (I : xI) : Option (Int32 × xI) :=
  xb (f_X0_findFault I) (fun r7 I7 => if r7 = (-5 : Int32) then xb (f_X5_takeFrom 51 45 I7) (fun _ I8 => f_X6_perform_32 xZ (0 : Int32) I8) else some (((-100 : Int32) - r7), I7))
theorem t_X6_perform (I : xI) : Ey none mX6_perform 0 [some (.inr (some 0)), none, none, none, none] [] I (f_X6_perform I) := by
  unfold f_X6_perform
  refine Ex.aload_n (M := mX6_perform) (pc2 := 1) dX6_perform_0 rfl rfl rfl ?_
  refine Ex.getR (M := mX6_perform) (pc2 := 4) dX6_perform_1 xck6 lfX6_37 (Nat.le_of_ble_eq_true rfl) sh_0 rfl ff_0_3 rfl ?_
  refine Ey.callVi (M := mX6_perform) (pc2 := 7) (as := []) (rest := []) rfl dX6_perform_4 isX0_findFault lcX6_116 sh_13 rfl rfl ⟨(Nat.le_of_ble_eq_true rfl), (Nat.le_of_ble_eq_true rfl)⟩ rfl (Nat.le_of_ble_eq_true rfl) (Nat.le_of_ble_eq_true rfl) (t_X0_findFault I) rfl (fun r7 I7 => ?_)
  refine Ey.istore_n (M := mX6_perform) (pc2 := 8) dX6_perform_7 rfl (Nat.le_of_ble_eq_true rfl) rfl rfl ?_
  refine Ex.iload_n (M := mX6_perform) (pc2 := 9) dX6_perform_8 rfl rfl rfl ?_
  refine Ex.bipush (M := mX6_perform) (pc2 := 11) dX6_perform_9 kb_m5 rfl ?_
  refine Ey.icmp_eq (M := mX6_perform) (tgt := 19) (pc2 := 14) dX6_perform_11 rfl (fun _ => ?_) rfl (fun _ => ?_)
  · refine Ex.aload_n (M := mX6_perform) (pc2 := 20) dX6_perform_19 rfl rfl rfl ?_
    refine Ex.getR (M := mX6_perform) (pc2 := 23) dX6_perform_20 xck6 lfX6_55 (Nat.le_of_ble_eq_true rfl) sh_0 rfl ff_0_6 rfl ?_
    refine Ex.aload_n (M := mX6_perform) (pc2 := 24) dX6_perform_23 rfl rfl rfl ?_
    refine Ex.getR (M := mX6_perform) (pc2 := 27) dX6_perform_24 xck6 lfX6_51 (Nat.le_of_ble_eq_true rfl) sh_0 rfl ff_0_5 rfl ?_
    refine Ey.callVv (M := mX6_perform) (pc2 := 30) (as := [.inr (some 45)]) (rest := []) rfl dX6_perform_27 isX5_takeFrom lcX6_64 sh_51 rfl rfl ⟨(Nat.le_of_ble_eq_true rfl), (Nat.le_of_ble_eq_true rfl)⟩ rfl (Nat.le_of_ble_eq_true rfl) (Nat.le_of_ble_eq_true rfl) (t_X5_takeFrom 51 xst_51 45 xst_45 I7) rfl (fun I8 => ?_)
    refine Ex.iconst (M := mX6_perform) (pc2 := 31) dX6_perform_30 ki_0 rfl ?_
    refine Ey.istore_n (M := mX6_perform) (pc2 := 32) dX6_perform_31 rfl (Nat.le_of_ble_eq_true rfl) rfl rfl ?_
    exact t_X6_perform_32 xZ _ _ _ _ _
  · refine Ex.bipush (M := mX6_perform) (pc2 := 16) dX6_perform_14 kb_m100 rfl ?_
    refine Ex.iload_n (M := mX6_perform) (pc2 := 17) dX6_perform_16 rfl rfl rfl ?_
    refine Ex.isub (M := mX6_perform) (pc2 := 18) dX6_perform_17 rfl ?_
    exact Ey.ireturn (M := mX6_perform) dX6_perform_18 rfl rfl
/-! FenceDuel.stopped(I)I -/
def f_X6_stopped (l1 : Int32) (I : xI) : Option (Int32 × xI) :=
  if l1 < 0 then some ((-2 : Int32), I) else if l1 ≤ (1 : Int32) then if (I 0 10) ≠ 0 then if l1 ≠ 0 then some ((I 0 12), I) else some ((I 0 11), I) else some ((-5 : Int32), I) else some ((-2 : Int32), I)
theorem t_X6_stopped (l1 : Int32) (I : xI) : Ey none mX6_stopped 0 [some (.inr (some 0)), some (.inl l1)] [] I (f_X6_stopped l1 I) := by
  unfold f_X6_stopped
  refine Ex.iload_n (M := mX6_stopped) (pc2 := 1) dX6_stopped_0 rfl rfl rfl ?_
  refine Ey.if_lt (M := mX6_stopped) (tgt := 9) (pc2 := 4) dX6_stopped_1 rfl (fun _ => ?_) rfl (fun _ => ?_)
  · refine Ex.bipush (M := mX6_stopped) (pc2 := 11) dX6_stopped_9 kb_m2 rfl ?_
    exact Ey.ireturn (M := mX6_stopped) dX6_stopped_11 rfl rfl
  · refine Ex.iload_n (M := mX6_stopped) (pc2 := 5) dX6_stopped_4 rfl rfl rfl ?_
    refine Ex.iconst (M := mX6_stopped) (pc2 := 6) dX6_stopped_5 ki_1 rfl ?_
    refine Ey.icmp_le (M := mX6_stopped) (tgt := 12) (pc2 := 9) dX6_stopped_6 rfl (fun _ => ?_) rfl (fun _ => ?_)
    · refine Ex.aload_n (M := mX6_stopped) (pc2 := 13) dX6_stopped_12 rfl rfl rfl ?_
      refine Ex.getI (M := mX6_stopped) (pc2 := 16) dX6_stopped_13 xck6 lfX6_135 (Nat.le_of_ble_eq_true rfl) sh_0 rfl rfl ?_
      refine Ey.if_ne (M := mX6_stopped) (tgt := 22) (pc2 := 19) dX6_stopped_16 rfl (fun _ => ?_) rfl (fun _ => ?_)
      · refine Ex.iload_n (M := mX6_stopped) (pc2 := 23) dX6_stopped_22 rfl rfl rfl ?_
        refine Ey.if_ne (M := mX6_stopped) (tgt := 33) (pc2 := 26) dX6_stopped_23 rfl (fun _ => ?_) rfl (fun _ => ?_)
        · refine Ex.aload_n (M := mX6_stopped) (pc2 := 34) dX6_stopped_33 rfl rfl rfl ?_
          refine Ex.getI (M := mX6_stopped) (pc2 := 37) dX6_stopped_34 xck6 lfX6_142 (Nat.le_of_ble_eq_true rfl) sh_0 rfl rfl ?_
          exact Ey.ireturn (M := mX6_stopped) dX6_stopped_37 rfl rfl
        · refine Ex.aload_n (M := mX6_stopped) (pc2 := 27) dX6_stopped_26 rfl rfl rfl ?_
          refine Ex.getI (M := mX6_stopped) (pc2 := 30) dX6_stopped_27 xck6 lfX6_139 (Nat.le_of_ble_eq_true rfl) sh_0 rfl rfl ?_
          refine Ex.goto (M := mX6_stopped) (tgt := 37) dX6_stopped_30 rfl ?_
          exact Ey.ireturn (M := mX6_stopped) dX6_stopped_37 rfl rfl
      · refine Ex.bipush (M := mX6_stopped) (pc2 := 21) dX6_stopped_19 kb_m5 rfl ?_
        exact Ey.ireturn (M := mX6_stopped) dX6_stopped_21 rfl rfl
    · refine Ex.bipush (M := mX6_stopped) (pc2 := 11) dX6_stopped_9 kb_m2 rfl ?_
      exact Ey.ireturn (M := mX6_stopped) dX6_stopped_11 rfl rfl
/-! FenceDuel.undo()I -/
def f_X6_undo (I : xI) : Option (Int32 × xI) :=
  xb (f_X2_takeBack 45 I) (fun r1 I1 => some (r1, I1))
theorem t_X6_undo (I : xI) : Ey none mX6_undo 0 [some (.inr (some 0))] [] I (f_X6_undo I) := by
  unfold f_X6_undo
  refine Ex.aload_n (M := mX6_undo) (pc2 := 1) dX6_undo_0 rfl rfl rfl ?_
  refine Ex.getR (M := mX6_undo) (pc2 := 4) dX6_undo_1 xck6 lfX6_44 (Nat.le_of_ble_eq_true rfl) sh_0 rfl ff_0_4 rfl ?_
  refine Ex.aload_n (M := mX6_undo) (pc2 := 5) dX6_undo_4 rfl rfl rfl ?_
  refine Ex.getR (M := mX6_undo) (pc2 := 8) dX6_undo_5 xck6 lfX6_51 (Nat.le_of_ble_eq_true rfl) sh_0 rfl ff_0_5 rfl ?_
  refine Ey.callVi (M := mX6_undo) (pc2 := 11) (as := [.inr (some 45)]) (rest := []) rfl dX6_undo_8 isX2_takeBack lcX6_145 sh_19 rfl rfl ⟨(Nat.le_of_ble_eq_true rfl), (Nat.le_of_ble_eq_true rfl)⟩ rfl (Nat.le_of_ble_eq_true rfl) (Nat.le_of_ble_eq_true rfl) (t_X2_takeBack 45 xst_45 I) rfl (fun r1 I1 => ?_)
  exact Ey.ireturn (M := mX6_undo) dX6_undo_11 rfl rfl
/-! FenceDuel.keep()I -/
def f_X6_keep (I : xI) : Option (Int32 × xI) :=
  xb (f_X5_takeFrom 63 45 I) (fun _ I1 => some (((xup I1 0 9 (1 : Int32)) 45 0), (xup I1 0 9 (1 : Int32))))
theorem t_X6_keep (I : xI) : Ey none mX6_keep 0 [some (.inr (some 0))] [] I (f_X6_keep I) := by
  unfold f_X6_keep
  refine Ex.aload_n (M := mX6_keep) (pc2 := 1) dX6_keep_0 rfl rfl rfl ?_
  refine Ex.getR (M := mX6_keep) (pc2 := 4) dX6_keep_1 xck6 lfX6_61 (Nat.le_of_ble_eq_true rfl) sh_0 rfl ff_0_8 rfl ?_
  refine Ex.aload_n (M := mX6_keep) (pc2 := 5) dX6_keep_4 rfl rfl rfl ?_
  refine Ex.getR (M := mX6_keep) (pc2 := 8) dX6_keep_5 xck6 lfX6_51 (Nat.le_of_ble_eq_true rfl) sh_0 rfl ff_0_5 rfl ?_
  refine Ey.callVv (M := mX6_keep) (pc2 := 11) (as := [.inr (some 45)]) (rest := []) rfl dX6_keep_8 isX5_takeFrom lcX6_64 sh_63 rfl rfl ⟨(Nat.le_of_ble_eq_true rfl), (Nat.le_of_ble_eq_true rfl)⟩ rfl (Nat.le_of_ble_eq_true rfl) (Nat.le_of_ble_eq_true rfl) (t_X5_takeFrom 63 xst_63 45 xst_45 I) rfl (fun I1 => ?_)
  refine Ex.aload_n (M := mX6_keep) (pc2 := 12) dX6_keep_11 rfl rfl rfl ?_
  refine Ex.iconst (M := mX6_keep) (pc2 := 13) dX6_keep_12 ki_1 rfl ?_
  refine Ex.putI (M := mX6_keep) (pc2 := 16) dX6_keep_13 xck6 lfX6_149 (Nat.le_of_ble_eq_true rfl) sh_0 rfl rfl ⟨by decide, by decide⟩ rfl ?_
  refine Ex.aload_n (M := mX6_keep) (pc2 := 17) dX6_keep_16 rfl rfl rfl ?_
  refine Ex.getR (M := mX6_keep) (pc2 := 20) dX6_keep_17 xck6 lfX6_51 (Nat.le_of_ble_eq_true rfl) sh_0 rfl ff_0_5 rfl ?_
  refine Ex.getI (M := mX6_keep) (pc2 := 23) dX6_keep_20 xck5 lfX6_97 (Nat.le_of_ble_eq_true rfl) sh_45 rfl rfl ?_
  exact Ey.ireturn (M := mX6_keep) dX6_keep_23 rfl rfl
/-! FenceDuel.restore()I -/
def f_X6_restore (I : xI) : Option (Int32 × xI) :=
  if (I 0 9) ≠ 0 then xb (f_X2_add 45 I) (fun _ I1 => xb (f_X5_takeFrom 45 63 I1) (fun _ I2 => some ((I2 45 0), I2))) else some ((-5 : Int32), I)
theorem t_X6_restore (I : xI) : Ey none mX6_restore 0 [some (.inr (some 0))] [] I (f_X6_restore I) := by
  unfold f_X6_restore
  refine Ex.aload_n (M := mX6_restore) (pc2 := 1) dX6_restore_0 rfl rfl rfl ?_
  refine Ex.getI (M := mX6_restore) (pc2 := 4) dX6_restore_1 xck6 lfX6_149 (Nat.le_of_ble_eq_true rfl) sh_0 rfl rfl ?_
  refine Ey.if_ne (M := mX6_restore) (tgt := 10) (pc2 := 7) dX6_restore_4 rfl (fun _ => ?_) rfl (fun _ => ?_)
  · refine Ex.aload_n (M := mX6_restore) (pc2 := 11) dX6_restore_10 rfl rfl rfl ?_
    refine Ex.getR (M := mX6_restore) (pc2 := 14) dX6_restore_11 xck6 lfX6_44 (Nat.le_of_ble_eq_true rfl) sh_0 rfl ff_0_4 rfl ?_
    refine Ex.aload_n (M := mX6_restore) (pc2 := 15) dX6_restore_14 rfl rfl rfl ?_
    refine Ex.getR (M := mX6_restore) (pc2 := 18) dX6_restore_15 xck6 lfX6_51 (Nat.le_of_ble_eq_true rfl) sh_0 rfl ff_0_5 rfl ?_
    refine Ey.callVv (M := mX6_restore) (pc2 := 21) (as := [.inr (some 45)]) (rest := []) rfl dX6_restore_18 isX2_add lcX6_90 sh_19 rfl rfl ⟨(Nat.le_of_ble_eq_true rfl), (Nat.le_of_ble_eq_true rfl)⟩ rfl (Nat.le_of_ble_eq_true rfl) (Nat.le_of_ble_eq_true rfl) (t_X2_add 45 xst_45 I) rfl (fun I1 => ?_)
    refine Ex.aload_n (M := mX6_restore) (pc2 := 22) dX6_restore_21 rfl rfl rfl ?_
    refine Ex.getR (M := mX6_restore) (pc2 := 25) dX6_restore_22 xck6 lfX6_51 (Nat.le_of_ble_eq_true rfl) sh_0 rfl ff_0_5 rfl ?_
    refine Ex.aload_n (M := mX6_restore) (pc2 := 26) dX6_restore_25 rfl rfl rfl ?_
    refine Ex.getR (M := mX6_restore) (pc2 := 29) dX6_restore_26 xck6 lfX6_61 (Nat.le_of_ble_eq_true rfl) sh_0 rfl ff_0_8 rfl ?_
    refine Ey.callVv (M := mX6_restore) (pc2 := 32) (as := [.inr (some 63)]) (rest := []) rfl dX6_restore_29 isX5_takeFrom lcX6_64 sh_45 rfl rfl ⟨(Nat.le_of_ble_eq_true rfl), (Nat.le_of_ble_eq_true rfl)⟩ rfl (Nat.le_of_ble_eq_true rfl) (Nat.le_of_ble_eq_true rfl) (t_X5_takeFrom 45 xst_45 63 xst_63 I1) rfl (fun I2 => ?_)
    refine Ex.aload_n (M := mX6_restore) (pc2 := 33) dX6_restore_32 rfl rfl rfl ?_
    refine Ex.getR (M := mX6_restore) (pc2 := 36) dX6_restore_33 xck6 lfX6_51 (Nat.le_of_ble_eq_true rfl) sh_0 rfl ff_0_5 rfl ?_
    refine Ex.getI (M := mX6_restore) (pc2 := 39) dX6_restore_36 xck5 lfX6_97 (Nat.le_of_ble_eq_true rfl) sh_45 rfl rfl ?_
    exact Ey.ireturn (M := mX6_restore) dX6_restore_39 rfl rfl
  · refine Ex.bipush (M := mX6_restore) (pc2 := 9) dX6_restore_7 kb_m5 rfl ?_
    exact Ey.ireturn (M := mX6_restore) dX6_restore_9 rfl rfl
/-! FenceDuel.edge(II)I -/
def f_X6_edge (l1 : Int32) (l2 : Int32) (I : xI) : Option (Int32 × xI) :=
  xb (f_X1_edgeNumber l1 l2 I) (fun r1 I1 => xb (f_X6_isEdge r1 I1) (fun r2 I2 => if r2 = 0 then some ((-1 : Int32), I2) else xb (f_X5_onEdge 45 r1 I2) (fun r3 I3 => some (r3, I3))))
theorem t_X6_edge (l1 : Int32) (l2 : Int32) (I : xI) : Ey none mX6_edge 0 [some (.inr (some 0)), some (.inl l1), some (.inl l2), none] [] I (f_X6_edge l1 l2 I) := by
  unfold f_X6_edge
  refine Ex.aload_n (M := mX6_edge) (pc2 := 1) dX6_edge_0 rfl rfl rfl ?_
  refine Ex.getR (M := mX6_edge) (pc2 := 4) dX6_edge_1 xck6 lfX6_10 (Nat.le_of_ble_eq_true rfl) sh_0 rfl ff_0_0 rfl ?_
  refine Ex.iload_n (M := mX6_edge) (pc2 := 5) dX6_edge_4 rfl rfl rfl ?_
  refine Ex.iload_n (M := mX6_edge) (pc2 := 6) dX6_edge_5 rfl rfl rfl ?_
  refine Ey.callVi (M := mX6_edge) (pc2 := 9) (as := [.inl l1, .inl l2]) (rest := []) rfl dX6_edge_6 isX1_edgeNumber lcX6_152 sh_1 rfl rfl ⟨(Nat.le_of_ble_eq_true rfl), (Nat.le_of_ble_eq_true rfl)⟩ rfl (Nat.le_of_ble_eq_true rfl) (Nat.le_of_ble_eq_true rfl) (t_X1_edgeNumber l1 l2 I) rfl (fun r1 I1 => ?_)
  refine Ey.istore_n (M := mX6_edge) (pc2 := 10) dX6_edge_9 rfl (Nat.le_of_ble_eq_true rfl) rfl rfl ?_
  refine Ex.iload_n (M := mX6_edge) (pc2 := 11) dX6_edge_10 rfl rfl rfl ?_
  refine Ey.callSi (M := mX6_edge) (pc2 := 14) (as := [.inl r1]) (rest := []) rfl dX6_edge_11 isX6_isEdge lcX6_155  rfl ⟨(Nat.le_of_ble_eq_true rfl), (Nat.le_of_ble_eq_true rfl)⟩ rfl (Nat.le_of_ble_eq_true rfl) (Nat.le_of_ble_eq_true rfl) (t_X6_isEdge r1 I1) rfl (fun r2 I2 => ?_)
  refine Ey.if_eq (M := mX6_edge) (tgt := 28) (pc2 := 17) dX6_edge_14 rfl (fun _ => ?_) rfl (fun _ => ?_)
  · refine Ex.iconst (M := mX6_edge) (pc2 := 29) dX6_edge_28 ki_m1 rfl ?_
    exact Ey.ireturn (M := mX6_edge) dX6_edge_29 rfl rfl
  · refine Ex.aload_n (M := mX6_edge) (pc2 := 18) dX6_edge_17 rfl rfl rfl ?_
    refine Ex.getR (M := mX6_edge) (pc2 := 21) dX6_edge_18 xck6 lfX6_51 (Nat.le_of_ble_eq_true rfl) sh_0 rfl ff_0_5 rfl ?_
    refine Ex.iload_n (M := mX6_edge) (pc2 := 22) dX6_edge_21 rfl rfl rfl ?_
    refine Ey.callVi (M := mX6_edge) (pc2 := 25) (as := [.inl r1]) (rest := []) rfl dX6_edge_22 isX5_onEdge lcX6_158 sh_45 rfl rfl ⟨(Nat.le_of_ble_eq_true rfl), (Nat.le_of_ble_eq_true rfl)⟩ rfl (Nat.le_of_ble_eq_true rfl) (Nat.le_of_ble_eq_true rfl) (t_X5_onEdge 45 xst_45 r1 I2) rfl (fun r3 I3 => ?_)
    refine Ex.goto (M := mX6_edge) (tgt := 29) dX6_edge_25 rfl ?_
    exact Ey.ireturn (M := mX6_edge) dX6_edge_29 rfl rfl
/-! FenceDuel.edgesWithSomething(I)I -/
def f_X6_edgesWithSomething_4b (k4 : Int32 → Int32 → Int32 → xI → Option (Int32 × xI)) (l1 : Int32) (l2 : Int32) (l3 : Int32) (I : xI) : Option (Int32 × xI) :=
  if l3 ≥ (4 : Int32) then some (l2, I) else xb (f_X1_edgeNumber l1 l3 I) (fun r1 I1 => xb (f_X6_isEdge r1 I1) (fun r2 I2 => if r2 = 0 then k4 l1 l2 (l3 + 1) I2 else xb (f_X5_onEdge 45 r1 I2) (fun r3 I3 => if r3 = 0 then k4 l1 l2 (l3 + 1) I3 else k4 l1 (l2 + 1) (l3 + 1) I3)))
theorem t_X6_edgesWithSomething_4b (k4 : Int32 → Int32 → Int32 → xI → Option (Int32 × xI)) (hk4 : ∀ (l1 : Int32) (l2 : Int32) (l3 : Int32) (d4 : Option xV) (I : xI), Ey none mX6_edgesWithSomething 4 [some (.inr (some 0)), some (.inl l1), some (.inl l2), some (.inl l3), d4] [] I (k4 l1 l2 l3 I)) (l1 : Int32) (l2 : Int32) (l3 : Int32) (d4 : Option xV) (I : xI) : Ey none mX6_edgesWithSomething 4 [some (.inr (some 0)), some (.inl l1), some (.inl l2), some (.inl l3), d4] [] I (f_X6_edgesWithSomething_4b k4 l1 l2 l3 I) := by
  unfold f_X6_edgesWithSomething_4b
  refine Ex.iload_n (M := mX6_edgesWithSomething) (pc2 := 5) dX6_edgesWithSomething_4 rfl rfl rfl ?_
  refine Ex.iconst (M := mX6_edgesWithSomething) (pc2 := 6) dX6_edgesWithSomething_5 ki_4 rfl ?_
  refine Ey.icmp_ge (M := mX6_edgesWithSomething) (tgt := 49) (pc2 := 9) dX6_edgesWithSomething_6 rfl (fun _ => ?_) rfl (fun _ => ?_)
  · refine Ex.iload_n (M := mX6_edgesWithSomething) (pc2 := 50) dX6_edgesWithSomething_49 rfl rfl rfl ?_
    exact Ey.ireturn (M := mX6_edgesWithSomething) dX6_edgesWithSomething_50 rfl rfl
  · refine Ex.aload_n (M := mX6_edgesWithSomething) (pc2 := 10) dX6_edgesWithSomething_9 rfl rfl rfl ?_
    refine Ex.getR (M := mX6_edgesWithSomething) (pc2 := 13) dX6_edgesWithSomething_10 xck6 lfX6_10 (Nat.le_of_ble_eq_true rfl) sh_0 rfl ff_0_0 rfl ?_
    refine Ex.iload_n (M := mX6_edgesWithSomething) (pc2 := 14) dX6_edgesWithSomething_13 rfl rfl rfl ?_
    refine Ex.iload_n (M := mX6_edgesWithSomething) (pc2 := 15) dX6_edgesWithSomething_14 rfl rfl rfl ?_
    refine Ey.callVi (M := mX6_edgesWithSomething) (pc2 := 18) (as := [.inl l1, .inl l3]) (rest := []) rfl dX6_edgesWithSomething_15 isX1_edgeNumber lcX6_152 sh_1 rfl rfl ⟨(Nat.le_of_ble_eq_true rfl), (Nat.le_of_ble_eq_true rfl)⟩ rfl (Nat.le_of_ble_eq_true rfl) (Nat.le_of_ble_eq_true rfl) (t_X1_edgeNumber l1 l3 I) rfl (fun r1 I1 => ?_)
    refine Ey.istore (M := mX6_edgesWithSomething) (pc2 := 20) dX6_edgesWithSomething_18 (Nat.le_of_ble_eq_true rfl) rfl rfl ?_
    refine Ex.iload (M := mX6_edgesWithSomething) (pc2 := 22) dX6_edgesWithSomething_20 rfl rfl ?_
    refine Ey.callSi (M := mX6_edgesWithSomething) (pc2 := 25) (as := [.inl r1]) (rest := []) rfl dX6_edgesWithSomething_22 isX6_isEdge lcX6_155  rfl ⟨(Nat.le_of_ble_eq_true rfl), (Nat.le_of_ble_eq_true rfl)⟩ rfl (Nat.le_of_ble_eq_true rfl) (Nat.le_of_ble_eq_true rfl) (t_X6_isEdge r1 I1) rfl (fun r2 I2 => ?_)
    refine Ey.if_eq (M := mX6_edgesWithSomething) (tgt := 43) (pc2 := 28) dX6_edgesWithSomething_25 rfl (fun _ => ?_) rfl (fun _ => ?_)
    · refine Ey.iinc (M := mX6_edgesWithSomething) (pc2 := 46) dX6_edgesWithSomething_43 rfl ki_1 (Nat.le_of_ble_eq_true rfl) rfl rfl ?_
      refine Ex.goto (M := mX6_edgesWithSomething) (tgt := 4) dX6_edgesWithSomething_46 rfl ?_
      exact hk4 _ _ _ _ _
    · refine Ex.aload_n (M := mX6_edgesWithSomething) (pc2 := 29) dX6_edgesWithSomething_28 rfl rfl rfl ?_
      refine Ex.getR (M := mX6_edgesWithSomething) (pc2 := 32) dX6_edgesWithSomething_29 xck6 lfX6_51 (Nat.le_of_ble_eq_true rfl) sh_0 rfl ff_0_5 rfl ?_
      refine Ex.iload (M := mX6_edgesWithSomething) (pc2 := 34) dX6_edgesWithSomething_32 rfl rfl ?_
      refine Ey.callVi (M := mX6_edgesWithSomething) (pc2 := 37) (as := [.inl r1]) (rest := []) rfl dX6_edgesWithSomething_34 isX5_onEdge lcX6_158 sh_45 rfl rfl ⟨(Nat.le_of_ble_eq_true rfl), (Nat.le_of_ble_eq_true rfl)⟩ rfl (Nat.le_of_ble_eq_true rfl) (Nat.le_of_ble_eq_true rfl) (t_X5_onEdge 45 xst_45 r1 I2) rfl (fun r3 I3 => ?_)
      refine Ey.if_eq (M := mX6_edgesWithSomething) (tgt := 43) (pc2 := 40) dX6_edgesWithSomething_37 rfl (fun _ => ?_) rfl (fun _ => ?_)
      · refine Ey.iinc (M := mX6_edgesWithSomething) (pc2 := 46) dX6_edgesWithSomething_43 rfl ki_1 (Nat.le_of_ble_eq_true rfl) rfl rfl ?_
        refine Ex.goto (M := mX6_edgesWithSomething) (tgt := 4) dX6_edgesWithSomething_46 rfl ?_
        exact hk4 _ _ _ _ _
      · refine Ey.iinc (M := mX6_edgesWithSomething) (pc2 := 43) dX6_edgesWithSomething_40 rfl ki_1 (Nat.le_of_ble_eq_true rfl) rfl rfl ?_
        refine Ey.iinc (M := mX6_edgesWithSomething) (pc2 := 46) dX6_edgesWithSomething_43 rfl ki_1 (Nat.le_of_ble_eq_true rfl) rfl rfl ?_
        refine Ex.goto (M := mX6_edgesWithSomething) (tgt := 4) dX6_edgesWithSomething_46 rfl ?_
        exact hk4 _ _ _ _ _
def f_X6_edgesWithSomething_4 : Nat → Int32 → Int32 → Int32 → xI → Option (Int32 × xI)
  | 0, _, _, _, _ => none
  | n + 1, l1, l2, l3, I => f_X6_edgesWithSomething_4b (fun l1 l2 l3 I => f_X6_edgesWithSomething_4 n l1 l2 l3 I) l1 l2 l3 I
theorem t_X6_edgesWithSomething_4 : ∀ (n : Nat) (l1 : Int32) (l2 : Int32) (l3 : Int32) (d4 : Option xV) (I : xI), Ey none mX6_edgesWithSomething 4 [some (.inr (some 0)), some (.inl l1), some (.inl l2), some (.inl l3), d4] [] I (f_X6_edgesWithSomething_4 n l1 l2 l3 I)
  | 0, l1, l2, l3, d4, I => Ey.nil
  | n + 1, l1, l2, l3, d4, I => t_X6_edgesWithSomething_4b (fun l1 l2 l3 I => f_X6_edgesWithSomething_4 n l1 l2 l3 I) (fun l1 l2 l3 d4 I => t_X6_edgesWithSomething_4 n l1 l2 l3 d4 I) l1 l2 l3 d4 I
def f_X6_edgesWithSomething (l1 : Int32) (I : xI) : Option (Int32 × xI) :=
  f_X6_edgesWithSomething_4 xZ l1 (0 : Int32) (0 : Int32) I
theorem t_X6_edgesWithSomething (l1 : Int32) (I : xI) : Ey none mX6_edgesWithSomething 0 [some (.inr (some 0)), some (.inl l1), none, none, none] [] I (f_X6_edgesWithSomething l1 I) := by
  unfold f_X6_edgesWithSomething
  refine Ex.iconst (M := mX6_edgesWithSomething) (pc2 := 1) dX6_edgesWithSomething_0 ki_0 rfl ?_
  refine Ey.istore_n (M := mX6_edgesWithSomething) (pc2 := 2) dX6_edgesWithSomething_1 rfl (Nat.le_of_ble_eq_true rfl) rfl rfl ?_
  refine Ex.iconst (M := mX6_edgesWithSomething) (pc2 := 3) dX6_edgesWithSomething_2 ki_0 rfl ?_
  refine Ey.istore_n (M := mX6_edgesWithSomething) (pc2 := 4) dX6_edgesWithSomething_3 rfl (Nat.le_of_ble_eq_true rfl) rfl rfl ?_
  exact t_X6_edgesWithSomething_4 xZ _ _ _ _ _
/-! FenceDuel.field(II)I -/
def f_X6_field (l1 : Int32) (l2 : Int32) (I : xI) : Option (Int32 × xI) :=
  xb (f_X6_isField l1 I) (fun r1 I1 => if r1 ≠ 0 then xb (f_X4_survey 45 I1) (fun r2 I2 => if l2 = 0 then xb (f_X5_ownerOf 45 l1 I2) (fun r4 I4 => some (r4, I4)) else if l2 = 1 then xb (f_X4_sizeAround l1 I2) (fun r5 I5 => some (r5, I5)) else if l2 = 2 then xb (f_X4_freeAround l1 I2) (fun r6 I6 => some (r6, I6)) else if l2 = 3 then xb (f_X4_lowestAround l1 I2) (fun r7 I7 => some (r7, I7)) else if l2 = 4 then xb (f_X6_edgesWithSomething l1 I2) (fun r8 I8 => some (r8, I8)) else some ((-2 : Int32), I2)) else some ((-1 : Int32), I1))
theorem t_X6_field (l1 : Int32) (l2 : Int32) (I : xI) : Ey none mX6_field 0 [some (.inr (some 0)), some (.inl l1), some (.inl l2)] [] I (f_X6_field l1 l2 I) := by
  unfold f_X6_field
  refine Ex.iload_n (M := mX6_field) (pc2 := 1) dX6_field_0 rfl rfl rfl ?_
  refine Ey.callSi (M := mX6_field) (pc2 := 4) (as := [.inl l1]) (rest := []) rfl dX6_field_1 isX6_isField lcX6_161  rfl ⟨(Nat.le_of_ble_eq_true rfl), (Nat.le_of_ble_eq_true rfl)⟩ rfl (Nat.le_of_ble_eq_true rfl) (Nat.le_of_ble_eq_true rfl) (t_X6_isField l1 I) rfl (fun r1 I1 => ?_)
  refine Ey.if_ne (M := mX6_field) (tgt := 9) (pc2 := 7) dX6_field_4 rfl (fun _ => ?_) rfl (fun _ => ?_)
  · refine Ex.aload_n (M := mX6_field) (pc2 := 10) dX6_field_9 rfl rfl rfl ?_
    refine Ex.getR (M := mX6_field) (pc2 := 13) dX6_field_10 xck6 lfX6_21 (Nat.le_of_ble_eq_true rfl) sh_0 rfl ff_0_1 rfl ?_
    refine Ex.aload_n (M := mX6_field) (pc2 := 14) dX6_field_13 rfl rfl rfl ?_
    refine Ex.getR (M := mX6_field) (pc2 := 17) dX6_field_14 xck6 lfX6_51 (Nat.le_of_ble_eq_true rfl) sh_0 rfl ff_0_5 rfl ?_
    refine Ey.callVi (M := mX6_field) (pc2 := 20) (as := [.inr (some 45)]) (rest := []) rfl dX6_field_17 isX4_survey lcX6_164 sh_6 rfl rfl ⟨(Nat.le_of_ble_eq_true rfl), (Nat.le_of_ble_eq_true rfl)⟩ rfl (Nat.le_of_ble_eq_true rfl) (Nat.le_of_ble_eq_true rfl) (t_X4_survey 45 xst_45 I1) rfl (fun r2 I2 => ?_)
    refine Ex.pop (M := mX6_field) (pc2 := 21) dX6_field_20 rfl ?_
    refine Ex.iload_n (M := mX6_field) (pc2 := 22) dX6_field_21 rfl rfl rfl ?_
    refine Ey.ite (fun hc3_0 => ?_) (fun hc3_0 => ?_)
    · refine Ey.tcase (M := mX6_field) (c := 0) (off := 34) (tgt := 56) hc3_0 dX6_field_22 (by decide) (by decide) (by decide) rfl ?_
      refine Ex.aload_n (M := mX6_field) (pc2 := 57) dX6_field_56 rfl rfl rfl ?_
      refine Ex.getR (M := mX6_field) (pc2 := 60) dX6_field_57 xck6 lfX6_51 (Nat.le_of_ble_eq_true rfl) sh_0 rfl ff_0_5 rfl ?_
      refine Ex.iload_n (M := mX6_field) (pc2 := 61) dX6_field_60 rfl rfl rfl ?_
      refine Ey.callVi (M := mX6_field) (pc2 := 64) (as := [.inl l1]) (rest := []) rfl dX6_field_61 isX5_ownerOf lcX6_167 sh_45 rfl rfl ⟨(Nat.le_of_ble_eq_true rfl), (Nat.le_of_ble_eq_true rfl)⟩ rfl (Nat.le_of_ble_eq_true rfl) (Nat.le_of_ble_eq_true rfl) (t_X5_ownerOf 45 xst_45 l1 I2) rfl (fun r4 I4 => ?_)
      exact Ey.ireturn (M := mX6_field) dX6_field_64 rfl rfl
    · refine Ey.ite (fun hc3_1 => ?_) (fun hc3_1 => ?_)
      · refine Ey.tcase (M := mX6_field) (c := 1) (off := 43) (tgt := 65) hc3_1 dX6_field_22 (by decide) (by decide) (by decide) rfl ?_
        refine Ex.aload_n (M := mX6_field) (pc2 := 66) dX6_field_65 rfl rfl rfl ?_
        refine Ex.getR (M := mX6_field) (pc2 := 69) dX6_field_66 xck6 lfX6_21 (Nat.le_of_ble_eq_true rfl) sh_0 rfl ff_0_1 rfl ?_
        refine Ex.iload_n (M := mX6_field) (pc2 := 70) dX6_field_69 rfl rfl rfl ?_
        refine Ey.callVi (M := mX6_field) (pc2 := 73) (as := [.inl l1]) (rest := []) rfl dX6_field_70 isX4_sizeAround lcX6_170 sh_6 rfl rfl ⟨(Nat.le_of_ble_eq_true rfl), (Nat.le_of_ble_eq_true rfl)⟩ rfl (Nat.le_of_ble_eq_true rfl) (Nat.le_of_ble_eq_true rfl) (t_X4_sizeAround l1 I2) rfl (fun r5 I5 => ?_)
        exact Ey.ireturn (M := mX6_field) dX6_field_73 rfl rfl
      · refine Ey.ite (fun hc3_2 => ?_) (fun hc3_2 => ?_)
        · refine Ey.tcase (M := mX6_field) (c := 2) (off := 52) (tgt := 74) hc3_2 dX6_field_22 (by decide) (by decide) (by decide) rfl ?_
          refine Ex.aload_n (M := mX6_field) (pc2 := 75) dX6_field_74 rfl rfl rfl ?_
          refine Ex.getR (M := mX6_field) (pc2 := 78) dX6_field_75 xck6 lfX6_21 (Nat.le_of_ble_eq_true rfl) sh_0 rfl ff_0_1 rfl ?_
          refine Ex.iload_n (M := mX6_field) (pc2 := 79) dX6_field_78 rfl rfl rfl ?_
          refine Ey.callVi (M := mX6_field) (pc2 := 82) (as := [.inl l1]) (rest := []) rfl dX6_field_79 isX4_freeAround lcX6_173 sh_6 rfl rfl ⟨(Nat.le_of_ble_eq_true rfl), (Nat.le_of_ble_eq_true rfl)⟩ rfl (Nat.le_of_ble_eq_true rfl) (Nat.le_of_ble_eq_true rfl) (t_X4_freeAround l1 I2) rfl (fun r6 I6 => ?_)
          exact Ey.ireturn (M := mX6_field) dX6_field_82 rfl rfl
        · refine Ey.ite (fun hc3_3 => ?_) (fun hc3_3 => ?_)
          · refine Ey.tcase (M := mX6_field) (c := 3) (off := 61) (tgt := 83) hc3_3 dX6_field_22 (by decide) (by decide) (by decide) rfl ?_
            refine Ex.aload_n (M := mX6_field) (pc2 := 84) dX6_field_83 rfl rfl rfl ?_
            refine Ex.getR (M := mX6_field) (pc2 := 87) dX6_field_84 xck6 lfX6_21 (Nat.le_of_ble_eq_true rfl) sh_0 rfl ff_0_1 rfl ?_
            refine Ex.iload_n (M := mX6_field) (pc2 := 88) dX6_field_87 rfl rfl rfl ?_
            refine Ey.callVi (M := mX6_field) (pc2 := 91) (as := [.inl l1]) (rest := []) rfl dX6_field_88 isX4_lowestAround lcX6_176 sh_6 rfl rfl ⟨(Nat.le_of_ble_eq_true rfl), (Nat.le_of_ble_eq_true rfl)⟩ rfl (Nat.le_of_ble_eq_true rfl) (Nat.le_of_ble_eq_true rfl) (t_X4_lowestAround l1 I2) rfl (fun r7 I7 => ?_)
            exact Ey.ireturn (M := mX6_field) dX6_field_91 rfl rfl
          · refine Ey.ite (fun hc3_4 => ?_) (fun hc3_4 => ?_)
            · refine Ey.tcase (M := mX6_field) (c := 4) (off := 70) (tgt := 92) hc3_4 dX6_field_22 (by decide) (by decide) (by decide) rfl ?_
              refine Ex.aload_n (M := mX6_field) (pc2 := 93) dX6_field_92 rfl rfl rfl ?_
              refine Ex.iload_n (M := mX6_field) (pc2 := 94) dX6_field_93 rfl rfl rfl ?_
              refine Ey.callVi (M := mX6_field) (pc2 := 97) (as := [.inl l1]) (rest := []) rfl dX6_field_94 isX6_edgesWithSomething lcX6_179 sh_0 rfl rfl ⟨(Nat.le_of_ble_eq_true rfl), (Nat.le_of_ble_eq_true rfl)⟩ rfl (Nat.le_of_ble_eq_true rfl) (Nat.le_of_ble_eq_true rfl) (t_X6_edgesWithSomething l1 I2) rfl (fun r8 I8 => ?_)
              exact Ey.ireturn (M := mX6_field) dX6_field_97 rfl rfl
            · refine Ex.tableOut (M := mX6_field) (tgt := 98) dX6_field_22 (xOut (n := 5) (by decide) (fun j hj => match j, hj with | 0, _ => xNe hc3_0 (by decide) | 1, _ => xNe hc3_1 (by decide) | 2, _ => xNe hc3_2 (by decide) | 3, _ => xNe hc3_3 (by decide) | 4, _ => xNe hc3_4 (by decide) | j + 5, hj => absurd hj (by omega))) rfl ?_
              refine Ex.bipush (M := mX6_field) (pc2 := 100) dX6_field_98 kb_m2 rfl ?_
              exact Ey.ireturn (M := mX6_field) dX6_field_100 rfl rfl
  · refine Ex.iconst (M := mX6_field) (pc2 := 8) dX6_field_7 ki_m1 rfl ?_
    exact Ey.ireturn (M := mX6_field) dX6_field_8 rfl rfl
/-! FenceDuel.joined(I)I -/
def f_X6_joined (l1 : Int32) (I : xI) : Option (Int32 × xI) :=
  xb (f_X6_isField l1 I) (fun r1 I1 => if r1 = 0 then some ((-1 : Int32), I1) else xb (f_X4_sizeByJoining 45 l1 I1) (fun r2 I2 => some (r2, I2)))
theorem t_X6_joined (l1 : Int32) (I : xI) : Ey none mX6_joined 0 [some (.inr (some 0)), some (.inl l1)] [] I (f_X6_joined l1 I) := by
  unfold f_X6_joined
  refine Ex.iload_n (M := mX6_joined) (pc2 := 1) dX6_joined_0 rfl rfl rfl ?_
  refine Ey.callSi (M := mX6_joined) (pc2 := 4) (as := [.inl l1]) (rest := []) rfl dX6_joined_1 isX6_isField lcX6_161  rfl ⟨(Nat.le_of_ble_eq_true rfl), (Nat.le_of_ble_eq_true rfl)⟩ rfl (Nat.le_of_ble_eq_true rfl) (Nat.le_of_ble_eq_true rfl) (t_X6_isField l1 I) rfl (fun r1 I1 => ?_)
  refine Ey.if_eq (M := mX6_joined) (tgt := 22) (pc2 := 7) dX6_joined_4 rfl (fun _ => ?_) rfl (fun _ => ?_)
  · refine Ex.iconst (M := mX6_joined) (pc2 := 23) dX6_joined_22 ki_m1 rfl ?_
    exact Ey.ireturn (M := mX6_joined) dX6_joined_23 rfl rfl
  · refine Ex.aload_n (M := mX6_joined) (pc2 := 8) dX6_joined_7 rfl rfl rfl ?_
    refine Ex.getR (M := mX6_joined) (pc2 := 11) dX6_joined_8 xck6 lfX6_21 (Nat.le_of_ble_eq_true rfl) sh_0 rfl ff_0_1 rfl ?_
    refine Ex.aload_n (M := mX6_joined) (pc2 := 12) dX6_joined_11 rfl rfl rfl ?_
    refine Ex.getR (M := mX6_joined) (pc2 := 15) dX6_joined_12 xck6 lfX6_51 (Nat.le_of_ble_eq_true rfl) sh_0 rfl ff_0_5 rfl ?_
    refine Ex.iload_n (M := mX6_joined) (pc2 := 16) dX6_joined_15 rfl rfl rfl ?_
    refine Ey.callVi (M := mX6_joined) (pc2 := 19) (as := [.inr (some 45), .inl l1]) (rest := []) rfl dX6_joined_16 isX4_sizeByJoining lcX6_182 sh_6 rfl rfl ⟨(Nat.le_of_ble_eq_true rfl), (Nat.le_of_ble_eq_true rfl)⟩ rfl (Nat.le_of_ble_eq_true rfl) (Nat.le_of_ble_eq_true rfl) (t_X4_sizeByJoining 45 xst_45 l1 I1) rfl (fun r2 I2 => ?_)
    refine Ex.goto (M := mX6_joined) (tgt := 23) dX6_joined_19 rfl ?_
    exact Ey.ireturn (M := mX6_joined) dX6_joined_23 rfl rfl
/-! FenceDuel.letter(II)I -/
def f_X6_letter (l1 : Int32) (l2 : Int32) (I : xI) : Option (Int32 × xI) :=
  xb (f_X5_hasLetter 45 l1 I) (fun r1 I1 => if r1 ≠ 0 then if l2 < 0 then some ((-2 : Int32), I1) else if l2 < (10 : Int32) then xb (f_X5_told 45 l1 l2 I1) (fun r2 I2 => some (r2, I2)) else some ((-2 : Int32), I1) else some ((-1 : Int32), I1))
theorem t_X6_letter (l1 : Int32) (l2 : Int32) (I : xI) : Ey none mX6_letter 0 [some (.inr (some 0)), some (.inl l1), some (.inl l2)] [] I (f_X6_letter l1 l2 I) := by
  unfold f_X6_letter
  refine Ex.aload_n (M := mX6_letter) (pc2 := 1) dX6_letter_0 rfl rfl rfl ?_
  refine Ex.getR (M := mX6_letter) (pc2 := 4) dX6_letter_1 xck6 lfX6_51 (Nat.le_of_ble_eq_true rfl) sh_0 rfl ff_0_5 rfl ?_
  refine Ex.iload_n (M := mX6_letter) (pc2 := 5) dX6_letter_4 rfl rfl rfl ?_
  refine Ey.callVi (M := mX6_letter) (pc2 := 8) (as := [.inl l1]) (rest := []) rfl dX6_letter_5 isX5_hasLetter lcX6_83 sh_45 rfl rfl ⟨(Nat.le_of_ble_eq_true rfl), (Nat.le_of_ble_eq_true rfl)⟩ rfl (Nat.le_of_ble_eq_true rfl) (Nat.le_of_ble_eq_true rfl) (t_X5_hasLetter 45 xst_45 l1 I) rfl (fun r1 I1 => ?_)
  refine Ey.if_ne (M := mX6_letter) (tgt := 13) (pc2 := 11) dX6_letter_8 rfl (fun _ => ?_) rfl (fun _ => ?_)
  · refine Ex.iload_n (M := mX6_letter) (pc2 := 14) dX6_letter_13 rfl rfl rfl ?_
    refine Ey.if_lt (M := mX6_letter) (tgt := 23) (pc2 := 17) dX6_letter_14 rfl (fun _ => ?_) rfl (fun _ => ?_)
    · refine Ex.bipush (M := mX6_letter) (pc2 := 25) dX6_letter_23 kb_m2 rfl ?_
      exact Ey.ireturn (M := mX6_letter) dX6_letter_25 rfl rfl
    · refine Ex.iload_n (M := mX6_letter) (pc2 := 18) dX6_letter_17 rfl rfl rfl ?_
      refine Ex.bipush (M := mX6_letter) (pc2 := 20) dX6_letter_18 kb_10 rfl ?_
      refine Ey.icmp_lt (M := mX6_letter) (tgt := 26) (pc2 := 23) dX6_letter_20 rfl (fun _ => ?_) rfl (fun _ => ?_)
      · refine Ex.aload_n (M := mX6_letter) (pc2 := 27) dX6_letter_26 rfl rfl rfl ?_
        refine Ex.getR (M := mX6_letter) (pc2 := 30) dX6_letter_27 xck6 lfX6_51 (Nat.le_of_ble_eq_true rfl) sh_0 rfl ff_0_5 rfl ?_
        refine Ex.iload_n (M := mX6_letter) (pc2 := 31) dX6_letter_30 rfl rfl rfl ?_
        refine Ex.iload_n (M := mX6_letter) (pc2 := 32) dX6_letter_31 rfl rfl rfl ?_
        refine Ey.callVi (M := mX6_letter) (pc2 := 35) (as := [.inl l1, .inl l2]) (rest := []) rfl dX6_letter_32 isX5_told lcX6_87 sh_45 rfl rfl ⟨(Nat.le_of_ble_eq_true rfl), (Nat.le_of_ble_eq_true rfl)⟩ rfl (Nat.le_of_ble_eq_true rfl) (Nat.le_of_ble_eq_true rfl) (t_X5_told 45 xst_45 l1 l2 I1) rfl (fun r2 I2 => ?_)
        exact Ey.ireturn (M := mX6_letter) dX6_letter_35 rfl rfl
      · refine Ex.bipush (M := mX6_letter) (pc2 := 25) dX6_letter_23 kb_m2 rfl ?_
        exact Ey.ireturn (M := mX6_letter) dX6_letter_25 rfl rfl
  · refine Ex.iconst (M := mX6_letter) (pc2 := 12) dX6_letter_11 ki_m1 rfl ?_
    exact Ey.ireturn (M := mX6_letter) dX6_letter_12 rfl rfl
/-! FenceDuel.crossed(II)I -/
def f_X6_crossed (l1 : Int32) (l2 : Int32) (I : xI) : Option (Int32 × xI) :=
  xb (f_X5_hasLetter 45 l1 I) (fun r1 I1 => if r1 = 0 then some ((-1 : Int32), I1) else xb (f_X5_hasLetter 45 l2 I1) (fun r2 I2 => if r2 ≠ 0 then if l1 ≠ l2 then xb (f_X5_haveCrossed 45 l1 l2 I2) (fun r3 I3 => if r3 = 0 then some ((0 : Int32), I3) else some ((1 : Int32), I3)) else some ((-2 : Int32), I2) else some ((-1 : Int32), I2)))
theorem t_X6_crossed (l1 : Int32) (l2 : Int32) (I : xI) : Ey none mX6_crossed 0 [some (.inr (some 0)), some (.inl l1), some (.inl l2)] [] I (f_X6_crossed l1 l2 I) := by
  unfold f_X6_crossed
  refine Ex.aload_n (M := mX6_crossed) (pc2 := 1) dX6_crossed_0 rfl rfl rfl ?_
  refine Ex.getR (M := mX6_crossed) (pc2 := 4) dX6_crossed_1 xck6 lfX6_51 (Nat.le_of_ble_eq_true rfl) sh_0 rfl ff_0_5 rfl ?_
  refine Ex.iload_n (M := mX6_crossed) (pc2 := 5) dX6_crossed_4 rfl rfl rfl ?_
  refine Ey.callVi (M := mX6_crossed) (pc2 := 8) (as := [.inl l1]) (rest := []) rfl dX6_crossed_5 isX5_hasLetter lcX6_83 sh_45 rfl rfl ⟨(Nat.le_of_ble_eq_true rfl), (Nat.le_of_ble_eq_true rfl)⟩ rfl (Nat.le_of_ble_eq_true rfl) (Nat.le_of_ble_eq_true rfl) (t_X5_hasLetter 45 xst_45 l1 I) rfl (fun r1 I1 => ?_)
  refine Ey.if_eq (M := mX6_crossed) (tgt := 22) (pc2 := 11) dX6_crossed_8 rfl (fun _ => ?_) rfl (fun _ => ?_)
  · refine Ex.iconst (M := mX6_crossed) (pc2 := 23) dX6_crossed_22 ki_m1 rfl ?_
    exact Ey.ireturn (M := mX6_crossed) dX6_crossed_23 rfl rfl
  · refine Ex.aload_n (M := mX6_crossed) (pc2 := 12) dX6_crossed_11 rfl rfl rfl ?_
    refine Ex.getR (M := mX6_crossed) (pc2 := 15) dX6_crossed_12 xck6 lfX6_51 (Nat.le_of_ble_eq_true rfl) sh_0 rfl ff_0_5 rfl ?_
    refine Ex.iload_n (M := mX6_crossed) (pc2 := 16) dX6_crossed_15 rfl rfl rfl ?_
    refine Ey.callVi (M := mX6_crossed) (pc2 := 19) (as := [.inl l2]) (rest := []) rfl dX6_crossed_16 isX5_hasLetter lcX6_83 sh_45 rfl rfl ⟨(Nat.le_of_ble_eq_true rfl), (Nat.le_of_ble_eq_true rfl)⟩ rfl (Nat.le_of_ble_eq_true rfl) (Nat.le_of_ble_eq_true rfl) (t_X5_hasLetter 45 xst_45 l2 I1) rfl (fun r2 I2 => ?_)
    refine Ey.if_ne (M := mX6_crossed) (tgt := 24) (pc2 := 22) dX6_crossed_19 rfl (fun _ => ?_) rfl (fun _ => ?_)
    · refine Ex.iload_n (M := mX6_crossed) (pc2 := 25) dX6_crossed_24 rfl rfl rfl ?_
      refine Ex.iload_n (M := mX6_crossed) (pc2 := 26) dX6_crossed_25 rfl rfl rfl ?_
      refine Ey.icmp_ne (M := mX6_crossed) (tgt := 32) (pc2 := 29) dX6_crossed_26 rfl (fun _ => ?_) rfl (fun _ => ?_)
      · refine Ex.aload_n (M := mX6_crossed) (pc2 := 33) dX6_crossed_32 rfl rfl rfl ?_
        refine Ex.getR (M := mX6_crossed) (pc2 := 36) dX6_crossed_33 xck6 lfX6_51 (Nat.le_of_ble_eq_true rfl) sh_0 rfl ff_0_5 rfl ?_
        refine Ex.iload_n (M := mX6_crossed) (pc2 := 37) dX6_crossed_36 rfl rfl rfl ?_
        refine Ex.iload_n (M := mX6_crossed) (pc2 := 38) dX6_crossed_37 rfl rfl rfl ?_
        refine Ey.callVi (M := mX6_crossed) (pc2 := 41) (as := [.inl l1, .inl l2]) (rest := []) rfl dX6_crossed_38 isX5_haveCrossed lcX6_186 sh_45 rfl rfl ⟨(Nat.le_of_ble_eq_true rfl), (Nat.le_of_ble_eq_true rfl)⟩ rfl (Nat.le_of_ble_eq_true rfl) (Nat.le_of_ble_eq_true rfl) (t_X5_haveCrossed 45 xst_45 l1 l2 I2) rfl (fun r3 I3 => ?_)
        refine Ey.if_eq (M := mX6_crossed) (tgt := 48) (pc2 := 44) dX6_crossed_41 rfl (fun _ => ?_) rfl (fun _ => ?_)
        · refine Ex.iconst (M := mX6_crossed) (pc2 := 49) dX6_crossed_48 ki_0 rfl ?_
          exact Ey.ireturn (M := mX6_crossed) dX6_crossed_49 rfl rfl
        · refine Ex.iconst (M := mX6_crossed) (pc2 := 45) dX6_crossed_44 ki_1 rfl ?_
          refine Ex.goto (M := mX6_crossed) (tgt := 49) dX6_crossed_45 rfl ?_
          exact Ey.ireturn (M := mX6_crossed) dX6_crossed_49 rfl rfl
      · refine Ex.bipush (M := mX6_crossed) (pc2 := 31) dX6_crossed_29 kb_m2 rfl ?_
        exact Ey.ireturn (M := mX6_crossed) dX6_crossed_31 rfl rfl
    · refine Ex.iconst (M := mX6_crossed) (pc2 := 23) dX6_crossed_22 ki_m1 rfl ?_
      exact Ey.ireturn (M := mX6_crossed) dX6_crossed_23 rfl rfl
/-! FenceDuel.reasonEdge(ZII)I -/
def f_X6_reasonEdge (l1 : Int32) (l2 : Int32) (l3 : Int32) (I : xI) : Option (Int32 × xI) :=
  xb (f_X1_edgeNumber l2 l3 I) (fun r1 I1 => xb (f_X6_isEdge r1 I1) (fun r2 I2 => if r2 ≠ 0 then if l1 = 0 then xb (f_X3_reasonAgainstFence 45 r1 I2) (fun r3 I3 => some (r3, I3)) else xb (f_X3_reasonAgainstGap 45 r1 I2) (fun r4 I4 => some (r4, I4)) else some ((-1 : Int32), I2)))
theorem t_X6_reasonEdge (l1 : Int32) (l2 : Int32) (l3 : Int32) (I : xI) : Ey none mX6_reasonEdge 0 [some (.inr (some 0)), some (.inl l1), some (.inl l2), some (.inl l3), none] [] I (f_X6_reasonEdge l1 l2 l3 I) := by
  unfold f_X6_reasonEdge
  refine Ex.aload_n (M := mX6_reasonEdge) (pc2 := 1) dX6_reasonEdge_0 rfl rfl rfl ?_
  refine Ex.getR (M := mX6_reasonEdge) (pc2 := 4) dX6_reasonEdge_1 xck6 lfX6_10 (Nat.le_of_ble_eq_true rfl) sh_0 rfl ff_0_0 rfl ?_
  refine Ex.iload_n (M := mX6_reasonEdge) (pc2 := 5) dX6_reasonEdge_4 rfl rfl rfl ?_
  refine Ex.iload_n (M := mX6_reasonEdge) (pc2 := 6) dX6_reasonEdge_5 rfl rfl rfl ?_
  refine Ey.callVi (M := mX6_reasonEdge) (pc2 := 9) (as := [.inl l2, .inl l3]) (rest := []) rfl dX6_reasonEdge_6 isX1_edgeNumber lcX6_152 sh_1 rfl rfl ⟨(Nat.le_of_ble_eq_true rfl), (Nat.le_of_ble_eq_true rfl)⟩ rfl (Nat.le_of_ble_eq_true rfl) (Nat.le_of_ble_eq_true rfl) (t_X1_edgeNumber l2 l3 I) rfl (fun r1 I1 => ?_)
  refine Ey.istore (M := mX6_reasonEdge) (pc2 := 11) dX6_reasonEdge_9 (Nat.le_of_ble_eq_true rfl) rfl rfl ?_
  refine Ex.iload (M := mX6_reasonEdge) (pc2 := 13) dX6_reasonEdge_11 rfl rfl ?_
  refine Ey.callSi (M := mX6_reasonEdge) (pc2 := 16) (as := [.inl r1]) (rest := []) rfl dX6_reasonEdge_13 isX6_isEdge lcX6_155  rfl ⟨(Nat.le_of_ble_eq_true rfl), (Nat.le_of_ble_eq_true rfl)⟩ rfl (Nat.le_of_ble_eq_true rfl) (Nat.le_of_ble_eq_true rfl) (t_X6_isEdge r1 I1) rfl (fun r2 I2 => ?_)
  refine Ey.if_ne (M := mX6_reasonEdge) (tgt := 21) (pc2 := 19) dX6_reasonEdge_16 rfl (fun _ => ?_) rfl (fun _ => ?_)
  · refine Ex.iload_n (M := mX6_reasonEdge) (pc2 := 22) dX6_reasonEdge_21 rfl rfl rfl ?_
    refine Ey.if_eq (M := mX6_reasonEdge) (tgt := 41) (pc2 := 25) dX6_reasonEdge_22 rfl (fun _ => ?_) rfl (fun _ => ?_)
    · refine Ex.aload_n (M := mX6_reasonEdge) (pc2 := 42) dX6_reasonEdge_41 rfl rfl rfl ?_
      refine Ex.getR (M := mX6_reasonEdge) (pc2 := 45) dX6_reasonEdge_42 xck6 lfX6_30 (Nat.le_of_ble_eq_true rfl) sh_0 rfl ff_0_2 rfl ?_
      refine Ex.aload_n (M := mX6_reasonEdge) (pc2 := 46) dX6_reasonEdge_45 rfl rfl rfl ?_
      refine Ex.getR (M := mX6_reasonEdge) (pc2 := 49) dX6_reasonEdge_46 xck6 lfX6_51 (Nat.le_of_ble_eq_true rfl) sh_0 rfl ff_0_5 rfl ?_
      refine Ex.iload (M := mX6_reasonEdge) (pc2 := 51) dX6_reasonEdge_49 rfl rfl ?_
      refine Ey.callVi (M := mX6_reasonEdge) (pc2 := 54) (as := [.inr (some 45), .inl r1]) (rest := []) rfl dX6_reasonEdge_51 isX3_reasonAgainstFence lcX6_193 sh_12 rfl rfl ⟨(Nat.le_of_ble_eq_true rfl), (Nat.le_of_ble_eq_true rfl)⟩ rfl (Nat.le_of_ble_eq_true rfl) (Nat.le_of_ble_eq_true rfl) (t_X3_reasonAgainstFence 45 xst_45 r1 I2) rfl (fun r3 I3 => ?_)
      exact Ey.ireturn (M := mX6_reasonEdge) dX6_reasonEdge_54 rfl rfl
    · refine Ex.aload_n (M := mX6_reasonEdge) (pc2 := 26) dX6_reasonEdge_25 rfl rfl rfl ?_
      refine Ex.getR (M := mX6_reasonEdge) (pc2 := 29) dX6_reasonEdge_26 xck6 lfX6_30 (Nat.le_of_ble_eq_true rfl) sh_0 rfl ff_0_2 rfl ?_
      refine Ex.aload_n (M := mX6_reasonEdge) (pc2 := 30) dX6_reasonEdge_29 rfl rfl rfl ?_
      refine Ex.getR (M := mX6_reasonEdge) (pc2 := 33) dX6_reasonEdge_30 xck6 lfX6_51 (Nat.le_of_ble_eq_true rfl) sh_0 rfl ff_0_5 rfl ?_
      refine Ex.iload (M := mX6_reasonEdge) (pc2 := 35) dX6_reasonEdge_33 rfl rfl ?_
      refine Ey.callVi (M := mX6_reasonEdge) (pc2 := 38) (as := [.inr (some 45), .inl r1]) (rest := []) rfl dX6_reasonEdge_35 isX3_reasonAgainstGap lcX6_190 sh_12 rfl rfl ⟨(Nat.le_of_ble_eq_true rfl), (Nat.le_of_ble_eq_true rfl)⟩ rfl (Nat.le_of_ble_eq_true rfl) (Nat.le_of_ble_eq_true rfl) (t_X3_reasonAgainstGap 45 xst_45 r1 I2) rfl (fun r4 I4 => ?_)
      refine Ex.goto (M := mX6_reasonEdge) (tgt := 54) dX6_reasonEdge_38 rfl ?_
      exact Ey.ireturn (M := mX6_reasonEdge) dX6_reasonEdge_54 rfl rfl
  · refine Ex.iconst (M := mX6_reasonEdge) (pc2 := 20) dX6_reasonEdge_19 ki_m1 rfl ?_
    exact Ey.ireturn (M := mX6_reasonEdge) dX6_reasonEdge_20 rfl rfl
/-! FenceDuel.reasonClaim(I)I -/
def f_X6_reasonClaim (l1 : Int32) (I : xI) : Option (Int32 × xI) :=
  xb (f_X6_isField l1 I) (fun r1 I1 => if r1 ≠ 0 then xb (f_X4_survey 45 I1) (fun r2 I2 => xb (f_X3_reasonAgainstClaim 45 l1 I2) (fun r3 I3 => some (r3, I3))) else some ((-1 : Int32), I1))
theorem t_X6_reasonClaim (l1 : Int32) (I : xI) : Ey none mX6_reasonClaim 0 [some (.inr (some 0)), some (.inl l1)] [] I (f_X6_reasonClaim l1 I) := by
  unfold f_X6_reasonClaim
  refine Ex.iload_n (M := mX6_reasonClaim) (pc2 := 1) dX6_reasonClaim_0 rfl rfl rfl ?_
  refine Ey.callSi (M := mX6_reasonClaim) (pc2 := 4) (as := [.inl l1]) (rest := []) rfl dX6_reasonClaim_1 isX6_isField lcX6_161  rfl ⟨(Nat.le_of_ble_eq_true rfl), (Nat.le_of_ble_eq_true rfl)⟩ rfl (Nat.le_of_ble_eq_true rfl) (Nat.le_of_ble_eq_true rfl) (t_X6_isField l1 I) rfl (fun r1 I1 => ?_)
  refine Ey.if_ne (M := mX6_reasonClaim) (tgt := 9) (pc2 := 7) dX6_reasonClaim_4 rfl (fun _ => ?_) rfl (fun _ => ?_)
  · refine Ex.aload_n (M := mX6_reasonClaim) (pc2 := 10) dX6_reasonClaim_9 rfl rfl rfl ?_
    refine Ex.getR (M := mX6_reasonClaim) (pc2 := 13) dX6_reasonClaim_10 xck6 lfX6_21 (Nat.le_of_ble_eq_true rfl) sh_0 rfl ff_0_1 rfl ?_
    refine Ex.aload_n (M := mX6_reasonClaim) (pc2 := 14) dX6_reasonClaim_13 rfl rfl rfl ?_
    refine Ex.getR (M := mX6_reasonClaim) (pc2 := 17) dX6_reasonClaim_14 xck6 lfX6_51 (Nat.le_of_ble_eq_true rfl) sh_0 rfl ff_0_5 rfl ?_
    refine Ey.callVi (M := mX6_reasonClaim) (pc2 := 20) (as := [.inr (some 45)]) (rest := []) rfl dX6_reasonClaim_17 isX4_survey lcX6_164 sh_6 rfl rfl ⟨(Nat.le_of_ble_eq_true rfl), (Nat.le_of_ble_eq_true rfl)⟩ rfl (Nat.le_of_ble_eq_true rfl) (Nat.le_of_ble_eq_true rfl) (t_X4_survey 45 xst_45 I1) rfl (fun r2 I2 => ?_)
    refine Ex.pop (M := mX6_reasonClaim) (pc2 := 21) dX6_reasonClaim_20 rfl ?_
    refine Ex.aload_n (M := mX6_reasonClaim) (pc2 := 22) dX6_reasonClaim_21 rfl rfl rfl ?_
    refine Ex.getR (M := mX6_reasonClaim) (pc2 := 25) dX6_reasonClaim_22 xck6 lfX6_30 (Nat.le_of_ble_eq_true rfl) sh_0 rfl ff_0_2 rfl ?_
    refine Ex.aload_n (M := mX6_reasonClaim) (pc2 := 26) dX6_reasonClaim_25 rfl rfl rfl ?_
    refine Ex.getR (M := mX6_reasonClaim) (pc2 := 29) dX6_reasonClaim_26 xck6 lfX6_51 (Nat.le_of_ble_eq_true rfl) sh_0 rfl ff_0_5 rfl ?_
    refine Ex.iload_n (M := mX6_reasonClaim) (pc2 := 30) dX6_reasonClaim_29 rfl rfl rfl ?_
    refine Ey.callVi (M := mX6_reasonClaim) (pc2 := 33) (as := [.inr (some 45), .inl l1]) (rest := []) rfl dX6_reasonClaim_30 isX3_reasonAgainstClaim lcX6_196 sh_12 rfl rfl ⟨(Nat.le_of_ble_eq_true rfl), (Nat.le_of_ble_eq_true rfl)⟩ rfl (Nat.le_of_ble_eq_true rfl) (Nat.le_of_ble_eq_true rfl) (t_X3_reasonAgainstClaim 45 xst_45 l1 I2) rfl (fun r3 I3 => ?_)
    exact Ey.ireturn (M := mX6_reasonClaim) dX6_reasonClaim_33 rfl rfl
  · refine Ex.iconst (M := mX6_reasonClaim) (pc2 := 8) dX6_reasonClaim_7 ki_m1 rfl ?_
    exact Ey.ireturn (M := mX6_reasonClaim) dX6_reasonClaim_8 rfl rfl
/-! FenceDuel.next(I)I -/
def f_X6_next (l1 : Int32) (I : xI) : Option (Int32 × xI) :=
  if l1 < 0 then some ((-2 : Int32), I) else if l1 ≤ (1 : Int32) then xb (f_X5_soonest 45 I) (fun r1 I1 => if r1 ≠ (-5 : Int32) then if l1 ≠ 0 then xb (f_X5_told 45 r1 (5 : Int32) I1) (fun r2 I2 => some ((r2 - (I2 45 0)), I2)) else some (r1, I1) else some ((-5 : Int32), I1)) else some ((-2 : Int32), I)
theorem t_X6_next (l1 : Int32) (I : xI) : Ey none mX6_next 0 [some (.inr (some 0)), some (.inl l1), none] [] I (f_X6_next l1 I) := by
  unfold f_X6_next
  refine Ex.iload_n (M := mX6_next) (pc2 := 1) dX6_next_0 rfl rfl rfl ?_
  refine Ey.if_lt (M := mX6_next) (tgt := 9) (pc2 := 4) dX6_next_1 rfl (fun _ => ?_) rfl (fun _ => ?_)
  · refine Ex.bipush (M := mX6_next) (pc2 := 11) dX6_next_9 kb_m2 rfl ?_
    exact Ey.ireturn (M := mX6_next) dX6_next_11 rfl rfl
  · refine Ex.iload_n (M := mX6_next) (pc2 := 5) dX6_next_4 rfl rfl rfl ?_
    refine Ex.iconst (M := mX6_next) (pc2 := 6) dX6_next_5 ki_1 rfl ?_
    refine Ey.icmp_le (M := mX6_next) (tgt := 12) (pc2 := 9) dX6_next_6 rfl (fun _ => ?_) rfl (fun _ => ?_)
    · refine Ex.aload_n (M := mX6_next) (pc2 := 13) dX6_next_12 rfl rfl rfl ?_
      refine Ex.getR (M := mX6_next) (pc2 := 16) dX6_next_13 xck6 lfX6_51 (Nat.le_of_ble_eq_true rfl) sh_0 rfl ff_0_5 rfl ?_
      refine Ey.callVi (M := mX6_next) (pc2 := 19) (as := []) (rest := []) rfl dX6_next_16 isX5_soonest lcX6_199 sh_45 rfl rfl ⟨(Nat.le_of_ble_eq_true rfl), (Nat.le_of_ble_eq_true rfl)⟩ rfl (Nat.le_of_ble_eq_true rfl) (Nat.le_of_ble_eq_true rfl) (t_X5_soonest 45 xst_45 I) rfl (fun r1 I1 => ?_)
      refine Ey.istore_n (M := mX6_next) (pc2 := 20) dX6_next_19 rfl (Nat.le_of_ble_eq_true rfl) rfl rfl ?_
      refine Ex.iload_n (M := mX6_next) (pc2 := 21) dX6_next_20 rfl rfl rfl ?_
      refine Ex.bipush (M := mX6_next) (pc2 := 23) dX6_next_21 kb_m5 rfl ?_
      refine Ey.icmp_ne (M := mX6_next) (tgt := 29) (pc2 := 26) dX6_next_23 rfl (fun _ => ?_) rfl (fun _ => ?_)
      · refine Ex.iload_n (M := mX6_next) (pc2 := 30) dX6_next_29 rfl rfl rfl ?_
        refine Ey.if_ne (M := mX6_next) (tgt := 37) (pc2 := 33) dX6_next_30 rfl (fun _ => ?_) rfl (fun _ => ?_)
        · refine Ex.aload_n (M := mX6_next) (pc2 := 38) dX6_next_37 rfl rfl rfl ?_
          refine Ex.getR (M := mX6_next) (pc2 := 41) dX6_next_38 xck6 lfX6_51 (Nat.le_of_ble_eq_true rfl) sh_0 rfl ff_0_5 rfl ?_
          refine Ex.iload_n (M := mX6_next) (pc2 := 42) dX6_next_41 rfl rfl rfl ?_
          refine Ex.iconst (M := mX6_next) (pc2 := 43) dX6_next_42 ki_5 rfl ?_
          refine Ey.callVi (M := mX6_next) (pc2 := 46) (as := [.inl r1, .inl (5 : Int32)]) (rest := []) rfl dX6_next_43 isX5_told lcX6_87 sh_45 rfl rfl ⟨(Nat.le_of_ble_eq_true rfl), (Nat.le_of_ble_eq_true rfl)⟩ rfl (Nat.le_of_ble_eq_true rfl) (Nat.le_of_ble_eq_true rfl) (t_X5_told 45 xst_45 r1 (5 : Int32) I1) rfl (fun r2 I2 => ?_)
          refine Ex.aload_n (M := mX6_next) (pc2 := 47) dX6_next_46 rfl rfl rfl ?_
          refine Ex.getR (M := mX6_next) (pc2 := 50) dX6_next_47 xck6 lfX6_51 (Nat.le_of_ble_eq_true rfl) sh_0 rfl ff_0_5 rfl ?_
          refine Ex.getI (M := mX6_next) (pc2 := 53) dX6_next_50 xck5 lfX6_97 (Nat.le_of_ble_eq_true rfl) sh_45 rfl rfl ?_
          refine Ex.isub (M := mX6_next) (pc2 := 54) dX6_next_53 rfl ?_
          exact Ey.ireturn (M := mX6_next) dX6_next_54 rfl rfl
        · refine Ex.iload_n (M := mX6_next) (pc2 := 34) dX6_next_33 rfl rfl rfl ?_
          refine Ex.goto (M := mX6_next) (tgt := 54) dX6_next_34 rfl ?_
          exact Ey.ireturn (M := mX6_next) dX6_next_54 rfl rfl
      · refine Ex.bipush (M := mX6_next) (pc2 := 28) dX6_next_26 kb_m5 rfl ?_
        exact Ey.ireturn (M := mX6_next) dX6_next_28 rfl rfl
    · refine Ex.bipush (M := mX6_next) (pc2 := 11) dX6_next_9 kb_m2 rfl ?_
      exact Ey.ireturn (M := mX6_next) dX6_next_11 rfl rfl
/-! FenceDuel.ifAllCome(I)I -/
def f_X6_ifAllCome (l1 : Int32) (I : xI) : Option (Int32 × xI) :=
  if l1 < 0 then some ((-2 : Int32), I) else if l1 ≤ (3 : Int32) then xb (f_X5_takeFrom 57 45 I) (fun _ I1 => xb (f_X3_deliver 57 (10008 : Int32) I1) (fun r2 I2 => if l1 = 2 then xb (f_X5_edgesWith 57 (3 : Int32) I2) (fun r4 I4 => some (r4, I4)) else if l1 = 3 then xb (f_X5_lettersThatAre 57 (2 : Int32) I2) (fun r5 I5 => some (r5, I5)) else xb (f_X5_fieldsOf 57 l1 I2) (fun r6 I6 => some (r6, I6)))) else some ((-2 : Int32), I)
theorem t_X6_ifAllCome (l1 : Int32) (I : xI) : Ey none mX6_ifAllCome 0 [some (.inr (some 0)), some (.inl l1)] [] I (f_X6_ifAllCome l1 I) := by
  unfold f_X6_ifAllCome
  refine Ex.iload_n (M := mX6_ifAllCome) (pc2 := 1) dX6_ifAllCome_0 rfl rfl rfl ?_
  refine Ey.if_lt (M := mX6_ifAllCome) (tgt := 9) (pc2 := 4) dX6_ifAllCome_1 rfl (fun _ => ?_) rfl (fun _ => ?_)
  · refine Ex.bipush (M := mX6_ifAllCome) (pc2 := 11) dX6_ifAllCome_9 kb_m2 rfl ?_
    exact Ey.ireturn (M := mX6_ifAllCome) dX6_ifAllCome_11 rfl rfl
  · refine Ex.iload_n (M := mX6_ifAllCome) (pc2 := 5) dX6_ifAllCome_4 rfl rfl rfl ?_
    refine Ex.iconst (M := mX6_ifAllCome) (pc2 := 6) dX6_ifAllCome_5 ki_3 rfl ?_
    refine Ey.icmp_le (M := mX6_ifAllCome) (tgt := 12) (pc2 := 9) dX6_ifAllCome_6 rfl (fun _ => ?_) rfl (fun _ => ?_)
    · refine Ex.aload_n (M := mX6_ifAllCome) (pc2 := 13) dX6_ifAllCome_12 rfl rfl rfl ?_
      refine Ex.getR (M := mX6_ifAllCome) (pc2 := 16) dX6_ifAllCome_13 xck6 lfX6_58 (Nat.le_of_ble_eq_true rfl) sh_0 rfl ff_0_7 rfl ?_
      refine Ex.aload_n (M := mX6_ifAllCome) (pc2 := 17) dX6_ifAllCome_16 rfl rfl rfl ?_
      refine Ex.getR (M := mX6_ifAllCome) (pc2 := 20) dX6_ifAllCome_17 xck6 lfX6_51 (Nat.le_of_ble_eq_true rfl) sh_0 rfl ff_0_5 rfl ?_
      refine Ey.callVv (M := mX6_ifAllCome) (pc2 := 23) (as := [.inr (some 45)]) (rest := []) rfl dX6_ifAllCome_20 isX5_takeFrom lcX6_64 sh_57 rfl rfl ⟨(Nat.le_of_ble_eq_true rfl), (Nat.le_of_ble_eq_true rfl)⟩ rfl (Nat.le_of_ble_eq_true rfl) (Nat.le_of_ble_eq_true rfl) (t_X5_takeFrom 57 xst_57 45 xst_45 I) rfl (fun I1 => ?_)
      refine Ex.aload_n (M := mX6_ifAllCome) (pc2 := 24) dX6_ifAllCome_23 rfl rfl rfl ?_
      refine Ex.getR (M := mX6_ifAllCome) (pc2 := 27) dX6_ifAllCome_24 xck6 lfX6_30 (Nat.le_of_ble_eq_true rfl) sh_0 rfl ff_0_2 rfl ?_
      refine Ex.aload_n (M := mX6_ifAllCome) (pc2 := 28) dX6_ifAllCome_27 rfl rfl rfl ?_
      refine Ex.getR (M := mX6_ifAllCome) (pc2 := 31) dX6_ifAllCome_28 xck6 lfX6_58 (Nat.le_of_ble_eq_true rfl) sh_0 rfl ff_0_7 rfl ?_
      refine Ex.sipush (M := mX6_ifAllCome) (pc2 := 34) dX6_ifAllCome_31 ks_10008 rfl ?_
      refine Ey.callVi (M := mX6_ifAllCome) (pc2 := 37) (as := [.inr (some 57), .inl (10008 : Int32)]) (rest := []) rfl dX6_ifAllCome_34 isX3_deliver lcX6_202 sh_12 rfl rfl ⟨(Nat.le_of_ble_eq_true rfl), (Nat.le_of_ble_eq_true rfl)⟩ rfl (Nat.le_of_ble_eq_true rfl) (Nat.le_of_ble_eq_true rfl) (t_X3_deliver 57 xst_57 (10008 : Int32) I1) rfl (fun r2 I2 => ?_)
      refine Ex.pop (M := mX6_ifAllCome) (pc2 := 38) dX6_ifAllCome_37 rfl ?_
      refine Ex.iload_n (M := mX6_ifAllCome) (pc2 := 39) dX6_ifAllCome_38 rfl rfl rfl ?_
      refine Ey.ite (fun hc3_0 => ?_) (fun hc3_0 => ?_)
      · refine Ey.lcase (M := mX6_ifAllCome) (c := 2) (off := 25) (tgt := 64) hc3_0 dX6_ifAllCome_39 (by decide) (by decide) rfl ?_
        refine Ex.aload_n (M := mX6_ifAllCome) (pc2 := 65) dX6_ifAllCome_64 rfl rfl rfl ?_
        refine Ex.getR (M := mX6_ifAllCome) (pc2 := 68) dX6_ifAllCome_65 xck6 lfX6_58 (Nat.le_of_ble_eq_true rfl) sh_0 rfl ff_0_7 rfl ?_
        refine Ex.iconst (M := mX6_ifAllCome) (pc2 := 69) dX6_ifAllCome_68 ki_3 rfl ?_
        refine Ey.callVi (M := mX6_ifAllCome) (pc2 := 72) (as := [.inl (3 : Int32)]) (rest := []) rfl dX6_ifAllCome_69 isX5_edgesWith lcX6_205 sh_57 rfl rfl ⟨(Nat.le_of_ble_eq_true rfl), (Nat.le_of_ble_eq_true rfl)⟩ rfl (Nat.le_of_ble_eq_true rfl) (Nat.le_of_ble_eq_true rfl) (t_X5_edgesWith 57 xst_57 (3 : Int32) I2) rfl (fun r4 I4 => ?_)
        exact Ey.ireturn (M := mX6_ifAllCome) dX6_ifAllCome_72 rfl rfl
      · refine Ey.ite (fun hc3_1 => ?_) (fun hc3_1 => ?_)
        · refine Ey.lcase (M := mX6_ifAllCome) (c := 3) (off := 34) (tgt := 73) hc3_1 dX6_ifAllCome_39 (by decide) (by decide) rfl ?_
          refine Ex.aload_n (M := mX6_ifAllCome) (pc2 := 74) dX6_ifAllCome_73 rfl rfl rfl ?_
          refine Ex.getR (M := mX6_ifAllCome) (pc2 := 77) dX6_ifAllCome_74 xck6 lfX6_58 (Nat.le_of_ble_eq_true rfl) sh_0 rfl ff_0_7 rfl ?_
          refine Ex.iconst (M := mX6_ifAllCome) (pc2 := 78) dX6_ifAllCome_77 ki_2 rfl ?_
          refine Ey.callVi (M := mX6_ifAllCome) (pc2 := 81) (as := [.inl (2 : Int32)]) (rest := []) rfl dX6_ifAllCome_78 isX5_lettersThatAre lcX6_208 sh_57 rfl rfl ⟨(Nat.le_of_ble_eq_true rfl), (Nat.le_of_ble_eq_true rfl)⟩ rfl (Nat.le_of_ble_eq_true rfl) (Nat.le_of_ble_eq_true rfl) (t_X5_lettersThatAre 57 xst_57 (2 : Int32) I2) rfl (fun r5 I5 => ?_)
          exact Ey.ireturn (M := mX6_ifAllCome) dX6_ifAllCome_81 rfl rfl
        · refine Ex.lookup (M := mX6_ifAllCome) (off := 43) (tgt := 82) dX6_ifAllCome_39 (by decide) ((lv_osw hc3_0 (by decide)).trans ((lv_osw hc3_1 (by decide)).trans rfl)) rfl ?_
          refine Ex.aload_n (M := mX6_ifAllCome) (pc2 := 83) dX6_ifAllCome_82 rfl rfl rfl ?_
          refine Ex.getR (M := mX6_ifAllCome) (pc2 := 86) dX6_ifAllCome_83 xck6 lfX6_58 (Nat.le_of_ble_eq_true rfl) sh_0 rfl ff_0_7 rfl ?_
          refine Ex.iload_n (M := mX6_ifAllCome) (pc2 := 87) dX6_ifAllCome_86 rfl rfl rfl ?_
          refine Ey.callVi (M := mX6_ifAllCome) (pc2 := 90) (as := [.inl l1]) (rest := []) rfl dX6_ifAllCome_87 isX5_fieldsOf lcX6_211 sh_57 rfl rfl ⟨(Nat.le_of_ble_eq_true rfl), (Nat.le_of_ble_eq_true rfl)⟩ rfl (Nat.le_of_ble_eq_true rfl) (Nat.le_of_ble_eq_true rfl) (t_X5_fieldsOf 57 xst_57 l1 I2) rfl (fun r6 I6 => ?_)
          exact Ey.ireturn (M := mX6_ifAllCome) dX6_ifAllCome_90 rfl rfl
    · refine Ex.bipush (M := mX6_ifAllCome) (pc2 := 11) dX6_ifAllCome_9 kb_m2 rfl ?_
      exact Ey.ireturn (M := mX6_ifAllCome) dX6_ifAllCome_11 rfl rfl
/-! FenceDuel.bestClaim(I)I -/
def f_X6_bestClaim_32b (k32 : Int32 → Int32 → Int32 → Int32 → xI → Option (Int32 × xI)) (l1 : Int32) (l2 : Int32) (l3 : Int32) (l4 : Int32) (I : xI) : Option (Int32 × xI) :=
  if l4 ≥ (48 : Int32) then if l2 ≠ (-5 : Int32) then if l1 ≠ 0 then some (l3, I) else some (l2, I) else some ((-5 : Int32), I) else xb (f_X4_freeAround l4 I) (fun r1 I1 => if r1 ≤ l3 then k32 l1 l2 l3 (l4 + 1) I1 else xb (f_X3_reasonAgainstClaim 45 l4 I1) (fun r2 I2 => if r2 ≠ 0 then k32 l1 l2 l3 (l4 + 1) I2 else k32 l1 l4 r1 (l4 + 1) I2))
theorem t_X6_bestClaim_32b (k32 : Int32 → Int32 → Int32 → Int32 → xI → Option (Int32 × xI)) (hk32 : ∀ (l1 : Int32) (l2 : Int32) (l3 : Int32) (l4 : Int32) (d5 : Option xV) (I : xI), Ey none mX6_bestClaim 32 [some (.inr (some 0)), some (.inl l1), some (.inl l2), some (.inl l3), some (.inl l4), d5] [] I (k32 l1 l2 l3 l4 I)) (l1 : Int32) (l2 : Int32) (l3 : Int32) (l4 : Int32) (d5 : Option xV) (I : xI) : Ey none mX6_bestClaim 32 [some (.inr (some 0)), some (.inl l1), some (.inl l2), some (.inl l3), some (.inl l4), d5] [] I (f_X6_bestClaim_32b k32 l1 l2 l3 l4 I) := by
  unfold f_X6_bestClaim_32b
  refine Ex.iload (M := mX6_bestClaim) (pc2 := 34) dX6_bestClaim_32 rfl rfl ?_
  refine Ex.bipush (M := mX6_bestClaim) (pc2 := 36) dX6_bestClaim_34 kb_48 rfl ?_
  refine Ey.icmp_ge (M := mX6_bestClaim) (tgt := 84) (pc2 := 39) dX6_bestClaim_36 rfl (fun _ => ?_) rfl (fun _ => ?_)
  · refine Ex.iload_n (M := mX6_bestClaim) (pc2 := 85) dX6_bestClaim_84 rfl rfl rfl ?_
    refine Ex.bipush (M := mX6_bestClaim) (pc2 := 87) dX6_bestClaim_85 kb_m5 rfl ?_
    refine Ey.icmp_ne (M := mX6_bestClaim) (tgt := 93) (pc2 := 90) dX6_bestClaim_87 rfl (fun _ => ?_) rfl (fun _ => ?_)
    · refine Ex.iload_n (M := mX6_bestClaim) (pc2 := 94) dX6_bestClaim_93 rfl rfl rfl ?_
      refine Ey.if_ne (M := mX6_bestClaim) (tgt := 101) (pc2 := 97) dX6_bestClaim_94 rfl (fun _ => ?_) rfl (fun _ => ?_)
      · refine Ex.iload_n (M := mX6_bestClaim) (pc2 := 102) dX6_bestClaim_101 rfl rfl rfl ?_
        exact Ey.ireturn (M := mX6_bestClaim) dX6_bestClaim_102 rfl rfl
      · refine Ex.iload_n (M := mX6_bestClaim) (pc2 := 98) dX6_bestClaim_97 rfl rfl rfl ?_
        refine Ex.goto (M := mX6_bestClaim) (tgt := 102) dX6_bestClaim_98 rfl ?_
        exact Ey.ireturn (M := mX6_bestClaim) dX6_bestClaim_102 rfl rfl
    · refine Ex.bipush (M := mX6_bestClaim) (pc2 := 92) dX6_bestClaim_90 kb_m5 rfl ?_
      exact Ey.ireturn (M := mX6_bestClaim) dX6_bestClaim_92 rfl rfl
  · refine Ex.aload_n (M := mX6_bestClaim) (pc2 := 40) dX6_bestClaim_39 rfl rfl rfl ?_
    refine Ex.getR (M := mX6_bestClaim) (pc2 := 43) dX6_bestClaim_40 xck6 lfX6_21 (Nat.le_of_ble_eq_true rfl) sh_0 rfl ff_0_1 rfl ?_
    refine Ex.iload (M := mX6_bestClaim) (pc2 := 45) dX6_bestClaim_43 rfl rfl ?_
    refine Ey.callVi (M := mX6_bestClaim) (pc2 := 48) (as := [.inl l4]) (rest := []) rfl dX6_bestClaim_45 isX4_freeAround lcX6_173 sh_6 rfl rfl ⟨(Nat.le_of_ble_eq_true rfl), (Nat.le_of_ble_eq_true rfl)⟩ rfl (Nat.le_of_ble_eq_true rfl) (Nat.le_of_ble_eq_true rfl) (t_X4_freeAround l4 I) rfl (fun r1 I1 => ?_)
    refine Ey.istore (M := mX6_bestClaim) (pc2 := 50) dX6_bestClaim_48 (Nat.le_of_ble_eq_true rfl) rfl rfl ?_
    refine Ex.iload (M := mX6_bestClaim) (pc2 := 52) dX6_bestClaim_50 rfl rfl ?_
    refine Ex.iload_n (M := mX6_bestClaim) (pc2 := 53) dX6_bestClaim_52 rfl rfl rfl ?_
    refine Ey.icmp_le (M := mX6_bestClaim) (tgt := 78) (pc2 := 56) dX6_bestClaim_53 rfl (fun _ => ?_) rfl (fun _ => ?_)
    · refine Ey.iinc (M := mX6_bestClaim) (pc2 := 81) dX6_bestClaim_78 rfl ki_1 (Nat.le_of_ble_eq_true rfl) rfl rfl ?_
      refine Ex.goto (M := mX6_bestClaim) (tgt := 32) dX6_bestClaim_81 rfl ?_
      exact hk32 _ _ _ _ _ _
    · refine Ex.aload_n (M := mX6_bestClaim) (pc2 := 57) dX6_bestClaim_56 rfl rfl rfl ?_
      refine Ex.getR (M := mX6_bestClaim) (pc2 := 60) dX6_bestClaim_57 xck6 lfX6_30 (Nat.le_of_ble_eq_true rfl) sh_0 rfl ff_0_2 rfl ?_
      refine Ex.aload_n (M := mX6_bestClaim) (pc2 := 61) dX6_bestClaim_60 rfl rfl rfl ?_
      refine Ex.getR (M := mX6_bestClaim) (pc2 := 64) dX6_bestClaim_61 xck6 lfX6_51 (Nat.le_of_ble_eq_true rfl) sh_0 rfl ff_0_5 rfl ?_
      refine Ex.iload (M := mX6_bestClaim) (pc2 := 66) dX6_bestClaim_64 rfl rfl ?_
      refine Ey.callVi (M := mX6_bestClaim) (pc2 := 69) (as := [.inr (some 45), .inl l4]) (rest := []) rfl dX6_bestClaim_66 isX3_reasonAgainstClaim lcX6_196 sh_12 rfl rfl ⟨(Nat.le_of_ble_eq_true rfl), (Nat.le_of_ble_eq_true rfl)⟩ rfl (Nat.le_of_ble_eq_true rfl) (Nat.le_of_ble_eq_true rfl) (t_X3_reasonAgainstClaim 45 xst_45 l4 I1) rfl (fun r2 I2 => ?_)
      refine Ey.if_ne (M := mX6_bestClaim) (tgt := 78) (pc2 := 72) dX6_bestClaim_69 rfl (fun _ => ?_) rfl (fun _ => ?_)
      · refine Ey.iinc (M := mX6_bestClaim) (pc2 := 81) dX6_bestClaim_78 rfl ki_1 (Nat.le_of_ble_eq_true rfl) rfl rfl ?_
        refine Ex.goto (M := mX6_bestClaim) (tgt := 32) dX6_bestClaim_81 rfl ?_
        exact hk32 _ _ _ _ _ _
      · refine Ex.iload (M := mX6_bestClaim) (pc2 := 74) dX6_bestClaim_72 rfl rfl ?_
        refine Ey.istore_n (M := mX6_bestClaim) (pc2 := 75) dX6_bestClaim_74 rfl (Nat.le_of_ble_eq_true rfl) rfl rfl ?_
        refine Ex.iload (M := mX6_bestClaim) (pc2 := 77) dX6_bestClaim_75 rfl rfl ?_
        refine Ey.istore_n (M := mX6_bestClaim) (pc2 := 78) dX6_bestClaim_77 rfl (Nat.le_of_ble_eq_true rfl) rfl rfl ?_
        refine Ey.iinc (M := mX6_bestClaim) (pc2 := 81) dX6_bestClaim_78 rfl ki_1 (Nat.le_of_ble_eq_true rfl) rfl rfl ?_
        refine Ex.goto (M := mX6_bestClaim) (tgt := 32) dX6_bestClaim_81 rfl ?_
        exact hk32 _ _ _ _ _ _
def f_X6_bestClaim_32 : Nat → Int32 → Int32 → Int32 → Int32 → xI → Option (Int32 × xI)
  | 0, _, _, _, _, _ => none
  | n + 1, l1, l2, l3, l4, I => f_X6_bestClaim_32b (fun l1 l2 l3 l4 I => f_X6_bestClaim_32 n l1 l2 l3 l4 I) l1 l2 l3 l4 I
theorem t_X6_bestClaim_32 : ∀ (n : Nat) (l1 : Int32) (l2 : Int32) (l3 : Int32) (l4 : Int32) (d5 : Option xV) (I : xI), Ey none mX6_bestClaim 32 [some (.inr (some 0)), some (.inl l1), some (.inl l2), some (.inl l3), some (.inl l4), d5] [] I (f_X6_bestClaim_32 n l1 l2 l3 l4 I)
  | 0, l1, l2, l3, l4, d5, I => Ey.nil
  | n + 1, l1, l2, l3, l4, d5, I => t_X6_bestClaim_32b (fun l1 l2 l3 l4 I => f_X6_bestClaim_32 n l1 l2 l3 l4 I) (fun l1 l2 l3 l4 d5 I => t_X6_bestClaim_32 n l1 l2 l3 l4 d5 I) l1 l2 l3 l4 d5 I
def f_X6_bestClaim (l1 : Int32) (I : xI) : Option (Int32 × xI) :=
  if l1 < 0 then some ((-2 : Int32), I) else if l1 ≤ (1 : Int32) then xb (f_X4_survey 45 I) (fun r3 I3 => f_X6_bestClaim_32 xZ l1 (-5 : Int32) (0 : Int32) (0 : Int32) I3) else some ((-2 : Int32), I)
theorem t_X6_bestClaim (l1 : Int32) (I : xI) : Ey none mX6_bestClaim 0 [some (.inr (some 0)), some (.inl l1), none, none, none, none] [] I (f_X6_bestClaim l1 I) := by
  unfold f_X6_bestClaim
  refine Ex.iload_n (M := mX6_bestClaim) (pc2 := 1) dX6_bestClaim_0 rfl rfl rfl ?_
  refine Ey.if_lt (M := mX6_bestClaim) (tgt := 9) (pc2 := 4) dX6_bestClaim_1 rfl (fun _ => ?_) rfl (fun _ => ?_)
  · refine Ex.bipush (M := mX6_bestClaim) (pc2 := 11) dX6_bestClaim_9 kb_m2 rfl ?_
    exact Ey.ireturn (M := mX6_bestClaim) dX6_bestClaim_11 rfl rfl
  · refine Ex.iload_n (M := mX6_bestClaim) (pc2 := 5) dX6_bestClaim_4 rfl rfl rfl ?_
    refine Ex.iconst (M := mX6_bestClaim) (pc2 := 6) dX6_bestClaim_5 ki_1 rfl ?_
    refine Ey.icmp_le (M := mX6_bestClaim) (tgt := 12) (pc2 := 9) dX6_bestClaim_6 rfl (fun _ => ?_) rfl (fun _ => ?_)
    · refine Ex.aload_n (M := mX6_bestClaim) (pc2 := 13) dX6_bestClaim_12 rfl rfl rfl ?_
      refine Ex.getR (M := mX6_bestClaim) (pc2 := 16) dX6_bestClaim_13 xck6 lfX6_21 (Nat.le_of_ble_eq_true rfl) sh_0 rfl ff_0_1 rfl ?_
      refine Ex.aload_n (M := mX6_bestClaim) (pc2 := 17) dX6_bestClaim_16 rfl rfl rfl ?_
      refine Ex.getR (M := mX6_bestClaim) (pc2 := 20) dX6_bestClaim_17 xck6 lfX6_51 (Nat.le_of_ble_eq_true rfl) sh_0 rfl ff_0_5 rfl ?_
      refine Ey.callVi (M := mX6_bestClaim) (pc2 := 23) (as := [.inr (some 45)]) (rest := []) rfl dX6_bestClaim_20 isX4_survey lcX6_164 sh_6 rfl rfl ⟨(Nat.le_of_ble_eq_true rfl), (Nat.le_of_ble_eq_true rfl)⟩ rfl (Nat.le_of_ble_eq_true rfl) (Nat.le_of_ble_eq_true rfl) (t_X4_survey 45 xst_45 I) rfl (fun r3 I3 => ?_)
      refine Ex.pop (M := mX6_bestClaim) (pc2 := 24) dX6_bestClaim_23 rfl ?_
      refine Ex.bipush (M := mX6_bestClaim) (pc2 := 26) dX6_bestClaim_24 kb_m5 rfl ?_
      refine Ey.istore_n (M := mX6_bestClaim) (pc2 := 27) dX6_bestClaim_26 rfl (Nat.le_of_ble_eq_true rfl) rfl rfl ?_
      refine Ex.iconst (M := mX6_bestClaim) (pc2 := 28) dX6_bestClaim_27 ki_0 rfl ?_
      refine Ey.istore_n (M := mX6_bestClaim) (pc2 := 29) dX6_bestClaim_28 rfl (Nat.le_of_ble_eq_true rfl) rfl rfl ?_
      refine Ex.iconst (M := mX6_bestClaim) (pc2 := 30) dX6_bestClaim_29 ki_0 rfl ?_
      refine Ey.istore (M := mX6_bestClaim) (pc2 := 32) dX6_bestClaim_30 (Nat.le_of_ble_eq_true rfl) rfl rfl ?_
      exact t_X6_bestClaim_32 xZ _ _ _ _ _ _
    · refine Ex.bipush (M := mX6_bestClaim) (pc2 := 11) dX6_bestClaim_9 kb_m2 rfl ?_
      exact Ey.ireturn (M := mX6_bestClaim) dX6_bestClaim_11 rfl rfl
/-! FenceDuel.count(I)I -/
def f_X6_count (l1 : Int32) (I : xI) : Option (Int32 × xI) :=
  if l1 = 0 then some ((I 45 0), I) else if l1 = 1 then some ((I 45 1), I) else if l1 = 2 then xb (f_X5_lettersThatAre 45 (0 : Int32) I) (fun r2 I2 => some (r2, I2)) else if l1 = 3 then xb (f_X5_lettersThatAre 45 (1 : Int32) I) (fun r3 I3 => some (r3, I3)) else if l1 = 4 then xb (f_X5_lettersThatAre 45 (2 : Int32) I) (fun r4 I4 => some (r4, I4)) else if l1 = 5 then some ((I 45 2), I) else if l1 = 6 then xb (f_X5_turnsOfTwo 45 I) (fun r5 I5 => some (r5, I5)) else if l1 = 7 then xb (f_X5_fieldsOf 45 (0 : Int32) I) (fun r6 I6 => some (r6, I6)) else if l1 = 8 then xb (f_X5_fieldsOf 45 (1 : Int32) I) (fun r7 I7 => some (r7, I7)) else if l1 = 9 then xb (f_X6_fenceOf (0 : Int32) I) (fun r8 I8 => xb (f_X5_edgesWith 45 r8 I8) (fun r9 I9 => some (r9, I9))) else if l1 = 10 then xb (f_X6_fenceOf (1 : Int32) I) (fun r10 I10 => xb (f_X5_edgesWith 45 r10 I10) (fun r11 I11 => some (r11, I11))) else if l1 = 11 then xb (f_X5_edgesWith 45 (3 : Int32) I) (fun r12 I12 => some (r12, I12)) else if l1 = 12 then xb (f_X4_survey 45 I) (fun r13 I13 => some (r13, I13)) else if l1 = 13 then xb (f_X5_hasTruce 45 I) (fun r14 I14 => if r14 = 0 then some ((0 : Int32), I14) else some ((1 : Int32), I14)) else if l1 = 14 then some ((I 47 0), I) else if l1 = 15 then some ((I 47 1), I) else if l1 = 16 then some ((I 46 0), I) else if l1 = 17 then some ((I 46 1), I) else if l1 = 18 then some ((I 19 2), I) else if l1 = 19 then some ((I 13 1), I) else some ((-2 : Int32), I)
theorem t_X6_count (l1 : Int32) (I : xI) : Ey none mX6_count 0 [some (.inr (some 0)), some (.inl l1)] [] I (f_X6_count l1 I) := by
  unfold f_X6_count
  refine Ex.iload_n (M := mX6_count) (pc2 := 1) dX6_count_0 rfl rfl rfl ?_
  refine Ey.ite (fun hc1_0 => ?_) (fun hc1_0 => ?_)
  · refine Ey.tcase (M := mX6_count) (c := 0) (off := 95) (tgt := 96) hc1_0 dX6_count_1 (by decide) (by decide) (by decide) rfl ?_
    refine Ex.aload_n (M := mX6_count) (pc2 := 97) dX6_count_96 rfl rfl rfl ?_
    refine Ex.getR (M := mX6_count) (pc2 := 100) dX6_count_97 xck6 lfX6_51 (Nat.le_of_ble_eq_true rfl) sh_0 rfl ff_0_5 rfl ?_
    refine Ex.getI (M := mX6_count) (pc2 := 103) dX6_count_100 xck5 lfX6_97 (Nat.le_of_ble_eq_true rfl) sh_45 rfl rfl ?_
    exact Ey.ireturn (M := mX6_count) dX6_count_103 rfl rfl
  · refine Ey.ite (fun hc1_1 => ?_) (fun hc1_1 => ?_)
    · refine Ey.tcase (M := mX6_count) (c := 1) (off := 103) (tgt := 104) hc1_1 dX6_count_1 (by decide) (by decide) (by decide) rfl ?_
      refine Ex.aload_n (M := mX6_count) (pc2 := 105) dX6_count_104 rfl rfl rfl ?_
      refine Ex.getR (M := mX6_count) (pc2 := 108) dX6_count_105 xck6 lfX6_51 (Nat.le_of_ble_eq_true rfl) sh_0 rfl ff_0_5 rfl ?_
      refine Ex.getI (M := mX6_count) (pc2 := 111) dX6_count_108 xck5 lfX6_214 (Nat.le_of_ble_eq_true rfl) sh_45 rfl rfl ?_
      exact Ey.ireturn (M := mX6_count) dX6_count_111 rfl rfl
    · refine Ey.ite (fun hc1_2 => ?_) (fun hc1_2 => ?_)
      · refine Ey.tcase (M := mX6_count) (c := 2) (off := 111) (tgt := 112) hc1_2 dX6_count_1 (by decide) (by decide) (by decide) rfl ?_
        refine Ex.aload_n (M := mX6_count) (pc2 := 113) dX6_count_112 rfl rfl rfl ?_
        refine Ex.getR (M := mX6_count) (pc2 := 116) dX6_count_113 xck6 lfX6_51 (Nat.le_of_ble_eq_true rfl) sh_0 rfl ff_0_5 rfl ?_
        refine Ex.iconst (M := mX6_count) (pc2 := 117) dX6_count_116 ki_0 rfl ?_
        refine Ey.callVi (M := mX6_count) (pc2 := 120) (as := [.inl (0 : Int32)]) (rest := []) rfl dX6_count_117 isX5_lettersThatAre lcX6_208 sh_45 rfl rfl ⟨(Nat.le_of_ble_eq_true rfl), (Nat.le_of_ble_eq_true rfl)⟩ rfl (Nat.le_of_ble_eq_true rfl) (Nat.le_of_ble_eq_true rfl) (t_X5_lettersThatAre 45 xst_45 (0 : Int32) I) rfl (fun r2 I2 => ?_)
        exact Ey.ireturn (M := mX6_count) dX6_count_120 rfl rfl
      · refine Ey.ite (fun hc1_3 => ?_) (fun hc1_3 => ?_)
        · refine Ey.tcase (M := mX6_count) (c := 3) (off := 120) (tgt := 121) hc1_3 dX6_count_1 (by decide) (by decide) (by decide) rfl ?_
          refine Ex.aload_n (M := mX6_count) (pc2 := 122) dX6_count_121 rfl rfl rfl ?_
          refine Ex.getR (M := mX6_count) (pc2 := 125) dX6_count_122 xck6 lfX6_51 (Nat.le_of_ble_eq_true rfl) sh_0 rfl ff_0_5 rfl ?_
          refine Ex.iconst (M := mX6_count) (pc2 := 126) dX6_count_125 ki_1 rfl ?_
          refine Ey.callVi (M := mX6_count) (pc2 := 129) (as := [.inl (1 : Int32)]) (rest := []) rfl dX6_count_126 isX5_lettersThatAre lcX6_208 sh_45 rfl rfl ⟨(Nat.le_of_ble_eq_true rfl), (Nat.le_of_ble_eq_true rfl)⟩ rfl (Nat.le_of_ble_eq_true rfl) (Nat.le_of_ble_eq_true rfl) (t_X5_lettersThatAre 45 xst_45 (1 : Int32) I) rfl (fun r3 I3 => ?_)
          exact Ey.ireturn (M := mX6_count) dX6_count_129 rfl rfl
        · refine Ey.ite (fun hc1_4 => ?_) (fun hc1_4 => ?_)
          · refine Ey.tcase (M := mX6_count) (c := 4) (off := 129) (tgt := 130) hc1_4 dX6_count_1 (by decide) (by decide) (by decide) rfl ?_
            refine Ex.aload_n (M := mX6_count) (pc2 := 131) dX6_count_130 rfl rfl rfl ?_
            refine Ex.getR (M := mX6_count) (pc2 := 134) dX6_count_131 xck6 lfX6_51 (Nat.le_of_ble_eq_true rfl) sh_0 rfl ff_0_5 rfl ?_
            refine Ex.iconst (M := mX6_count) (pc2 := 135) dX6_count_134 ki_2 rfl ?_
            refine Ey.callVi (M := mX6_count) (pc2 := 138) (as := [.inl (2 : Int32)]) (rest := []) rfl dX6_count_135 isX5_lettersThatAre lcX6_208 sh_45 rfl rfl ⟨(Nat.le_of_ble_eq_true rfl), (Nat.le_of_ble_eq_true rfl)⟩ rfl (Nat.le_of_ble_eq_true rfl) (Nat.le_of_ble_eq_true rfl) (t_X5_lettersThatAre 45 xst_45 (2 : Int32) I) rfl (fun r4 I4 => ?_)
            exact Ey.ireturn (M := mX6_count) dX6_count_138 rfl rfl
          · refine Ey.ite (fun hc1_5 => ?_) (fun hc1_5 => ?_)
            · refine Ey.tcase (M := mX6_count) (c := 5) (off := 138) (tgt := 139) hc1_5 dX6_count_1 (by decide) (by decide) (by decide) rfl ?_
              refine Ex.aload_n (M := mX6_count) (pc2 := 140) dX6_count_139 rfl rfl rfl ?_
              refine Ex.getR (M := mX6_count) (pc2 := 143) dX6_count_140 xck6 lfX6_51 (Nat.le_of_ble_eq_true rfl) sh_0 rfl ff_0_5 rfl ?_
              refine Ex.getI (M := mX6_count) (pc2 := 146) dX6_count_143 xck5 lfX6_217 (Nat.le_of_ble_eq_true rfl) sh_45 rfl rfl ?_
              exact Ey.ireturn (M := mX6_count) dX6_count_146 rfl rfl
            · refine Ey.ite (fun hc1_6 => ?_) (fun hc1_6 => ?_)
              · refine Ey.tcase (M := mX6_count) (c := 6) (off := 146) (tgt := 147) hc1_6 dX6_count_1 (by decide) (by decide) (by decide) rfl ?_
                refine Ex.aload_n (M := mX6_count) (pc2 := 148) dX6_count_147 rfl rfl rfl ?_
                refine Ex.getR (M := mX6_count) (pc2 := 151) dX6_count_148 xck6 lfX6_51 (Nat.le_of_ble_eq_true rfl) sh_0 rfl ff_0_5 rfl ?_
                refine Ey.callVi (M := mX6_count) (pc2 := 154) (as := []) (rest := []) rfl dX6_count_151 isX5_turnsOfTwo lcX6_220 sh_45 rfl rfl ⟨(Nat.le_of_ble_eq_true rfl), (Nat.le_of_ble_eq_true rfl)⟩ rfl (Nat.le_of_ble_eq_true rfl) (Nat.le_of_ble_eq_true rfl) (t_X5_turnsOfTwo 45 xst_45 I) rfl (fun r5 I5 => ?_)
                exact Ey.ireturn (M := mX6_count) dX6_count_154 rfl rfl
              · refine Ey.ite (fun hc1_7 => ?_) (fun hc1_7 => ?_)
                · refine Ey.tcase (M := mX6_count) (c := 7) (off := 154) (tgt := 155) hc1_7 dX6_count_1 (by decide) (by decide) (by decide) rfl ?_
                  refine Ex.aload_n (M := mX6_count) (pc2 := 156) dX6_count_155 rfl rfl rfl ?_
                  refine Ex.getR (M := mX6_count) (pc2 := 159) dX6_count_156 xck6 lfX6_51 (Nat.le_of_ble_eq_true rfl) sh_0 rfl ff_0_5 rfl ?_
                  refine Ex.iconst (M := mX6_count) (pc2 := 160) dX6_count_159 ki_0 rfl ?_
                  refine Ey.callVi (M := mX6_count) (pc2 := 163) (as := [.inl (0 : Int32)]) (rest := []) rfl dX6_count_160 isX5_fieldsOf lcX6_211 sh_45 rfl rfl ⟨(Nat.le_of_ble_eq_true rfl), (Nat.le_of_ble_eq_true rfl)⟩ rfl (Nat.le_of_ble_eq_true rfl) (Nat.le_of_ble_eq_true rfl) (t_X5_fieldsOf 45 xst_45 (0 : Int32) I) rfl (fun r6 I6 => ?_)
                  exact Ey.ireturn (M := mX6_count) dX6_count_163 rfl rfl
                · refine Ey.ite (fun hc1_8 => ?_) (fun hc1_8 => ?_)
                  · refine Ey.tcase (M := mX6_count) (c := 8) (off := 163) (tgt := 164) hc1_8 dX6_count_1 (by decide) (by decide) (by decide) rfl ?_
                    refine Ex.aload_n (M := mX6_count) (pc2 := 165) dX6_count_164 rfl rfl rfl ?_
                    refine Ex.getR (M := mX6_count) (pc2 := 168) dX6_count_165 xck6 lfX6_51 (Nat.le_of_ble_eq_true rfl) sh_0 rfl ff_0_5 rfl ?_
                    refine Ex.iconst (M := mX6_count) (pc2 := 169) dX6_count_168 ki_1 rfl ?_
                    refine Ey.callVi (M := mX6_count) (pc2 := 172) (as := [.inl (1 : Int32)]) (rest := []) rfl dX6_count_169 isX5_fieldsOf lcX6_211 sh_45 rfl rfl ⟨(Nat.le_of_ble_eq_true rfl), (Nat.le_of_ble_eq_true rfl)⟩ rfl (Nat.le_of_ble_eq_true rfl) (Nat.le_of_ble_eq_true rfl) (t_X5_fieldsOf 45 xst_45 (1 : Int32) I) rfl (fun r7 I7 => ?_)
                    exact Ey.ireturn (M := mX6_count) dX6_count_172 rfl rfl
                  · refine Ey.ite (fun hc1_9 => ?_) (fun hc1_9 => ?_)
                    · refine Ey.tcase (M := mX6_count) (c := 9) (off := 172) (tgt := 173) hc1_9 dX6_count_1 (by decide) (by decide) (by decide) rfl ?_
                      refine Ex.aload_n (M := mX6_count) (pc2 := 174) dX6_count_173 rfl rfl rfl ?_
                      refine Ex.getR (M := mX6_count) (pc2 := 177) dX6_count_174 xck6 lfX6_51 (Nat.le_of_ble_eq_true rfl) sh_0 rfl ff_0_5 rfl ?_
                      refine Ex.iconst (M := mX6_count) (pc2 := 178) dX6_count_177 ki_0 rfl ?_
                      refine Ey.callSi (M := mX6_count) (pc2 := 181) (as := [.inl (0 : Int32)]) (rest := [.inr (some 45)]) rfl dX6_count_178 isX6_fenceOf lcX6_223  rfl ⟨(Nat.le_of_ble_eq_true rfl), (Nat.le_of_ble_eq_true rfl)⟩ rfl (Nat.le_of_ble_eq_true rfl) (Nat.le_of_ble_eq_true rfl) (t_X6_fenceOf (0 : Int32) I) rfl (fun r8 I8 => ?_)
                      refine Ey.callVi (M := mX6_count) (pc2 := 184) (as := [.inl r8]) (rest := []) rfl dX6_count_181 isX5_edgesWith lcX6_205 sh_45 rfl rfl ⟨(Nat.le_of_ble_eq_true rfl), (Nat.le_of_ble_eq_true rfl)⟩ rfl (Nat.le_of_ble_eq_true rfl) (Nat.le_of_ble_eq_true rfl) (t_X5_edgesWith 45 xst_45 r8 I8) rfl (fun r9 I9 => ?_)
                      exact Ey.ireturn (M := mX6_count) dX6_count_184 rfl rfl
                    · refine Ey.ite (fun hc1_10 => ?_) (fun hc1_10 => ?_)
                      · refine Ey.tcase (M := mX6_count) (c := 10) (off := 184) (tgt := 185) hc1_10 dX6_count_1 (by decide) (by decide) (by decide) rfl ?_
                        refine Ex.aload_n (M := mX6_count) (pc2 := 186) dX6_count_185 rfl rfl rfl ?_
                        refine Ex.getR (M := mX6_count) (pc2 := 189) dX6_count_186 xck6 lfX6_51 (Nat.le_of_ble_eq_true rfl) sh_0 rfl ff_0_5 rfl ?_
                        refine Ex.iconst (M := mX6_count) (pc2 := 190) dX6_count_189 ki_1 rfl ?_
                        refine Ey.callSi (M := mX6_count) (pc2 := 193) (as := [.inl (1 : Int32)]) (rest := [.inr (some 45)]) rfl dX6_count_190 isX6_fenceOf lcX6_223  rfl ⟨(Nat.le_of_ble_eq_true rfl), (Nat.le_of_ble_eq_true rfl)⟩ rfl (Nat.le_of_ble_eq_true rfl) (Nat.le_of_ble_eq_true rfl) (t_X6_fenceOf (1 : Int32) I) rfl (fun r10 I10 => ?_)
                        refine Ey.callVi (M := mX6_count) (pc2 := 196) (as := [.inl r10]) (rest := []) rfl dX6_count_193 isX5_edgesWith lcX6_205 sh_45 rfl rfl ⟨(Nat.le_of_ble_eq_true rfl), (Nat.le_of_ble_eq_true rfl)⟩ rfl (Nat.le_of_ble_eq_true rfl) (Nat.le_of_ble_eq_true rfl) (t_X5_edgesWith 45 xst_45 r10 I10) rfl (fun r11 I11 => ?_)
                        exact Ey.ireturn (M := mX6_count) dX6_count_196 rfl rfl
                      · refine Ey.ite (fun hc1_11 => ?_) (fun hc1_11 => ?_)
                        · refine Ey.tcase (M := mX6_count) (c := 11) (off := 196) (tgt := 197) hc1_11 dX6_count_1 (by decide) (by decide) (by decide) rfl ?_
                          refine Ex.aload_n (M := mX6_count) (pc2 := 198) dX6_count_197 rfl rfl rfl ?_
                          refine Ex.getR (M := mX6_count) (pc2 := 201) dX6_count_198 xck6 lfX6_51 (Nat.le_of_ble_eq_true rfl) sh_0 rfl ff_0_5 rfl ?_
                          refine Ex.iconst (M := mX6_count) (pc2 := 202) dX6_count_201 ki_3 rfl ?_
                          refine Ey.callVi (M := mX6_count) (pc2 := 205) (as := [.inl (3 : Int32)]) (rest := []) rfl dX6_count_202 isX5_edgesWith lcX6_205 sh_45 rfl rfl ⟨(Nat.le_of_ble_eq_true rfl), (Nat.le_of_ble_eq_true rfl)⟩ rfl (Nat.le_of_ble_eq_true rfl) (Nat.le_of_ble_eq_true rfl) (t_X5_edgesWith 45 xst_45 (3 : Int32) I) rfl (fun r12 I12 => ?_)
                          exact Ey.ireturn (M := mX6_count) dX6_count_205 rfl rfl
                        · refine Ey.ite (fun hc1_12 => ?_) (fun hc1_12 => ?_)
                          · refine Ey.tcase (M := mX6_count) (c := 12) (off := 205) (tgt := 206) hc1_12 dX6_count_1 (by decide) (by decide) (by decide) rfl ?_
                            refine Ex.aload_n (M := mX6_count) (pc2 := 207) dX6_count_206 rfl rfl rfl ?_
                            refine Ex.getR (M := mX6_count) (pc2 := 210) dX6_count_207 xck6 lfX6_21 (Nat.le_of_ble_eq_true rfl) sh_0 rfl ff_0_1 rfl ?_
                            refine Ex.aload_n (M := mX6_count) (pc2 := 211) dX6_count_210 rfl rfl rfl ?_
                            refine Ex.getR (M := mX6_count) (pc2 := 214) dX6_count_211 xck6 lfX6_51 (Nat.le_of_ble_eq_true rfl) sh_0 rfl ff_0_5 rfl ?_
                            refine Ey.callVi (M := mX6_count) (pc2 := 217) (as := [.inr (some 45)]) (rest := []) rfl dX6_count_214 isX4_survey lcX6_164 sh_6 rfl rfl ⟨(Nat.le_of_ble_eq_true rfl), (Nat.le_of_ble_eq_true rfl)⟩ rfl (Nat.le_of_ble_eq_true rfl) (Nat.le_of_ble_eq_true rfl) (t_X4_survey 45 xst_45 I) rfl (fun r13 I13 => ?_)
                            exact Ey.ireturn (M := mX6_count) dX6_count_217 rfl rfl
                          · refine Ey.ite (fun hc1_13 => ?_) (fun hc1_13 => ?_)
                            · refine Ey.tcase (M := mX6_count) (c := 13) (off := 217) (tgt := 218) hc1_13 dX6_count_1 (by decide) (by decide) (by decide) rfl ?_
                              refine Ex.aload_n (M := mX6_count) (pc2 := 219) dX6_count_218 rfl rfl rfl ?_
                              refine Ex.getR (M := mX6_count) (pc2 := 222) dX6_count_219 xck6 lfX6_51 (Nat.le_of_ble_eq_true rfl) sh_0 rfl ff_0_5 rfl ?_
                              refine Ey.callVi (M := mX6_count) (pc2 := 225) (as := []) (rest := []) rfl dX6_count_222 isX5_hasTruce lcX6_226 sh_45 rfl rfl ⟨(Nat.le_of_ble_eq_true rfl), (Nat.le_of_ble_eq_true rfl)⟩ rfl (Nat.le_of_ble_eq_true rfl) (Nat.le_of_ble_eq_true rfl) (t_X5_hasTruce 45 xst_45 I) rfl (fun r14 I14 => ?_)
                              refine Ey.if_eq (M := mX6_count) (tgt := 232) (pc2 := 228) dX6_count_225 rfl (fun _ => ?_) rfl (fun _ => ?_)
                              · refine Ex.iconst (M := mX6_count) (pc2 := 233) dX6_count_232 ki_0 rfl ?_
                                exact Ey.ireturn (M := mX6_count) dX6_count_233 rfl rfl
                              · refine Ex.iconst (M := mX6_count) (pc2 := 229) dX6_count_228 ki_1 rfl ?_
                                refine Ex.goto (M := mX6_count) (tgt := 233) dX6_count_229 rfl ?_
                                exact Ey.ireturn (M := mX6_count) dX6_count_233 rfl rfl
                            · refine Ey.ite (fun hc1_14 => ?_) (fun hc1_14 => ?_)
                              · refine Ey.tcase (M := mX6_count) (c := 14) (off := 233) (tgt := 234) hc1_14 dX6_count_1 (by decide) (by decide) (by decide) rfl ?_
                                refine Ex.aload_n (M := mX6_count) (pc2 := 235) dX6_count_234 rfl rfl rfl ?_
                                refine Ex.getR (M := mX6_count) (pc2 := 238) dX6_count_235 xck6 lfX6_51 (Nat.le_of_ble_eq_true rfl) sh_0 rfl ff_0_5 rfl ?_
                                refine Ex.getR (M := mX6_count) (pc2 := 241) dX6_count_238 xck5 lfX6_230 (Nat.le_of_ble_eq_true rfl) sh_45 rfl ff_45_5 rfl ?_
                                refine Ex.iconst (M := mX6_count) (pc2 := 242) dX6_count_241 ki_0 rfl ?_
                                refine Ey.iaload (M := mX6_count) (pc2 := 243) dX6_count_242 sh_47 kn_0 (by decide) rfl ?_
                                exact Ey.ireturn (M := mX6_count) dX6_count_243 rfl rfl
                              · refine Ey.ite (fun hc1_15 => ?_) (fun hc1_15 => ?_)
                                · refine Ey.tcase (M := mX6_count) (c := 15) (off := 243) (tgt := 244) hc1_15 dX6_count_1 (by decide) (by decide) (by decide) rfl ?_
                                  refine Ex.aload_n (M := mX6_count) (pc2 := 245) dX6_count_244 rfl rfl rfl ?_
                                  refine Ex.getR (M := mX6_count) (pc2 := 248) dX6_count_245 xck6 lfX6_51 (Nat.le_of_ble_eq_true rfl) sh_0 rfl ff_0_5 rfl ?_
                                  refine Ex.getR (M := mX6_count) (pc2 := 251) dX6_count_248 xck5 lfX6_230 (Nat.le_of_ble_eq_true rfl) sh_45 rfl ff_45_5 rfl ?_
                                  refine Ex.iconst (M := mX6_count) (pc2 := 252) dX6_count_251 ki_1 rfl ?_
                                  refine Ey.iaload (M := mX6_count) (pc2 := 253) dX6_count_252 sh_47 kn_1 (by decide) rfl ?_
                                  exact Ey.ireturn (M := mX6_count) dX6_count_253 rfl rfl
                                · refine Ey.ite (fun hc1_16 => ?_) (fun hc1_16 => ?_)
                                  · refine Ey.tcase (M := mX6_count) (c := 16) (off := 253) (tgt := 254) hc1_16 dX6_count_1 (by decide) (by decide) (by decide) rfl ?_
                                    refine Ex.aload_n (M := mX6_count) (pc2 := 255) dX6_count_254 rfl rfl rfl ?_
                                    refine Ex.getR (M := mX6_count) (pc2 := 258) dX6_count_255 xck6 lfX6_51 (Nat.le_of_ble_eq_true rfl) sh_0 rfl ff_0_5 rfl ?_
                                    refine Ex.getR (M := mX6_count) (pc2 := 261) dX6_count_258 xck5 lfX6_104 (Nat.le_of_ble_eq_true rfl) sh_45 rfl ff_45_4 rfl ?_
                                    refine Ex.iconst (M := mX6_count) (pc2 := 262) dX6_count_261 ki_0 rfl ?_
                                    refine Ey.iaload (M := mX6_count) (pc2 := 263) dX6_count_262 sh_46 kn_0 (by decide) rfl ?_
                                    exact Ey.ireturn (M := mX6_count) dX6_count_263 rfl rfl
                                  · refine Ey.ite (fun hc1_17 => ?_) (fun hc1_17 => ?_)
                                    · refine Ey.tcase (M := mX6_count) (c := 17) (off := 263) (tgt := 264) hc1_17 dX6_count_1 (by decide) (by decide) (by decide) rfl ?_
                                      refine Ex.aload_n (M := mX6_count) (pc2 := 265) dX6_count_264 rfl rfl rfl ?_
                                      refine Ex.getR (M := mX6_count) (pc2 := 268) dX6_count_265 xck6 lfX6_51 (Nat.le_of_ble_eq_true rfl) sh_0 rfl ff_0_5 rfl ?_
                                      refine Ex.getR (M := mX6_count) (pc2 := 271) dX6_count_268 xck5 lfX6_104 (Nat.le_of_ble_eq_true rfl) sh_45 rfl ff_45_4 rfl ?_
                                      refine Ex.iconst (M := mX6_count) (pc2 := 272) dX6_count_271 ki_1 rfl ?_
                                      refine Ey.iaload (M := mX6_count) (pc2 := 273) dX6_count_272 sh_46 kn_1 (by decide) rfl ?_
                                      exact Ey.ireturn (M := mX6_count) dX6_count_273 rfl rfl
                                    · refine Ey.ite (fun hc1_18 => ?_) (fun hc1_18 => ?_)
                                      · refine Ey.tcase (M := mX6_count) (c := 18) (off := 273) (tgt := 274) hc1_18 dX6_count_1 (by decide) (by decide) (by decide) rfl ?_
                                        refine Ex.aload_n (M := mX6_count) (pc2 := 275) dX6_count_274 rfl rfl rfl ?_
                                        refine Ex.getR (M := mX6_count) (pc2 := 278) dX6_count_275 xck6 lfX6_44 (Nat.le_of_ble_eq_true rfl) sh_0 rfl ff_0_4 rfl ?_
                                        refine Ex.getI (M := mX6_count) (pc2 := 281) dX6_count_278 xck2 lfX6_233 (Nat.le_of_ble_eq_true rfl) sh_19 rfl rfl ?_
                                        exact Ey.ireturn (M := mX6_count) dX6_count_281 rfl rfl
                                      · refine Ey.ite (fun hc1_19 => ?_) (fun hc1_19 => ?_)
                                        · refine Ey.tcase (M := mX6_count) (c := 19) (off := 281) (tgt := 282) hc1_19 dX6_count_1 (by decide) (by decide) (by decide) rfl ?_
                                          refine Ex.aload_n (M := mX6_count) (pc2 := 283) dX6_count_282 rfl rfl rfl ?_
                                          refine Ex.getR (M := mX6_count) (pc2 := 286) dX6_count_283 xck6 lfX6_37 (Nat.le_of_ble_eq_true rfl) sh_0 rfl ff_0_3 rfl ?_
                                          refine Ex.getI (M := mX6_count) (pc2 := 289) dX6_count_286 xck0 lfX6_236 (Nat.le_of_ble_eq_true rfl) sh_13 rfl rfl ?_
                                          exact Ey.ireturn (M := mX6_count) dX6_count_289 rfl rfl
                                        · refine Ex.tableOut (M := mX6_count) (tgt := 290) dX6_count_1 (xOut (n := 20) (by decide) (fun j hj => match j, hj with | 0, _ => xNe hc1_0 (by decide) | 1, _ => xNe hc1_1 (by decide) | 2, _ => xNe hc1_2 (by decide) | 3, _ => xNe hc1_3 (by decide) | 4, _ => xNe hc1_4 (by decide) | 5, _ => xNe hc1_5 (by decide) | 6, _ => xNe hc1_6 (by decide) | 7, _ => xNe hc1_7 (by decide) | 8, _ => xNe hc1_8 (by decide) | 9, _ => xNe hc1_9 (by decide) | 10, _ => xNe hc1_10 (by decide) | 11, _ => xNe hc1_11 (by decide) | 12, _ => xNe hc1_12 (by decide) | 13, _ => xNe hc1_13 (by decide) | 14, _ => xNe hc1_14 (by decide) | 15, _ => xNe hc1_15 (by decide) | 16, _ => xNe hc1_16 (by decide) | 17, _ => xNe hc1_17 (by decide) | 18, _ => xNe hc1_18 (by decide) | 19, _ => xNe hc1_19 (by decide) | j + 20, hj => absurd hj (by omega))) rfl ?_
                                          refine Ex.bipush (M := mX6_count) (pc2 := 292) dX6_count_290 kb_m2 rfl ?_
                                          exact Ey.ireturn (M := mX6_count) dX6_count_292 rfl rfl
