/-! FenceDuel.isEdge(I)Z -/
def f_X6_isEdge (l0 : Int32) (I : xI) : Option (Int32 × xI) :=
  if l0 < 0 then some ((0 : Int32), I) else if l0 ≥ (82 : Int32) then some ((0 : Int32), I) else some ((1 : Int32), I)
theorem t_X6_isEdge (l0 : Int32) (I : xI) : Ey none mX6_isEdge 0 [some (.inl l0)] [] I (f_X6_isEdge l0 I) := by
  unfold f_X6_isEdge
  refine Ex.iload_n (M := mX6_isEdge) (pc2 := 1) dX6_isEdge_0 rfl rfl rfl ?_
  refine Ey.if_lt (M := mX6_isEdge) (tgt := 14) (pc2 := 4) dX6_isEdge_1 rfl (fun _ => ?_) rfl (fun _ => ?_)
  · refine Ex.iconst (M := mX6_isEdge) (pc2 := 15) dX6_isEdge_14 ki_0 rfl ?_
    exact Ey.ireturn (M := mX6_isEdge) dX6_isEdge_15 rfl (by decide)
  · refine Ex.iload_n (M := mX6_isEdge) (pc2 := 5) dX6_isEdge_4 rfl rfl rfl ?_
    refine Ex.bipush (M := mX6_isEdge) (pc2 := 7) dX6_isEdge_5 kb_82 rfl ?_
    refine Ey.icmp_ge (M := mX6_isEdge) (tgt := 14) (pc2 := 10) dX6_isEdge_7 rfl (fun _ => ?_) rfl (fun _ => ?_)
    · refine Ex.iconst (M := mX6_isEdge) (pc2 := 15) dX6_isEdge_14 ki_0 rfl ?_
      exact Ey.ireturn (M := mX6_isEdge) dX6_isEdge_15 rfl (by decide)
    · refine Ex.iconst (M := mX6_isEdge) (pc2 := 11) dX6_isEdge_10 ki_1 rfl ?_
      refine Ex.goto (M := mX6_isEdge) (tgt := 15) dX6_isEdge_11 rfl ?_
      exact Ey.ireturn (M := mX6_isEdge) dX6_isEdge_15 rfl (by decide)
/-! FenceDuel.isField(I)Z -/
def f_X6_isField (l0 : Int32) (I : xI) : Option (Int32 × xI) :=
  if l0 < 0 then some ((0 : Int32), I) else if l0 ≥ (48 : Int32) then some ((0 : Int32), I) else some ((1 : Int32), I)
theorem t_X6_isField (l0 : Int32) (I : xI) : Ey none mX6_isField 0 [some (.inl l0)] [] I (f_X6_isField l0 I) := by
  unfold f_X6_isField
  refine Ex.iload_n (M := mX6_isField) (pc2 := 1) dX6_isField_0 rfl rfl rfl ?_
  refine Ey.if_lt (M := mX6_isField) (tgt := 14) (pc2 := 4) dX6_isField_1 rfl (fun _ => ?_) rfl (fun _ => ?_)
  · refine Ex.iconst (M := mX6_isField) (pc2 := 15) dX6_isField_14 ki_0 rfl ?_
    exact Ey.ireturn (M := mX6_isField) dX6_isField_15 rfl (by decide)
  · refine Ex.iload_n (M := mX6_isField) (pc2 := 5) dX6_isField_4 rfl rfl rfl ?_
    refine Ex.bipush (M := mX6_isField) (pc2 := 7) dX6_isField_5 kb_48 rfl ?_
    refine Ey.icmp_ge (M := mX6_isField) (tgt := 14) (pc2 := 10) dX6_isField_7 rfl (fun _ => ?_) rfl (fun _ => ?_)
    · refine Ex.iconst (M := mX6_isField) (pc2 := 15) dX6_isField_14 ki_0 rfl ?_
      exact Ey.ireturn (M := mX6_isField) dX6_isField_15 rfl (by decide)
    · refine Ex.iconst (M := mX6_isField) (pc2 := 11) dX6_isField_10 ki_1 rfl ?_
      refine Ex.goto (M := mX6_isField) (tgt := 15) dX6_isField_11 rfl ?_
      exact Ey.ireturn (M := mX6_isField) dX6_isField_15 rfl (by decide)
/-! FenceDuel.fenceOf(I)I -/
def f_X6_fenceOf (l0 : Int32) (I : xI) : Option (Int32 × xI) :=
  some ((l0 + (1 : Int32)), I)
theorem t_X6_fenceOf (l0 : Int32) (I : xI) : Ey none mX6_fenceOf 0 [some (.inl l0)] [] I (f_X6_fenceOf l0 I) := by
  unfold f_X6_fenceOf
  refine Ex.iload_n (M := mX6_fenceOf) (pc2 := 1) dX6_fenceOf_0 rfl rfl rfl ?_
  refine Ex.iconst (M := mX6_fenceOf) (pc2 := 2) dX6_fenceOf_1 ki_1 rfl ?_
  refine Ex.iadd (M := mX6_fenceOf) (pc2 := 3) dX6_fenceOf_2 rfl ?_
  exact Ey.ireturn (M := mX6_fenceOf) dX6_fenceOf_3 rfl rfl
/-! FenceDuel.isPlayer(I)Z -/
def f_X6_isPlayer (l0 : Int32) (I : xI) : Option (Int32 × xI) :=
  if l0 < 0 then some ((0 : Int32), I) else if l0 ≥ (2 : Int32) then some ((0 : Int32), I) else some ((1 : Int32), I)
theorem t_X6_isPlayer (l0 : Int32) (I : xI) : Ey none mX6_isPlayer 0 [some (.inl l0)] [] I (f_X6_isPlayer l0 I) := by
  unfold f_X6_isPlayer
  refine Ex.iload_n (M := mX6_isPlayer) (pc2 := 1) dX6_isPlayer_0 rfl rfl rfl ?_
  refine Ey.if_lt (M := mX6_isPlayer) (tgt := 13) (pc2 := 4) dX6_isPlayer_1 rfl (fun _ => ?_) rfl (fun _ => ?_)
  · refine Ex.iconst (M := mX6_isPlayer) (pc2 := 14) dX6_isPlayer_13 ki_0 rfl ?_
    exact Ey.ireturn (M := mX6_isPlayer) dX6_isPlayer_14 rfl (by decide)
  · refine Ex.iload_n (M := mX6_isPlayer) (pc2 := 5) dX6_isPlayer_4 rfl rfl rfl ?_
    refine Ex.iconst (M := mX6_isPlayer) (pc2 := 6) dX6_isPlayer_5 ki_2 rfl ?_
    refine Ey.icmp_ge (M := mX6_isPlayer) (tgt := 13) (pc2 := 9) dX6_isPlayer_6 rfl (fun _ => ?_) rfl (fun _ => ?_)
    · refine Ex.iconst (M := mX6_isPlayer) (pc2 := 14) dX6_isPlayer_13 ki_0 rfl ?_
      exact Ey.ireturn (M := mX6_isPlayer) dX6_isPlayer_14 rfl (by decide)
    · refine Ex.iconst (M := mX6_isPlayer) (pc2 := 10) dX6_isPlayer_9 ki_1 rfl ?_
      refine Ex.goto (M := mX6_isPlayer) (tgt := 14) dX6_isPlayer_10 rfl ?_
      exact Ey.ireturn (M := mX6_isPlayer) dX6_isPlayer_14 rfl (by decide)
/-! FenceDuel$Game.append(C)I -/
def f_X0_append (l1 : Int32) (I : xI) : Option (Int32 × xI) :=
  if (I 13 1) < 0 then some ((-3 : Int32), I) else if (I 13 1) < (60 : Int32) then if xin (I 13 1) 60 then some (((xup (xup I 14 ((I 13 1).toNatClampNeg) (vp_nar .char l1)) 13 1 (((xup I 14 ((I 13 1).toNatClampNeg) (vp_nar .char l1)) 13 1) + (1 : Int32))) 13 1), (xup (xup I 14 ((I 13 1).toNatClampNeg) (vp_nar .char l1)) 13 1 (((xup I 14 ((I 13 1).toNatClampNeg) (vp_nar .char l1)) 13 1) + (1 : Int32)))) else none else some ((-3 : Int32), I)
theorem t_X0_append (l1 : Int32) (I : xI) : Ey none mX0_append 0 [some (.inr (some 13)), some (.inl l1)] [] I (f_X0_append l1 I) := by
  unfold f_X0_append
  refine Ex.aload_n (M := mX0_append) (pc2 := 1) dX0_append_0 rfl rfl rfl ?_
  refine Ex.getI (M := mX0_append) (pc2 := 4) dX0_append_1 xck0 lfX0_28 (Nat.le_of_ble_eq_true rfl) sh_13 rfl rfl ?_
  refine Ey.if_lt (M := mX0_append) (tgt := 16) (pc2 := 7) dX0_append_4 rfl (fun _ => ?_) rfl (fun _ => ?_)
  · refine Ex.bipush (M := mX0_append) (pc2 := 18) dX0_append_16 kb_m3 rfl ?_
    exact Ey.ireturn (M := mX0_append) dX0_append_18 rfl rfl
  · refine Ex.aload_n (M := mX0_append) (pc2 := 8) dX0_append_7 rfl rfl rfl ?_
    refine Ex.getI (M := mX0_append) (pc2 := 11) dX0_append_8 xck0 lfX0_28 (Nat.le_of_ble_eq_true rfl) sh_13 rfl rfl ?_
    refine Ex.bipush (M := mX0_append) (pc2 := 13) dX0_append_11 kb_60 rfl ?_
    refine Ey.icmp_lt (M := mX0_append) (tgt := 19) (pc2 := 16) dX0_append_13 rfl (fun _ => ?_) rfl (fun _ => ?_)
    · refine Ex.aload_n (M := mX0_append) (pc2 := 20) dX0_append_19 rfl rfl rfl ?_
      refine Ex.getR (M := mX0_append) (pc2 := 23) dX0_append_20 xck0 lfX0_9 (Nat.le_of_ble_eq_true rfl) sh_13 rfl ff_13_0 rfl ?_
      refine Ex.aload_n (M := mX0_append) (pc2 := 24) dX0_append_23 rfl rfl rfl ?_
      refine Ex.getI (M := mX0_append) (pc2 := 27) dX0_append_24 xck0 lfX0_28 (Nat.le_of_ble_eq_true rfl) sh_13 rfl rfl ?_
      refine Ex.iload_n (M := mX0_append) (pc2 := 28) dX0_append_27 rfl rfl rfl ?_
      refine Ey.guard (fun hz1 => ?_)
      refine Ey.castore (M := mX0_append) (pc2 := 29) dX0_append_28 sh_14 rfl hz1 rfl ?_
      refine Ex.aload_n (M := mX0_append) (pc2 := 30) dX0_append_29 rfl rfl rfl ?_
      refine Ex.dup (M := mX0_append) (pc2 := 31) dX0_append_30 rfl ?_
      refine Ex.getI (M := mX0_append) (pc2 := 34) dX0_append_31 xck0 lfX0_28 (Nat.le_of_ble_eq_true rfl) sh_13 rfl rfl ?_
      refine Ex.iconst (M := mX0_append) (pc2 := 35) dX0_append_34 ki_1 rfl ?_
      refine Ex.iadd (M := mX0_append) (pc2 := 36) dX0_append_35 rfl ?_
      refine Ex.putI (M := mX0_append) (pc2 := 39) dX0_append_36 xck0 lfX0_28 (Nat.le_of_ble_eq_true rfl) sh_13 rfl rfl ⟨rfl, rfl⟩ rfl ?_
      refine Ex.aload_n (M := mX0_append) (pc2 := 40) dX0_append_39 rfl rfl rfl ?_
      refine Ex.getI (M := mX0_append) (pc2 := 43) dX0_append_40 xck0 lfX0_28 (Nat.le_of_ble_eq_true rfl) sh_13 rfl rfl ?_
      exact Ey.ireturn (M := mX0_append) dX0_append_43 rfl rfl
    · refine Ex.bipush (M := mX0_append) (pc2 := 18) dX0_append_16 kb_m3 rfl ?_
      exact Ey.ireturn (M := mX0_append) dX0_append_18 rfl rfl
/-! FenceDuel$Game.empty()I -/
def f_X0_empty (I : xI) : Option (Int32 × xI) :=
  some ((I 13 1), (xup I 13 1 (0 : Int32)))
theorem t_X0_empty (I : xI) : Ey none mX0_empty 0 [some (.inr (some 13)), none] [] I (f_X0_empty I) := by
  unfold f_X0_empty
  refine Ex.aload_n (M := mX0_empty) (pc2 := 1) dX0_empty_0 rfl rfl rfl ?_
  refine Ex.getI (M := mX0_empty) (pc2 := 4) dX0_empty_1 xck0 lfX0_28 (Nat.le_of_ble_eq_true rfl) sh_13 rfl rfl ?_
  refine Ey.istore_n (M := mX0_empty) (pc2 := 5) dX0_empty_4 rfl (Nat.le_of_ble_eq_true rfl) rfl rfl ?_
  refine Ex.aload_n (M := mX0_empty) (pc2 := 6) dX0_empty_5 rfl rfl rfl ?_
  refine Ex.iconst (M := mX0_empty) (pc2 := 7) dX0_empty_6 ki_0 rfl ?_
  refine Ex.putI (M := mX0_empty) (pc2 := 10) dX0_empty_7 xck0 lfX0_28 (Nat.le_of_ble_eq_true rfl) sh_13 rfl rfl ⟨rfl, rfl⟩ rfl ?_
  refine Ex.iload_n (M := mX0_empty) (pc2 := 11) dX0_empty_10 rfl rfl rfl ?_
  exact Ey.ireturn (M := mX0_empty) dX0_empty_11 rfl rfl
/-! FenceDuel$Game.part([II)I -/
def f_X0_part (a1 : Nat) (l2 : Int32) (I : xI) : Option (Int32 × xI) :=
  if l2 < 0 then some ((-5 : Int32), I) else if l2 ≥ (60 : Int32) then some ((-5 : Int32), I) else if xin l2 60 then some ((I a1 l2.toNatClampNeg), I) else none
theorem t_X0_part (a1 : Nat) (h1 : xGr a1) (l2 : Int32) (I : xI) : Ey none mX0_part 0 [some (.inr (some 13)), some (.inr (some a1)), some (.inl l2)] [] I (f_X0_part a1 l2 I) := by
  unfold f_X0_part
  refine Ex.iload_n (M := mX0_part) (pc2 := 1) dX0_part_0 rfl rfl rfl ?_
  refine Ey.if_lt (M := mX0_part) (tgt := 16) (pc2 := 4) dX0_part_1 rfl (fun _ => ?_) rfl (fun _ => ?_)
  · refine Ex.bipush (M := mX0_part) (pc2 := 18) dX0_part_16 kb_m5 rfl ?_
    exact Ey.ireturn (M := mX0_part) dX0_part_18 rfl rfl
  · refine Ex.iload_n (M := mX0_part) (pc2 := 5) dX0_part_4 rfl rfl rfl ?_
    refine Ex.aload_n (M := mX0_part) (pc2 := 6) dX0_part_5 rfl rfl rfl ?_
    refine Ex.alenI (M := mX0_part) (pc2 := 7) dX0_part_6 h1 (x := 60) (by decide) rfl ?_
    refine Ey.icmp_ge (M := mX0_part) (tgt := 16) (pc2 := 10) dX0_part_7 rfl (fun _ => ?_) rfl (fun _ => ?_)
    · refine Ex.bipush (M := mX0_part) (pc2 := 18) dX0_part_16 kb_m5 rfl ?_
      exact Ey.ireturn (M := mX0_part) dX0_part_18 rfl rfl
    · refine Ex.aload_n (M := mX0_part) (pc2 := 11) dX0_part_10 rfl rfl rfl ?_
      refine Ex.iload_n (M := mX0_part) (pc2 := 12) dX0_part_11 rfl rfl rfl ?_
      refine Ey.guard (fun hz1 => ?_)
      refine Ey.iaload (M := mX0_part) (pc2 := 13) dX0_part_12 h1 rfl hz1 rfl ?_
      refine Ex.goto (M := mX0_part) (tgt := 18) dX0_part_13 rfl ?_
      exact Ey.ireturn (M := mX0_part) dX0_part_18 rfl rfl
/-! FenceDuel$Game.putPart([III)V -/
def f_X0_putPart (a1 : Nat) (l2 : Int32) (l3 : Int32) (I : xI) : Option (Int32 × xI) :=
  if l2 < 0 then some (0, I) else if l2 ≥ (60 : Int32) then some (0, I) else if xin l2 60 then some (0, (xup I a1 l2.toNatClampNeg l3)) else none
theorem t_X0_putPart (a1 : Nat) (h1 : xGr a1) (l2 : Int32) (l3 : Int32) (I : xI) : Ey none mX0_putPart 0 [some (.inr (some 13)), some (.inr (some a1)), some (.inl l2), some (.inl l3)] [] I (f_X0_putPart a1 l2 l3 I) := by
  unfold f_X0_putPart
  refine Ex.iload_n (M := mX0_putPart) (pc2 := 1) dX0_putPart_0 rfl rfl rfl ?_
  refine Ey.if_lt (M := mX0_putPart) (tgt := 14) (pc2 := 4) dX0_putPart_1 rfl (fun _ => ?_) rfl (fun _ => ?_)
  · exact Ey.ret (M := mX0_putPart) dX0_putPart_14 rfl
  · refine Ex.iload_n (M := mX0_putPart) (pc2 := 5) dX0_putPart_4 rfl rfl rfl ?_
    refine Ex.aload_n (M := mX0_putPart) (pc2 := 6) dX0_putPart_5 rfl rfl rfl ?_
    refine Ex.alenI (M := mX0_putPart) (pc2 := 7) dX0_putPart_6 h1 (x := 60) (by decide) rfl ?_
    refine Ey.icmp_ge (M := mX0_putPart) (tgt := 14) (pc2 := 10) dX0_putPart_7 rfl (fun _ => ?_) rfl (fun _ => ?_)
    · exact Ey.ret (M := mX0_putPart) dX0_putPart_14 rfl
    · refine Ex.aload_n (M := mX0_putPart) (pc2 := 11) dX0_putPart_10 rfl rfl rfl ?_
      refine Ex.iload_n (M := mX0_putPart) (pc2 := 12) dX0_putPart_11 rfl rfl rfl ?_
      refine Ex.iload_n (M := mX0_putPart) (pc2 := 13) dX0_putPart_12 rfl rfl rfl ?_
      refine Ey.guard (fun hz1 => ?_)
      refine Ey.iastore (M := mX0_putPart) (pc2 := 14) dX0_putPart_13 h1 rfl hz1 rfl ?_
      exact Ey.ret (M := mX0_putPart) dX0_putPart_14 rfl
/-! FenceDuel$Game.look()I -/
def f_X0_look (I : xI) : Option (Int32 × xI) :=
  if (I 13 2) < 0 then some ((-5 : Int32), I) else if (I 13 2) ≥ (I 13 1) then some ((-5 : Int32), I) else if (I 13 2) ≥ (60 : Int32) then some ((-5 : Int32), I) else if xin (I 13 2) 60 then some ((I 14 ((I 13 2).toNatClampNeg)), I) else none
theorem t_X0_look (I : xI) : Ey none mX0_look 0 [some (.inr (some 13))] [] I (f_X0_look I) := by
  unfold f_X0_look
  refine Ex.aload_n (M := mX0_look) (pc2 := 1) dX0_look_0 rfl rfl rfl ?_
  refine Ex.getI (M := mX0_look) (pc2 := 4) dX0_look_1 xck0 lfX0_32 (Nat.le_of_ble_eq_true rfl) sh_13 rfl rfl ?_
  refine Ey.if_lt (M := mX0_look) (tgt := 39) (pc2 := 7) dX0_look_4 rfl (fun _ => ?_) rfl (fun _ => ?_)
  · refine Ex.bipush (M := mX0_look) (pc2 := 41) dX0_look_39 kb_m5 rfl ?_
    exact Ey.ireturn (M := mX0_look) dX0_look_41 rfl rfl
  · refine Ex.aload_n (M := mX0_look) (pc2 := 8) dX0_look_7 rfl rfl rfl ?_
    refine Ex.getI (M := mX0_look) (pc2 := 11) dX0_look_8 xck0 lfX0_32 (Nat.le_of_ble_eq_true rfl) sh_13 rfl rfl ?_
    refine Ex.aload_n (M := mX0_look) (pc2 := 12) dX0_look_11 rfl rfl rfl ?_
    refine Ex.getI (M := mX0_look) (pc2 := 15) dX0_look_12 xck0 lfX0_28 (Nat.le_of_ble_eq_true rfl) sh_13 rfl rfl ?_
    refine Ey.icmp_ge (M := mX0_look) (tgt := 39) (pc2 := 18) dX0_look_15 rfl (fun _ => ?_) rfl (fun _ => ?_)
    · refine Ex.bipush (M := mX0_look) (pc2 := 41) dX0_look_39 kb_m5 rfl ?_
      exact Ey.ireturn (M := mX0_look) dX0_look_41 rfl rfl
    · refine Ex.aload_n (M := mX0_look) (pc2 := 19) dX0_look_18 rfl rfl rfl ?_
      refine Ex.getI (M := mX0_look) (pc2 := 22) dX0_look_19 xck0 lfX0_32 (Nat.le_of_ble_eq_true rfl) sh_13 rfl rfl ?_
      refine Ex.bipush (M := mX0_look) (pc2 := 24) dX0_look_22 kb_60 rfl ?_
      refine Ey.icmp_ge (M := mX0_look) (tgt := 39) (pc2 := 27) dX0_look_24 rfl (fun _ => ?_) rfl (fun _ => ?_)
      · refine Ex.bipush (M := mX0_look) (pc2 := 41) dX0_look_39 kb_m5 rfl ?_
        exact Ey.ireturn (M := mX0_look) dX0_look_41 rfl rfl
      · refine Ex.aload_n (M := mX0_look) (pc2 := 28) dX0_look_27 rfl rfl rfl ?_
        refine Ex.getR (M := mX0_look) (pc2 := 31) dX0_look_28 xck0 lfX0_9 (Nat.le_of_ble_eq_true rfl) sh_13 rfl ff_13_0 rfl ?_
        refine Ex.aload_n (M := mX0_look) (pc2 := 32) dX0_look_31 rfl rfl rfl ?_
        refine Ex.getI (M := mX0_look) (pc2 := 35) dX0_look_32 xck0 lfX0_32 (Nat.le_of_ble_eq_true rfl) sh_13 rfl rfl ?_
        refine Ey.guard (fun hz1 => ?_)
        refine Ey.caload (M := mX0_look) (pc2 := 36) dX0_look_35 sh_14 rfl hz1 rfl ?_
        refine Ex.goto (M := mX0_look) (tgt := 41) dX0_look_36 rfl ?_
        exact Ey.ireturn (M := mX0_look) dX0_look_41 rfl rfl
/-! FenceDuel$Game.digitOf(I)I -/
def f_X0_digitOf (l0 : Int32) (I : xI) : Option (Int32 × xI) :=
  if l0 < (48 : Int32) then some ((-5 : Int32), I) else if l0 > (57 : Int32) then some ((-5 : Int32), I) else some ((l0 - (48 : Int32)), I)
theorem t_X0_digitOf (l0 : Int32) (I : xI) : Ey none mX0_digitOf 0 [some (.inl l0)] [] I (f_X0_digitOf l0 I) := by
  unfold f_X0_digitOf
  refine Ex.iload_n (M := mX0_digitOf) (pc2 := 1) dX0_digitOf_0 rfl rfl rfl ?_
  refine Ex.bipush (M := mX0_digitOf) (pc2 := 3) dX0_digitOf_1 kb_48 rfl ?_
  refine Ey.icmp_lt (M := mX0_digitOf) (tgt := 19) (pc2 := 6) dX0_digitOf_3 rfl (fun _ => ?_) rfl (fun _ => ?_)
  · refine Ex.bipush (M := mX0_digitOf) (pc2 := 21) dX0_digitOf_19 kb_m5 rfl ?_
    exact Ey.ireturn (M := mX0_digitOf) dX0_digitOf_21 rfl rfl
  · refine Ex.iload_n (M := mX0_digitOf) (pc2 := 7) dX0_digitOf_6 rfl rfl rfl ?_
    refine Ex.bipush (M := mX0_digitOf) (pc2 := 9) dX0_digitOf_7 kb_57 rfl ?_
    refine Ey.icmp_gt (M := mX0_digitOf) (tgt := 19) (pc2 := 12) dX0_digitOf_9 rfl (fun _ => ?_) rfl (fun _ => ?_)
    · refine Ex.bipush (M := mX0_digitOf) (pc2 := 21) dX0_digitOf_19 kb_m5 rfl ?_
      exact Ey.ireturn (M := mX0_digitOf) dX0_digitOf_21 rfl rfl
    · refine Ex.iload_n (M := mX0_digitOf) (pc2 := 13) dX0_digitOf_12 rfl rfl rfl ?_
      refine Ex.bipush (M := mX0_digitOf) (pc2 := 15) dX0_digitOf_13 kb_48 rfl ?_
      refine Ex.isub (M := mX0_digitOf) (pc2 := 16) dX0_digitOf_15 rfl ?_
      refine Ex.goto (M := mX0_digitOf) (tgt := 21) dX0_digitOf_16 rfl ?_
      exact Ey.ireturn (M := mX0_digitOf) dX0_digitOf_21 rfl rfl
/-! FenceDuel$Game.readNumber(III)Z -/
def f_X0_readNumber (l1 : Int32) (l2 : Int32) (l3 : Int32) (I : xI) : Option (Int32 × xI) :=
  xb (f_X0_look I) (fun r1 I1 => xb (f_X0_digitOf r1 I1) (fun r2 I2 => if r2 ≥ l2 then xb (f_X0_look (xup I2 13 2 ((I2 13 2) + (1 : Int32)))) (fun r3 I3 => xb (f_X0_digitOf r3 I3) (fun r4 I4 => if r2 ≤ 0 then xb (f_X0_putPart 17 l1 r2 I4) (fun _ I5 => some ((1 : Int32), I5)) else if r4 < 0 then xb (f_X0_putPart 17 l1 r2 I4) (fun _ I6 => some ((1 : Int32), I6)) else if ((r2 * (10 : Int32)) + r4) > l3 then xb (f_X0_putPart 17 l1 r2 I4) (fun _ I7 => some ((1 : Int32), I7)) else xb (f_X0_putPart 17 l1 ((r2 * (10 : Int32)) + r4) (xup I4 13 2 ((I4 13 2) + (1 : Int32)))) (fun _ I8 => some ((1 : Int32), I8)))) else some ((0 : Int32), I2)))
theorem t_X0_readNumber (l1 : Int32) (l2 : Int32) (l3 : Int32) (I : xI) : Ey none mX0_readNumber 0 [some (.inr (some 13)), some (.inl l1), some (.inl l2), some (.inl l3), none, none] [] I (f_X0_readNumber l1 l2 l3 I) := by
  unfold f_X0_readNumber
  refine Ex.aload_n (M := mX0_readNumber) (pc2 := 1) dX0_readNumber_0 rfl rfl rfl ?_
  refine Ey.callVi (M := mX0_readNumber) (pc2 := 4) (as := []) (rest := []) rfl dX0_readNumber_1 isX0_look lcX0_42 sh_13 rfl rfl ⟨(Nat.le_of_ble_eq_true rfl), (Nat.le_of_ble_eq_true rfl)⟩ rfl (Nat.le_of_ble_eq_true rfl) (Nat.le_of_ble_eq_true rfl) (t_X0_look I) rfl (fun r1 I1 => ?_)
  refine Ey.callSi (M := mX0_readNumber) (pc2 := 7) (as := [.inl r1]) (rest := []) rfl dX0_readNumber_4 isX0_digitOf lcX0_64  rfl ⟨(Nat.le_of_ble_eq_true rfl), (Nat.le_of_ble_eq_true rfl)⟩ rfl (Nat.le_of_ble_eq_true rfl) (Nat.le_of_ble_eq_true rfl) (t_X0_digitOf r1 I1) rfl (fun r2 I2 => ?_)
  refine Ey.istore (M := mX0_readNumber) (pc2 := 9) dX0_readNumber_7 (Nat.le_of_ble_eq_true rfl) rfl rfl ?_
  refine Ex.iload (M := mX0_readNumber) (pc2 := 11) dX0_readNumber_9 rfl rfl ?_
  refine Ex.iload_n (M := mX0_readNumber) (pc2 := 12) dX0_readNumber_11 rfl rfl rfl ?_
  refine Ey.icmp_ge (M := mX0_readNumber) (tgt := 17) (pc2 := 15) dX0_readNumber_12 rfl (fun _ => ?_) rfl (fun _ => ?_)
  · refine Ex.aload_n (M := mX0_readNumber) (pc2 := 18) dX0_readNumber_17 rfl rfl rfl ?_
    refine Ex.dup (M := mX0_readNumber) (pc2 := 19) dX0_readNumber_18 rfl ?_
    refine Ex.getI (M := mX0_readNumber) (pc2 := 22) dX0_readNumber_19 xck0 lfX0_32 (Nat.le_of_ble_eq_true rfl) sh_13 rfl rfl ?_
    refine Ex.iconst (M := mX0_readNumber) (pc2 := 23) dX0_readNumber_22 ki_1 rfl ?_
    refine Ex.iadd (M := mX0_readNumber) (pc2 := 24) dX0_readNumber_23 rfl ?_
    refine Ex.putI (M := mX0_readNumber) (pc2 := 27) dX0_readNumber_24 xck0 lfX0_32 (Nat.le_of_ble_eq_true rfl) sh_13 rfl rfl ⟨rfl, rfl⟩ rfl ?_
    refine Ex.aload_n (M := mX0_readNumber) (pc2 := 28) dX0_readNumber_27 rfl rfl rfl ?_
    refine Ey.callVi (M := mX0_readNumber) (pc2 := 31) (as := []) (rest := []) rfl dX0_readNumber_28 isX0_look lcX0_42 sh_13 rfl rfl ⟨(Nat.le_of_ble_eq_true rfl), (Nat.le_of_ble_eq_true rfl)⟩ rfl (Nat.le_of_ble_eq_true rfl) (Nat.le_of_ble_eq_true rfl) (t_X0_look (xup I2 13 2 ((I2 13 2) + (1 : Int32)))) rfl (fun r3 I3 => ?_)
    refine Ey.callSi (M := mX0_readNumber) (pc2 := 34) (as := [.inl r3]) (rest := []) rfl dX0_readNumber_31 isX0_digitOf lcX0_64  rfl ⟨(Nat.le_of_ble_eq_true rfl), (Nat.le_of_ble_eq_true rfl)⟩ rfl (Nat.le_of_ble_eq_true rfl) (Nat.le_of_ble_eq_true rfl) (t_X0_digitOf r3 I3) rfl (fun r4 I4 => ?_)
    refine Ey.istore (M := mX0_readNumber) (pc2 := 36) dX0_readNumber_34 (Nat.le_of_ble_eq_true rfl) rfl rfl ?_
    refine Ex.iload (M := mX0_readNumber) (pc2 := 38) dX0_readNumber_36 rfl rfl ?_
    refine Ey.if_le (M := mX0_readNumber) (tgt := 78) (pc2 := 41) dX0_readNumber_38 rfl (fun _ => ?_) rfl (fun _ => ?_)
    · refine Ex.aload_n (M := mX0_readNumber) (pc2 := 79) dX0_readNumber_78 rfl rfl rfl ?_
      refine Ex.aload_n (M := mX0_readNumber) (pc2 := 80) dX0_readNumber_79 rfl rfl rfl ?_
      refine Ex.getR (M := mX0_readNumber) (pc2 := 83) dX0_readNumber_80 xck0 lfX0_22 (Nat.le_of_ble_eq_true rfl) sh_13 rfl ff_13_6 rfl ?_
      refine Ex.iload_n (M := mX0_readNumber) (pc2 := 84) dX0_readNumber_83 rfl rfl rfl ?_
      refine Ex.iload (M := mX0_readNumber) (pc2 := 86) dX0_readNumber_84 rfl rfl ?_
      refine Ey.callVv (M := mX0_readNumber) (pc2 := 89) (as := [.inr (some 17), .inl l1, .inl r2]) (rest := []) rfl dX0_readNumber_86 isX0_putPart lcX0_46 sh_13 rfl rfl ⟨(Nat.le_of_ble_eq_true rfl), (Nat.le_of_ble_eq_true rfl)⟩ rfl (Nat.le_of_ble_eq_true rfl) (Nat.le_of_ble_eq_true rfl) (t_X0_putPart 17 xgr_17 l1 r2 I4) rfl (fun I5 => ?_)
      refine Ex.iconst (M := mX0_readNumber) (pc2 := 90) dX0_readNumber_89 ki_1 rfl ?_
      exact Ey.ireturn (M := mX0_readNumber) dX0_readNumber_90 rfl (by decide)
    · refine Ex.iload (M := mX0_readNumber) (pc2 := 43) dX0_readNumber_41 rfl rfl ?_
      refine Ey.if_lt (M := mX0_readNumber) (tgt := 78) (pc2 := 46) dX0_readNumber_43 rfl (fun _ => ?_) rfl (fun _ => ?_)
      · refine Ex.aload_n (M := mX0_readNumber) (pc2 := 79) dX0_readNumber_78 rfl rfl rfl ?_
        refine Ex.aload_n (M := mX0_readNumber) (pc2 := 80) dX0_readNumber_79 rfl rfl rfl ?_
        refine Ex.getR (M := mX0_readNumber) (pc2 := 83) dX0_readNumber_80 xck0 lfX0_22 (Nat.le_of_ble_eq_true rfl) sh_13 rfl ff_13_6 rfl ?_
        refine Ex.iload_n (M := mX0_readNumber) (pc2 := 84) dX0_readNumber_83 rfl rfl rfl ?_
        refine Ex.iload (M := mX0_readNumber) (pc2 := 86) dX0_readNumber_84 rfl rfl ?_
        refine Ey.callVv (M := mX0_readNumber) (pc2 := 89) (as := [.inr (some 17), .inl l1, .inl r2]) (rest := []) rfl dX0_readNumber_86 isX0_putPart lcX0_46 sh_13 rfl rfl ⟨(Nat.le_of_ble_eq_true rfl), (Nat.le_of_ble_eq_true rfl)⟩ rfl (Nat.le_of_ble_eq_true rfl) (Nat.le_of_ble_eq_true rfl) (t_X0_putPart 17 xgr_17 l1 r2 I4) rfl (fun I6 => ?_)
        refine Ex.iconst (M := mX0_readNumber) (pc2 := 90) dX0_readNumber_89 ki_1 rfl ?_
        exact Ey.ireturn (M := mX0_readNumber) dX0_readNumber_90 rfl (by decide)
      · refine Ex.iload (M := mX0_readNumber) (pc2 := 48) dX0_readNumber_46 rfl rfl ?_
        refine Ex.bipush (M := mX0_readNumber) (pc2 := 50) dX0_readNumber_48 kb_10 rfl ?_
        refine Ex.imul (M := mX0_readNumber) (pc2 := 51) dX0_readNumber_50 rfl ?_
        refine Ex.iload (M := mX0_readNumber) (pc2 := 53) dX0_readNumber_51 rfl rfl ?_
        refine Ex.iadd (M := mX0_readNumber) (pc2 := 54) dX0_readNumber_53 rfl ?_
        refine Ex.iload_n (M := mX0_readNumber) (pc2 := 55) dX0_readNumber_54 rfl rfl rfl ?_
        refine Ey.icmp_gt (M := mX0_readNumber) (tgt := 78) (pc2 := 58) dX0_readNumber_55 rfl (fun _ => ?_) rfl (fun _ => ?_)
        · refine Ex.aload_n (M := mX0_readNumber) (pc2 := 79) dX0_readNumber_78 rfl rfl rfl ?_
          refine Ex.aload_n (M := mX0_readNumber) (pc2 := 80) dX0_readNumber_79 rfl rfl rfl ?_
          refine Ex.getR (M := mX0_readNumber) (pc2 := 83) dX0_readNumber_80 xck0 lfX0_22 (Nat.le_of_ble_eq_true rfl) sh_13 rfl ff_13_6 rfl ?_
          refine Ex.iload_n (M := mX0_readNumber) (pc2 := 84) dX0_readNumber_83 rfl rfl rfl ?_
          refine Ex.iload (M := mX0_readNumber) (pc2 := 86) dX0_readNumber_84 rfl rfl ?_
          refine Ey.callVv (M := mX0_readNumber) (pc2 := 89) (as := [.inr (some 17), .inl l1, .inl r2]) (rest := []) rfl dX0_readNumber_86 isX0_putPart lcX0_46 sh_13 rfl rfl ⟨(Nat.le_of_ble_eq_true rfl), (Nat.le_of_ble_eq_true rfl)⟩ rfl (Nat.le_of_ble_eq_true rfl) (Nat.le_of_ble_eq_true rfl) (t_X0_putPart 17 xgr_17 l1 r2 I4) rfl (fun I7 => ?_)
          refine Ex.iconst (M := mX0_readNumber) (pc2 := 90) dX0_readNumber_89 ki_1 rfl ?_
          exact Ey.ireturn (M := mX0_readNumber) dX0_readNumber_90 rfl (by decide)
        · refine Ex.aload_n (M := mX0_readNumber) (pc2 := 59) dX0_readNumber_58 rfl rfl rfl ?_
          refine Ex.dup (M := mX0_readNumber) (pc2 := 60) dX0_readNumber_59 rfl ?_
          refine Ex.getI (M := mX0_readNumber) (pc2 := 63) dX0_readNumber_60 xck0 lfX0_32 (Nat.le_of_ble_eq_true rfl) sh_13 rfl rfl ?_
          refine Ex.iconst (M := mX0_readNumber) (pc2 := 64) dX0_readNumber_63 ki_1 rfl ?_
          refine Ex.iadd (M := mX0_readNumber) (pc2 := 65) dX0_readNumber_64 rfl ?_
          refine Ex.putI (M := mX0_readNumber) (pc2 := 68) dX0_readNumber_65 xck0 lfX0_32 (Nat.le_of_ble_eq_true rfl) sh_13 rfl rfl ⟨rfl, rfl⟩ rfl ?_
          refine Ex.iload (M := mX0_readNumber) (pc2 := 70) dX0_readNumber_68 rfl rfl ?_
          refine Ex.bipush (M := mX0_readNumber) (pc2 := 72) dX0_readNumber_70 kb_10 rfl ?_
          refine Ex.imul (M := mX0_readNumber) (pc2 := 73) dX0_readNumber_72 rfl ?_
          refine Ex.iload (M := mX0_readNumber) (pc2 := 75) dX0_readNumber_73 rfl rfl ?_
          refine Ex.iadd (M := mX0_readNumber) (pc2 := 76) dX0_readNumber_75 rfl ?_
          refine Ey.istore (M := mX0_readNumber) (pc2 := 78) dX0_readNumber_76 (Nat.le_of_ble_eq_true rfl) rfl rfl ?_
          refine Ex.aload_n (M := mX0_readNumber) (pc2 := 79) dX0_readNumber_78 rfl rfl rfl ?_
          refine Ex.aload_n (M := mX0_readNumber) (pc2 := 80) dX0_readNumber_79 rfl rfl rfl ?_
          refine Ex.getR (M := mX0_readNumber) (pc2 := 83) dX0_readNumber_80 xck0 lfX0_22 (Nat.le_of_ble_eq_true rfl) sh_13 rfl ff_13_6 rfl ?_
          refine Ex.iload_n (M := mX0_readNumber) (pc2 := 84) dX0_readNumber_83 rfl rfl rfl ?_
          refine Ex.iload (M := mX0_readNumber) (pc2 := 86) dX0_readNumber_84 rfl rfl ?_
          refine Ey.callVv (M := mX0_readNumber) (pc2 := 89) (as := [.inr (some 17), .inl l1, .inl ((r2 * (10 : Int32)) + r4)]) (rest := []) rfl dX0_readNumber_86 isX0_putPart lcX0_46 sh_13 rfl rfl ⟨(Nat.le_of_ble_eq_true rfl), (Nat.le_of_ble_eq_true rfl)⟩ rfl (Nat.le_of_ble_eq_true rfl) (Nat.le_of_ble_eq_true rfl) (t_X0_putPart 17 xgr_17 l1 ((r2 * (10 : Int32)) + r4) (xup I4 13 2 ((I4 13 2) + (1 : Int32)))) rfl (fun I8 => ?_)
          refine Ex.iconst (M := mX0_readNumber) (pc2 := 90) dX0_readNumber_89 ki_1 rfl ?_
          exact Ey.ireturn (M := mX0_readNumber) dX0_readNumber_90 rfl (by decide)
  · refine Ex.iconst (M := mX0_readNumber) (pc2 := 16) dX0_readNumber_15 ki_0 rfl ?_
    exact Ey.ireturn (M := mX0_readNumber) dX0_readNumber_16 rfl (by decide)
/-! FenceDuel$Game.kindOf(I)I -/
def f_X0_kindOf (l0 : Int32) (I : xI) : Option (Int32 × xI) :=
  if l0 = 99 then some ((2 : Int32), I) else if l0 = 102 then some ((0 : Int32), I) else if l0 = 103 then some ((1 : Int32), I) else if l0 = 116 then some ((3 : Int32), I) else some ((-5 : Int32), I)
theorem t_X0_kindOf (l0 : Int32) (I : xI) : Ey none mX0_kindOf 0 [some (.inl l0)] [] I (f_X0_kindOf l0 I) := by
  unfold f_X0_kindOf
  refine Ex.iload_n (M := mX0_kindOf) (pc2 := 1) dX0_kindOf_0 rfl rfl rfl ?_
  refine Ey.ite (fun hc1_0 => ?_) (fun hc1_0 => ?_)
  · refine Ey.lcase (M := mX0_kindOf) (c := 99) (off := 47) (tgt := 48) hc1_0 dX0_kindOf_1 (by decide) (by decide) rfl ?_
    refine Ex.iconst (M := mX0_kindOf) (pc2 := 49) dX0_kindOf_48 ki_2 rfl ?_
    exact Ey.ireturn (M := mX0_kindOf) dX0_kindOf_49 rfl rfl
  · refine Ey.ite (fun hc1_1 => ?_) (fun hc1_1 => ?_)
    · refine Ey.lcase (M := mX0_kindOf) (c := 102) (off := 43) (tgt := 44) hc1_1 dX0_kindOf_1 (by decide) (by decide) rfl ?_
      refine Ex.iconst (M := mX0_kindOf) (pc2 := 45) dX0_kindOf_44 ki_0 rfl ?_
      exact Ey.ireturn (M := mX0_kindOf) dX0_kindOf_45 rfl rfl
    · refine Ey.ite (fun hc1_2 => ?_) (fun hc1_2 => ?_)
      · refine Ey.lcase (M := mX0_kindOf) (c := 103) (off := 45) (tgt := 46) hc1_2 dX0_kindOf_1 (by decide) (by decide) rfl ?_
        refine Ex.iconst (M := mX0_kindOf) (pc2 := 47) dX0_kindOf_46 ki_1 rfl ?_
        exact Ey.ireturn (M := mX0_kindOf) dX0_kindOf_47 rfl rfl
      · refine Ey.ite (fun hc1_3 => ?_) (fun hc1_3 => ?_)
        · refine Ey.lcase (M := mX0_kindOf) (c := 116) (off := 49) (tgt := 50) hc1_3 dX0_kindOf_1 (by decide) (by decide) rfl ?_
          refine Ex.iconst (M := mX0_kindOf) (pc2 := 51) dX0_kindOf_50 ki_3 rfl ?_
          exact Ey.ireturn (M := mX0_kindOf) dX0_kindOf_51 rfl rfl
        · refine Ex.lookup (M := mX0_kindOf) (off := 51) (tgt := 52) dX0_kindOf_1 (by decide) ((lv_osw hc1_0 (by decide)).trans ((lv_osw hc1_1 (by decide)).trans ((lv_osw hc1_2 (by decide)).trans ((lv_osw hc1_3 (by decide)).trans rfl)))) rfl ?_
          refine Ex.bipush (M := mX0_kindOf) (pc2 := 54) dX0_kindOf_52 kb_m5 rfl ?_
          exact Ey.ireturn (M := mX0_kindOf) dX0_kindOf_54 rfl rfl
/-! FenceDuel$Game.sideOf(I)I -/
def f_X0_sideOf (l0 : Int32) (I : xI) : Option (Int32 × xI) :=
  if l0 = 101 then some ((1 : Int32), I) else if l0 = 110 then some ((0 : Int32), I) else if l0 = 115 then some ((2 : Int32), I) else if l0 = 119 then some ((3 : Int32), I) else some ((-5 : Int32), I)
theorem t_X0_sideOf (l0 : Int32) (I : xI) : Ey none mX0_sideOf 0 [some (.inl l0)] [] I (f_X0_sideOf l0 I) := by
  unfold f_X0_sideOf
  refine Ex.iload_n (M := mX0_sideOf) (pc2 := 1) dX0_sideOf_0 rfl rfl rfl ?_
  refine Ey.ite (fun hc1_0 => ?_) (fun hc1_0 => ?_)
  · refine Ey.lcase (M := mX0_sideOf) (c := 101) (off := 45) (tgt := 46) hc1_0 dX0_sideOf_1 (by decide) (by decide) rfl ?_
    refine Ex.iconst (M := mX0_sideOf) (pc2 := 47) dX0_sideOf_46 ki_1 rfl ?_
    exact Ey.ireturn (M := mX0_sideOf) dX0_sideOf_47 rfl rfl
  · refine Ey.ite (fun hc1_1 => ?_) (fun hc1_1 => ?_)
    · refine Ey.lcase (M := mX0_sideOf) (c := 110) (off := 43) (tgt := 44) hc1_1 dX0_sideOf_1 (by decide) (by decide) rfl ?_
      refine Ex.iconst (M := mX0_sideOf) (pc2 := 45) dX0_sideOf_44 ki_0 rfl ?_
      exact Ey.ireturn (M := mX0_sideOf) dX0_sideOf_45 rfl rfl
    · refine Ey.ite (fun hc1_2 => ?_) (fun hc1_2 => ?_)
      · refine Ey.lcase (M := mX0_sideOf) (c := 115) (off := 47) (tgt := 48) hc1_2 dX0_sideOf_1 (by decide) (by decide) rfl ?_
        refine Ex.iconst (M := mX0_sideOf) (pc2 := 49) dX0_sideOf_48 ki_2 rfl ?_
        exact Ey.ireturn (M := mX0_sideOf) dX0_sideOf_49 rfl rfl
      · refine Ey.ite (fun hc1_3 => ?_) (fun hc1_3 => ?_)
        · refine Ey.lcase (M := mX0_sideOf) (c := 119) (off := 49) (tgt := 50) hc1_3 dX0_sideOf_1 (by decide) (by decide) rfl ?_
          refine Ex.iconst (M := mX0_sideOf) (pc2 := 51) dX0_sideOf_50 ki_3 rfl ?_
          exact Ey.ireturn (M := mX0_sideOf) dX0_sideOf_51 rfl rfl
        · refine Ex.lookup (M := mX0_sideOf) (off := 51) (tgt := 52) dX0_sideOf_1 (by decide) ((lv_osw hc1_0 (by decide)).trans ((lv_osw hc1_1 (by decide)).trans ((lv_osw hc1_2 (by decide)).trans ((lv_osw hc1_3 (by decide)).trans rfl)))) rfl ?_
          refine Ex.bipush (M := mX0_sideOf) (pc2 := 54) dX0_sideOf_52 kb_m5 rfl ?_
          exact Ey.ireturn (M := mX0_sideOf) dX0_sideOf_54 rfl rfl
/-! FenceDuel$Game.readSide(I)Z -/
def f_X0_readSide (l1 : Int32) (I : xI) : Option (Int32 × xI) :=
  xb (f_X0_look I) (fun r1 I1 => xb (f_X0_sideOf r1 I1) (fun r2 I2 => if r2 ≠ (-5 : Int32) then xb (f_X0_putPart 18 l1 r2 (xup I2 13 2 ((I2 13 2) + (1 : Int32)))) (fun _ I3 => some ((1 : Int32), I3)) else some ((0 : Int32), I2)))
theorem t_X0_readSide (l1 : Int32) (I : xI) : Ey none mX0_readSide 0 [some (.inr (some 13)), some (.inl l1), none] [] I (f_X0_readSide l1 I) := by
  unfold f_X0_readSide
  refine Ex.aload_n (M := mX0_readSide) (pc2 := 1) dX0_readSide_0 rfl rfl rfl ?_
  refine Ey.callVi (M := mX0_readSide) (pc2 := 4) (as := []) (rest := []) rfl dX0_readSide_1 isX0_look lcX0_42 sh_13 rfl rfl ⟨(Nat.le_of_ble_eq_true rfl), (Nat.le_of_ble_eq_true rfl)⟩ rfl (Nat.le_of_ble_eq_true rfl) (Nat.le_of_ble_eq_true rfl) (t_X0_look I) rfl (fun r1 I1 => ?_)
  refine Ey.callSi (M := mX0_readSide) (pc2 := 7) (as := [.inl r1]) (rest := []) rfl dX0_readSide_4 isX0_sideOf lcX0_67  rfl ⟨(Nat.le_of_ble_eq_true rfl), (Nat.le_of_ble_eq_true rfl)⟩ rfl (Nat.le_of_ble_eq_true rfl) (Nat.le_of_ble_eq_true rfl) (t_X0_sideOf r1 I1) rfl (fun r2 I2 => ?_)
  refine Ey.istore_n (M := mX0_readSide) (pc2 := 8) dX0_readSide_7 rfl (Nat.le_of_ble_eq_true rfl) rfl rfl ?_
  refine Ex.iload_n (M := mX0_readSide) (pc2 := 9) dX0_readSide_8 rfl rfl rfl ?_
  refine Ex.bipush (M := mX0_readSide) (pc2 := 11) dX0_readSide_9 kb_m5 rfl ?_
  refine Ey.icmp_ne (M := mX0_readSide) (tgt := 16) (pc2 := 14) dX0_readSide_11 rfl (fun _ => ?_) rfl (fun _ => ?_)
  · refine Ex.aload_n (M := mX0_readSide) (pc2 := 17) dX0_readSide_16 rfl rfl rfl ?_
    refine Ex.dup (M := mX0_readSide) (pc2 := 18) dX0_readSide_17 rfl ?_
    refine Ex.getI (M := mX0_readSide) (pc2 := 21) dX0_readSide_18 xck0 lfX0_32 (Nat.le_of_ble_eq_true rfl) sh_13 rfl rfl ?_
    refine Ex.iconst (M := mX0_readSide) (pc2 := 22) dX0_readSide_21 ki_1 rfl ?_
    refine Ex.iadd (M := mX0_readSide) (pc2 := 23) dX0_readSide_22 rfl ?_
    refine Ex.putI (M := mX0_readSide) (pc2 := 26) dX0_readSide_23 xck0 lfX0_32 (Nat.le_of_ble_eq_true rfl) sh_13 rfl rfl ⟨rfl, rfl⟩ rfl ?_
    refine Ex.aload_n (M := mX0_readSide) (pc2 := 27) dX0_readSide_26 rfl rfl rfl ?_
    refine Ex.aload_n (M := mX0_readSide) (pc2 := 28) dX0_readSide_27 rfl rfl rfl ?_
    refine Ex.getR (M := mX0_readSide) (pc2 := 31) dX0_readSide_28 xck0 lfX0_25 (Nat.le_of_ble_eq_true rfl) sh_13 rfl ff_13_7 rfl ?_
    refine Ex.iload_n (M := mX0_readSide) (pc2 := 32) dX0_readSide_31 rfl rfl rfl ?_
    refine Ex.iload_n (M := mX0_readSide) (pc2 := 33) dX0_readSide_32 rfl rfl rfl ?_
    refine Ey.callVv (M := mX0_readSide) (pc2 := 36) (as := [.inr (some 18), .inl l1, .inl r2]) (rest := []) rfl dX0_readSide_33 isX0_putPart lcX0_46 sh_13 rfl rfl ⟨(Nat.le_of_ble_eq_true rfl), (Nat.le_of_ble_eq_true rfl)⟩ rfl (Nat.le_of_ble_eq_true rfl) (Nat.le_of_ble_eq_true rfl) (t_X0_putPart 18 xgr_18 l1 r2 (xup I2 13 2 ((I2 13 2) + (1 : Int32)))) rfl (fun I3 => ?_)
    refine Ex.iconst (M := mX0_readSide) (pc2 := 37) dX0_readSide_36 ki_1 rfl ?_
    exact Ey.ireturn (M := mX0_readSide) dX0_readSide_37 rfl (by decide)
  · refine Ex.iconst (M := mX0_readSide) (pc2 := 15) dX0_readSide_14 ki_0 rfl ?_
    exact Ey.ireturn (M := mX0_readSide) dX0_readSide_15 rfl (by decide)
/-! FenceDuel$Game.readLetter(I)Z -/
def f_X0_readLetter (l1 : Int32) (I : xI) : Option (Int32 × xI) :=
  xb (f_X0_look I) (fun r1 I1 => xb (f_X0_kindOf r1 I1) (fun r2 I2 => if r2 ≠ (-5 : Int32) then xb (f_X0_putPart 15 l1 r2 (xup I2 13 2 ((I2 13 2) + (1 : Int32)))) (fun _ I3 => if r2 = 2 then xb (f_X0_readNumber l1 (0 : Int32) (47 : Int32) I3) (fun r5 I5 => if r5 = 0 ∨ r5 = 1 then some (r5, I5) else none) else if r2 = 3 then xb (f_X0_readNumber l1 (1 : Int32) (99 : Int32) I3) (fun r7 I7 => if r7 = 0 ∨ r7 = 1 then some (r7, I7) else none) else xb (f_X0_readNumber l1 (0 : Int32) (47 : Int32) I3) (fun r9 I9 => if r9 = 0 then some ((0 : Int32), I9) else xb (f_X0_readSide l1 I9) (fun r10 I10 => if r10 = 0 then some ((0 : Int32), I10) else some ((1 : Int32), I10)))) else some ((0 : Int32), I2)))
theorem t_X0_readLetter (l1 : Int32) (I : xI) : Ey none mX0_readLetter 0 [some (.inr (some 13)), some (.inl l1), none] [] I (f_X0_readLetter l1 I) := by
  unfold f_X0_readLetter
  refine Ex.aload_n (M := mX0_readLetter) (pc2 := 1) dX0_readLetter_0 rfl rfl rfl ?_
  refine Ey.callVi (M := mX0_readLetter) (pc2 := 4) (as := []) (rest := []) rfl dX0_readLetter_1 isX0_look lcX0_42 sh_13 rfl rfl ⟨(Nat.le_of_ble_eq_true rfl), (Nat.le_of_ble_eq_true rfl)⟩ rfl (Nat.le_of_ble_eq_true rfl) (Nat.le_of_ble_eq_true rfl) (t_X0_look I) rfl (fun r1 I1 => ?_)
  refine Ey.callSi (M := mX0_readLetter) (pc2 := 7) (as := [.inl r1]) (rest := []) rfl dX0_readLetter_4 isX0_kindOf lcX0_57  rfl ⟨(Nat.le_of_ble_eq_true rfl), (Nat.le_of_ble_eq_true rfl)⟩ rfl (Nat.le_of_ble_eq_true rfl) (Nat.le_of_ble_eq_true rfl) (t_X0_kindOf r1 I1) rfl (fun r2 I2 => ?_)
  refine Ey.istore_n (M := mX0_readLetter) (pc2 := 8) dX0_readLetter_7 rfl (Nat.le_of_ble_eq_true rfl) rfl rfl ?_
  refine Ex.iload_n (M := mX0_readLetter) (pc2 := 9) dX0_readLetter_8 rfl rfl rfl ?_
  refine Ex.bipush (M := mX0_readLetter) (pc2 := 11) dX0_readLetter_9 kb_m5 rfl ?_
  refine Ey.icmp_ne (M := mX0_readLetter) (tgt := 16) (pc2 := 14) dX0_readLetter_11 rfl (fun _ => ?_) rfl (fun _ => ?_)
  · refine Ex.aload_n (M := mX0_readLetter) (pc2 := 17) dX0_readLetter_16 rfl rfl rfl ?_
    refine Ex.dup (M := mX0_readLetter) (pc2 := 18) dX0_readLetter_17 rfl ?_
    refine Ex.getI (M := mX0_readLetter) (pc2 := 21) dX0_readLetter_18 xck0 lfX0_32 (Nat.le_of_ble_eq_true rfl) sh_13 rfl rfl ?_
    refine Ex.iconst (M := mX0_readLetter) (pc2 := 22) dX0_readLetter_21 ki_1 rfl ?_
    refine Ex.iadd (M := mX0_readLetter) (pc2 := 23) dX0_readLetter_22 rfl ?_
    refine Ex.putI (M := mX0_readLetter) (pc2 := 26) dX0_readLetter_23 xck0 lfX0_32 (Nat.le_of_ble_eq_true rfl) sh_13 rfl rfl ⟨rfl, rfl⟩ rfl ?_
    refine Ex.aload_n (M := mX0_readLetter) (pc2 := 27) dX0_readLetter_26 rfl rfl rfl ?_
    refine Ex.aload_n (M := mX0_readLetter) (pc2 := 28) dX0_readLetter_27 rfl rfl rfl ?_
    refine Ex.getR (M := mX0_readLetter) (pc2 := 31) dX0_readLetter_28 xck0 lfX0_15 (Nat.le_of_ble_eq_true rfl) sh_13 rfl ff_13_4 rfl ?_
    refine Ex.iload_n (M := mX0_readLetter) (pc2 := 32) dX0_readLetter_31 rfl rfl rfl ?_
    refine Ex.iload_n (M := mX0_readLetter) (pc2 := 33) dX0_readLetter_32 rfl rfl rfl ?_
    refine Ey.callVv (M := mX0_readLetter) (pc2 := 36) (as := [.inr (some 15), .inl l1, .inl r2]) (rest := []) rfl dX0_readLetter_33 isX0_putPart lcX0_46 sh_13 rfl rfl ⟨(Nat.le_of_ble_eq_true rfl), (Nat.le_of_ble_eq_true rfl)⟩ rfl (Nat.le_of_ble_eq_true rfl) (Nat.le_of_ble_eq_true rfl) (t_X0_putPart 15 xgr_15 l1 r2 (xup I2 13 2 ((I2 13 2) + (1 : Int32)))) rfl (fun I3 => ?_)
    refine Ex.iload_n (M := mX0_readLetter) (pc2 := 37) dX0_readLetter_36 rfl rfl rfl ?_
    refine Ey.ite (fun hc4_0 => ?_) (fun hc4_0 => ?_)
    · refine Ey.lcase (M := mX0_readLetter) (c := 2) (off := 27) (tgt := 64) hc4_0 dX0_readLetter_37 (by decide) (by decide) rfl ?_
      refine Ex.aload_n (M := mX0_readLetter) (pc2 := 65) dX0_readLetter_64 rfl rfl rfl ?_
      refine Ex.iload_n (M := mX0_readLetter) (pc2 := 66) dX0_readLetter_65 rfl rfl rfl ?_
      refine Ex.iconst (M := mX0_readLetter) (pc2 := 67) dX0_readLetter_66 ki_0 rfl ?_
      refine Ex.bipush (M := mX0_readLetter) (pc2 := 69) dX0_readLetter_67 kb_47 rfl ?_
      refine Ey.callVi (M := mX0_readLetter) (pc2 := 72) (as := [.inl l1, .inl (0 : Int32), .inl (47 : Int32)]) (rest := []) rfl dX0_readLetter_69 isX0_readNumber lcX0_50 sh_13 rfl rfl ⟨(Nat.le_of_ble_eq_true rfl), (Nat.le_of_ble_eq_true rfl)⟩ rfl (Nat.le_of_ble_eq_true rfl) (Nat.le_of_ble_eq_true rfl) (t_X0_readNumber l1 (0 : Int32) (47 : Int32) I3) rfl (fun r5 I5 => ?_)
      refine Ey.guard (fun hz6 => ?_)
      exact Ey.ireturn (M := mX0_readLetter) dX0_readLetter_72 rfl (xbool hz6).1
    · refine Ey.ite (fun hc4_1 => ?_) (fun hc4_1 => ?_)
      · refine Ey.lcase (M := mX0_readLetter) (c := 3) (off := 36) (tgt := 73) hc4_1 dX0_readLetter_37 (by decide) (by decide) rfl ?_
        refine Ex.aload_n (M := mX0_readLetter) (pc2 := 74) dX0_readLetter_73 rfl rfl rfl ?_
        refine Ex.iload_n (M := mX0_readLetter) (pc2 := 75) dX0_readLetter_74 rfl rfl rfl ?_
        refine Ex.iconst (M := mX0_readLetter) (pc2 := 76) dX0_readLetter_75 ki_1 rfl ?_
        refine Ex.bipush (M := mX0_readLetter) (pc2 := 78) dX0_readLetter_76 kb_99 rfl ?_
        refine Ey.callVi (M := mX0_readLetter) (pc2 := 81) (as := [.inl l1, .inl (1 : Int32), .inl (99 : Int32)]) (rest := []) rfl dX0_readLetter_78 isX0_readNumber lcX0_50 sh_13 rfl rfl ⟨(Nat.le_of_ble_eq_true rfl), (Nat.le_of_ble_eq_true rfl)⟩ rfl (Nat.le_of_ble_eq_true rfl) (Nat.le_of_ble_eq_true rfl) (t_X0_readNumber l1 (1 : Int32) (99 : Int32) I3) rfl (fun r7 I7 => ?_)
        refine Ey.guard (fun hz8 => ?_)
        exact Ey.ireturn (M := mX0_readLetter) dX0_readLetter_81 rfl (xbool hz8).1
      · refine Ex.lookup (M := mX0_readLetter) (off := 45) (tgt := 82) dX0_readLetter_37 (by decide) ((lv_osw hc4_0 (by decide)).trans ((lv_osw hc4_1 (by decide)).trans rfl)) rfl ?_
        refine Ex.aload_n (M := mX0_readLetter) (pc2 := 83) dX0_readLetter_82 rfl rfl rfl ?_
        refine Ex.iload_n (M := mX0_readLetter) (pc2 := 84) dX0_readLetter_83 rfl rfl rfl ?_
        refine Ex.iconst (M := mX0_readLetter) (pc2 := 85) dX0_readLetter_84 ki_0 rfl ?_
        refine Ex.bipush (M := mX0_readLetter) (pc2 := 87) dX0_readLetter_85 kb_47 rfl ?_
        refine Ey.callVi (M := mX0_readLetter) (pc2 := 90) (as := [.inl l1, .inl (0 : Int32), .inl (47 : Int32)]) (rest := []) rfl dX0_readLetter_87 isX0_readNumber lcX0_50 sh_13 rfl rfl ⟨(Nat.le_of_ble_eq_true rfl), (Nat.le_of_ble_eq_true rfl)⟩ rfl (Nat.le_of_ble_eq_true rfl) (Nat.le_of_ble_eq_true rfl) (t_X0_readNumber l1 (0 : Int32) (47 : Int32) I3) rfl (fun r9 I9 => ?_)
        refine Ey.if_eq (M := mX0_readLetter) (tgt := 105) (pc2 := 93) dX0_readLetter_90 rfl (fun _ => ?_) rfl (fun _ => ?_)
        · refine Ex.iconst (M := mX0_readLetter) (pc2 := 106) dX0_readLetter_105 ki_0 rfl ?_
          exact Ey.ireturn (M := mX0_readLetter) dX0_readLetter_106 rfl (by decide)
        · refine Ex.aload_n (M := mX0_readLetter) (pc2 := 94) dX0_readLetter_93 rfl rfl rfl ?_
          refine Ex.iload_n (M := mX0_readLetter) (pc2 := 95) dX0_readLetter_94 rfl rfl rfl ?_
          refine Ey.callVi (M := mX0_readLetter) (pc2 := 98) (as := [.inl l1]) (rest := []) rfl dX0_readLetter_95 isX0_readSide lcX0_61 sh_13 rfl rfl ⟨(Nat.le_of_ble_eq_true rfl), (Nat.le_of_ble_eq_true rfl)⟩ rfl (Nat.le_of_ble_eq_true rfl) (Nat.le_of_ble_eq_true rfl) (t_X0_readSide l1 I9) rfl (fun r10 I10 => ?_)
          refine Ey.if_eq (M := mX0_readLetter) (tgt := 105) (pc2 := 101) dX0_readLetter_98 rfl (fun _ => ?_) rfl (fun _ => ?_)
          · refine Ex.iconst (M := mX0_readLetter) (pc2 := 106) dX0_readLetter_105 ki_0 rfl ?_
            exact Ey.ireturn (M := mX0_readLetter) dX0_readLetter_106 rfl (by decide)
          · refine Ex.iconst (M := mX0_readLetter) (pc2 := 102) dX0_readLetter_101 ki_1 rfl ?_
            refine Ex.goto (M := mX0_readLetter) (tgt := 106) dX0_readLetter_102 rfl ?_
            exact Ey.ireturn (M := mX0_readLetter) dX0_readLetter_106 rfl (by decide)
  · refine Ex.iconst (M := mX0_readLetter) (pc2 := 15) dX0_readLetter_14 ki_0 rfl ?_
    exact Ey.ireturn (M := mX0_readLetter) dX0_readLetter_15 rfl (by decide)
/-! FenceDuel$Game.readThing(I)Z -/
def f_X0_readThing_54 (l1 : Int32) (l2 : Int32) (I : xI) : Option (Int32 × xI) :=
  xb (f_X0_putPart 16 l1 (l2 - (48 : Int32)) (xup I 13 2 ((I 13 2) + (1 : Int32)))) (fun _ I1 => xb (f_X0_readLetter l1 I1) (fun r2 I2 => if r2 = 0 ∨ r2 = 1 then some (r2, I2) else none))
theorem t_X0_readThing_54 (l1 : Int32) (l2 : Int32) (I : xI) : Ey none mX0_readThing 54 [some (.inr (some 13)), some (.inl l1), some (.inl l2)] [] I (f_X0_readThing_54 l1 l2 I) := by
  unfold f_X0_readThing_54
  refine Ex.aload_n (M := mX0_readThing) (pc2 := 55) dX0_readThing_54 rfl rfl rfl ?_
  refine Ex.dup (M := mX0_readThing) (pc2 := 56) dX0_readThing_55 rfl ?_
  refine Ex.getI (M := mX0_readThing) (pc2 := 59) dX0_readThing_56 xck0 lfX0_32 (Nat.le_of_ble_eq_true rfl) sh_13 rfl rfl ?_
  refine Ex.iconst (M := mX0_readThing) (pc2 := 60) dX0_readThing_59 ki_1 rfl ?_
  refine Ex.iadd (M := mX0_readThing) (pc2 := 61) dX0_readThing_60 rfl ?_
  refine Ex.putI (M := mX0_readThing) (pc2 := 64) dX0_readThing_61 xck0 lfX0_32 (Nat.le_of_ble_eq_true rfl) sh_13 rfl rfl ⟨rfl, rfl⟩ rfl ?_
  refine Ex.aload_n (M := mX0_readThing) (pc2 := 65) dX0_readThing_64 rfl rfl rfl ?_
  refine Ex.aload_n (M := mX0_readThing) (pc2 := 66) dX0_readThing_65 rfl rfl rfl ?_
  refine Ex.getR (M := mX0_readThing) (pc2 := 69) dX0_readThing_66 xck0 lfX0_19 (Nat.le_of_ble_eq_true rfl) sh_13 rfl ff_13_5 rfl ?_
  refine Ex.iload_n (M := mX0_readThing) (pc2 := 70) dX0_readThing_69 rfl rfl rfl ?_
  refine Ex.iload_n (M := mX0_readThing) (pc2 := 71) dX0_readThing_70 rfl rfl rfl ?_
  refine Ex.bipush (M := mX0_readThing) (pc2 := 73) dX0_readThing_71 kb_48 rfl ?_
  refine Ex.isub (M := mX0_readThing) (pc2 := 74) dX0_readThing_73 rfl ?_
  refine Ey.callVv (M := mX0_readThing) (pc2 := 77) (as := [.inr (some 16), .inl l1, .inl (l2 - (48 : Int32))]) (rest := []) rfl dX0_readThing_74 isX0_putPart lcX0_46 sh_13 rfl rfl ⟨(Nat.le_of_ble_eq_true rfl), (Nat.le_of_ble_eq_true rfl)⟩ rfl (Nat.le_of_ble_eq_true rfl) (Nat.le_of_ble_eq_true rfl) (t_X0_putPart 16 xgr_16 l1 (l2 - (48 : Int32)) (xup I 13 2 ((I 13 2) + (1 : Int32)))) rfl (fun I1 => ?_)
  refine Ex.aload_n (M := mX0_readThing) (pc2 := 78) dX0_readThing_77 rfl rfl rfl ?_
  refine Ex.iload_n (M := mX0_readThing) (pc2 := 79) dX0_readThing_78 rfl rfl rfl ?_
  refine Ey.callVi (M := mX0_readThing) (pc2 := 82) (as := [.inl l1]) (rest := []) rfl dX0_readThing_79 isX0_readLetter lcX0_54 sh_13 rfl rfl ⟨(Nat.le_of_ble_eq_true rfl), (Nat.le_of_ble_eq_true rfl)⟩ rfl (Nat.le_of_ble_eq_true rfl) (Nat.le_of_ble_eq_true rfl) (t_X0_readLetter l1 I1) rfl (fun r2 I2 => ?_)
  refine Ey.guard (fun hz3 => ?_)
  exact Ey.ireturn (M := mX0_readThing) dX0_readThing_82 rfl (xbool hz3).1
def f_X0_readThing (l1 : Int32) (I : xI) : Option (Int32 × xI) :=
  xb (f_X0_look I) (fun r4 I4 => if r4 ≠ (46 : Int32) then if r4 = (48 : Int32) then f_X0_readThing_54 l1 r4 I4 else if r4 = (49 : Int32) then f_X0_readThing_54 l1 r4 I4 else some ((0 : Int32), I4) else xb (f_X0_putPart 15 l1 (4 : Int32) (xup I4 13 2 ((I4 13 2) + (1 : Int32)))) (fun _ I5 => xb (f_X0_readNumber l1 (1 : Int32) (99 : Int32) I5) (fun r6 I6 => if r6 = 0 ∨ r6 = 1 then some (r6, I6) else none)))
theorem t_X0_readThing (l1 : Int32) (I : xI) : Ey none mX0_readThing 0 [some (.inr (some 13)), some (.inl l1), none] [] I (f_X0_readThing l1 I) := by
  unfold f_X0_readThing
  refine Ex.aload_n (M := mX0_readThing) (pc2 := 1) dX0_readThing_0 rfl rfl rfl ?_
  refine Ey.callVi (M := mX0_readThing) (pc2 := 4) (as := []) (rest := []) rfl dX0_readThing_1 isX0_look lcX0_42 sh_13 rfl rfl ⟨(Nat.le_of_ble_eq_true rfl), (Nat.le_of_ble_eq_true rfl)⟩ rfl (Nat.le_of_ble_eq_true rfl) (Nat.le_of_ble_eq_true rfl) (t_X0_look I) rfl (fun r4 I4 => ?_)
  refine Ey.istore_n (M := mX0_readThing) (pc2 := 5) dX0_readThing_4 rfl (Nat.le_of_ble_eq_true rfl) rfl rfl ?_
  refine Ex.iload_n (M := mX0_readThing) (pc2 := 6) dX0_readThing_5 rfl rfl rfl ?_
  refine Ex.bipush (M := mX0_readThing) (pc2 := 8) dX0_readThing_6 kb_46 rfl ?_
  refine Ey.icmp_ne (M := mX0_readThing) (tgt := 40) (pc2 := 11) dX0_readThing_8 rfl (fun _ => ?_) rfl (fun _ => ?_)
  · refine Ex.iload_n (M := mX0_readThing) (pc2 := 41) dX0_readThing_40 rfl rfl rfl ?_
    refine Ex.bipush (M := mX0_readThing) (pc2 := 43) dX0_readThing_41 kb_48 rfl ?_
    refine Ey.icmp_eq (M := mX0_readThing) (tgt := 54) (pc2 := 46) dX0_readThing_43 rfl (fun _ => ?_) rfl (fun _ => ?_)
    · exact t_X0_readThing_54 _ _ _
    · refine Ex.iload_n (M := mX0_readThing) (pc2 := 47) dX0_readThing_46 rfl rfl rfl ?_
      refine Ex.bipush (M := mX0_readThing) (pc2 := 49) dX0_readThing_47 kb_49 rfl ?_
      refine Ey.icmp_eq (M := mX0_readThing) (tgt := 54) (pc2 := 52) dX0_readThing_49 rfl (fun _ => ?_) rfl (fun _ => ?_)
      · exact t_X0_readThing_54 _ _ _
      · refine Ex.iconst (M := mX0_readThing) (pc2 := 53) dX0_readThing_52 ki_0 rfl ?_
        exact Ey.ireturn (M := mX0_readThing) dX0_readThing_53 rfl (by decide)
  · refine Ex.aload_n (M := mX0_readThing) (pc2 := 12) dX0_readThing_11 rfl rfl rfl ?_
    refine Ex.dup (M := mX0_readThing) (pc2 := 13) dX0_readThing_12 rfl ?_
    refine Ex.getI (M := mX0_readThing) (pc2 := 16) dX0_readThing_13 xck0 lfX0_32 (Nat.le_of_ble_eq_true rfl) sh_13 rfl rfl ?_
    refine Ex.iconst (M := mX0_readThing) (pc2 := 17) dX0_readThing_16 ki_1 rfl ?_
    refine Ex.iadd (M := mX0_readThing) (pc2 := 18) dX0_readThing_17 rfl ?_
    refine Ex.putI (M := mX0_readThing) (pc2 := 21) dX0_readThing_18 xck0 lfX0_32 (Nat.le_of_ble_eq_true rfl) sh_13 rfl rfl ⟨rfl, rfl⟩ rfl ?_
    refine Ex.aload_n (M := mX0_readThing) (pc2 := 22) dX0_readThing_21 rfl rfl rfl ?_
    refine Ex.aload_n (M := mX0_readThing) (pc2 := 23) dX0_readThing_22 rfl rfl rfl ?_
    refine Ex.getR (M := mX0_readThing) (pc2 := 26) dX0_readThing_23 xck0 lfX0_15 (Nat.le_of_ble_eq_true rfl) sh_13 rfl ff_13_4 rfl ?_
    refine Ex.iload_n (M := mX0_readThing) (pc2 := 27) dX0_readThing_26 rfl rfl rfl ?_
    refine Ex.iconst (M := mX0_readThing) (pc2 := 28) dX0_readThing_27 ki_4 rfl ?_
    refine Ey.callVv (M := mX0_readThing) (pc2 := 31) (as := [.inr (some 15), .inl l1, .inl (4 : Int32)]) (rest := []) rfl dX0_readThing_28 isX0_putPart lcX0_46 sh_13 rfl rfl ⟨(Nat.le_of_ble_eq_true rfl), (Nat.le_of_ble_eq_true rfl)⟩ rfl (Nat.le_of_ble_eq_true rfl) (Nat.le_of_ble_eq_true rfl) (t_X0_putPart 15 xgr_15 l1 (4 : Int32) (xup I4 13 2 ((I4 13 2) + (1 : Int32)))) rfl (fun I5 => ?_)
    refine Ex.aload_n (M := mX0_readThing) (pc2 := 32) dX0_readThing_31 rfl rfl rfl ?_
    refine Ex.iload_n (M := mX0_readThing) (pc2 := 33) dX0_readThing_32 rfl rfl rfl ?_
    refine Ex.iconst (M := mX0_readThing) (pc2 := 34) dX0_readThing_33 ki_1 rfl ?_
    refine Ex.bipush (M := mX0_readThing) (pc2 := 36) dX0_readThing_34 kb_99 rfl ?_
    refine Ey.callVi (M := mX0_readThing) (pc2 := 39) (as := [.inl l1, .inl (1 : Int32), .inl (99 : Int32)]) (rest := []) rfl dX0_readThing_36 isX0_readNumber lcX0_50 sh_13 rfl rfl ⟨(Nat.le_of_ble_eq_true rfl), (Nat.le_of_ble_eq_true rfl)⟩ rfl (Nat.le_of_ble_eq_true rfl) (Nat.le_of_ble_eq_true rfl) (t_X0_readNumber l1 (1 : Int32) (99 : Int32) I5) rfl (fun r6 I6 => ?_)
    refine Ey.guard (fun hz7 => ?_)
    exact Ey.ireturn (M := mX0_readThing) dX0_readThing_39 rfl (xbool hz7).1
/-! FenceDuel$Game.findFault()I -/
def f_X0_findFault_12b (k12 : Int32 → xI → Option (Int32 × xI)) (l1 : Int32) (I : xI) : Option (Int32 × xI) :=
  if l1 ≥ (60 : Int32) then some ((I 13 2), I) else xb (f_X0_readThing l1 I) (fun r1 I1 => if r1 ≠ 0 then if ((xup I1 13 3 ((I1 13 3) + (1 : Int32))) 13 2) ≠ ((xup I1 13 3 ((I1 13 3) + (1 : Int32))) 13 1) then xb (f_X0_look (xup I1 13 3 ((I1 13 3) + (1 : Int32)))) (fun r2 I2 => if r2 = (59 : Int32) then k12 (l1 + 1) (xup I2 13 2 ((I2 13 2) + (1 : Int32))) else some ((I2 13 2), I2)) else some ((-5 : Int32), (xup I1 13 3 ((I1 13 3) + (1 : Int32)))) else some ((I1 13 2), I1))
theorem t_X0_findFault_12b (k12 : Int32 → xI → Option (Int32 × xI)) (hk12 : ∀ (l1 : Int32) (I : xI), Ey none mX0_findFault 12 [some (.inr (some 13)), some (.inl l1)] [] I (k12 l1 I)) (l1 : Int32) (I : xI) : Ey none mX0_findFault 12 [some (.inr (some 13)), some (.inl l1)] [] I (f_X0_findFault_12b k12 l1 I) := by
  unfold f_X0_findFault_12b
  refine Ex.iload_n (M := mX0_findFault) (pc2 := 13) dX0_findFault_12 rfl rfl rfl ?_
  refine Ex.bipush (M := mX0_findFault) (pc2 := 15) dX0_findFault_13 kb_60 rfl ?_
  refine Ey.icmp_ge (M := mX0_findFault) (tgt := 85) (pc2 := 18) dX0_findFault_15 rfl (fun _ => ?_) rfl (fun _ => ?_)
  · refine Ex.aload_n (M := mX0_findFault) (pc2 := 86) dX0_findFault_85 rfl rfl rfl ?_
    refine Ex.getI (M := mX0_findFault) (pc2 := 89) dX0_findFault_86 xck0 lfX0_32 (Nat.le_of_ble_eq_true rfl) sh_13 rfl rfl ?_
    exact Ey.ireturn (M := mX0_findFault) dX0_findFault_89 rfl rfl
  · refine Ex.aload_n (M := mX0_findFault) (pc2 := 19) dX0_findFault_18 rfl rfl rfl ?_
    refine Ex.iload_n (M := mX0_findFault) (pc2 := 20) dX0_findFault_19 rfl rfl rfl ?_
    refine Ey.callVi (M := mX0_findFault) (pc2 := 23) (as := [.inl l1]) (rest := []) rfl dX0_findFault_20 isX0_readThing lcX0_38 sh_13 rfl rfl ⟨(Nat.le_of_ble_eq_true rfl), (Nat.le_of_ble_eq_true rfl)⟩ rfl (Nat.le_of_ble_eq_true rfl) (Nat.le_of_ble_eq_true rfl) (t_X0_readThing l1 I) rfl (fun r1 I1 => ?_)
    refine Ey.if_ne (M := mX0_findFault) (tgt := 31) (pc2 := 26) dX0_findFault_23 rfl (fun _ => ?_) rfl (fun _ => ?_)
    · refine Ex.aload_n (M := mX0_findFault) (pc2 := 32) dX0_findFault_31 rfl rfl rfl ?_
      refine Ex.dup (M := mX0_findFault) (pc2 := 33) dX0_findFault_32 rfl ?_
      refine Ex.getI (M := mX0_findFault) (pc2 := 36) dX0_findFault_33 xck0 lfX0_35 (Nat.le_of_ble_eq_true rfl) sh_13 rfl rfl ?_
      refine Ex.iconst (M := mX0_findFault) (pc2 := 37) dX0_findFault_36 ki_1 rfl ?_
      refine Ex.iadd (M := mX0_findFault) (pc2 := 38) dX0_findFault_37 rfl ?_
      refine Ex.putI (M := mX0_findFault) (pc2 := 41) dX0_findFault_38 xck0 lfX0_35 (Nat.le_of_ble_eq_true rfl) sh_13 rfl rfl ⟨rfl, rfl⟩ rfl ?_
      refine Ex.aload_n (M := mX0_findFault) (pc2 := 42) dX0_findFault_41 rfl rfl rfl ?_
      refine Ex.getI (M := mX0_findFault) (pc2 := 45) dX0_findFault_42 xck0 lfX0_32 (Nat.le_of_ble_eq_true rfl) sh_13 rfl rfl ?_
      refine Ex.aload_n (M := mX0_findFault) (pc2 := 46) dX0_findFault_45 rfl rfl rfl ?_
      refine Ex.getI (M := mX0_findFault) (pc2 := 49) dX0_findFault_46 xck0 lfX0_28 (Nat.le_of_ble_eq_true rfl) sh_13 rfl rfl ?_
      refine Ey.icmp_ne (M := mX0_findFault) (tgt := 55) (pc2 := 52) dX0_findFault_49 rfl (fun _ => ?_) rfl (fun _ => ?_)
      · refine Ex.aload_n (M := mX0_findFault) (pc2 := 56) dX0_findFault_55 rfl rfl rfl ?_
        refine Ey.callVi (M := mX0_findFault) (pc2 := 59) (as := []) (rest := []) rfl dX0_findFault_56 isX0_look lcX0_42 sh_13 rfl rfl ⟨(Nat.le_of_ble_eq_true rfl), (Nat.le_of_ble_eq_true rfl)⟩ rfl (Nat.le_of_ble_eq_true rfl) (Nat.le_of_ble_eq_true rfl) (t_X0_look (xup I1 13 3 ((I1 13 3) + (1 : Int32)))) rfl (fun r2 I2 => ?_)
        refine Ex.bipush (M := mX0_findFault) (pc2 := 61) dX0_findFault_59 kb_59 rfl ?_
        refine Ey.icmp_eq (M := mX0_findFault) (tgt := 69) (pc2 := 64) dX0_findFault_61 rfl (fun _ => ?_) rfl (fun _ => ?_)
        · refine Ex.aload_n (M := mX0_findFault) (pc2 := 70) dX0_findFault_69 rfl rfl rfl ?_
          refine Ex.dup (M := mX0_findFault) (pc2 := 71) dX0_findFault_70 rfl ?_
          refine Ex.getI (M := mX0_findFault) (pc2 := 74) dX0_findFault_71 xck0 lfX0_32 (Nat.le_of_ble_eq_true rfl) sh_13 rfl rfl ?_
          refine Ex.iconst (M := mX0_findFault) (pc2 := 75) dX0_findFault_74 ki_1 rfl ?_
          refine Ex.iadd (M := mX0_findFault) (pc2 := 76) dX0_findFault_75 rfl ?_
          refine Ex.putI (M := mX0_findFault) (pc2 := 79) dX0_findFault_76 xck0 lfX0_32 (Nat.le_of_ble_eq_true rfl) sh_13 rfl rfl ⟨rfl, rfl⟩ rfl ?_
          refine Ey.iinc (M := mX0_findFault) (pc2 := 82) dX0_findFault_79 rfl ki_1 (Nat.le_of_ble_eq_true rfl) rfl rfl ?_
          refine Ex.goto (M := mX0_findFault) (tgt := 12) dX0_findFault_82 rfl ?_
          exact hk12 _ _
        · refine Ex.aload_n (M := mX0_findFault) (pc2 := 65) dX0_findFault_64 rfl rfl rfl ?_
          refine Ex.getI (M := mX0_findFault) (pc2 := 68) dX0_findFault_65 xck0 lfX0_32 (Nat.le_of_ble_eq_true rfl) sh_13 rfl rfl ?_
          exact Ey.ireturn (M := mX0_findFault) dX0_findFault_68 rfl rfl
      · refine Ex.bipush (M := mX0_findFault) (pc2 := 54) dX0_findFault_52 kb_m5 rfl ?_
        exact Ey.ireturn (M := mX0_findFault) dX0_findFault_54 rfl rfl
    · refine Ex.aload_n (M := mX0_findFault) (pc2 := 27) dX0_findFault_26 rfl rfl rfl ?_
      refine Ex.getI (M := mX0_findFault) (pc2 := 30) dX0_findFault_27 xck0 lfX0_32 (Nat.le_of_ble_eq_true rfl) sh_13 rfl rfl ?_
      exact Ey.ireturn (M := mX0_findFault) dX0_findFault_30 rfl rfl
def f_X0_findFault_12 : Nat → Int32 → xI → Option (Int32 × xI)
  | 0, _, _ => none
  | n + 1, l1, I => f_X0_findFault_12b (fun l1 I => f_X0_findFault_12 n l1 I) l1 I
theorem t_X0_findFault_12 : ∀ (n : Nat) (l1 : Int32) (I : xI), Ey none mX0_findFault 12 [some (.inr (some 13)), some (.inl l1)] [] I (f_X0_findFault_12 n l1 I)
  | 0, l1, I => Ey.nil
  | n + 1, l1, I => t_X0_findFault_12b (fun l1 I => f_X0_findFault_12 n l1 I) (fun l1 I => t_X0_findFault_12 n l1 I) l1 I
def f_X0_findFault (I : xI) : Option (Int32 × xI) :=
  f_X0_findFault_12 xZ (0 : Int32) (xup (xup I 13 2 (0 : Int32)) 13 3 (0 : Int32))
theorem t_X0_findFault (I : xI) : Ey none mX0_findFault 0 [some (.inr (some 13)), none] [] I (f_X0_findFault I) := by
  unfold f_X0_findFault
  refine Ex.aload_n (M := mX0_findFault) (pc2 := 1) dX0_findFault_0 rfl rfl rfl ?_
  refine Ex.iconst (M := mX0_findFault) (pc2 := 2) dX0_findFault_1 ki_0 rfl ?_
  refine Ex.putI (M := mX0_findFault) (pc2 := 5) dX0_findFault_2 xck0 lfX0_32 (Nat.le_of_ble_eq_true rfl) sh_13 rfl rfl ⟨rfl, rfl⟩ rfl ?_
  refine Ex.aload_n (M := mX0_findFault) (pc2 := 6) dX0_findFault_5 rfl rfl rfl ?_
  refine Ex.iconst (M := mX0_findFault) (pc2 := 7) dX0_findFault_6 ki_0 rfl ?_
  refine Ex.putI (M := mX0_findFault) (pc2 := 10) dX0_findFault_7 xck0 lfX0_35 (Nat.le_of_ble_eq_true rfl) sh_13 rfl rfl ⟨rfl, rfl⟩ rfl ?_
  refine Ex.iconst (M := mX0_findFault) (pc2 := 11) dX0_findFault_10 ki_0 rfl ?_
  refine Ey.istore_n (M := mX0_findFault) (pc2 := 12) dX0_findFault_11 rfl (Nat.le_of_ble_eq_true rfl) rfl rfl ?_
  exact t_X0_findFault_12 xZ _ _
/-! FenceDuel$Ground.edgeNumber(II)I -/
def f_X1_edgeNumber (l1 : Int32) (l2 : Int32) (I : xI) : Option (Int32 × xI) :=
  xb (f_X6_isField l1 I) (fun r1 I1 => if r1 = 0 then some ((-5 : Int32), I1) else if l2 < 0 then some ((-5 : Int32), I1) else if l2 < (4 : Int32) then if xin ((l1 * (4 : Int32)) + l2) 192 then some ((I1 3 (((l1 * (4 : Int32)) + l2).toNatClampNeg)), I1) else none else some ((-5 : Int32), I1))
theorem t_X1_edgeNumber (l1 : Int32) (l2 : Int32) (I : xI) : Ey none mX1_edgeNumber 0 [some (.inr (some 1)), some (.inl l1), some (.inl l2)] [] I (f_X1_edgeNumber l1 l2 I) := by
  unfold f_X1_edgeNumber
  refine Ex.iload_n (M := mX1_edgeNumber) (pc2 := 1) dX1_edgeNumber_0 rfl rfl rfl ?_
  refine Ey.callSNi (M := mX1_edgeNumber) (pc2 := 4) (as := [.inl l1]) (rest := []) rfl dX1_edgeNumber_1 isX6_isField lnX1_38  rfl ⟨(Nat.le_of_ble_eq_true rfl), (Nat.le_of_ble_eq_true rfl)⟩ rfl (Nat.le_of_ble_eq_true rfl) (Nat.le_of_ble_eq_true rfl) (t_X6_isField l1 I) rfl (fun r1 I1 => ?_)
  refine Ey.if_eq (M := mX1_edgeNumber) (tgt := 16) (pc2 := 7) dX1_edgeNumber_4 rfl (fun _ => ?_) rfl (fun _ => ?_)
  · refine Ex.bipush (M := mX1_edgeNumber) (pc2 := 18) dX1_edgeNumber_16 kb_m5 rfl ?_
    exact Ey.ireturn (M := mX1_edgeNumber) dX1_edgeNumber_18 rfl rfl
  · refine Ex.iload_n (M := mX1_edgeNumber) (pc2 := 8) dX1_edgeNumber_7 rfl rfl rfl ?_
    refine Ey.if_lt (M := mX1_edgeNumber) (tgt := 16) (pc2 := 11) dX1_edgeNumber_8 rfl (fun _ => ?_) rfl (fun _ => ?_)
    · refine Ex.bipush (M := mX1_edgeNumber) (pc2 := 18) dX1_edgeNumber_16 kb_m5 rfl ?_
      exact Ey.ireturn (M := mX1_edgeNumber) dX1_edgeNumber_18 rfl rfl
    · refine Ex.iload_n (M := mX1_edgeNumber) (pc2 := 12) dX1_edgeNumber_11 rfl rfl rfl ?_
      refine Ex.iconst (M := mX1_edgeNumber) (pc2 := 13) dX1_edgeNumber_12 ki_4 rfl ?_
      refine Ey.icmp_lt (M := mX1_edgeNumber) (tgt := 19) (pc2 := 16) dX1_edgeNumber_13 rfl (fun _ => ?_) rfl (fun _ => ?_)
      · refine Ex.aload_n (M := mX1_edgeNumber) (pc2 := 20) dX1_edgeNumber_19 rfl rfl rfl ?_
        refine Ex.getR (M := mX1_edgeNumber) (pc2 := 23) dX1_edgeNumber_20 xck1 lfX1_15 (Nat.le_of_ble_eq_true rfl) sh_1 rfl ff_1_1 rfl ?_
        refine Ex.iload_n (M := mX1_edgeNumber) (pc2 := 24) dX1_edgeNumber_23 rfl rfl rfl ?_
        refine Ex.iconst (M := mX1_edgeNumber) (pc2 := 25) dX1_edgeNumber_24 ki_4 rfl ?_
        refine Ex.imul (M := mX1_edgeNumber) (pc2 := 26) dX1_edgeNumber_25 rfl ?_
        refine Ex.iload_n (M := mX1_edgeNumber) (pc2 := 27) dX1_edgeNumber_26 rfl rfl rfl ?_
        refine Ex.iadd (M := mX1_edgeNumber) (pc2 := 28) dX1_edgeNumber_27 rfl ?_
        refine Ey.guard (fun hz2 => ?_)
        refine Ey.iaload (M := mX1_edgeNumber) (pc2 := 29) dX1_edgeNumber_28 sh_3 rfl hz2 rfl ?_
        exact Ey.ireturn (M := mX1_edgeNumber) dX1_edgeNumber_29 rfl rfl
      · refine Ex.bipush (M := mX1_edgeNumber) (pc2 := 18) dX1_edgeNumber_16 kb_m5 rfl ?_
        exact Ey.ireturn (M := mX1_edgeNumber) dX1_edgeNumber_18 rfl rfl
/-! java/lang/Math.floorMod(II)I -/
def f_J9_floorMod_7cf53 (l0 : Int32) (l1 : Int32) (I : xI) : Option (Int32 × xI) :=
  if ¬ l1 = 0 then if (l0 ^^^ l1) ≥ 0 then some ((l0 - l0 / l1 * l1), I) else if (l0 - l0 / l1 * l1) = 0 then some ((l0 - l0 / l1 * l1), I) else some (((l0 - l0 / l1 * l1) + l1), I) else none
theorem t_J9_floorMod_7cf53 (l0 : Int32) (l1 : Int32) (I : xI) : Ey none mJ9_floorMod_7cf53 0 [some (.inl l0), some (.inl l1), none] [] I (f_J9_floorMod_7cf53 l0 l1 I) := by
  unfold f_J9_floorMod_7cf53
  refine Ex.iload_n (M := mJ9_floorMod_7cf53) (pc2 := 1) dJ9_floorMod_7cf53_0 rfl rfl rfl ?_
  refine Ex.iload_n (M := mJ9_floorMod_7cf53) (pc2 := 2) dJ9_floorMod_7cf53_1 rfl rfl rfl ?_
  refine Ey.guard (fun hz1 => ?_)
  refine Ex.irem (M := mJ9_floorMod_7cf53) (pc2 := 3) dJ9_floorMod_7cf53_2 hz1 rfl ?_
  refine Ey.istore_n (M := mJ9_floorMod_7cf53) (pc2 := 4) dJ9_floorMod_7cf53_3 rfl (Nat.le_of_ble_eq_true rfl) rfl rfl ?_
  refine Ex.iload_n (M := mJ9_floorMod_7cf53) (pc2 := 5) dJ9_floorMod_7cf53_4 rfl rfl rfl ?_
  refine Ex.iload_n (M := mJ9_floorMod_7cf53) (pc2 := 6) dJ9_floorMod_7cf53_5 rfl rfl rfl ?_
  refine Ex.ixor (M := mJ9_floorMod_7cf53) (pc2 := 7) dJ9_floorMod_7cf53_6 rfl ?_
  refine Ey.if_ge (M := mJ9_floorMod_7cf53) (tgt := 18) (pc2 := 10) dJ9_floorMod_7cf53_7 rfl (fun _ => ?_) rfl (fun _ => ?_)
  · refine Ex.iload_n (M := mJ9_floorMod_7cf53) (pc2 := 19) dJ9_floorMod_7cf53_18 rfl rfl rfl ?_
    exact Ey.ireturn (M := mJ9_floorMod_7cf53) dJ9_floorMod_7cf53_19 rfl rfl
  · refine Ex.iload_n (M := mJ9_floorMod_7cf53) (pc2 := 11) dJ9_floorMod_7cf53_10 rfl rfl rfl ?_
    refine Ey.if_eq (M := mJ9_floorMod_7cf53) (tgt := 18) (pc2 := 14) dJ9_floorMod_7cf53_11 rfl (fun _ => ?_) rfl (fun _ => ?_)
    · refine Ex.iload_n (M := mJ9_floorMod_7cf53) (pc2 := 19) dJ9_floorMod_7cf53_18 rfl rfl rfl ?_
      exact Ey.ireturn (M := mJ9_floorMod_7cf53) dJ9_floorMod_7cf53_19 rfl rfl
    · refine Ex.iload_n (M := mJ9_floorMod_7cf53) (pc2 := 15) dJ9_floorMod_7cf53_14 rfl rfl rfl ?_
      refine Ex.iload_n (M := mJ9_floorMod_7cf53) (pc2 := 16) dJ9_floorMod_7cf53_15 rfl rfl rfl ?_
      refine Ex.iadd (M := mJ9_floorMod_7cf53) (pc2 := 17) dJ9_floorMod_7cf53_16 rfl ?_
      exact Ey.ireturn (M := mJ9_floorMod_7cf53) dJ9_floorMod_7cf53_17 rfl rfl
/-! FenceDuel$State.takeFrom(LFenceDuel$State;)V -/
def f_X5_takeFrom (b0 : Nat) (b1 : Nat) (I : xI) : Option (Int32 × xI) :=
  some (0, (xcp (xcp (xcp (xcp (xcp (xup (xup (xup (xup I b0 0 (I b1 0)) b0 1 ((xup I b0 0 (I b1 0)) b1 1)) b0 2 ((xup (xup I b0 0 (I b1 0)) b0 1 ((xup I b0 0 (I b1 0)) b1 1)) b1 2)) b0 3 ((xup (xup (xup I b0 0 (I b1 0)) b0 1 ((xup I b0 0 (I b1 0)) b1 1)) b0 2 ((xup (xup I b0 0 (I b1 0)) b0 1 ((xup I b0 0 (I b1 0)) b1 1)) b1 2)) b1 3)) (b0 + 1) (b1 + 1) 0 0 2) (b0 + 2) (b1 + 2) 0 0 2) (b0 + 3) (b1 + 3) 0 0 82) (b0 + 4) (b1 + 4) 0 0 48) (b0 + 5) (b1 + 5) 0 0 600))
theorem t_X5_takeFrom (b0 : Nat) (h0 : xSt b0) (b1 : Nat) (h1 : xSt b1) (I : xI) : Ey none mX5_takeFrom 0 [some (.inr (some b0)), some (.inr (some b1))] [] I (f_X5_takeFrom b0 b1 I) := by
  unfold f_X5_takeFrom
  refine Ex.aload_n (M := mX5_takeFrom) (pc2 := 1) dX5_takeFrom_0 rfl rfl rfl ?_
  refine Ex.aload_n (M := mX5_takeFrom) (pc2 := 2) dX5_takeFrom_1 rfl rfl rfl ?_
  refine Ex.getI (M := mX5_takeFrom) (pc2 := 5) dX5_takeFrom_2 xck5 lfX5_37 (Nat.le_of_ble_eq_true rfl) (h1).s0 rfl rfl ?_
  refine Ex.putI (M := mX5_takeFrom) (pc2 := 8) dX5_takeFrom_5 xck5 lfX5_37 (Nat.le_of_ble_eq_true rfl) (h0).s0 rfl rfl ⟨rfl, rfl⟩ rfl ?_
  refine Ex.aload_n (M := mX5_takeFrom) (pc2 := 9) dX5_takeFrom_8 rfl rfl rfl ?_
  refine Ex.aload_n (M := mX5_takeFrom) (pc2 := 10) dX5_takeFrom_9 rfl rfl rfl ?_
  refine Ex.getI (M := mX5_takeFrom) (pc2 := 13) dX5_takeFrom_10 xck5 lfX5_40 (Nat.le_of_ble_eq_true rfl) (h1).s0 rfl rfl ?_
  refine Ex.putI (M := mX5_takeFrom) (pc2 := 16) dX5_takeFrom_13 xck5 lfX5_40 (Nat.le_of_ble_eq_true rfl) (h0).s0 rfl rfl ⟨rfl, rfl⟩ rfl ?_
  refine Ex.aload_n (M := mX5_takeFrom) (pc2 := 17) dX5_takeFrom_16 rfl rfl rfl ?_
  refine Ex.aload_n (M := mX5_takeFrom) (pc2 := 18) dX5_takeFrom_17 rfl rfl rfl ?_
  refine Ex.getI (M := mX5_takeFrom) (pc2 := 21) dX5_takeFrom_18 xck5 lfX5_43 (Nat.le_of_ble_eq_true rfl) (h1).s0 rfl rfl ?_
  refine Ex.putI (M := mX5_takeFrom) (pc2 := 24) dX5_takeFrom_21 xck5 lfX5_43 (Nat.le_of_ble_eq_true rfl) (h0).s0 rfl rfl ⟨rfl, rfl⟩ rfl ?_
  refine Ex.aload_n (M := mX5_takeFrom) (pc2 := 25) dX5_takeFrom_24 rfl rfl rfl ?_
  refine Ex.aload_n (M := mX5_takeFrom) (pc2 := 26) dX5_takeFrom_25 rfl rfl rfl ?_
  refine Ex.getI (M := mX5_takeFrom) (pc2 := 29) dX5_takeFrom_26 xck5 lfX5_9 (Nat.le_of_ble_eq_true rfl) (h1).s0 rfl rfl ?_
  refine Ex.putI (M := mX5_takeFrom) (pc2 := 32) dX5_takeFrom_29 xck5 lfX5_9 (Nat.le_of_ble_eq_true rfl) (h0).s0 rfl rfl ⟨rfl, rfl⟩ rfl ?_
  refine Ex.aload_n (M := mX5_takeFrom) (pc2 := 33) dX5_takeFrom_32 rfl rfl rfl ?_
  refine Ex.getR (M := mX5_takeFrom) (pc2 := 36) dX5_takeFrom_33 xck5 lfX5_15 (Nat.le_of_ble_eq_true rfl) (h1).s0 rfl (h1).f4 rfl ?_
  refine Ex.iconst (M := mX5_takeFrom) (pc2 := 37) dX5_takeFrom_36 ki_0 rfl ?_
  refine Ex.aload_n (M := mX5_takeFrom) (pc2 := 38) dX5_takeFrom_37 rfl rfl rfl ?_
  refine Ex.getR (M := mX5_takeFrom) (pc2 := 41) dX5_takeFrom_38 xck5 lfX5_15 (Nat.le_of_ble_eq_true rfl) (h0).s0 rfl (h0).f4 rfl ?_
  refine Ex.iconst (M := mX5_takeFrom) (pc2 := 42) dX5_takeFrom_41 ki_0 rfl ?_
  refine Ex.iconst (M := mX5_takeFrom) (pc2 := 43) dX5_takeFrom_42 ki_2 rfl ?_
  refine Ey.acopy (M := mX5_takeFrom) (pc2 := 46) dX5_takeFrom_43 lcX5_46 (h1).s1 (h0).s1 (by decide) kn_2 (Nat.le_of_ble_eq_true rfl) (Nat.le_of_ble_eq_true rfl) (Nat.le_of_ble_eq_true rfl) rfl ?_
  refine Ex.aload_n (M := mX5_takeFrom) (pc2 := 47) dX5_takeFrom_46 rfl rfl rfl ?_
  refine Ex.getR (M := mX5_takeFrom) (pc2 := 50) dX5_takeFrom_47 xck5 lfX5_19 (Nat.le_of_ble_eq_true rfl) (h1).s0 rfl (h1).f5 rfl ?_
  refine Ex.iconst (M := mX5_takeFrom) (pc2 := 51) dX5_takeFrom_50 ki_0 rfl ?_
  refine Ex.aload_n (M := mX5_takeFrom) (pc2 := 52) dX5_takeFrom_51 rfl rfl rfl ?_
  refine Ex.getR (M := mX5_takeFrom) (pc2 := 55) dX5_takeFrom_52 xck5 lfX5_19 (Nat.le_of_ble_eq_true rfl) (h0).s0 rfl (h0).f5 rfl ?_
  refine Ex.iconst (M := mX5_takeFrom) (pc2 := 56) dX5_takeFrom_55 ki_0 rfl ?_
  refine Ex.iconst (M := mX5_takeFrom) (pc2 := 57) dX5_takeFrom_56 ki_2 rfl ?_
  refine Ey.acopy (M := mX5_takeFrom) (pc2 := 60) dX5_takeFrom_57 lcX5_46 (h1).s2 (h0).s2 (by decide) kn_2 (Nat.le_of_ble_eq_true rfl) (Nat.le_of_ble_eq_true rfl) (Nat.le_of_ble_eq_true rfl) rfl ?_
  refine Ex.aload_n (M := mX5_takeFrom) (pc2 := 61) dX5_takeFrom_60 rfl rfl rfl ?_
  refine Ex.getR (M := mX5_takeFrom) (pc2 := 64) dX5_takeFrom_61 xck5 lfX5_22 (Nat.le_of_ble_eq_true rfl) (h1).s0 rfl (h1).f6 rfl ?_
  refine Ex.iconst (M := mX5_takeFrom) (pc2 := 65) dX5_takeFrom_64 ki_0 rfl ?_
  refine Ex.aload_n (M := mX5_takeFrom) (pc2 := 66) dX5_takeFrom_65 rfl rfl rfl ?_
  refine Ex.getR (M := mX5_takeFrom) (pc2 := 69) dX5_takeFrom_66 xck5 lfX5_22 (Nat.le_of_ble_eq_true rfl) (h0).s0 rfl (h0).f6 rfl ?_
  refine Ex.iconst (M := mX5_takeFrom) (pc2 := 70) dX5_takeFrom_69 ki_0 rfl ?_
  refine Ex.bipush (M := mX5_takeFrom) (pc2 := 72) dX5_takeFrom_70 kb_82 rfl ?_
  refine Ey.acopy (M := mX5_takeFrom) (pc2 := 75) dX5_takeFrom_72 lcX5_46 (h1).s3 (h0).s3 (by decide) kn_82 (Nat.le_of_ble_eq_true rfl) (Nat.le_of_ble_eq_true rfl) (Nat.le_of_ble_eq_true rfl) rfl ?_
  refine Ex.aload_n (M := mX5_takeFrom) (pc2 := 76) dX5_takeFrom_75 rfl rfl rfl ?_
  refine Ex.getR (M := mX5_takeFrom) (pc2 := 79) dX5_takeFrom_76 xck5 lfX5_25 (Nat.le_of_ble_eq_true rfl) (h1).s0 rfl (h1).f7 rfl ?_
  refine Ex.iconst (M := mX5_takeFrom) (pc2 := 80) dX5_takeFrom_79 ki_0 rfl ?_
  refine Ex.aload_n (M := mX5_takeFrom) (pc2 := 81) dX5_takeFrom_80 rfl rfl rfl ?_
  refine Ex.getR (M := mX5_takeFrom) (pc2 := 84) dX5_takeFrom_81 xck5 lfX5_25 (Nat.le_of_ble_eq_true rfl) (h0).s0 rfl (h0).f7 rfl ?_
  refine Ex.iconst (M := mX5_takeFrom) (pc2 := 85) dX5_takeFrom_84 ki_0 rfl ?_
  refine Ex.bipush (M := mX5_takeFrom) (pc2 := 87) dX5_takeFrom_85 kb_48 rfl ?_
  refine Ey.acopy (M := mX5_takeFrom) (pc2 := 90) dX5_takeFrom_87 lcX5_46 (h1).s4 (h0).s4 (by decide) kn_48 (Nat.le_of_ble_eq_true rfl) (Nat.le_of_ble_eq_true rfl) (Nat.le_of_ble_eq_true rfl) rfl ?_
  refine Ex.aload_n (M := mX5_takeFrom) (pc2 := 91) dX5_takeFrom_90 rfl rfl rfl ?_
  refine Ex.getR (M := mX5_takeFrom) (pc2 := 94) dX5_takeFrom_91 xck5 lfX5_28 (Nat.le_of_ble_eq_true rfl) (h1).s0 rfl (h1).f8 rfl ?_
  refine Ex.iconst (M := mX5_takeFrom) (pc2 := 95) dX5_takeFrom_94 ki_0 rfl ?_
  refine Ex.aload_n (M := mX5_takeFrom) (pc2 := 96) dX5_takeFrom_95 rfl rfl rfl ?_
  refine Ex.getR (M := mX5_takeFrom) (pc2 := 99) dX5_takeFrom_96 xck5 lfX5_28 (Nat.le_of_ble_eq_true rfl) (h0).s0 rfl (h0).f8 rfl ?_
  refine Ex.iconst (M := mX5_takeFrom) (pc2 := 100) dX5_takeFrom_99 ki_0 rfl ?_
  refine Ex.sipush (M := mX5_takeFrom) (pc2 := 103) dX5_takeFrom_100 ks_600 rfl ?_
  refine Ey.acopy (M := mX5_takeFrom) (pc2 := 106) dX5_takeFrom_103 lcX5_46 (h1).s5 (h0).s5 (by decide) kn_600 (Nat.le_of_ble_eq_true rfl) (Nat.le_of_ble_eq_true rfl) (Nat.le_of_ble_eq_true rfl) rfl ?_
  exact Ey.ret (M := mX5_takeFrom) dX5_takeFrom_106 rfl
/-! FenceDuel$History.add(LFenceDuel$State;)V -/
def f_X2_add (b1 : Nat) (I : xI) : Option (Int32 × xI) :=
  xb (f_J9_floorMod_7cf53 (I 19 1) (4 : Int32) I) (fun r1 I1 => if xin r1 4 then xb (f_X5_takeFrom (21 + 6 * r1.toNatClampNeg) b1 I1) (fun _ I3 => if ((xup I3 19 1 (r1 + (1 : Int32))) 19 2) ≥ (4 : Int32) then some (0, (xup I3 19 1 (r1 + (1 : Int32)))) else some (0, (xup (xup I3 19 1 (r1 + (1 : Int32))) 19 2 (((xup I3 19 1 (r1 + (1 : Int32))) 19 2) + (1 : Int32))))) else none)
theorem t_X2_add (b1 : Nat) (h1 : xSt b1) (I : xI) : Ey none mX2_add 0 [some (.inr (some 19)), some (.inr (some b1)), none] [] I (f_X2_add b1 I) := by
  unfold f_X2_add
  refine Ex.aload_n (M := mX2_add) (pc2 := 1) dX2_add_0 rfl rfl rfl ?_
  refine Ex.getI (M := mX2_add) (pc2 := 4) dX2_add_1 xck2 lfX2_18 (Nat.le_of_ble_eq_true rfl) sh_19 rfl rfl ?_
  refine Ex.iconst (M := mX2_add) (pc2 := 5) dX2_add_4 ki_4 rfl ?_
  refine Ey.callSi (M := mX2_add) (pc2 := 8) (as := [.inl (I 19 1), .inl (4 : Int32)]) (rest := []) rfl dX2_add_5 isJ9_floorMod_7cf53 lcX2_22  rfl ⟨(Nat.le_of_ble_eq_true rfl), (Nat.le_of_ble_eq_true rfl)⟩ rfl (Nat.le_of_ble_eq_true rfl) (Nat.le_of_ble_eq_true rfl) (t_J9_floorMod_7cf53 (I 19 1) (4 : Int32) I) rfl (fun r1 I1 => ?_)
  refine Ey.istore_n (M := mX2_add) (pc2 := 9) dX2_add_8 rfl (Nat.le_of_ble_eq_true rfl) rfl rfl ?_
  refine Ex.aload_n (M := mX2_add) (pc2 := 10) dX2_add_9 rfl rfl rfl ?_
  refine Ex.getR (M := mX2_add) (pc2 := 13) dX2_add_10 xck2 lfX2_12 (Nat.le_of_ble_eq_true rfl) sh_19 rfl ff_19_0 rfl ?_
  refine Ex.iload_n (M := mX2_add) (pc2 := 14) dX2_add_13 rfl rfl rfl ?_
  refine Ey.guard (fun hz2 => ?_)
  refine Ex.aaload (M := mX2_add) (pc2 := 15) dX2_add_14 sh_20 hz2 (xHs (xin_lt hz2)).1 rfl ?_
  refine Ex.aload_n (M := mX2_add) (pc2 := 16) dX2_add_15 rfl rfl rfl ?_
  refine Ey.callVv (M := mX2_add) (pc2 := 19) (as := [.inr (some b1)]) (rest := []) rfl dX2_add_16 isX5_takeFrom lcX2_28 ((xHs (xin_lt hz2)).2).s0 rfl rfl ⟨(Nat.le_of_ble_eq_true rfl), (Nat.le_of_ble_eq_true rfl)⟩ rfl (Nat.le_of_ble_eq_true rfl) (Nat.le_of_ble_eq_true rfl) (t_X5_takeFrom (21 + 6 * r1.toNatClampNeg) ((xHs (xin_lt hz2)).2) b1 (h1) I1) rfl (fun I3 => ?_)
  refine Ex.aload_n (M := mX2_add) (pc2 := 20) dX2_add_19 rfl rfl rfl ?_
  refine Ex.iload_n (M := mX2_add) (pc2 := 21) dX2_add_20 rfl rfl rfl ?_
  refine Ex.iconst (M := mX2_add) (pc2 := 22) dX2_add_21 ki_1 rfl ?_
  refine Ex.iadd (M := mX2_add) (pc2 := 23) dX2_add_22 rfl ?_
  refine Ex.putI (M := mX2_add) (pc2 := 26) dX2_add_23 xck2 lfX2_18 (Nat.le_of_ble_eq_true rfl) sh_19 rfl rfl ⟨rfl, rfl⟩ rfl ?_
  refine Ex.aload_n (M := mX2_add) (pc2 := 27) dX2_add_26 rfl rfl rfl ?_
  refine Ex.getI (M := mX2_add) (pc2 := 30) dX2_add_27 xck2 lfX2_32 (Nat.le_of_ble_eq_true rfl) sh_19 rfl rfl ?_
  refine Ex.iconst (M := mX2_add) (pc2 := 31) dX2_add_30 ki_4 rfl ?_
  refine Ey.icmp_ge (M := mX2_add) (tgt := 44) (pc2 := 34) dX2_add_31 rfl (fun _ => ?_) rfl (fun _ => ?_)
  · exact Ey.ret (M := mX2_add) dX2_add_44 rfl
  · refine Ex.aload_n (M := mX2_add) (pc2 := 35) dX2_add_34 rfl rfl rfl ?_
    refine Ex.dup (M := mX2_add) (pc2 := 36) dX2_add_35 rfl ?_
    refine Ex.getI (M := mX2_add) (pc2 := 39) dX2_add_36 xck2 lfX2_32 (Nat.le_of_ble_eq_true rfl) sh_19 rfl rfl ?_
    refine Ex.iconst (M := mX2_add) (pc2 := 40) dX2_add_39 ki_1 rfl ?_
    refine Ex.iadd (M := mX2_add) (pc2 := 41) dX2_add_40 rfl ?_
    refine Ex.putI (M := mX2_add) (pc2 := 44) dX2_add_41 xck2 lfX2_32 (Nat.le_of_ble_eq_true rfl) sh_19 rfl rfl ⟨rfl, rfl⟩ rfl ?_
    exact Ey.ret (M := mX2_add) dX2_add_44 rfl
/-! FenceDuel$History.takeBack(LFenceDuel$State;)I -/
def f_X2_takeBack (b1 : Nat) (I : xI) : Option (Int32 × xI) :=
  if (I 19 2) ≠ 0 then xb (f_J9_floorMod_7cf53 ((I 19 1) - (1 : Int32)) (4 : Int32) I) (fun r1 I1 => if xin r1 4 then xb (f_X5_takeFrom b1 (21 + 6 * r1.toNatClampNeg) I1) (fun _ I3 => some (((xup (xup I3 19 1 r1) 19 2 (((xup I3 19 1 r1) 19 2) - (1 : Int32))) 19 2), (xup (xup I3 19 1 r1) 19 2 (((xup I3 19 1 r1) 19 2) - (1 : Int32))))) else none) else some ((-5 : Int32), I)
theorem t_X2_takeBack (b1 : Nat) (h1 : xSt b1) (I : xI) : Ey none mX2_takeBack 0 [some (.inr (some 19)), some (.inr (some b1)), none] [] I (f_X2_takeBack b1 I) := by
  unfold f_X2_takeBack
  refine Ex.aload_n (M := mX2_takeBack) (pc2 := 1) dX2_takeBack_0 rfl rfl rfl ?_
  refine Ex.getI (M := mX2_takeBack) (pc2 := 4) dX2_takeBack_1 xck2 lfX2_32 (Nat.le_of_ble_eq_true rfl) sh_19 rfl rfl ?_
  refine Ey.if_ne (M := mX2_takeBack) (tgt := 10) (pc2 := 7) dX2_takeBack_4 rfl (fun _ => ?_) rfl (fun _ => ?_)
  · refine Ex.aload_n (M := mX2_takeBack) (pc2 := 11) dX2_takeBack_10 rfl rfl rfl ?_
    refine Ex.getI (M := mX2_takeBack) (pc2 := 14) dX2_takeBack_11 xck2 lfX2_18 (Nat.le_of_ble_eq_true rfl) sh_19 rfl rfl ?_
    refine Ex.iconst (M := mX2_takeBack) (pc2 := 15) dX2_takeBack_14 ki_1 rfl ?_
    refine Ex.isub (M := mX2_takeBack) (pc2 := 16) dX2_takeBack_15 rfl ?_
    refine Ex.iconst (M := mX2_takeBack) (pc2 := 17) dX2_takeBack_16 ki_4 rfl ?_
    refine Ey.callSi (M := mX2_takeBack) (pc2 := 20) (as := [.inl ((I 19 1) - (1 : Int32)), .inl (4 : Int32)]) (rest := []) rfl dX2_takeBack_17 isJ9_floorMod_7cf53 lcX2_22  rfl ⟨(Nat.le_of_ble_eq_true rfl), (Nat.le_of_ble_eq_true rfl)⟩ rfl (Nat.le_of_ble_eq_true rfl) (Nat.le_of_ble_eq_true rfl) (t_J9_floorMod_7cf53 ((I 19 1) - (1 : Int32)) (4 : Int32) I) rfl (fun r1 I1 => ?_)
    refine Ey.istore_n (M := mX2_takeBack) (pc2 := 21) dX2_takeBack_20 rfl (Nat.le_of_ble_eq_true rfl) rfl rfl ?_
    refine Ex.aload_n (M := mX2_takeBack) (pc2 := 22) dX2_takeBack_21 rfl rfl rfl ?_
    refine Ex.aload_n (M := mX2_takeBack) (pc2 := 23) dX2_takeBack_22 rfl rfl rfl ?_
    refine Ex.getR (M := mX2_takeBack) (pc2 := 26) dX2_takeBack_23 xck2 lfX2_12 (Nat.le_of_ble_eq_true rfl) sh_19 rfl ff_19_0 rfl ?_
    refine Ex.iload_n (M := mX2_takeBack) (pc2 := 27) dX2_takeBack_26 rfl rfl rfl ?_
    refine Ey.guard (fun hz2 => ?_)
    refine Ex.aaload (M := mX2_takeBack) (pc2 := 28) dX2_takeBack_27 sh_20 hz2 (xHs (xin_lt hz2)).1 rfl ?_
    refine Ey.callVv (M := mX2_takeBack) (pc2 := 31) (as := [.inr (some (21 + 6 * r1.toNatClampNeg))]) (rest := []) rfl dX2_takeBack_28 isX5_takeFrom lcX2_28 (h1).s0 rfl rfl ⟨(Nat.le_of_ble_eq_true rfl), (Nat.le_of_ble_eq_true rfl)⟩ rfl (Nat.le_of_ble_eq_true rfl) (Nat.le_of_ble_eq_true rfl) (t_X5_takeFrom b1 (h1) (21 + 6 * r1.toNatClampNeg) ((xHs (xin_lt hz2)).2) I1) rfl (fun I3 => ?_)
    refine Ex.aload_n (M := mX2_takeBack) (pc2 := 32) dX2_takeBack_31 rfl rfl rfl ?_
    refine Ex.iload_n (M := mX2_takeBack) (pc2 := 33) dX2_takeBack_32 rfl rfl rfl ?_
    refine Ex.putI (M := mX2_takeBack) (pc2 := 36) dX2_takeBack_33 xck2 lfX2_18 (Nat.le_of_ble_eq_true rfl) sh_19 rfl rfl ⟨rfl, rfl⟩ rfl ?_
    refine Ex.aload_n (M := mX2_takeBack) (pc2 := 37) dX2_takeBack_36 rfl rfl rfl ?_
    refine Ex.dup (M := mX2_takeBack) (pc2 := 38) dX2_takeBack_37 rfl ?_
    refine Ex.getI (M := mX2_takeBack) (pc2 := 41) dX2_takeBack_38 xck2 lfX2_32 (Nat.le_of_ble_eq_true rfl) sh_19 rfl rfl ?_
    refine Ex.iconst (M := mX2_takeBack) (pc2 := 42) dX2_takeBack_41 ki_1 rfl ?_
    refine Ex.isub (M := mX2_takeBack) (pc2 := 43) dX2_takeBack_42 rfl ?_
    refine Ex.putI (M := mX2_takeBack) (pc2 := 46) dX2_takeBack_43 xck2 lfX2_32 (Nat.le_of_ble_eq_true rfl) sh_19 rfl rfl ⟨rfl, rfl⟩ rfl ?_
    refine Ex.aload_n (M := mX2_takeBack) (pc2 := 47) dX2_takeBack_46 rfl rfl rfl ?_
    refine Ex.getI (M := mX2_takeBack) (pc2 := 50) dX2_takeBack_47 xck2 lfX2_32 (Nat.le_of_ble_eq_true rfl) sh_19 rfl rfl ?_
    exact Ey.ireturn (M := mX2_takeBack) dX2_takeBack_50 rfl rfl
  · refine Ex.bipush (M := mX2_takeBack) (pc2 := 9) dX2_takeBack_7 kb_m5 rfl ?_
    exact Ey.ireturn (M := mX2_takeBack) dX2_takeBack_9 rfl rfl
/-! FenceDuel$State.hasLetter(I)Z -/
def f_X5_hasLetter (b0 : Nat) (l1 : Int32) (I : xI) : Option (Int32 × xI) :=
  if l1 < 0 then some ((0 : Int32), I) else if l1 ≥ (I b0 1) then some ((0 : Int32), I) else if l1 ≥ (60 : Int32) then some ((0 : Int32), I) else some ((1 : Int32), I)
theorem t_X5_hasLetter (b0 : Nat) (h0 : xSt b0) (l1 : Int32) (I : xI) : Ey none mX5_hasLetter 0 [some (.inr (some b0)), some (.inl l1)] [] I (f_X5_hasLetter b0 l1 I) := by
  unfold f_X5_hasLetter
  refine Ex.iload_n (M := mX5_hasLetter) (pc2 := 1) dX5_hasLetter_0 rfl rfl rfl ?_
  refine Ey.if_lt (M := mX5_hasLetter) (tgt := 22) (pc2 := 4) dX5_hasLetter_1 rfl (fun _ => ?_) rfl (fun _ => ?_)
  · refine Ex.iconst (M := mX5_hasLetter) (pc2 := 23) dX5_hasLetter_22 ki_0 rfl ?_
    exact Ey.ireturn (M := mX5_hasLetter) dX5_hasLetter_23 rfl (by decide)
  · refine Ex.iload_n (M := mX5_hasLetter) (pc2 := 5) dX5_hasLetter_4 rfl rfl rfl ?_
    refine Ex.aload_n (M := mX5_hasLetter) (pc2 := 6) dX5_hasLetter_5 rfl rfl rfl ?_
    refine Ex.getI (M := mX5_hasLetter) (pc2 := 9) dX5_hasLetter_6 xck5 lfX5_40 (Nat.le_of_ble_eq_true rfl) (h0).s0 rfl rfl ?_
    refine Ey.icmp_ge (M := mX5_hasLetter) (tgt := 22) (pc2 := 12) dX5_hasLetter_9 rfl (fun _ => ?_) rfl (fun _ => ?_)
    · refine Ex.iconst (M := mX5_hasLetter) (pc2 := 23) dX5_hasLetter_22 ki_0 rfl ?_
      exact Ey.ireturn (M := mX5_hasLetter) dX5_hasLetter_23 rfl (by decide)
    · refine Ex.iload_n (M := mX5_hasLetter) (pc2 := 13) dX5_hasLetter_12 rfl rfl rfl ?_
      refine Ex.bipush (M := mX5_hasLetter) (pc2 := 15) dX5_hasLetter_13 kb_60 rfl ?_
      refine Ey.icmp_ge (M := mX5_hasLetter) (tgt := 22) (pc2 := 18) dX5_hasLetter_15 rfl (fun _ => ?_) rfl (fun _ => ?_)
      · refine Ex.iconst (M := mX5_hasLetter) (pc2 := 23) dX5_hasLetter_22 ki_0 rfl ?_
        exact Ey.ireturn (M := mX5_hasLetter) dX5_hasLetter_23 rfl (by decide)
      · refine Ex.iconst (M := mX5_hasLetter) (pc2 := 19) dX5_hasLetter_18 ki_1 rfl ?_
        refine Ex.goto (M := mX5_hasLetter) (tgt := 23) dX5_hasLetter_19 rfl ?_
        exact Ey.ireturn (M := mX5_hasLetter) dX5_hasLetter_23 rfl (by decide)
/-! FenceDuel$State.told(II)I -/
def f_X5_told (b0 : Nat) (l1 : Int32) (l2 : Int32) (I : xI) : Option (Int32 × xI) :=
  xb (f_X5_hasLetter b0 l1 I) (fun r1 I1 => if r1 = 0 then some ((-5 : Int32), I1) else if l2 < 0 then some ((-5 : Int32), I1) else if l2 < (10 : Int32) then if xin ((l1 * (10 : Int32)) + l2) 600 then some ((I1 (b0 + 5) (((l1 * (10 : Int32)) + l2).toNatClampNeg)), I1) else none else some ((-5 : Int32), I1))
theorem t_X5_told (b0 : Nat) (h0 : xSt b0) (l1 : Int32) (l2 : Int32) (I : xI) : Ey none mX5_told 0 [some (.inr (some b0)), some (.inl l1), some (.inl l2)] [] I (f_X5_told b0 l1 l2 I) := by
  unfold f_X5_told
  refine Ex.aload_n (M := mX5_told) (pc2 := 1) dX5_told_0 rfl rfl rfl ?_
  refine Ex.iload_n (M := mX5_told) (pc2 := 2) dX5_told_1 rfl rfl rfl ?_
  refine Ey.callVi (M := mX5_told) (pc2 := 5) (as := [.inl l1]) (rest := []) rfl dX5_told_2 isX5_hasLetter lcX5_52 (h0).s0 rfl rfl ⟨(Nat.le_of_ble_eq_true rfl), (Nat.le_of_ble_eq_true rfl)⟩ rfl (Nat.le_of_ble_eq_true rfl) (Nat.le_of_ble_eq_true rfl) (t_X5_hasLetter b0 (h0) l1 I) rfl (fun r1 I1 => ?_)
  refine Ey.if_eq (M := mX5_told) (tgt := 18) (pc2 := 8) dX5_told_5 rfl (fun _ => ?_) rfl (fun _ => ?_)
  · refine Ex.bipush (M := mX5_told) (pc2 := 20) dX5_told_18 kb_m5 rfl ?_
    exact Ey.ireturn (M := mX5_told) dX5_told_20 rfl rfl
  · refine Ex.iload_n (M := mX5_told) (pc2 := 9) dX5_told_8 rfl rfl rfl ?_
    refine Ey.if_lt (M := mX5_told) (tgt := 18) (pc2 := 12) dX5_told_9 rfl (fun _ => ?_) rfl (fun _ => ?_)
    · refine Ex.bipush (M := mX5_told) (pc2 := 20) dX5_told_18 kb_m5 rfl ?_
      exact Ey.ireturn (M := mX5_told) dX5_told_20 rfl rfl
    · refine Ex.iload_n (M := mX5_told) (pc2 := 13) dX5_told_12 rfl rfl rfl ?_
      refine Ex.bipush (M := mX5_told) (pc2 := 15) dX5_told_13 kb_10 rfl ?_
      refine Ey.icmp_lt (M := mX5_told) (tgt := 21) (pc2 := 18) dX5_told_15 rfl (fun _ => ?_) rfl (fun _ => ?_)
      · refine Ex.aload_n (M := mX5_told) (pc2 := 22) dX5_told_21 rfl rfl rfl ?_
        refine Ex.getR (M := mX5_told) (pc2 := 25) dX5_told_22 xck5 lfX5_28 (Nat.le_of_ble_eq_true rfl) (h0).s0 rfl (h0).f8 rfl ?_
        refine Ex.iload_n (M := mX5_told) (pc2 := 26) dX5_told_25 rfl rfl rfl ?_
        refine Ex.bipush (M := mX5_told) (pc2 := 28) dX5_told_26 kb_10 rfl ?_
        refine Ex.imul (M := mX5_told) (pc2 := 29) dX5_told_28 rfl ?_
        refine Ex.iload_n (M := mX5_told) (pc2 := 30) dX5_told_29 rfl rfl rfl ?_
        refine Ex.iadd (M := mX5_told) (pc2 := 31) dX5_told_30 rfl ?_
        refine Ey.guard (fun hz2 => ?_)
        refine Ey.iaload (M := mX5_told) (pc2 := 32) dX5_told_31 (h0).s5 rfl hz2 rfl ?_
        exact Ey.ireturn (M := mX5_told) dX5_told_32 rfl rfl
      · refine Ex.bipush (M := mX5_told) (pc2 := 20) dX5_told_18 kb_m5 rfl ?_
        exact Ey.ireturn (M := mX5_told) dX5_told_20 rfl rfl
/-! FenceDuel$State.soonest()I -/
def f_X5_soonest_5b (b0 : Nat) (k5 : Int32 → Int32 → xI → Option (Int32 × xI)) (l1 : Int32) (l2 : Int32) (I : xI) : Option (Int32 × xI) :=
  if l2 ≥ (I b0 1) then some (l1, I) else xb (f_X5_told b0 l2 (6 : Int32) I) (fun r1 I1 => if r1 = 0 then if l1 = (-5 : Int32) then k5 l2 (l2 + 1) I1 else xb (f_X5_told b0 l2 (5 : Int32) I1) (fun r2 I2 => xb (f_X5_told b0 l1 (5 : Int32) I2) (fun r3 I3 => if r2 ≥ r3 then k5 l1 (l2 + 1) I3 else k5 l2 (l2 + 1) I3)) else k5 l1 (l2 + 1) I1)
theorem t_X5_soonest_5b (b0 : Nat) (h0 : xSt b0) (k5 : Int32 → Int32 → xI → Option (Int32 × xI)) (hk5 : ∀ (l1 : Int32) (l2 : Int32) (I : xI), Ey none mX5_soonest 5 [some (.inr (some b0)), some (.inl l1), some (.inl l2)] [] I (k5 l1 l2 I)) (l1 : Int32) (l2 : Int32) (I : xI) : Ey none mX5_soonest 5 [some (.inr (some b0)), some (.inl l1), some (.inl l2)] [] I (f_X5_soonest_5b b0 k5 l1 l2 I) := by
  unfold f_X5_soonest_5b
  refine Ex.iload_n (M := mX5_soonest) (pc2 := 6) dX5_soonest_5 rfl rfl rfl ?_
  refine Ex.aload_n (M := mX5_soonest) (pc2 := 7) dX5_soonest_6 rfl rfl rfl ?_
  refine Ex.getI (M := mX5_soonest) (pc2 := 10) dX5_soonest_7 xck5 lfX5_40 (Nat.le_of_ble_eq_true rfl) (h0).s0 rfl rfl ?_
  refine Ey.icmp_ge (M := mX5_soonest) (tgt := 55) (pc2 := 13) dX5_soonest_10 rfl (fun _ => ?_) rfl (fun _ => ?_)
  · refine Ex.iload_n (M := mX5_soonest) (pc2 := 56) dX5_soonest_55 rfl rfl rfl ?_
    exact Ey.ireturn (M := mX5_soonest) dX5_soonest_56 rfl rfl
  · refine Ex.aload_n (M := mX5_soonest) (pc2 := 14) dX5_soonest_13 rfl rfl rfl ?_
    refine Ex.iload_n (M := mX5_soonest) (pc2 := 15) dX5_soonest_14 rfl rfl rfl ?_
    refine Ex.bipush (M := mX5_soonest) (pc2 := 17) dX5_soonest_15 kb_6 rfl ?_
    refine Ey.callVi (M := mX5_soonest) (pc2 := 20) (as := [.inl l2, .inl (6 : Int32)]) (rest := []) rfl dX5_soonest_17 isX5_told lcX5_60 (h0).s0 rfl rfl ⟨(Nat.le_of_ble_eq_true rfl), (Nat.le_of_ble_eq_true rfl)⟩ rfl (Nat.le_of_ble_eq_true rfl) (Nat.le_of_ble_eq_true rfl) (t_X5_told b0 (h0) l2 (6 : Int32) I) rfl (fun r1 I1 => ?_)
    refine Ey.if_eq (M := mX5_soonest) (tgt := 26) (pc2 := 23) dX5_soonest_20 rfl (fun _ => ?_) rfl (fun _ => ?_)
    · refine Ex.iload_n (M := mX5_soonest) (pc2 := 27) dX5_soonest_26 rfl rfl rfl ?_
      refine Ex.bipush (M := mX5_soonest) (pc2 := 29) dX5_soonest_27 kb_m5 rfl ?_
      refine Ey.icmp_eq (M := mX5_soonest) (tgt := 47) (pc2 := 32) dX5_soonest_29 rfl (fun _ => ?_) rfl (fun _ => ?_)
      · refine Ex.iload_n (M := mX5_soonest) (pc2 := 48) dX5_soonest_47 rfl rfl rfl ?_
        refine Ey.istore_n (M := mX5_soonest) (pc2 := 49) dX5_soonest_48 rfl (Nat.le_of_ble_eq_true rfl) rfl rfl ?_
        refine Ey.iinc (M := mX5_soonest) (pc2 := 52) dX5_soonest_49 rfl ki_1 (Nat.le_of_ble_eq_true rfl) rfl rfl ?_
        refine Ex.goto (M := mX5_soonest) (tgt := 5) dX5_soonest_52 rfl ?_
        exact hk5 _ _ _
      · refine Ex.aload_n (M := mX5_soonest) (pc2 := 33) dX5_soonest_32 rfl rfl rfl ?_
        refine Ex.iload_n (M := mX5_soonest) (pc2 := 34) dX5_soonest_33 rfl rfl rfl ?_
        refine Ex.iconst (M := mX5_soonest) (pc2 := 35) dX5_soonest_34 ki_5 rfl ?_
        refine Ey.callVi (M := mX5_soonest) (pc2 := 38) (as := [.inl l2, .inl (5 : Int32)]) (rest := []) rfl dX5_soonest_35 isX5_told lcX5_60 (h0).s0 rfl rfl ⟨(Nat.le_of_ble_eq_true rfl), (Nat.le_of_ble_eq_true rfl)⟩ rfl (Nat.le_of_ble_eq_true rfl) (Nat.le_of_ble_eq_true rfl) (t_X5_told b0 (h0) l2 (5 : Int32) I1) rfl (fun r2 I2 => ?_)
        refine Ex.aload_n (M := mX5_soonest) (pc2 := 39) dX5_soonest_38 rfl rfl rfl ?_
        refine Ex.iload_n (M := mX5_soonest) (pc2 := 40) dX5_soonest_39 rfl rfl rfl ?_
        refine Ex.iconst (M := mX5_soonest) (pc2 := 41) dX5_soonest_40 ki_5 rfl ?_
        refine Ey.callVi (M := mX5_soonest) (pc2 := 44) (as := [.inl l1, .inl (5 : Int32)]) (rest := [.inl r2]) rfl dX5_soonest_41 isX5_told lcX5_60 (h0).s0 rfl rfl ⟨(Nat.le_of_ble_eq_true rfl), (Nat.le_of_ble_eq_true rfl)⟩ rfl (Nat.le_of_ble_eq_true rfl) (Nat.le_of_ble_eq_true rfl) (t_X5_told b0 (h0) l1 (5 : Int32) I2) rfl (fun r3 I3 => ?_)
        refine Ey.icmp_ge (M := mX5_soonest) (tgt := 49) (pc2 := 47) dX5_soonest_44 rfl (fun _ => ?_) rfl (fun _ => ?_)
        · refine Ey.iinc (M := mX5_soonest) (pc2 := 52) dX5_soonest_49 rfl ki_1 (Nat.le_of_ble_eq_true rfl) rfl rfl ?_
          refine Ex.goto (M := mX5_soonest) (tgt := 5) dX5_soonest_52 rfl ?_
          exact hk5 _ _ _
        · refine Ex.iload_n (M := mX5_soonest) (pc2 := 48) dX5_soonest_47 rfl rfl rfl ?_
          refine Ey.istore_n (M := mX5_soonest) (pc2 := 49) dX5_soonest_48 rfl (Nat.le_of_ble_eq_true rfl) rfl rfl ?_
          refine Ey.iinc (M := mX5_soonest) (pc2 := 52) dX5_soonest_49 rfl ki_1 (Nat.le_of_ble_eq_true rfl) rfl rfl ?_
          refine Ex.goto (M := mX5_soonest) (tgt := 5) dX5_soonest_52 rfl ?_
          exact hk5 _ _ _
    · refine Ex.goto (M := mX5_soonest) (tgt := 49) dX5_soonest_23 rfl ?_
      refine Ey.iinc (M := mX5_soonest) (pc2 := 52) dX5_soonest_49 rfl ki_1 (Nat.le_of_ble_eq_true rfl) rfl rfl ?_
      refine Ex.goto (M := mX5_soonest) (tgt := 5) dX5_soonest_52 rfl ?_
      exact hk5 _ _ _
def f_X5_soonest_5 (b0 : Nat) : Nat → Int32 → Int32 → xI → Option (Int32 × xI)
  | 0, _, _, _ => none
  | n + 1, l1, l2, I => f_X5_soonest_5b b0 (fun l1 l2 I => f_X5_soonest_5 b0 n l1 l2 I) l1 l2 I
theorem t_X5_soonest_5 (b0 : Nat) (h0 : xSt b0) : ∀ (n : Nat) (l1 : Int32) (l2 : Int32) (I : xI), Ey none mX5_soonest 5 [some (.inr (some b0)), some (.inl l1), some (.inl l2)] [] I (f_X5_soonest_5 b0 n l1 l2 I)
  | 0, l1, l2, I => Ey.nil
  | n + 1, l1, l2, I => t_X5_soonest_5b b0 h0 (fun l1 l2 I => f_X5_soonest_5 b0 n l1 l2 I) (fun l1 l2 I => t_X5_soonest_5 b0 h0 n l1 l2 I) l1 l2 I
def f_X5_soonest (b0 : Nat) (I : xI) : Option (Int32 × xI) :=
  f_X5_soonest_5 b0 xZ (-5 : Int32) (0 : Int32) I
theorem t_X5_soonest (b0 : Nat) (h0 : xSt b0) (I : xI) : Ey none mX5_soonest 0 [some (.inr (some b0)), none, none] [] I (f_X5_soonest b0 I) := by
  unfold f_X5_soonest
  refine Ex.bipush (M := mX5_soonest) (pc2 := 2) dX5_soonest_0 kb_m5 rfl ?_
  refine Ey.istore_n (M := mX5_soonest) (pc2 := 3) dX5_soonest_2 rfl (Nat.le_of_ble_eq_true rfl) rfl rfl ?_
  refine Ex.iconst (M := mX5_soonest) (pc2 := 4) dX5_soonest_3 ki_0 rfl ?_
  refine Ey.istore_n (M := mX5_soonest) (pc2 := 5) dX5_soonest_4 rfl (Nat.le_of_ble_eq_true rfl) rfl rfl ?_
  exact t_X5_soonest_5 b0 h0 xZ _ _ _
/-! FenceDuel$State.haveCrossed(II)Z -/
def f_X5_haveCrossed (b0 : Nat) (l1 : Int32) (l2 : Int32) (I : xI) : Option (Int32 × xI) :=
  xb (f_X5_told b0 l1 (0 : Int32) I) (fun r1 I1 => xb (f_X5_told b0 l2 (0 : Int32) I1) (fun r2 I2 => if r1 ≠ r2 then xb (f_X5_told b0 l1 (6 : Int32) I2) (fun r3 I3 => if r3 = (3 : Int32) then some ((0 : Int32), I3) else xb (f_X5_told b0 l2 (6 : Int32) I3) (fun r4 I4 => if r4 ≠ (3 : Int32) then xb (f_X5_told b0 l1 (4 : Int32) I4) (fun r5 I5 => xb (f_X5_told b0 l2 (5 : Int32) I5) (fun r6 I6 => if r5 ≥ r6 then some ((0 : Int32), I6) else xb (f_X5_told b0 l2 (4 : Int32) I6) (fun r7 I7 => xb (f_X5_told b0 l1 (5 : Int32) I7) (fun r8 I8 => if r7 ≥ r8 then some ((0 : Int32), I8) else some ((1 : Int32), I8))))) else some ((0 : Int32), I4))) else some ((0 : Int32), I2)))
theorem t_X5_haveCrossed (b0 : Nat) (h0 : xSt b0) (l1 : Int32) (l2 : Int32) (I : xI) : Ey none mX5_haveCrossed 0 [some (.inr (some b0)), some (.inl l1), some (.inl l2)] [] I (f_X5_haveCrossed b0 l1 l2 I) := by
  unfold f_X5_haveCrossed
  refine Ex.aload_n (M := mX5_haveCrossed) (pc2 := 1) dX5_haveCrossed_0 rfl rfl rfl ?_
  refine Ex.iload_n (M := mX5_haveCrossed) (pc2 := 2) dX5_haveCrossed_1 rfl rfl rfl ?_
  refine Ex.iconst (M := mX5_haveCrossed) (pc2 := 3) dX5_haveCrossed_2 ki_0 rfl ?_
  refine Ey.callVi (M := mX5_haveCrossed) (pc2 := 6) (as := [.inl l1, .inl (0 : Int32)]) (rest := []) rfl dX5_haveCrossed_3 isX5_told lcX5_60 (h0).s0 rfl rfl ⟨(Nat.le_of_ble_eq_true rfl), (Nat.le_of_ble_eq_true rfl)⟩ rfl (Nat.le_of_ble_eq_true rfl) (Nat.le_of_ble_eq_true rfl) (t_X5_told b0 (h0) l1 (0 : Int32) I) rfl (fun r1 I1 => ?_)
  refine Ex.aload_n (M := mX5_haveCrossed) (pc2 := 7) dX5_haveCrossed_6 rfl rfl rfl ?_
  refine Ex.iload_n (M := mX5_haveCrossed) (pc2 := 8) dX5_haveCrossed_7 rfl rfl rfl ?_
  refine Ex.iconst (M := mX5_haveCrossed) (pc2 := 9) dX5_haveCrossed_8 ki_0 rfl ?_
  refine Ey.callVi (M := mX5_haveCrossed) (pc2 := 12) (as := [.inl l2, .inl (0 : Int32)]) (rest := [.inl r1]) rfl dX5_haveCrossed_9 isX5_told lcX5_60 (h0).s0 rfl rfl ⟨(Nat.le_of_ble_eq_true rfl), (Nat.le_of_ble_eq_true rfl)⟩ rfl (Nat.le_of_ble_eq_true rfl) (Nat.le_of_ble_eq_true rfl) (t_X5_told b0 (h0) l2 (0 : Int32) I1) rfl (fun r2 I2 => ?_)
  refine Ey.icmp_ne (M := mX5_haveCrossed) (tgt := 17) (pc2 := 15) dX5_haveCrossed_12 rfl (fun _ => ?_) rfl (fun _ => ?_)
  · refine Ex.aload_n (M := mX5_haveCrossed) (pc2 := 18) dX5_haveCrossed_17 rfl rfl rfl ?_
    refine Ex.iload_n (M := mX5_haveCrossed) (pc2 := 19) dX5_haveCrossed_18 rfl rfl rfl ?_
    refine Ex.bipush (M := mX5_haveCrossed) (pc2 := 21) dX5_haveCrossed_19 kb_6 rfl ?_
    refine Ey.callVi (M := mX5_haveCrossed) (pc2 := 24) (as := [.inl l1, .inl (6 : Int32)]) (rest := []) rfl dX5_haveCrossed_21 isX5_told lcX5_60 (h0).s0 rfl rfl ⟨(Nat.le_of_ble_eq_true rfl), (Nat.le_of_ble_eq_true rfl)⟩ rfl (Nat.le_of_ble_eq_true rfl) (Nat.le_of_ble_eq_true rfl) (t_X5_told b0 (h0) l1 (6 : Int32) I2) rfl (fun r3 I3 => ?_)
    refine Ex.iconst (M := mX5_haveCrossed) (pc2 := 25) dX5_haveCrossed_24 ki_3 rfl ?_
    refine Ey.icmp_eq (M := mX5_haveCrossed) (tgt := 39) (pc2 := 28) dX5_haveCrossed_25 rfl (fun _ => ?_) rfl (fun _ => ?_)
    · refine Ex.iconst (M := mX5_haveCrossed) (pc2 := 40) dX5_haveCrossed_39 ki_0 rfl ?_
      exact Ey.ireturn (M := mX5_haveCrossed) dX5_haveCrossed_40 rfl (by decide)
    · refine Ex.aload_n (M := mX5_haveCrossed) (pc2 := 29) dX5_haveCrossed_28 rfl rfl rfl ?_
      refine Ex.iload_n (M := mX5_haveCrossed) (pc2 := 30) dX5_haveCrossed_29 rfl rfl rfl ?_
      refine Ex.bipush (M := mX5_haveCrossed) (pc2 := 32) dX5_haveCrossed_30 kb_6 rfl ?_
      refine Ey.callVi (M := mX5_haveCrossed) (pc2 := 35) (as := [.inl l2, .inl (6 : Int32)]) (rest := []) rfl dX5_haveCrossed_32 isX5_told lcX5_60 (h0).s0 rfl rfl ⟨(Nat.le_of_ble_eq_true rfl), (Nat.le_of_ble_eq_true rfl)⟩ rfl (Nat.le_of_ble_eq_true rfl) (Nat.le_of_ble_eq_true rfl) (t_X5_told b0 (h0) l2 (6 : Int32) I3) rfl (fun r4 I4 => ?_)
      refine Ex.iconst (M := mX5_haveCrossed) (pc2 := 36) dX5_haveCrossed_35 ki_3 rfl ?_
      refine Ey.icmp_ne (M := mX5_haveCrossed) (tgt := 41) (pc2 := 39) dX5_haveCrossed_36 rfl (fun _ => ?_) rfl (fun _ => ?_)
      · refine Ex.aload_n (M := mX5_haveCrossed) (pc2 := 42) dX5_haveCrossed_41 rfl rfl rfl ?_
        refine Ex.iload_n (M := mX5_haveCrossed) (pc2 := 43) dX5_haveCrossed_42 rfl rfl rfl ?_
        refine Ex.iconst (M := mX5_haveCrossed) (pc2 := 44) dX5_haveCrossed_43 ki_4 rfl ?_
        refine Ey.callVi (M := mX5_haveCrossed) (pc2 := 47) (as := [.inl l1, .inl (4 : Int32)]) (rest := []) rfl dX5_haveCrossed_44 isX5_told lcX5_60 (h0).s0 rfl rfl ⟨(Nat.le_of_ble_eq_true rfl), (Nat.le_of_ble_eq_true rfl)⟩ rfl (Nat.le_of_ble_eq_true rfl) (Nat.le_of_ble_eq_true rfl) (t_X5_told b0 (h0) l1 (4 : Int32) I4) rfl (fun r5 I5 => ?_)
        refine Ex.aload_n (M := mX5_haveCrossed) (pc2 := 48) dX5_haveCrossed_47 rfl rfl rfl ?_
        refine Ex.iload_n (M := mX5_haveCrossed) (pc2 := 49) dX5_haveCrossed_48 rfl rfl rfl ?_
        refine Ex.iconst (M := mX5_haveCrossed) (pc2 := 50) dX5_haveCrossed_49 ki_5 rfl ?_
        refine Ey.callVi (M := mX5_haveCrossed) (pc2 := 53) (as := [.inl l2, .inl (5 : Int32)]) (rest := [.inl r5]) rfl dX5_haveCrossed_50 isX5_told lcX5_60 (h0).s0 rfl rfl ⟨(Nat.le_of_ble_eq_true rfl), (Nat.le_of_ble_eq_true rfl)⟩ rfl (Nat.le_of_ble_eq_true rfl) (Nat.le_of_ble_eq_true rfl) (t_X5_told b0 (h0) l2 (5 : Int32) I5) rfl (fun r6 I6 => ?_)
        refine Ey.icmp_ge (M := mX5_haveCrossed) (tgt := 75) (pc2 := 56) dX5_haveCrossed_53 rfl (fun _ => ?_) rfl (fun _ => ?_)
        · refine Ex.iconst (M := mX5_haveCrossed) (pc2 := 76) dX5_haveCrossed_75 ki_0 rfl ?_
          exact Ey.ireturn (M := mX5_haveCrossed) dX5_haveCrossed_76 rfl (by decide)
        · refine Ex.aload_n (M := mX5_haveCrossed) (pc2 := 57) dX5_haveCrossed_56 rfl rfl rfl ?_
          refine Ex.iload_n (M := mX5_haveCrossed) (pc2 := 58) dX5_haveCrossed_57 rfl rfl rfl ?_
          refine Ex.iconst (M := mX5_haveCrossed) (pc2 := 59) dX5_haveCrossed_58 ki_4 rfl ?_
          refine Ey.callVi (M := mX5_haveCrossed) (pc2 := 62) (as := [.inl l2, .inl (4 : Int32)]) (rest := []) rfl dX5_haveCrossed_59 isX5_told lcX5_60 (h0).s0 rfl rfl ⟨(Nat.le_of_ble_eq_true rfl), (Nat.le_of_ble_eq_true rfl)⟩ rfl (Nat.le_of_ble_eq_true rfl) (Nat.le_of_ble_eq_true rfl) (t_X5_told b0 (h0) l2 (4 : Int32) I6) rfl (fun r7 I7 => ?_)
          refine Ex.aload_n (M := mX5_haveCrossed) (pc2 := 63) dX5_haveCrossed_62 rfl rfl rfl ?_
          refine Ex.iload_n (M := mX5_haveCrossed) (pc2 := 64) dX5_haveCrossed_63 rfl rfl rfl ?_
          refine Ex.iconst (M := mX5_haveCrossed) (pc2 := 65) dX5_haveCrossed_64 ki_5 rfl ?_
          refine Ey.callVi (M := mX5_haveCrossed) (pc2 := 68) (as := [.inl l1, .inl (5 : Int32)]) (rest := [.inl r7]) rfl dX5_haveCrossed_65 isX5_told lcX5_60 (h0).s0 rfl rfl ⟨(Nat.le_of_ble_eq_true rfl), (Nat.le_of_ble_eq_true rfl)⟩ rfl (Nat.le_of_ble_eq_true rfl) (Nat.le_of_ble_eq_true rfl) (t_X5_told b0 (h0) l1 (5 : Int32) I7) rfl (fun r8 I8 => ?_)
          refine Ey.icmp_ge (M := mX5_haveCrossed) (tgt := 75) (pc2 := 71) dX5_haveCrossed_68 rfl (fun _ => ?_) rfl (fun _ => ?_)
          · refine Ex.iconst (M := mX5_haveCrossed) (pc2 := 76) dX5_haveCrossed_75 ki_0 rfl ?_
            exact Ey.ireturn (M := mX5_haveCrossed) dX5_haveCrossed_76 rfl (by decide)
          · refine Ex.iconst (M := mX5_haveCrossed) (pc2 := 72) dX5_haveCrossed_71 ki_1 rfl ?_
            refine Ex.goto (M := mX5_haveCrossed) (tgt := 76) dX5_haveCrossed_72 rfl ?_
            exact Ey.ireturn (M := mX5_haveCrossed) dX5_haveCrossed_76 rfl (by decide)
      · refine Ex.iconst (M := mX5_haveCrossed) (pc2 := 40) dX5_haveCrossed_39 ki_0 rfl ?_
        exact Ey.ireturn (M := mX5_haveCrossed) dX5_haveCrossed_40 rfl (by decide)
  · refine Ex.iconst (M := mX5_haveCrossed) (pc2 := 16) dX5_haveCrossed_15 ki_0 rfl ?_
    exact Ey.ireturn (M := mX5_haveCrossed) dX5_haveCrossed_16 rfl (by decide)
/-! FenceDuel$State.mark(III)V -/
def f_X5_mark (b0 : Nat) (l1 : Int32) (l2 : Int32) (l3 : Int32) (I : xI) : Option (Int32 × xI) :=
  xb (f_X5_hasLetter b0 l1 I) (fun r1 I1 => if r1 = 0 then some (0, I1) else if l2 < 0 then some (0, I1) else if l2 ≥ (10 : Int32) then some (0, I1) else if xin ((l1 * (10 : Int32)) + l2) 600 then some (0, (xup I1 (b0 + 5) (((l1 * (10 : Int32)) + l2).toNatClampNeg) l3)) else none)
theorem t_X5_mark (b0 : Nat) (h0 : xSt b0) (l1 : Int32) (l2 : Int32) (l3 : Int32) (I : xI) : Ey none mX5_mark 0 [some (.inr (some b0)), some (.inl l1), some (.inl l2), some (.inl l3)] [] I (f_X5_mark b0 l1 l2 l3 I) := by
  unfold f_X5_mark
  refine Ex.aload_n (M := mX5_mark) (pc2 := 1) dX5_mark_0 rfl rfl rfl ?_
  refine Ex.iload_n (M := mX5_mark) (pc2 := 2) dX5_mark_1 rfl rfl rfl ?_
  refine Ey.callVi (M := mX5_mark) (pc2 := 5) (as := [.inl l1]) (rest := []) rfl dX5_mark_2 isX5_hasLetter lcX5_52 (h0).s0 rfl rfl ⟨(Nat.le_of_ble_eq_true rfl), (Nat.le_of_ble_eq_true rfl)⟩ rfl (Nat.le_of_ble_eq_true rfl) (Nat.le_of_ble_eq_true rfl) (t_X5_hasLetter b0 (h0) l1 I) rfl (fun r1 I1 => ?_)
  refine Ey.if_eq (M := mX5_mark) (tgt := 30) (pc2 := 8) dX5_mark_5 rfl (fun _ => ?_) rfl (fun _ => ?_)
  · exact Ey.ret (M := mX5_mark) dX5_mark_30 rfl
  · refine Ex.iload_n (M := mX5_mark) (pc2 := 9) dX5_mark_8 rfl rfl rfl ?_
    refine Ey.if_lt (M := mX5_mark) (tgt := 30) (pc2 := 12) dX5_mark_9 rfl (fun _ => ?_) rfl (fun _ => ?_)
    · exact Ey.ret (M := mX5_mark) dX5_mark_30 rfl
    · refine Ex.iload_n (M := mX5_mark) (pc2 := 13) dX5_mark_12 rfl rfl rfl ?_
      refine Ex.bipush (M := mX5_mark) (pc2 := 15) dX5_mark_13 kb_10 rfl ?_
      refine Ey.icmp_ge (M := mX5_mark) (tgt := 30) (pc2 := 18) dX5_mark_15 rfl (fun _ => ?_) rfl (fun _ => ?_)
      · exact Ey.ret (M := mX5_mark) dX5_mark_30 rfl
      · refine Ex.aload_n (M := mX5_mark) (pc2 := 19) dX5_mark_18 rfl rfl rfl ?_
        refine Ex.getR (M := mX5_mark) (pc2 := 22) dX5_mark_19 xck5 lfX5_28 (Nat.le_of_ble_eq_true rfl) (h0).s0 rfl (h0).f8 rfl ?_
        refine Ex.iload_n (M := mX5_mark) (pc2 := 23) dX5_mark_22 rfl rfl rfl ?_
        refine Ex.bipush (M := mX5_mark) (pc2 := 25) dX5_mark_23 kb_10 rfl ?_
        refine Ex.imul (M := mX5_mark) (pc2 := 26) dX5_mark_25 rfl ?_
        refine Ex.iload_n (M := mX5_mark) (pc2 := 27) dX5_mark_26 rfl rfl rfl ?_
        refine Ex.iadd (M := mX5_mark) (pc2 := 28) dX5_mark_27 rfl ?_
        refine Ex.iload_n (M := mX5_mark) (pc2 := 29) dX5_mark_28 rfl rfl rfl ?_
        refine Ey.guard (fun hz2 => ?_)
        refine Ey.iastore (M := mX5_mark) (pc2 := 30) dX5_mark_29 (h0).s5 rfl hz2 rfl ?_
        exact Ey.ret (M := mX5_mark) dX5_mark_30 rfl
/-! FenceDuel$State.enterTurn(I)I -/
def f_X5_enterTurn_45 (b0 : Nat) (l1 : Int32) (I : xI) : Option (Int32 × xI) :=
  xb (f_X5_mark b0 l1 (8 : Int32) ((xup (xup I b0 2 ((I b0 2) + (1 : Int32))) b0 3 l1) b0 2) (xup (xup I b0 2 ((I b0 2) + (1 : Int32))) b0 3 l1)) (fun _ I1 => some ((-5 : Int32), I1))
theorem t_X5_enterTurn_45 (b0 : Nat) (h0 : xSt b0) (l1 : Int32) (d2 : Option xV) (I : xI) : Ey none mX5_enterTurn 45 [some (.inr (some b0)), some (.inl l1), d2] [] I (f_X5_enterTurn_45 b0 l1 I) := by
  unfold f_X5_enterTurn_45
  refine Ex.bipush (M := mX5_enterTurn) (pc2 := 47) dX5_enterTurn_45 kb_m5 rfl ?_
  refine Ey.istore_n (M := mX5_enterTurn) (pc2 := 48) dX5_enterTurn_47 rfl (Nat.le_of_ble_eq_true rfl) rfl rfl ?_
  refine Ex.aload_n (M := mX5_enterTurn) (pc2 := 49) dX5_enterTurn_48 rfl rfl rfl ?_
  refine Ex.dup (M := mX5_enterTurn) (pc2 := 50) dX5_enterTurn_49 rfl ?_
  refine Ex.getI (M := mX5_enterTurn) (pc2 := 53) dX5_enterTurn_50 xck5 lfX5_43 (Nat.le_of_ble_eq_true rfl) (h0).s0 rfl rfl ?_
  refine Ex.iconst (M := mX5_enterTurn) (pc2 := 54) dX5_enterTurn_53 ki_1 rfl ?_
  refine Ex.iadd (M := mX5_enterTurn) (pc2 := 55) dX5_enterTurn_54 rfl ?_
  refine Ex.putI (M := mX5_enterTurn) (pc2 := 58) dX5_enterTurn_55 xck5 lfX5_43 (Nat.le_of_ble_eq_true rfl) (h0).s0 rfl rfl ⟨rfl, rfl⟩ rfl ?_
  refine Ex.aload_n (M := mX5_enterTurn) (pc2 := 59) dX5_enterTurn_58 rfl rfl rfl ?_
  refine Ex.iload_n (M := mX5_enterTurn) (pc2 := 60) dX5_enterTurn_59 rfl rfl rfl ?_
  refine Ex.putI (M := mX5_enterTurn) (pc2 := 63) dX5_enterTurn_60 xck5 lfX5_9 (Nat.le_of_ble_eq_true rfl) (h0).s0 rfl rfl ⟨rfl, rfl⟩ rfl ?_
  refine Ex.aload_n (M := mX5_enterTurn) (pc2 := 64) dX5_enterTurn_63 rfl rfl rfl ?_
  refine Ex.iload_n (M := mX5_enterTurn) (pc2 := 65) dX5_enterTurn_64 rfl rfl rfl ?_
  refine Ex.bipush (M := mX5_enterTurn) (pc2 := 67) dX5_enterTurn_65 kb_8 rfl ?_
  refine Ex.aload_n (M := mX5_enterTurn) (pc2 := 68) dX5_enterTurn_67 rfl rfl rfl ?_
  refine Ex.getI (M := mX5_enterTurn) (pc2 := 71) dX5_enterTurn_68 xck5 lfX5_43 (Nat.le_of_ble_eq_true rfl) (h0).s0 rfl rfl ?_
  refine Ey.callVv (M := mX5_enterTurn) (pc2 := 74) (as := [.inl l1, .inl (8 : Int32), .inl ((xup (xup I b0 2 ((I b0 2) + (1 : Int32))) b0 3 l1) b0 2)]) (rest := []) rfl dX5_enterTurn_71 isX5_mark lcX5_56 (h0).s0 rfl rfl ⟨(Nat.le_of_ble_eq_true rfl), (Nat.le_of_ble_eq_true rfl)⟩ rfl (Nat.le_of_ble_eq_true rfl) (Nat.le_of_ble_eq_true rfl) (t_X5_mark b0 (h0) l1 (8 : Int32) ((xup (xup I b0 2 ((I b0 2) + (1 : Int32))) b0 3 l1) b0 2) (xup (xup I b0 2 ((I b0 2) + (1 : Int32))) b0 3 l1)) rfl (fun I1 => ?_)
  refine Ex.iload_n (M := mX5_enterTurn) (pc2 := 75) dX5_enterTurn_74 rfl rfl rfl ?_
  exact Ey.ireturn (M := mX5_enterTurn) dX5_enterTurn_75 rfl rfl
def f_X5_enterTurn (b0 : Nat) (l1 : Int32) (I : xI) : Option (Int32 × xI) :=
  if (I b0 3) = (-5 : Int32) then f_X5_enterTurn_45 b0 l1 I else xb (f_X5_haveCrossed b0 (I b0 3) l1 I) (fun r2 I2 => if r2 = 0 then f_X5_enterTurn_45 b0 l1 I2 else xb (f_X5_mark b0 (I b0 3) (9 : Int32) l1 I2) (fun _ I3 => xb (f_X5_mark b0 l1 (9 : Int32) (I b0 3) I3) (fun _ I4 => xb (f_X5_mark b0 l1 (8 : Int32) ((xup I4 b0 3 (-5 : Int32)) b0 2) (xup I4 b0 3 (-5 : Int32))) (fun _ I5 => some ((I b0 3), I5)))))
theorem t_X5_enterTurn (b0 : Nat) (h0 : xSt b0) (l1 : Int32) (I : xI) : Ey none mX5_enterTurn 0 [some (.inr (some b0)), some (.inl l1), none] [] I (f_X5_enterTurn b0 l1 I) := by
  unfold f_X5_enterTurn
  refine Ex.aload_n (M := mX5_enterTurn) (pc2 := 1) dX5_enterTurn_0 rfl rfl rfl ?_
  refine Ex.getI (M := mX5_enterTurn) (pc2 := 4) dX5_enterTurn_1 xck5 lfX5_9 (Nat.le_of_ble_eq_true rfl) (h0).s0 rfl rfl ?_
  refine Ey.istore_n (M := mX5_enterTurn) (pc2 := 5) dX5_enterTurn_4 rfl (Nat.le_of_ble_eq_true rfl) rfl rfl ?_
  refine Ex.iload_n (M := mX5_enterTurn) (pc2 := 6) dX5_enterTurn_5 rfl rfl rfl ?_
  refine Ex.bipush (M := mX5_enterTurn) (pc2 := 8) dX5_enterTurn_6 kb_m5 rfl ?_
  refine Ey.icmp_eq (M := mX5_enterTurn) (tgt := 45) (pc2 := 11) dX5_enterTurn_8 rfl (fun _ => ?_) rfl (fun _ => ?_)
  · exact t_X5_enterTurn_45 b0 h0 _ _ _
  · refine Ex.aload_n (M := mX5_enterTurn) (pc2 := 12) dX5_enterTurn_11 rfl rfl rfl ?_
    refine Ex.iload_n (M := mX5_enterTurn) (pc2 := 13) dX5_enterTurn_12 rfl rfl rfl ?_
    refine Ex.iload_n (M := mX5_enterTurn) (pc2 := 14) dX5_enterTurn_13 rfl rfl rfl ?_
    refine Ey.callVi (M := mX5_enterTurn) (pc2 := 17) (as := [.inl (I b0 3), .inl l1]) (rest := []) rfl dX5_enterTurn_14 isX5_haveCrossed lcX5_64 (h0).s0 rfl rfl ⟨(Nat.le_of_ble_eq_true rfl), (Nat.le_of_ble_eq_true rfl)⟩ rfl (Nat.le_of_ble_eq_true rfl) (Nat.le_of_ble_eq_true rfl) (t_X5_haveCrossed b0 (h0) (I b0 3) l1 I) rfl (fun r2 I2 => ?_)
    refine Ey.if_eq (M := mX5_enterTurn) (tgt := 45) (pc2 := 20) dX5_enterTurn_17 rfl (fun _ => ?_) rfl (fun _ => ?_)
    · exact t_X5_enterTurn_45 b0 h0 _ _ _
    · refine Ex.aload_n (M := mX5_enterTurn) (pc2 := 21) dX5_enterTurn_20 rfl rfl rfl ?_
      refine Ex.iload_n (M := mX5_enterTurn) (pc2 := 22) dX5_enterTurn_21 rfl rfl rfl ?_
      refine Ex.bipush (M := mX5_enterTurn) (pc2 := 24) dX5_enterTurn_22 kb_9 rfl ?_
      refine Ex.iload_n (M := mX5_enterTurn) (pc2 := 25) dX5_enterTurn_24 rfl rfl rfl ?_
      refine Ey.callVv (M := mX5_enterTurn) (pc2 := 28) (as := [.inl (I b0 3), .inl (9 : Int32), .inl l1]) (rest := []) rfl dX5_enterTurn_25 isX5_mark lcX5_56 (h0).s0 rfl rfl ⟨(Nat.le_of_ble_eq_true rfl), (Nat.le_of_ble_eq_true rfl)⟩ rfl (Nat.le_of_ble_eq_true rfl) (Nat.le_of_ble_eq_true rfl) (t_X5_mark b0 (h0) (I b0 3) (9 : Int32) l1 I2) rfl (fun I3 => ?_)
      refine Ex.aload_n (M := mX5_enterTurn) (pc2 := 29) dX5_enterTurn_28 rfl rfl rfl ?_
      refine Ex.iload_n (M := mX5_enterTurn) (pc2 := 30) dX5_enterTurn_29 rfl rfl rfl ?_
      refine Ex.bipush (M := mX5_enterTurn) (pc2 := 32) dX5_enterTurn_30 kb_9 rfl ?_
      refine Ex.iload_n (M := mX5_enterTurn) (pc2 := 33) dX5_enterTurn_32 rfl rfl rfl ?_
      refine Ey.callVv (M := mX5_enterTurn) (pc2 := 36) (as := [.inl l1, .inl (9 : Int32), .inl (I b0 3)]) (rest := []) rfl dX5_enterTurn_33 isX5_mark lcX5_56 (h0).s0 rfl rfl ⟨(Nat.le_of_ble_eq_true rfl), (Nat.le_of_ble_eq_true rfl)⟩ rfl (Nat.le_of_ble_eq_true rfl) (Nat.le_of_ble_eq_true rfl) (t_X5_mark b0 (h0) l1 (9 : Int32) (I b0 3) I3) rfl (fun I4 => ?_)
      refine Ex.aload_n (M := mX5_enterTurn) (pc2 := 37) dX5_enterTurn_36 rfl rfl rfl ?_
      refine Ex.bipush (M := mX5_enterTurn) (pc2 := 39) dX5_enterTurn_37 kb_m5 rfl ?_
      refine Ex.putI (M := mX5_enterTurn) (pc2 := 42) dX5_enterTurn_39 xck5 lfX5_9 (Nat.le_of_ble_eq_true rfl) (h0).s0 rfl rfl ⟨rfl, rfl⟩ rfl ?_
      refine Ex.goto (M := mX5_enterTurn) (tgt := 63) dX5_enterTurn_42 rfl ?_
      refine Ex.aload_n (M := mX5_enterTurn) (pc2 := 64) dX5_enterTurn_63 rfl rfl rfl ?_
      refine Ex.iload_n (M := mX5_enterTurn) (pc2 := 65) dX5_enterTurn_64 rfl rfl rfl ?_
      refine Ex.bipush (M := mX5_enterTurn) (pc2 := 67) dX5_enterTurn_65 kb_8 rfl ?_
      refine Ex.aload_n (M := mX5_enterTurn) (pc2 := 68) dX5_enterTurn_67 rfl rfl rfl ?_
      refine Ex.getI (M := mX5_enterTurn) (pc2 := 71) dX5_enterTurn_68 xck5 lfX5_43 (Nat.le_of_ble_eq_true rfl) (h0).s0 rfl rfl ?_
      refine Ey.callVv (M := mX5_enterTurn) (pc2 := 74) (as := [.inl l1, .inl (8 : Int32), .inl ((xup I4 b0 3 (-5 : Int32)) b0 2)]) (rest := []) rfl dX5_enterTurn_71 isX5_mark lcX5_56 (h0).s0 rfl rfl ⟨(Nat.le_of_ble_eq_true rfl), (Nat.le_of_ble_eq_true rfl)⟩ rfl (Nat.le_of_ble_eq_true rfl) (Nat.le_of_ble_eq_true rfl) (t_X5_mark b0 (h0) l1 (8 : Int32) ((xup I4 b0 3 (-5 : Int32)) b0 2) (xup I4 b0 3 (-5 : Int32))) rfl (fun I5 => ?_)
      refine Ex.iload_n (M := mX5_enterTurn) (pc2 := 75) dX5_enterTurn_74 rfl rfl rfl ?_
      exact Ey.ireturn (M := mX5_enterTurn) dX5_enterTurn_75 rfl rfl
/-! FenceDuel$State.wasDone(II)Z -/
def f_X5_wasDone (b0 : Nat) (l1 : Int32) (l2 : Int32) (I : xI) : Option (Int32 × xI) :=
  xb (f_X5_told b0 l1 (6 : Int32) I) (fun r1 I1 => if r1 ≠ (1 : Int32) then some ((0 : Int32), I1) else xb (f_X5_told b0 l1 (1 : Int32) I1) (fun r2 I2 => if r2 ≠ l2 then some ((0 : Int32), I2) else some ((1 : Int32), I2)))
theorem t_X5_wasDone (b0 : Nat) (h0 : xSt b0) (l1 : Int32) (l2 : Int32) (I : xI) : Ey none mX5_wasDone 0 [some (.inr (some b0)), some (.inl l1), some (.inl l2)] [] I (f_X5_wasDone b0 l1 l2 I) := by
  unfold f_X5_wasDone
  refine Ex.aload_n (M := mX5_wasDone) (pc2 := 1) dX5_wasDone_0 rfl rfl rfl ?_
  refine Ex.iload_n (M := mX5_wasDone) (pc2 := 2) dX5_wasDone_1 rfl rfl rfl ?_
  refine Ex.bipush (M := mX5_wasDone) (pc2 := 4) dX5_wasDone_2 kb_6 rfl ?_
  refine Ey.callVi (M := mX5_wasDone) (pc2 := 7) (as := [.inl l1, .inl (6 : Int32)]) (rest := []) rfl dX5_wasDone_4 isX5_told lcX5_60 (h0).s0 rfl rfl ⟨(Nat.le_of_ble_eq_true rfl), (Nat.le_of_ble_eq_true rfl)⟩ rfl (Nat.le_of_ble_eq_true rfl) (Nat.le_of_ble_eq_true rfl) (t_X5_told b0 (h0) l1 (6 : Int32) I) rfl (fun r1 I1 => ?_)
  refine Ex.iconst (M := mX5_wasDone) (pc2 := 8) dX5_wasDone_7 ki_1 rfl ?_
  refine Ey.icmp_ne (M := mX5_wasDone) (tgt := 25) (pc2 := 11) dX5_wasDone_8 rfl (fun _ => ?_) rfl (fun _ => ?_)
  · refine Ex.iconst (M := mX5_wasDone) (pc2 := 26) dX5_wasDone_25 ki_0 rfl ?_
    exact Ey.ireturn (M := mX5_wasDone) dX5_wasDone_26 rfl (by decide)
  · refine Ex.aload_n (M := mX5_wasDone) (pc2 := 12) dX5_wasDone_11 rfl rfl rfl ?_
    refine Ex.iload_n (M := mX5_wasDone) (pc2 := 13) dX5_wasDone_12 rfl rfl rfl ?_
    refine Ex.iconst (M := mX5_wasDone) (pc2 := 14) dX5_wasDone_13 ki_1 rfl ?_
    refine Ey.callVi (M := mX5_wasDone) (pc2 := 17) (as := [.inl l1, .inl (1 : Int32)]) (rest := []) rfl dX5_wasDone_14 isX5_told lcX5_60 (h0).s0 rfl rfl ⟨(Nat.le_of_ble_eq_true rfl), (Nat.le_of_ble_eq_true rfl)⟩ rfl (Nat.le_of_ble_eq_true rfl) (Nat.le_of_ble_eq_true rfl) (t_X5_told b0 (h0) l1 (1 : Int32) I1) rfl (fun r2 I2 => ?_)
    refine Ex.iload_n (M := mX5_wasDone) (pc2 := 18) dX5_wasDone_17 rfl rfl rfl ?_
    refine Ey.icmp_ne (M := mX5_wasDone) (tgt := 25) (pc2 := 21) dX5_wasDone_18 rfl (fun _ => ?_) rfl (fun _ => ?_)
    · refine Ex.iconst (M := mX5_wasDone) (pc2 := 26) dX5_wasDone_25 ki_0 rfl ?_
      exact Ey.ireturn (M := mX5_wasDone) dX5_wasDone_26 rfl (by decide)
    · refine Ex.iconst (M := mX5_wasDone) (pc2 := 22) dX5_wasDone_21 ki_1 rfl ?_
      refine Ex.goto (M := mX5_wasDone) (tgt := 26) dX5_wasDone_22 rfl ?_
      exact Ey.ireturn (M := mX5_wasDone) dX5_wasDone_26 rfl (by decide)
/-! FenceDuel$Post.edgeOf(LFenceDuel$State;I)I -/
def f_X3_edgeOf (b1 : Nat) (l2 : Int32) (I : xI) : Option (Int32 × xI) :=
  xb (f_X5_told b1 l2 (2 : Int32) I) (fun r1 I1 => xb (f_X5_told b1 l2 (3 : Int32) I1) (fun r2 I2 => xb (f_X1_edgeNumber r1 r2 I2) (fun r3 I3 => some (r3, I3))))
theorem t_X3_edgeOf (b1 : Nat) (h1 : xSt b1) (l2 : Int32) (I : xI) : Ey none mX3_edgeOf 0 [some (.inr (some 12)), some (.inr (some b1)), some (.inl l2)] [] I (f_X3_edgeOf b1 l2 I) := by
  unfold f_X3_edgeOf
  refine Ex.aload_n (M := mX3_edgeOf) (pc2 := 1) dX3_edgeOf_0 rfl rfl rfl ?_
  refine Ex.getR (M := mX3_edgeOf) (pc2 := 4) dX3_edgeOf_1 xck3 lfX3_9 (Nat.le_of_ble_eq_true rfl) sh_12 rfl ff_12_0 rfl ?_
  refine Ex.aload_n (M := mX3_edgeOf) (pc2 := 5) dX3_edgeOf_4 rfl rfl rfl ?_
  refine Ex.iload_n (M := mX3_edgeOf) (pc2 := 6) dX3_edgeOf_5 rfl rfl rfl ?_
  refine Ex.iconst (M := mX3_edgeOf) (pc2 := 7) dX3_edgeOf_6 ki_2 rfl ?_
  refine Ey.callVi (M := mX3_edgeOf) (pc2 := 10) (as := [.inl l2, .inl (2 : Int32)]) (rest := [.inr (some 1)]) rfl dX3_edgeOf_7 isX5_told lcX3_25 (h1).s0 rfl rfl ⟨(Nat.le_of_ble_eq_true rfl), (Nat.le_of_ble_eq_true rfl)⟩ rfl (Nat.le_of_ble_eq_true rfl) (Nat.le_of_ble_eq_true rfl) (t_X5_told b1 (h1) l2 (2 : Int32) I) rfl (fun r1 I1 => ?_)
  refine Ex.aload_n (M := mX3_edgeOf) (pc2 := 11) dX3_edgeOf_10 rfl rfl rfl ?_
  refine Ex.iload_n (M := mX3_edgeOf) (pc2 := 12) dX3_edgeOf_11 rfl rfl rfl ?_
  refine Ex.iconst (M := mX3_edgeOf) (pc2 := 13) dX3_edgeOf_12 ki_3 rfl ?_
  refine Ey.callVi (M := mX3_edgeOf) (pc2 := 16) (as := [.inl l2, .inl (3 : Int32)]) (rest := [.inl r1, .inr (some 1)]) rfl dX3_edgeOf_13 isX5_told lcX3_25 (h1).s0 rfl rfl ⟨(Nat.le_of_ble_eq_true rfl), (Nat.le_of_ble_eq_true rfl)⟩ rfl (Nat.le_of_ble_eq_true rfl) (Nat.le_of_ble_eq_true rfl) (t_X5_told b1 (h1) l2 (3 : Int32) I1) rfl (fun r2 I2 => ?_)
  refine Ey.callVi (M := mX3_edgeOf) (pc2 := 19) (as := [.inl r1, .inl r2]) (rest := []) rfl dX3_edgeOf_16 isX1_edgeNumber lcX3_125 sh_1 rfl rfl ⟨(Nat.le_of_ble_eq_true rfl), (Nat.le_of_ble_eq_true rfl)⟩ rfl (Nat.le_of_ble_eq_true rfl) (Nat.le_of_ble_eq_true rfl) (t_X1_edgeNumber r1 r2 I2) rfl (fun r3 I3 => ?_)
  exact Ey.ireturn (M := mX3_edgeOf) dX3_edgeOf_19 rfl rfl
/-! FenceDuel$State.onEdge(I)I -/
def f_X5_onEdge (b0 : Nat) (l1 : Int32) (I : xI) : Option (Int32 × xI) :=
  xb (f_X6_isEdge l1 I) (fun r1 I1 => if r1 = 0 then some ((0 : Int32), I1) else if xin l1 82 then some ((I1 (b0 + 3) l1.toNatClampNeg), I1) else none)
theorem t_X5_onEdge (b0 : Nat) (h0 : xSt b0) (l1 : Int32) (I : xI) : Ey none mX5_onEdge 0 [some (.inr (some b0)), some (.inl l1)] [] I (f_X5_onEdge b0 l1 I) := by
  unfold f_X5_onEdge
  refine Ex.iload_n (M := mX5_onEdge) (pc2 := 1) dX5_onEdge_0 rfl rfl rfl ?_
  refine Ey.callSNi (M := mX5_onEdge) (pc2 := 4) (as := [.inl l1]) (rest := []) rfl dX5_onEdge_1 isX6_isEdge lnX5_68  rfl ⟨(Nat.le_of_ble_eq_true rfl), (Nat.le_of_ble_eq_true rfl)⟩ rfl (Nat.le_of_ble_eq_true rfl) (Nat.le_of_ble_eq_true rfl) (t_X6_isEdge l1 I) rfl (fun r1 I1 => ?_)
  refine Ey.if_eq (M := mX5_onEdge) (tgt := 16) (pc2 := 7) dX5_onEdge_4 rfl (fun _ => ?_) rfl (fun _ => ?_)
  · refine Ex.iconst (M := mX5_onEdge) (pc2 := 17) dX5_onEdge_16 ki_0 rfl ?_
    exact Ey.ireturn (M := mX5_onEdge) dX5_onEdge_17 rfl rfl
  · refine Ex.aload_n (M := mX5_onEdge) (pc2 := 8) dX5_onEdge_7 rfl rfl rfl ?_
    refine Ex.getR (M := mX5_onEdge) (pc2 := 11) dX5_onEdge_8 xck5 lfX5_22 (Nat.le_of_ble_eq_true rfl) (h0).s0 rfl (h0).f6 rfl ?_
    refine Ex.iload_n (M := mX5_onEdge) (pc2 := 12) dX5_onEdge_11 rfl rfl rfl ?_
    refine Ey.guard (fun hz2 => ?_)
    refine Ey.iaload (M := mX5_onEdge) (pc2 := 13) dX5_onEdge_12 (h0).s3 rfl hz2 rfl ?_
    refine Ex.goto (M := mX5_onEdge) (tgt := 17) dX5_onEdge_13 rfl ?_
    exact Ey.ireturn (M := mX5_onEdge) dX5_onEdge_17 rfl rfl
/-! FenceDuel$Post.growsHedge(LFenceDuel$State;II)Z -/
def f_X3_growsHedge (b1 : Nat) (l2 : Int32) (l3 : Int32) (I : xI) : Option (Int32 × xI) :=
  xb (f_X5_wasDone b1 l2 (0 : Int32) I) (fun r1 I1 => if r1 = 0 then some ((0 : Int32), I1) else xb (f_X5_told b1 l3 (1 : Int32) I1) (fun r2 I2 => if r2 = 0 then xb (f_X3_edgeOf b1 l2 I2) (fun r3 I3 => xb (f_X3_edgeOf b1 l3 I3) (fun r4 I4 => if r3 ≠ r4 then some ((0 : Int32), I4) else xb (f_X5_onEdge b1 r3 I4) (fun r5 I5 => xb (f_X5_told b1 l2 (0 : Int32) I5) (fun r6 I6 => xb (f_X6_fenceOf r6 I6) (fun r7 I7 => if r5 ≠ r7 then some ((0 : Int32), I7) else some ((1 : Int32), I7)))))) else some ((0 : Int32), I2)))
theorem t_X3_growsHedge (b1 : Nat) (h1 : xSt b1) (l2 : Int32) (l3 : Int32) (I : xI) : Ey none mX3_growsHedge 0 [some (.inr (some 12)), some (.inr (some b1)), some (.inl l2), some (.inl l3), none] [] I (f_X3_growsHedge b1 l2 l3 I) := by
  unfold f_X3_growsHedge
  refine Ex.aload_n (M := mX3_growsHedge) (pc2 := 1) dX3_growsHedge_0 rfl rfl rfl ?_
  refine Ex.iload_n (M := mX3_growsHedge) (pc2 := 2) dX3_growsHedge_1 rfl rfl rfl ?_
  refine Ex.iconst (M := mX3_growsHedge) (pc2 := 3) dX3_growsHedge_2 ki_0 rfl ?_
  refine Ey.callVi (M := mX3_growsHedge) (pc2 := 6) (as := [.inl l2, .inl (0 : Int32)]) (rest := []) rfl dX3_growsHedge_3 isX5_wasDone lcX3_70 (h1).s0 rfl rfl ⟨(Nat.le_of_ble_eq_true rfl), (Nat.le_of_ble_eq_true rfl)⟩ rfl (Nat.le_of_ble_eq_true rfl) (Nat.le_of_ble_eq_true rfl) (t_X5_wasDone b1 (h1) l2 (0 : Int32) I) rfl (fun r1 I1 => ?_)
  refine Ey.if_eq (M := mX3_growsHedge) (tgt := 18) (pc2 := 9) dX3_growsHedge_6 rfl (fun _ => ?_) rfl (fun _ => ?_)
  · refine Ex.iconst (M := mX3_growsHedge) (pc2 := 19) dX3_growsHedge_18 ki_0 rfl ?_
    exact Ey.ireturn (M := mX3_growsHedge) dX3_growsHedge_19 rfl (by decide)
  · refine Ex.aload_n (M := mX3_growsHedge) (pc2 := 10) dX3_growsHedge_9 rfl rfl rfl ?_
    refine Ex.iload_n (M := mX3_growsHedge) (pc2 := 11) dX3_growsHedge_10 rfl rfl rfl ?_
    refine Ex.iconst (M := mX3_growsHedge) (pc2 := 12) dX3_growsHedge_11 ki_1 rfl ?_
    refine Ey.callVi (M := mX3_growsHedge) (pc2 := 15) (as := [.inl l3, .inl (1 : Int32)]) (rest := []) rfl dX3_growsHedge_12 isX5_told lcX3_25 (h1).s0 rfl rfl ⟨(Nat.le_of_ble_eq_true rfl), (Nat.le_of_ble_eq_true rfl)⟩ rfl (Nat.le_of_ble_eq_true rfl) (Nat.le_of_ble_eq_true rfl) (t_X5_told b1 (h1) l3 (1 : Int32) I1) rfl (fun r2 I2 => ?_)
    refine Ey.if_eq (M := mX3_growsHedge) (tgt := 20) (pc2 := 18) dX3_growsHedge_15 rfl (fun _ => ?_) rfl (fun _ => ?_)
    · refine Ex.aload_n (M := mX3_growsHedge) (pc2 := 21) dX3_growsHedge_20 rfl rfl rfl ?_
      refine Ex.aload_n (M := mX3_growsHedge) (pc2 := 22) dX3_growsHedge_21 rfl rfl rfl ?_
      refine Ex.iload_n (M := mX3_growsHedge) (pc2 := 23) dX3_growsHedge_22 rfl rfl rfl ?_
      refine Ey.callVi (M := mX3_growsHedge) (pc2 := 26) (as := [.inr (some b1), .inl l2]) (rest := []) rfl dX3_growsHedge_23 isX3_edgeOf lcX3_45 sh_12 rfl rfl ⟨(Nat.le_of_ble_eq_true rfl), (Nat.le_of_ble_eq_true rfl)⟩ rfl (Nat.le_of_ble_eq_true rfl) (Nat.le_of_ble_eq_true rfl) (t_X3_edgeOf b1 (h1) l2 I2) rfl (fun r3 I3 => ?_)
      refine Ey.istore (M := mX3_growsHedge) (pc2 := 28) dX3_growsHedge_26 (Nat.le_of_ble_eq_true rfl) rfl rfl ?_
      refine Ex.iload (M := mX3_growsHedge) (pc2 := 30) dX3_growsHedge_28 rfl rfl ?_
      refine Ex.aload_n (M := mX3_growsHedge) (pc2 := 31) dX3_growsHedge_30 rfl rfl rfl ?_
      refine Ex.aload_n (M := mX3_growsHedge) (pc2 := 32) dX3_growsHedge_31 rfl rfl rfl ?_
      refine Ex.iload_n (M := mX3_growsHedge) (pc2 := 33) dX3_growsHedge_32 rfl rfl rfl ?_
      refine Ey.callVi (M := mX3_growsHedge) (pc2 := 36) (as := [.inr (some b1), .inl l3]) (rest := [.inl r3]) rfl dX3_growsHedge_33 isX3_edgeOf lcX3_45 sh_12 rfl rfl ⟨(Nat.le_of_ble_eq_true rfl), (Nat.le_of_ble_eq_true rfl)⟩ rfl (Nat.le_of_ble_eq_true rfl) (Nat.le_of_ble_eq_true rfl) (t_X3_edgeOf b1 (h1) l3 I3) rfl (fun r4 I4 => ?_)
      refine Ey.icmp_ne (M := mX3_growsHedge) (tgt := 61) (pc2 := 39) dX3_growsHedge_36 rfl (fun _ => ?_) rfl (fun _ => ?_)
      · refine Ex.iconst (M := mX3_growsHedge) (pc2 := 62) dX3_growsHedge_61 ki_0 rfl ?_
        exact Ey.ireturn (M := mX3_growsHedge) dX3_growsHedge_62 rfl (by decide)
      · refine Ex.aload_n (M := mX3_growsHedge) (pc2 := 40) dX3_growsHedge_39 rfl rfl rfl ?_
        refine Ex.iload (M := mX3_growsHedge) (pc2 := 42) dX3_growsHedge_40 rfl rfl ?_
        refine Ey.callVi (M := mX3_growsHedge) (pc2 := 45) (as := [.inl r3]) (rest := []) rfl dX3_growsHedge_42 isX5_onEdge lcX3_74 (h1).s0 rfl rfl ⟨(Nat.le_of_ble_eq_true rfl), (Nat.le_of_ble_eq_true rfl)⟩ rfl (Nat.le_of_ble_eq_true rfl) (Nat.le_of_ble_eq_true rfl) (t_X5_onEdge b1 (h1) r3 I4) rfl (fun r5 I5 => ?_)
        refine Ex.aload_n (M := mX3_growsHedge) (pc2 := 46) dX3_growsHedge_45 rfl rfl rfl ?_
        refine Ex.iload_n (M := mX3_growsHedge) (pc2 := 47) dX3_growsHedge_46 rfl rfl rfl ?_
        refine Ex.iconst (M := mX3_growsHedge) (pc2 := 48) dX3_growsHedge_47 ki_0 rfl ?_
        refine Ey.callVi (M := mX3_growsHedge) (pc2 := 51) (as := [.inl l2, .inl (0 : Int32)]) (rest := [.inl r5]) rfl dX3_growsHedge_48 isX5_told lcX3_25 (h1).s0 rfl rfl ⟨(Nat.le_of_ble_eq_true rfl), (Nat.le_of_ble_eq_true rfl)⟩ rfl (Nat.le_of_ble_eq_true rfl) (Nat.le_of_ble_eq_true rfl) (t_X5_told b1 (h1) l2 (0 : Int32) I5) rfl (fun r6 I6 => ?_)
        refine Ey.callSNi (M := mX3_growsHedge) (pc2 := 54) (as := [.inl r6]) (rest := [.inl r5]) rfl dX3_growsHedge_51 isX6_fenceOf lnX3_77  rfl ⟨(Nat.le_of_ble_eq_true rfl), (Nat.le_of_ble_eq_true rfl)⟩ rfl (Nat.le_of_ble_eq_true rfl) (Nat.le_of_ble_eq_true rfl) (t_X6_fenceOf r6 I6) rfl (fun r7 I7 => ?_)
        refine Ey.icmp_ne (M := mX3_growsHedge) (tgt := 61) (pc2 := 57) dX3_growsHedge_54 rfl (fun _ => ?_) rfl (fun _ => ?_)
        · refine Ex.iconst (M := mX3_growsHedge) (pc2 := 62) dX3_growsHedge_61 ki_0 rfl ?_
          exact Ey.ireturn (M := mX3_growsHedge) dX3_growsHedge_62 rfl (by decide)
        · refine Ex.iconst (M := mX3_growsHedge) (pc2 := 58) dX3_growsHedge_57 ki_1 rfl ?_
          refine Ex.goto (M := mX3_growsHedge) (tgt := 62) dX3_growsHedge_58 rfl ?_
          exact Ey.ireturn (M := mX3_growsHedge) dX3_growsHedge_62 rfl (by decide)
    · refine Ex.iconst (M := mX3_growsHedge) (pc2 := 19) dX3_growsHedge_18 ki_0 rfl ?_
      exact Ey.ireturn (M := mX3_growsHedge) dX3_growsHedge_19 rfl (by decide)
/-! FenceDuel$State.putOnEdge(II)V -/
def f_X5_putOnEdge (b0 : Nat) (l1 : Int32) (l2 : Int32) (I : xI) : Option (Int32 × xI) :=
  xb (f_X6_isEdge l1 I) (fun r1 I1 => if r1 = 0 then some (0, I1) else if xin l1 82 then some (0, (xup I1 (b0 + 3) l1.toNatClampNeg l2)) else none)
theorem t_X5_putOnEdge (b0 : Nat) (h0 : xSt b0) (l1 : Int32) (l2 : Int32) (I : xI) : Ey none mX5_putOnEdge 0 [some (.inr (some b0)), some (.inl l1), some (.inl l2)] [] I (f_X5_putOnEdge b0 l1 l2 I) := by
  unfold f_X5_putOnEdge
  refine Ex.iload_n (M := mX5_putOnEdge) (pc2 := 1) dX5_putOnEdge_0 rfl rfl rfl ?_
  refine Ey.callSNi (M := mX5_putOnEdge) (pc2 := 4) (as := [.inl l1]) (rest := []) rfl dX5_putOnEdge_1 isX6_isEdge lnX5_68  rfl ⟨(Nat.le_of_ble_eq_true rfl), (Nat.le_of_ble_eq_true rfl)⟩ rfl (Nat.le_of_ble_eq_true rfl) (Nat.le_of_ble_eq_true rfl) (t_X6_isEdge l1 I) rfl (fun r1 I1 => ?_)
  refine Ey.if_eq (M := mX5_putOnEdge) (tgt := 14) (pc2 := 7) dX5_putOnEdge_4 rfl (fun _ => ?_) rfl (fun _ => ?_)
  · exact Ey.ret (M := mX5_putOnEdge) dX5_putOnEdge_14 rfl
  · refine Ex.aload_n (M := mX5_putOnEdge) (pc2 := 8) dX5_putOnEdge_7 rfl rfl rfl ?_
    refine Ex.getR (M := mX5_putOnEdge) (pc2 := 11) dX5_putOnEdge_8 xck5 lfX5_22 (Nat.le_of_ble_eq_true rfl) (h0).s0 rfl (h0).f6 rfl ?_
    refine Ex.iload_n (M := mX5_putOnEdge) (pc2 := 12) dX5_putOnEdge_11 rfl rfl rfl ?_
    refine Ex.iload_n (M := mX5_putOnEdge) (pc2 := 13) dX5_putOnEdge_12 rfl rfl rfl ?_
    refine Ey.guard (fun hz2 => ?_)
    refine Ey.iastore (M := mX5_putOnEdge) (pc2 := 14) dX5_putOnEdge_13 (h0).s3 rfl hz2 rfl ?_
    exact Ey.ret (M := mX5_putOnEdge) dX5_putOnEdge_14 rfl
/-! FenceDuel$State.takerOf(I)I -/
def f_X5_takerOf (b0 : Nat) (l1 : Int32) (I : xI) : Option (Int32 × xI) :=
  xb (f_X6_isField l1 I) (fun r1 I1 => if r1 = 0 then some ((-5 : Int32), I1) else if xin l1 48 then some ((I1 (b0 + 4) l1.toNatClampNeg), I1) else none)
theorem t_X5_takerOf (b0 : Nat) (h0 : xSt b0) (l1 : Int32) (I : xI) : Ey none mX5_takerOf 0 [some (.inr (some b0)), some (.inl l1)] [] I (f_X5_takerOf b0 l1 I) := by
  unfold f_X5_takerOf
  refine Ex.iload_n (M := mX5_takerOf) (pc2 := 1) dX5_takerOf_0 rfl rfl rfl ?_
  refine Ey.callSNi (M := mX5_takerOf) (pc2 := 4) (as := [.inl l1]) (rest := []) rfl dX5_takerOf_1 isX6_isField lnX5_71  rfl ⟨(Nat.le_of_ble_eq_true rfl), (Nat.le_of_ble_eq_true rfl)⟩ rfl (Nat.le_of_ble_eq_true rfl) (Nat.le_of_ble_eq_true rfl) (t_X6_isField l1 I) rfl (fun r1 I1 => ?_)
  refine Ey.if_eq (M := mX5_takerOf) (tgt := 16) (pc2 := 7) dX5_takerOf_4 rfl (fun _ => ?_) rfl (fun _ => ?_)
  · refine Ex.bipush (M := mX5_takerOf) (pc2 := 18) dX5_takerOf_16 kb_m5 rfl ?_
    exact Ey.ireturn (M := mX5_takerOf) dX5_takerOf_18 rfl rfl
  · refine Ex.aload_n (M := mX5_takerOf) (pc2 := 8) dX5_takerOf_7 rfl rfl rfl ?_
    refine Ex.getR (M := mX5_takerOf) (pc2 := 11) dX5_takerOf_8 xck5 lfX5_25 (Nat.le_of_ble_eq_true rfl) (h0).s0 rfl (h0).f7 rfl ?_
    refine Ex.iload_n (M := mX5_takerOf) (pc2 := 12) dX5_takerOf_11 rfl rfl rfl ?_
    refine Ey.guard (fun hz2 => ?_)
    refine Ey.iaload (M := mX5_takerOf) (pc2 := 13) dX5_takerOf_12 (h0).s4 rfl hz2 rfl ?_
    refine Ex.goto (M := mX5_takerOf) (tgt := 18) dX5_takerOf_13 rfl ?_
    exact Ey.ireturn (M := mX5_takerOf) dX5_takerOf_18 rfl rfl
/-! FenceDuel$Post.makesVoid(LFenceDuel$State;II)Z -/
def f_X3_makesVoid (b1 : Nat) (l2 : Int32) (l3 : Int32) (I : xI) : Option (Int32 × xI) :=
  xb (f_X5_wasDone b1 l2 (2 : Int32) I) (fun r1 I1 => if r1 = 0 then some ((0 : Int32), I1) else xb (f_X5_told b1 l3 (1 : Int32) I1) (fun r2 I2 => if r2 ≠ (2 : Int32) then some ((0 : Int32), I2) else xb (f_X5_told b1 l3 (2 : Int32) I2) (fun r3 I3 => xb (f_X5_takerOf b1 r3 I3) (fun r4 I4 => if r4 ≠ l2 then some ((0 : Int32), I4) else some ((1 : Int32), I4)))))
theorem t_X3_makesVoid (b1 : Nat) (h1 : xSt b1) (l2 : Int32) (l3 : Int32) (I : xI) : Ey none mX3_makesVoid 0 [some (.inr (some 12)), some (.inr (some b1)), some (.inl l2), some (.inl l3)] [] I (f_X3_makesVoid b1 l2 l3 I) := by
  unfold f_X3_makesVoid
  refine Ex.aload_n (M := mX3_makesVoid) (pc2 := 1) dX3_makesVoid_0 rfl rfl rfl ?_
  refine Ex.iload_n (M := mX3_makesVoid) (pc2 := 2) dX3_makesVoid_1 rfl rfl rfl ?_
  refine Ex.iconst (M := mX3_makesVoid) (pc2 := 3) dX3_makesVoid_2 ki_2 rfl ?_
  refine Ey.callVi (M := mX3_makesVoid) (pc2 := 6) (as := [.inl l2, .inl (2 : Int32)]) (rest := []) rfl dX3_makesVoid_3 isX5_wasDone lcX3_70 (h1).s0 rfl rfl ⟨(Nat.le_of_ble_eq_true rfl), (Nat.le_of_ble_eq_true rfl)⟩ rfl (Nat.le_of_ble_eq_true rfl) (Nat.le_of_ble_eq_true rfl) (t_X5_wasDone b1 (h1) l2 (2 : Int32) I) rfl (fun r1 I1 => ?_)
  refine Ey.if_eq (M := mX3_makesVoid) (tgt := 37) (pc2 := 9) dX3_makesVoid_6 rfl (fun _ => ?_) rfl (fun _ => ?_)
  · refine Ex.iconst (M := mX3_makesVoid) (pc2 := 38) dX3_makesVoid_37 ki_0 rfl ?_
    exact Ey.ireturn (M := mX3_makesVoid) dX3_makesVoid_38 rfl (by decide)
  · refine Ex.aload_n (M := mX3_makesVoid) (pc2 := 10) dX3_makesVoid_9 rfl rfl rfl ?_
    refine Ex.iload_n (M := mX3_makesVoid) (pc2 := 11) dX3_makesVoid_10 rfl rfl rfl ?_
    refine Ex.iconst (M := mX3_makesVoid) (pc2 := 12) dX3_makesVoid_11 ki_1 rfl ?_
    refine Ey.callVi (M := mX3_makesVoid) (pc2 := 15) (as := [.inl l3, .inl (1 : Int32)]) (rest := []) rfl dX3_makesVoid_12 isX5_told lcX3_25 (h1).s0 rfl rfl ⟨(Nat.le_of_ble_eq_true rfl), (Nat.le_of_ble_eq_true rfl)⟩ rfl (Nat.le_of_ble_eq_true rfl) (Nat.le_of_ble_eq_true rfl) (t_X5_told b1 (h1) l3 (1 : Int32) I1) rfl (fun r2 I2 => ?_)
    refine Ex.iconst (M := mX3_makesVoid) (pc2 := 16) dX3_makesVoid_15 ki_2 rfl ?_
    refine Ey.icmp_ne (M := mX3_makesVoid) (tgt := 37) (pc2 := 19) dX3_makesVoid_16 rfl (fun _ => ?_) rfl (fun _ => ?_)
    · refine Ex.iconst (M := mX3_makesVoid) (pc2 := 38) dX3_makesVoid_37 ki_0 rfl ?_
      exact Ey.ireturn (M := mX3_makesVoid) dX3_makesVoid_38 rfl (by decide)
    · refine Ex.aload_n (M := mX3_makesVoid) (pc2 := 20) dX3_makesVoid_19 rfl rfl rfl ?_
      refine Ex.aload_n (M := mX3_makesVoid) (pc2 := 21) dX3_makesVoid_20 rfl rfl rfl ?_
      refine Ex.iload_n (M := mX3_makesVoid) (pc2 := 22) dX3_makesVoid_21 rfl rfl rfl ?_
      refine Ex.iconst (M := mX3_makesVoid) (pc2 := 23) dX3_makesVoid_22 ki_2 rfl ?_
      refine Ey.callVi (M := mX3_makesVoid) (pc2 := 26) (as := [.inl l3, .inl (2 : Int32)]) (rest := [.inr (some b1)]) rfl dX3_makesVoid_23 isX5_told lcX3_25 (h1).s0 rfl rfl ⟨(Nat.le_of_ble_eq_true rfl), (Nat.le_of_ble_eq_true rfl)⟩ rfl (Nat.le_of_ble_eq_true rfl) (Nat.le_of_ble_eq_true rfl) (t_X5_told b1 (h1) l3 (2 : Int32) I2) rfl (fun r3 I3 => ?_)
      refine Ey.callVi (M := mX3_makesVoid) (pc2 := 29) (as := [.inl r3]) (rest := []) rfl dX3_makesVoid_26 isX5_takerOf lcX3_80 (h1).s0 rfl rfl ⟨(Nat.le_of_ble_eq_true rfl), (Nat.le_of_ble_eq_true rfl)⟩ rfl (Nat.le_of_ble_eq_true rfl) (Nat.le_of_ble_eq_true rfl) (t_X5_takerOf b1 (h1) r3 I3) rfl (fun r4 I4 => ?_)
      refine Ex.iload_n (M := mX3_makesVoid) (pc2 := 30) dX3_makesVoid_29 rfl rfl rfl ?_
      refine Ey.icmp_ne (M := mX3_makesVoid) (tgt := 37) (pc2 := 33) dX3_makesVoid_30 rfl (fun _ => ?_) rfl (fun _ => ?_)
      · refine Ex.iconst (M := mX3_makesVoid) (pc2 := 38) dX3_makesVoid_37 ki_0 rfl ?_
        exact Ey.ireturn (M := mX3_makesVoid) dX3_makesVoid_38 rfl (by decide)
      · refine Ex.iconst (M := mX3_makesVoid) (pc2 := 34) dX3_makesVoid_33 ki_1 rfl ?_
        refine Ex.goto (M := mX3_makesVoid) (tgt := 38) dX3_makesVoid_34 rfl ?_
        exact Ey.ireturn (M := mX3_makesVoid) dX3_makesVoid_38 rfl (by decide)
/-! FenceDuel$State.giveBackFieldsOf(I)V -/
def f_X5_giveBackFieldsOf_2b (b0 : Nat) (k2 : Int32 → Int32 → xI → Option (Int32 × xI)) (l1 : Int32) (l2 : Int32) (I : xI) : Option (Int32 × xI) :=
  if l2 ≥ (48 : Int32) then some (0, I) else if xin l2 48 then if (I (b0 + 4) l2.toNatClampNeg) ≠ l1 then k2 l1 (l2 + 1) I else if xin l2 48 then k2 l1 (l2 + 1) (xup I (b0 + 4) l2.toNatClampNeg (-5 : Int32)) else none else none
theorem t_X5_giveBackFieldsOf_2b (b0 : Nat) (h0 : xSt b0) (k2 : Int32 → Int32 → xI → Option (Int32 × xI)) (hk2 : ∀ (l1 : Int32) (l2 : Int32) (I : xI), Ey none mX5_giveBackFieldsOf 2 [some (.inr (some b0)), some (.inl l1), some (.inl l2)] [] I (k2 l1 l2 I)) (l1 : Int32) (l2 : Int32) (I : xI) : Ey none mX5_giveBackFieldsOf 2 [some (.inr (some b0)), some (.inl l1), some (.inl l2)] [] I (f_X5_giveBackFieldsOf_2b b0 k2 l1 l2 I) := by
  unfold f_X5_giveBackFieldsOf_2b
  refine Ex.iload_n (M := mX5_giveBackFieldsOf) (pc2 := 3) dX5_giveBackFieldsOf_2 rfl rfl rfl ?_
  refine Ex.bipush (M := mX5_giveBackFieldsOf) (pc2 := 5) dX5_giveBackFieldsOf_3 kb_48 rfl ?_
  refine Ey.icmp_ge (M := mX5_giveBackFieldsOf) (tgt := 32) (pc2 := 8) dX5_giveBackFieldsOf_5 rfl (fun _ => ?_) rfl (fun _ => ?_)
  · exact Ey.ret (M := mX5_giveBackFieldsOf) dX5_giveBackFieldsOf_32 rfl
  · refine Ex.aload_n (M := mX5_giveBackFieldsOf) (pc2 := 9) dX5_giveBackFieldsOf_8 rfl rfl rfl ?_
    refine Ex.getR (M := mX5_giveBackFieldsOf) (pc2 := 12) dX5_giveBackFieldsOf_9 xck5 lfX5_25 (Nat.le_of_ble_eq_true rfl) (h0).s0 rfl (h0).f7 rfl ?_
    refine Ex.iload_n (M := mX5_giveBackFieldsOf) (pc2 := 13) dX5_giveBackFieldsOf_12 rfl rfl rfl ?_
    refine Ey.guard (fun hz1 => ?_)
    refine Ey.iaload (M := mX5_giveBackFieldsOf) (pc2 := 14) dX5_giveBackFieldsOf_13 (h0).s4 rfl hz1 rfl ?_
    refine Ex.iload_n (M := mX5_giveBackFieldsOf) (pc2 := 15) dX5_giveBackFieldsOf_14 rfl rfl rfl ?_
    refine Ey.icmp_ne (M := mX5_giveBackFieldsOf) (tgt := 26) (pc2 := 18) dX5_giveBackFieldsOf_15 rfl (fun _ => ?_) rfl (fun _ => ?_)
    · refine Ey.iinc (M := mX5_giveBackFieldsOf) (pc2 := 29) dX5_giveBackFieldsOf_26 rfl ki_1 (Nat.le_of_ble_eq_true rfl) rfl rfl ?_
      refine Ex.goto (M := mX5_giveBackFieldsOf) (tgt := 2) dX5_giveBackFieldsOf_29 rfl ?_
      exact hk2 _ _ _
    · refine Ex.aload_n (M := mX5_giveBackFieldsOf) (pc2 := 19) dX5_giveBackFieldsOf_18 rfl rfl rfl ?_
      refine Ex.getR (M := mX5_giveBackFieldsOf) (pc2 := 22) dX5_giveBackFieldsOf_19 xck5 lfX5_25 (Nat.le_of_ble_eq_true rfl) (h0).s0 rfl (h0).f7 rfl ?_
      refine Ex.iload_n (M := mX5_giveBackFieldsOf) (pc2 := 23) dX5_giveBackFieldsOf_22 rfl rfl rfl ?_
      refine Ex.bipush (M := mX5_giveBackFieldsOf) (pc2 := 25) dX5_giveBackFieldsOf_23 kb_m5 rfl ?_
      refine Ey.guard (fun hz2 => ?_)
      refine Ey.iastore (M := mX5_giveBackFieldsOf) (pc2 := 26) dX5_giveBackFieldsOf_25 (h0).s4 rfl hz2 rfl ?_
      refine Ey.iinc (M := mX5_giveBackFieldsOf) (pc2 := 29) dX5_giveBackFieldsOf_26 rfl ki_1 (Nat.le_of_ble_eq_true rfl) rfl rfl ?_
      refine Ex.goto (M := mX5_giveBackFieldsOf) (tgt := 2) dX5_giveBackFieldsOf_29 rfl ?_
      exact hk2 _ _ _
def f_X5_giveBackFieldsOf_2 (b0 : Nat) : Nat → Int32 → Int32 → xI → Option (Int32 × xI)
  | 0, _, _, _ => none
  | n + 1, l1, l2, I => f_X5_giveBackFieldsOf_2b b0 (fun l1 l2 I => f_X5_giveBackFieldsOf_2 b0 n l1 l2 I) l1 l2 I
theorem t_X5_giveBackFieldsOf_2 (b0 : Nat) (h0 : xSt b0) : ∀ (n : Nat) (l1 : Int32) (l2 : Int32) (I : xI), Ey none mX5_giveBackFieldsOf 2 [some (.inr (some b0)), some (.inl l1), some (.inl l2)] [] I (f_X5_giveBackFieldsOf_2 b0 n l1 l2 I)
  | 0, l1, l2, I => Ey.nil
  | n + 1, l1, l2, I => t_X5_giveBackFieldsOf_2b b0 h0 (fun l1 l2 I => f_X5_giveBackFieldsOf_2 b0 n l1 l2 I) (fun l1 l2 I => t_X5_giveBackFieldsOf_2 b0 h0 n l1 l2 I) l1 l2 I
def f_X5_giveBackFieldsOf (b0 : Nat) (l1 : Int32) (I : xI) : Option (Int32 × xI) :=
  f_X5_giveBackFieldsOf_2 b0 xZ l1 (0 : Int32) I
theorem t_X5_giveBackFieldsOf (b0 : Nat) (h0 : xSt b0) (l1 : Int32) (I : xI) : Ey none mX5_giveBackFieldsOf 0 [some (.inr (some b0)), some (.inl l1), none] [] I (f_X5_giveBackFieldsOf b0 l1 I) := by
  unfold f_X5_giveBackFieldsOf
  refine Ex.iconst (M := mX5_giveBackFieldsOf) (pc2 := 1) dX5_giveBackFieldsOf_0 ki_0 rfl ?_
  refine Ey.istore_n (M := mX5_giveBackFieldsOf) (pc2 := 2) dX5_giveBackFieldsOf_1 rfl (Nat.le_of_ble_eq_true rfl) rfl rfl ?_
  exact t_X5_giveBackFieldsOf_2 b0 h0 xZ _ _ _
/-! FenceDuel$Post.reasonAgainstFence(LFenceDuel$State;I)I -/
def f_X3_reasonAgainstFence (b1 : Nat) (l2 : Int32) (I : xI) : Option (Int32 × xI) :=
  xb (f_X5_onEdge b1 l2 I) (fun r1 I1 => if r1 ≠ 0 then some ((1 : Int32), I1) else some ((0 : Int32), I1))
theorem t_X3_reasonAgainstFence (b1 : Nat) (h1 : xSt b1) (l2 : Int32) (I : xI) : Ey none mX3_reasonAgainstFence 0 [some (.inr (some 12)), some (.inr (some b1)), some (.inl l2)] [] I (f_X3_reasonAgainstFence b1 l2 I) := by
  unfold f_X3_reasonAgainstFence
  refine Ex.aload_n (M := mX3_reasonAgainstFence) (pc2 := 1) dX3_reasonAgainstFence_0 rfl rfl rfl ?_
  refine Ex.iload_n (M := mX3_reasonAgainstFence) (pc2 := 2) dX3_reasonAgainstFence_1 rfl rfl rfl ?_
  refine Ey.callVi (M := mX3_reasonAgainstFence) (pc2 := 5) (as := [.inl l2]) (rest := []) rfl dX3_reasonAgainstFence_2 isX5_onEdge lcX3_74 (h1).s0 rfl rfl ⟨(Nat.le_of_ble_eq_true rfl), (Nat.le_of_ble_eq_true rfl)⟩ rfl (Nat.le_of_ble_eq_true rfl) (Nat.le_of_ble_eq_true rfl) (t_X5_onEdge b1 (h1) l2 I) rfl (fun r1 I1 => ?_)
  refine Ey.if_ne (M := mX3_reasonAgainstFence) (tgt := 12) (pc2 := 8) dX3_reasonAgainstFence_5 rfl (fun _ => ?_) rfl (fun _ => ?_)
  · refine Ex.iconst (M := mX3_reasonAgainstFence) (pc2 := 13) dX3_reasonAgainstFence_12 ki_1 rfl ?_
    exact Ey.ireturn (M := mX3_reasonAgainstFence) dX3_reasonAgainstFence_13 rfl rfl
  · refine Ex.iconst (M := mX3_reasonAgainstFence) (pc2 := 9) dX3_reasonAgainstFence_8 ki_0 rfl ?_
    refine Ex.goto (M := mX3_reasonAgainstFence) (tgt := 13) dX3_reasonAgainstFence_9 rfl ?_
    exact Ey.ireturn (M := mX3_reasonAgainstFence) dX3_reasonAgainstFence_13 rfl rfl
/-! FenceDuel$State.hasTruce()Z -/
def f_X5_hasTruce (b0 : Nat) (I : xI) : Option (Int32 × xI) :=
  if (I b0 0) ≥ (I (b0 + 2) 0) then some ((0 : Int32), I) else if (I b0 0) ≥ (I (b0 + 2) 1) then some ((0 : Int32), I) else some ((1 : Int32), I)
theorem t_X5_hasTruce (b0 : Nat) (h0 : xSt b0) (I : xI) : Ey none mX5_hasTruce 0 [some (.inr (some b0))] [] I (f_X5_hasTruce b0 I) := by
  unfold f_X5_hasTruce
  refine Ex.aload_n (M := mX5_hasTruce) (pc2 := 1) dX5_hasTruce_0 rfl rfl rfl ?_
  refine Ex.getI (M := mX5_hasTruce) (pc2 := 4) dX5_hasTruce_1 xck5 lfX5_37 (Nat.le_of_ble_eq_true rfl) (h0).s0 rfl rfl ?_
  refine Ex.aload_n (M := mX5_hasTruce) (pc2 := 5) dX5_hasTruce_4 rfl rfl rfl ?_
  refine Ex.getR (M := mX5_hasTruce) (pc2 := 8) dX5_hasTruce_5 xck5 lfX5_19 (Nat.le_of_ble_eq_true rfl) (h0).s0 rfl (h0).f5 rfl ?_
  refine Ex.iconst (M := mX5_hasTruce) (pc2 := 9) dX5_hasTruce_8 ki_0 rfl ?_
  refine Ey.iaload (M := mX5_hasTruce) (pc2 := 10) dX5_hasTruce_9 (h0).s2 kn_0 (by decide) rfl ?_
  refine Ey.icmp_ge (M := mX5_hasTruce) (tgt := 30) (pc2 := 13) dX5_hasTruce_10 rfl (fun _ => ?_) rfl (fun _ => ?_)
  · refine Ex.iconst (M := mX5_hasTruce) (pc2 := 31) dX5_hasTruce_30 ki_0 rfl ?_
    exact Ey.ireturn (M := mX5_hasTruce) dX5_hasTruce_31 rfl (by decide)
  · refine Ex.aload_n (M := mX5_hasTruce) (pc2 := 14) dX5_hasTruce_13 rfl rfl rfl ?_
    refine Ex.getI (M := mX5_hasTruce) (pc2 := 17) dX5_hasTruce_14 xck5 lfX5_37 (Nat.le_of_ble_eq_true rfl) (h0).s0 rfl rfl ?_
    refine Ex.aload_n (M := mX5_hasTruce) (pc2 := 18) dX5_hasTruce_17 rfl rfl rfl ?_
    refine Ex.getR (M := mX5_hasTruce) (pc2 := 21) dX5_hasTruce_18 xck5 lfX5_19 (Nat.le_of_ble_eq_true rfl) (h0).s0 rfl (h0).f5 rfl ?_
    refine Ex.iconst (M := mX5_hasTruce) (pc2 := 22) dX5_hasTruce_21 ki_1 rfl ?_
    refine Ey.iaload (M := mX5_hasTruce) (pc2 := 23) dX5_hasTruce_22 (h0).s2 kn_1 (by decide) rfl ?_
    refine Ey.icmp_ge (M := mX5_hasTruce) (tgt := 30) (pc2 := 26) dX5_hasTruce_23 rfl (fun _ => ?_) rfl (fun _ => ?_)
    · refine Ex.iconst (M := mX5_hasTruce) (pc2 := 31) dX5_hasTruce_30 ki_0 rfl ?_
      exact Ey.ireturn (M := mX5_hasTruce) dX5_hasTruce_31 rfl (by decide)
    · refine Ex.iconst (M := mX5_hasTruce) (pc2 := 27) dX5_hasTruce_26 ki_1 rfl ?_
      refine Ex.goto (M := mX5_hasTruce) (tgt := 31) dX5_hasTruce_27 rfl ?_
      exact Ey.ireturn (M := mX5_hasTruce) dX5_hasTruce_31 rfl (by decide)
/-! FenceDuel$Post.reasonAgainstGap(LFenceDuel$State;I)I -/
def f_X3_reasonAgainstGap (b1 : Nat) (l2 : Int32) (I : xI) : Option (Int32 × xI) :=
  xb (f_X5_onEdge b1 l2 I) (fun r1 I1 => if r1 = 0 then some ((2 : Int32), I1) else if r1 ≠ (3 : Int32) then xb (f_X5_hasTruce b1 I1) (fun r2 I2 => if r2 = 0 then some ((0 : Int32), I2) else some ((3 : Int32), I2)) else some ((2 : Int32), I1))
theorem t_X3_reasonAgainstGap (b1 : Nat) (h1 : xSt b1) (l2 : Int32) (I : xI) : Ey none mX3_reasonAgainstGap 0 [some (.inr (some 12)), some (.inr (some b1)), some (.inl l2), none] [] I (f_X3_reasonAgainstGap b1 l2 I) := by
  unfold f_X3_reasonAgainstGap
  refine Ex.aload_n (M := mX3_reasonAgainstGap) (pc2 := 1) dX3_reasonAgainstGap_0 rfl rfl rfl ?_
  refine Ex.iload_n (M := mX3_reasonAgainstGap) (pc2 := 2) dX3_reasonAgainstGap_1 rfl rfl rfl ?_
  refine Ey.callVi (M := mX3_reasonAgainstGap) (pc2 := 5) (as := [.inl l2]) (rest := []) rfl dX3_reasonAgainstGap_2 isX5_onEdge lcX3_74 (h1).s0 rfl rfl ⟨(Nat.le_of_ble_eq_true rfl), (Nat.le_of_ble_eq_true rfl)⟩ rfl (Nat.le_of_ble_eq_true rfl) (Nat.le_of_ble_eq_true rfl) (t_X5_onEdge b1 (h1) l2 I) rfl (fun r1 I1 => ?_)
  refine Ey.istore_n (M := mX3_reasonAgainstGap) (pc2 := 6) dX3_reasonAgainstGap_5 rfl (Nat.le_of_ble_eq_true rfl) rfl rfl ?_
  refine Ex.iload_n (M := mX3_reasonAgainstGap) (pc2 := 7) dX3_reasonAgainstGap_6 rfl rfl rfl ?_
  refine Ey.if_eq (M := mX3_reasonAgainstGap) (tgt := 15) (pc2 := 10) dX3_reasonAgainstGap_7 rfl (fun _ => ?_) rfl (fun _ => ?_)
  · refine Ex.iconst (M := mX3_reasonAgainstGap) (pc2 := 16) dX3_reasonAgainstGap_15 ki_2 rfl ?_
    exact Ey.ireturn (M := mX3_reasonAgainstGap) dX3_reasonAgainstGap_16 rfl rfl
  · refine Ex.iload_n (M := mX3_reasonAgainstGap) (pc2 := 11) dX3_reasonAgainstGap_10 rfl rfl rfl ?_
    refine Ex.iconst (M := mX3_reasonAgainstGap) (pc2 := 12) dX3_reasonAgainstGap_11 ki_3 rfl ?_
    refine Ey.icmp_ne (M := mX3_reasonAgainstGap) (tgt := 17) (pc2 := 15) dX3_reasonAgainstGap_12 rfl (fun _ => ?_) rfl (fun _ => ?_)
    · refine Ex.aload_n (M := mX3_reasonAgainstGap) (pc2 := 18) dX3_reasonAgainstGap_17 rfl rfl rfl ?_
      refine Ey.callVi (M := mX3_reasonAgainstGap) (pc2 := 21) (as := []) (rest := []) rfl dX3_reasonAgainstGap_18 isX5_hasTruce lcX3_98 (h1).s0 rfl rfl ⟨(Nat.le_of_ble_eq_true rfl), (Nat.le_of_ble_eq_true rfl)⟩ rfl (Nat.le_of_ble_eq_true rfl) (Nat.le_of_ble_eq_true rfl) (t_X5_hasTruce b1 (h1) I1) rfl (fun r2 I2 => ?_)
      refine Ey.if_eq (M := mX3_reasonAgainstGap) (tgt := 28) (pc2 := 24) dX3_reasonAgainstGap_21 rfl (fun _ => ?_) rfl (fun _ => ?_)
      · refine Ex.iconst (M := mX3_reasonAgainstGap) (pc2 := 29) dX3_reasonAgainstGap_28 ki_0 rfl ?_
        exact Ey.ireturn (M := mX3_reasonAgainstGap) dX3_reasonAgainstGap_29 rfl rfl
      · refine Ex.iconst (M := mX3_reasonAgainstGap) (pc2 := 25) dX3_reasonAgainstGap_24 ki_3 rfl ?_
        refine Ex.goto (M := mX3_reasonAgainstGap) (tgt := 29) dX3_reasonAgainstGap_25 rfl ?_
        exact Ey.ireturn (M := mX3_reasonAgainstGap) dX3_reasonAgainstGap_29 rfl rfl
    · refine Ex.iconst (M := mX3_reasonAgainstGap) (pc2 := 16) dX3_reasonAgainstGap_15 ki_2 rfl ?_
      exact Ey.ireturn (M := mX3_reasonAgainstGap) dX3_reasonAgainstGap_16 rfl rfl
/-! FenceDuel$Regions.spreadFrom(LFenceDuel$State;I)V -/
def f_X4_spreadFrom_211b (b1 : Nat) (k211 : Int32 → Int32 → Int32 → Int32 → xI → Option (Int32 × xI)) (l2 : Int32) (l3 : Int32) (l4 : Int32) (l5 : Int32) (I : xI) : Option (Int32 × xI) :=
  if l5 ≥ (48 : Int32) then some (0, I) else if xin l5 48 then if (I 7 l5.toNatClampNeg) ≠ l2 then k211 l2 l3 l4 (l5 + 1) I else if xin l5 48 then if xin l5 48 then k211 l2 l3 l4 (l5 + 1) (xup (xup I 8 l5.toNatClampNeg l3) 9 l5.toNatClampNeg l4) else none else none else none
theorem t_X4_spreadFrom_211b (b1 : Nat) (h1 : xSt b1) (k211 : Int32 → Int32 → Int32 → Int32 → xI → Option (Int32 × xI)) (hk211 : ∀ (l2 : Int32) (l3 : Int32) (l4 : Int32) (l5 : Int32) (d6 : Option xV) (d7 : Option xV) (d8 : Option xV) (d9 : Option xV) (d10 : Option xV) (I : xI), Ey none mX4_spreadFrom 211 [some (.inr (some 6)), some (.inr (some b1)), some (.inl l2), some (.inl l3), some (.inl l4), some (.inl l5), d6, d7, d8, d9, d10] [] I (k211 l2 l3 l4 l5 I)) (l2 : Int32) (l3 : Int32) (l4 : Int32) (l5 : Int32) (d6 : Option xV) (d7 : Option xV) (d8 : Option xV) (d9 : Option xV) (d10 : Option xV) (I : xI) : Ey none mX4_spreadFrom 211 [some (.inr (some 6)), some (.inr (some b1)), some (.inl l2), some (.inl l3), some (.inl l4), some (.inl l5), d6, d7, d8, d9, d10] [] I (f_X4_spreadFrom_211b b1 k211 l2 l3 l4 l5 I) := by
  unfold f_X4_spreadFrom_211b
  refine Ex.iload (M := mX4_spreadFrom) (pc2 := 213) dX4_spreadFrom_211 rfl rfl ?_
  refine Ex.bipush (M := mX4_spreadFrom) (pc2 := 215) dX4_spreadFrom_213 kb_48 rfl ?_
  refine Ey.icmp_ge (M := mX4_spreadFrom) (tgt := 252) (pc2 := 218) dX4_spreadFrom_215 rfl (fun _ => ?_) rfl (fun _ => ?_)
  · exact Ey.ret (M := mX4_spreadFrom) dX4_spreadFrom_252 rfl
  · refine Ex.aload_n (M := mX4_spreadFrom) (pc2 := 219) dX4_spreadFrom_218 rfl rfl rfl ?_
    refine Ex.getR (M := mX4_spreadFrom) (pc2 := 222) dX4_spreadFrom_219 xck4 lfX4_9 (Nat.le_of_ble_eq_true rfl) sh_6 rfl ff_6_1 rfl ?_
    refine Ex.iload (M := mX4_spreadFrom) (pc2 := 224) dX4_spreadFrom_222 rfl rfl ?_
    refine Ey.guard (fun hz1 => ?_)
    refine Ey.iaload (M := mX4_spreadFrom) (pc2 := 225) dX4_spreadFrom_224 sh_7 rfl hz1 rfl ?_
    refine Ex.iload_n (M := mX4_spreadFrom) (pc2 := 226) dX4_spreadFrom_225 rfl rfl rfl ?_
    refine Ey.icmp_ne (M := mX4_spreadFrom) (tgt := 246) (pc2 := 229) dX4_spreadFrom_226 rfl (fun _ => ?_) rfl (fun _ => ?_)
    · refine Ey.iinc (M := mX4_spreadFrom) (pc2 := 249) dX4_spreadFrom_246 rfl ki_1 (Nat.le_of_ble_eq_true rfl) rfl rfl ?_
      refine Ex.goto (M := mX4_spreadFrom) (tgt := 211) dX4_spreadFrom_249 rfl ?_
      exact hk211 _ _ _ _ _ _ _ _ _ _
    · refine Ex.aload_n (M := mX4_spreadFrom) (pc2 := 230) dX4_spreadFrom_229 rfl rfl rfl ?_
      refine Ex.getR (M := mX4_spreadFrom) (pc2 := 233) dX4_spreadFrom_230 xck4 lfX4_15 (Nat.le_of_ble_eq_true rfl) sh_6 rfl ff_6_2 rfl ?_
      refine Ex.iload (M := mX4_spreadFrom) (pc2 := 235) dX4_spreadFrom_233 rfl rfl ?_
      refine Ex.iload_n (M := mX4_spreadFrom) (pc2 := 236) dX4_spreadFrom_235 rfl rfl rfl ?_
      refine Ey.guard (fun hz2 => ?_)
      refine Ey.iastore (M := mX4_spreadFrom) (pc2 := 237) dX4_spreadFrom_236 sh_8 rfl hz2 rfl ?_
      refine Ex.aload_n (M := mX4_spreadFrom) (pc2 := 238) dX4_spreadFrom_237 rfl rfl rfl ?_
      refine Ex.getR (M := mX4_spreadFrom) (pc2 := 241) dX4_spreadFrom_238 xck4 lfX4_18 (Nat.le_of_ble_eq_true rfl) sh_6 rfl ff_6_3 rfl ?_
      refine Ex.iload (M := mX4_spreadFrom) (pc2 := 243) dX4_spreadFrom_241 rfl rfl ?_
      refine Ex.iload (M := mX4_spreadFrom) (pc2 := 245) dX4_spreadFrom_243 rfl rfl ?_
      refine Ey.guard (fun hz3 => ?_)
      refine Ey.iastore (M := mX4_spreadFrom) (pc2 := 246) dX4_spreadFrom_245 sh_9 rfl hz3 rfl ?_
      refine Ey.iinc (M := mX4_spreadFrom) (pc2 := 249) dX4_spreadFrom_246 rfl ki_1 (Nat.le_of_ble_eq_true rfl) rfl rfl ?_
      refine Ex.goto (M := mX4_spreadFrom) (tgt := 211) dX4_spreadFrom_249 rfl ?_
      exact hk211 _ _ _ _ _ _ _ _ _ _
def f_X4_spreadFrom_211 (b1 : Nat) : Nat → Int32 → Int32 → Int32 → Int32 → xI → Option (Int32 × xI)
  | 0, _, _, _, _, _ => none
  | n + 1, l2, l3, l4, l5, I => f_X4_spreadFrom_211b b1 (fun l2 l3 l4 l5 I => f_X4_spreadFrom_211 b1 n l2 l3 l4 l5 I) l2 l3 l4 l5 I
theorem t_X4_spreadFrom_211 (b1 : Nat) (h1 : xSt b1) : ∀ (n : Nat) (l2 : Int32) (l3 : Int32) (l4 : Int32) (l5 : Int32) (d6 : Option xV) (d7 : Option xV) (d8 : Option xV) (d9 : Option xV) (d10 : Option xV) (I : xI), Ey none mX4_spreadFrom 211 [some (.inr (some 6)), some (.inr (some b1)), some (.inl l2), some (.inl l3), some (.inl l4), some (.inl l5), d6, d7, d8, d9, d10] [] I (f_X4_spreadFrom_211 b1 n l2 l3 l4 l5 I)
  | 0, l2, l3, l4, l5, d6, d7, d8, d9, d10, I => Ey.nil
  | n + 1, l2, l3, l4, l5, d6, d7, d8, d9, d10, I => t_X4_spreadFrom_211b b1 h1 (fun l2 l3 l4 l5 I => f_X4_spreadFrom_211 b1 n l2 l3 l4 l5 I) (fun l2 l3 l4 l5 d6 d7 d8 d9 d10 I => t_X4_spreadFrom_211 b1 h1 n l2 l3 l4 l5 d6 d7 d8 d9 d10 I) l2 l3 l4 l5 d6 d7 d8 d9 d10 I
def f_X4_spreadFrom_152 (b1 : Nat) (k30 : Int32 → Int32 → Int32 → Int32 → xI → Option (Int32 × xI)) (k81 : Int32 → Int32 → Int32 → Int32 → Int32 → Int32 → xI → Option (Int32 × xI)) (l2 : Int32) (l3 : Int32) (l4 : Int32) (l5 : Int32) (l6 : Int32) (l7 : Int32) (l9 : Int32) (s0 : Int32) (I : xI) : Option (Int32 × xI) :=
  if s0 = 0 then k81 l2 l3 l4 l5 l6 (l7 + 1) I else if xin l9 48 then if (I 7 l9.toNatClampNeg) ≠ (-5 : Int32) then k81 l2 l3 l4 l5 l6 (l7 + 1) I else if l3 ≥ (48 : Int32) then k81 l2 l3 l4 l5 l6 (l7 + 1) I else if xin l9 48 then if xin l3 48 then k81 l2 (l3 + 1) l4 l5 l6 (l7 + 1) (xup (xup I 7 l9.toNatClampNeg l2) 10 l3.toNatClampNeg l9) else none else none else none
theorem t_X4_spreadFrom_152 (b1 : Nat) (h1 : xSt b1) (k30 : Int32 → Int32 → Int32 → Int32 → xI → Option (Int32 × xI)) (hk30 : ∀ (l2 : Int32) (l3 : Int32) (l4 : Int32) (l5 : Int32) (d6 : Option xV) (d7 : Option xV) (d8 : Option xV) (d9 : Option xV) (d10 : Option xV) (I : xI), Ey none mX4_spreadFrom 30 [some (.inr (some 6)), some (.inr (some b1)), some (.inl l2), some (.inl l3), some (.inl l4), some (.inl l5), d6, d7, d8, d9, d10] [] I (k30 l2 l3 l4 l5 I)) (k81 : Int32 → Int32 → Int32 → Int32 → Int32 → Int32 → xI → Option (Int32 × xI)) (hk81 : ∀ (l2 : Int32) (l3 : Int32) (l4 : Int32) (l5 : Int32) (l6 : Int32) (l7 : Int32) (d8 : Option xV) (d9 : Option xV) (d10 : Option xV) (I : xI), Ey none mX4_spreadFrom 81 [some (.inr (some 6)), some (.inr (some b1)), some (.inl l2), some (.inl l3), some (.inl l4), some (.inl l5), some (.inl l6), some (.inl l7), d8, d9, d10] [] I (k81 l2 l3 l4 l5 l6 l7 I)) (l2 : Int32) (l3 : Int32) (l4 : Int32) (l5 : Int32) (l6 : Int32) (l7 : Int32) (d8 : Option xV) (l9 : Int32) (d10 : Option xV) (s0 : Int32) (I : xI) : Ey none mX4_spreadFrom 152 [some (.inr (some 6)), some (.inr (some b1)), some (.inl l2), some (.inl l3), some (.inl l4), some (.inl l5), some (.inl l6), some (.inl l7), d8, some (.inl l9), d10] [.inl s0] I (f_X4_spreadFrom_152 b1 k30 k81 l2 l3 l4 l5 l6 l7 l9 s0 I) := by
  unfold f_X4_spreadFrom_152
  refine Ey.istore (M := mX4_spreadFrom) (pc2 := 154) dX4_spreadFrom_152 (Nat.le_of_ble_eq_true rfl) rfl rfl ?_
  refine Ex.iload (M := mX4_spreadFrom) (pc2 := 156) dX4_spreadFrom_154 rfl rfl ?_
  refine Ey.if_eq (M := mX4_spreadFrom) (tgt := 196) (pc2 := 159) dX4_spreadFrom_156 rfl (fun _ => ?_) rfl (fun _ => ?_)
  · refine Ey.iinc (M := mX4_spreadFrom) (pc2 := 199) dX4_spreadFrom_196 rfl ki_1 (Nat.le_of_ble_eq_true rfl) rfl rfl ?_
    refine Ex.goto (M := mX4_spreadFrom) (tgt := 81) dX4_spreadFrom_199 rfl ?_
    exact hk81 _ _ _ _ _ _ _ _ _ _
  · refine Ex.aload_n (M := mX4_spreadFrom) (pc2 := 160) dX4_spreadFrom_159 rfl rfl rfl ?_
    refine Ex.getR (M := mX4_spreadFrom) (pc2 := 163) dX4_spreadFrom_160 xck4 lfX4_9 (Nat.le_of_ble_eq_true rfl) sh_6 rfl ff_6_1 rfl ?_
    refine Ex.iload (M := mX4_spreadFrom) (pc2 := 165) dX4_spreadFrom_163 rfl rfl ?_
    refine Ey.guard (fun hz4 => ?_)
    refine Ey.iaload (M := mX4_spreadFrom) (pc2 := 166) dX4_spreadFrom_165 sh_7 rfl hz4 rfl ?_
    refine Ex.bipush (M := mX4_spreadFrom) (pc2 := 168) dX4_spreadFrom_166 kb_m5 rfl ?_
    refine Ey.icmp_ne (M := mX4_spreadFrom) (tgt := 196) (pc2 := 171) dX4_spreadFrom_168 rfl (fun _ => ?_) rfl (fun _ => ?_)
    · refine Ey.iinc (M := mX4_spreadFrom) (pc2 := 199) dX4_spreadFrom_196 rfl ki_1 (Nat.le_of_ble_eq_true rfl) rfl rfl ?_
      refine Ex.goto (M := mX4_spreadFrom) (tgt := 81) dX4_spreadFrom_199 rfl ?_
      exact hk81 _ _ _ _ _ _ _ _ _ _
    · refine Ex.iload_n (M := mX4_spreadFrom) (pc2 := 172) dX4_spreadFrom_171 rfl rfl rfl ?_
      refine Ex.bipush (M := mX4_spreadFrom) (pc2 := 174) dX4_spreadFrom_172 kb_48 rfl ?_
      refine Ey.icmp_ge (M := mX4_spreadFrom) (tgt := 196) (pc2 := 177) dX4_spreadFrom_174 rfl (fun _ => ?_) rfl (fun _ => ?_)
      · refine Ey.iinc (M := mX4_spreadFrom) (pc2 := 199) dX4_spreadFrom_196 rfl ki_1 (Nat.le_of_ble_eq_true rfl) rfl rfl ?_
        refine Ex.goto (M := mX4_spreadFrom) (tgt := 81) dX4_spreadFrom_199 rfl ?_
        exact hk81 _ _ _ _ _ _ _ _ _ _
      · refine Ex.aload_n (M := mX4_spreadFrom) (pc2 := 178) dX4_spreadFrom_177 rfl rfl rfl ?_
        refine Ex.getR (M := mX4_spreadFrom) (pc2 := 181) dX4_spreadFrom_178 xck4 lfX4_9 (Nat.le_of_ble_eq_true rfl) sh_6 rfl ff_6_1 rfl ?_
        refine Ex.iload (M := mX4_spreadFrom) (pc2 := 183) dX4_spreadFrom_181 rfl rfl ?_
        refine Ex.iload_n (M := mX4_spreadFrom) (pc2 := 184) dX4_spreadFrom_183 rfl rfl rfl ?_
        refine Ey.guard (fun hz5 => ?_)
        refine Ey.iastore (M := mX4_spreadFrom) (pc2 := 185) dX4_spreadFrom_184 sh_7 rfl hz5 rfl ?_
        refine Ex.aload_n (M := mX4_spreadFrom) (pc2 := 186) dX4_spreadFrom_185 rfl rfl rfl ?_
        refine Ex.getR (M := mX4_spreadFrom) (pc2 := 189) dX4_spreadFrom_186 xck4 lfX4_21 (Nat.le_of_ble_eq_true rfl) sh_6 rfl ff_6_4 rfl ?_
        refine Ex.iload_n (M := mX4_spreadFrom) (pc2 := 190) dX4_spreadFrom_189 rfl rfl rfl ?_
        refine Ex.iload (M := mX4_spreadFrom) (pc2 := 192) dX4_spreadFrom_190 rfl rfl ?_
        refine Ey.guard (fun hz6 => ?_)
        refine Ey.iastore (M := mX4_spreadFrom) (pc2 := 193) dX4_spreadFrom_192 sh_10 rfl hz6 rfl ?_
        refine Ey.iinc (M := mX4_spreadFrom) (pc2 := 196) dX4_spreadFrom_193 rfl ki_1 (Nat.le_of_ble_eq_true rfl) rfl rfl ?_
        refine Ey.iinc (M := mX4_spreadFrom) (pc2 := 199) dX4_spreadFrom_196 rfl ki_1 (Nat.le_of_ble_eq_true rfl) rfl rfl ?_
        refine Ex.goto (M := mX4_spreadFrom) (tgt := 81) dX4_spreadFrom_199 rfl ?_
        exact hk81 _ _ _ _ _ _ _ _ _ _
def f_X4_spreadFrom_81b (b1 : Nat) (k30 : Int32 → Int32 → Int32 → Int32 → xI → Option (Int32 × xI)) (k81 : Int32 → Int32 → Int32 → Int32 → Int32 → Int32 → xI → Option (Int32 × xI)) (l2 : Int32) (l3 : Int32) (l4 : Int32) (l5 : Int32) (l6 : Int32) (l7 : Int32) (I : xI) : Option (Int32 × xI) :=
  if l7 ≥ (4 : Int32) then k30 l2 l3 l4 (l5 + 1) I else if xin ((l6 * (4 : Int32)) + l7) 192 then if xin ((l6 * (4 : Int32)) + l7) 192 then xb (f_X6_isEdge (I 3 (((l6 * (4 : Int32)) + l7).toNatClampNeg)) I) (fun r9 I9 => if r9 = 0 then f_X4_spreadFrom_152 b1 k30 k81 l2 l3 l4 l5 l6 l7 (I 2 (((l6 * (4 : Int32)) + l7).toNatClampNeg)) (0 : Int32) I9 else xb (f_X6_isField (I 2 (((l6 * (4 : Int32)) + l7).toNatClampNeg)) I9) (fun r10 I10 => if r10 = 0 then f_X4_spreadFrom_152 b1 k30 k81 l2 l3 l4 l5 l6 l7 (I 2 (((l6 * (4 : Int32)) + l7).toNatClampNeg)) (0 : Int32) I10 else if xin (I 3 (((l6 * (4 : Int32)) + l7).toNatClampNeg)) 82 then if (I10 (b1 + 3) ((I 3 (((l6 * (4 : Int32)) + l7).toNatClampNeg)).toNatClampNeg)) ≠ 0 then f_X4_spreadFrom_152 b1 k30 k81 l2 l3 l4 l5 l6 l7 (I 2 (((l6 * (4 : Int32)) + l7).toNatClampNeg)) (0 : Int32) I10 else f_X4_spreadFrom_152 b1 k30 k81 l2 l3 l4 l5 l6 l7 (I 2 (((l6 * (4 : Int32)) + l7).toNatClampNeg)) (1 : Int32) I10 else none)) else none else none
theorem t_X4_spreadFrom_81b (b1 : Nat) (h1 : xSt b1) (k30 : Int32 → Int32 → Int32 → Int32 → xI → Option (Int32 × xI)) (hk30 : ∀ (l2 : Int32) (l3 : Int32) (l4 : Int32) (l5 : Int32) (d6 : Option xV) (d7 : Option xV) (d8 : Option xV) (d9 : Option xV) (d10 : Option xV) (I : xI), Ey none mX4_spreadFrom 30 [some (.inr (some 6)), some (.inr (some b1)), some (.inl l2), some (.inl l3), some (.inl l4), some (.inl l5), d6, d7, d8, d9, d10] [] I (k30 l2 l3 l4 l5 I)) (k81 : Int32 → Int32 → Int32 → Int32 → Int32 → Int32 → xI → Option (Int32 × xI)) (hk81 : ∀ (l2 : Int32) (l3 : Int32) (l4 : Int32) (l5 : Int32) (l6 : Int32) (l7 : Int32) (d8 : Option xV) (d9 : Option xV) (d10 : Option xV) (I : xI), Ey none mX4_spreadFrom 81 [some (.inr (some 6)), some (.inr (some b1)), some (.inl l2), some (.inl l3), some (.inl l4), some (.inl l5), some (.inl l6), some (.inl l7), d8, d9, d10] [] I (k81 l2 l3 l4 l5 l6 l7 I)) (l2 : Int32) (l3 : Int32) (l4 : Int32) (l5 : Int32) (l6 : Int32) (l7 : Int32) (d8 : Option xV) (d9 : Option xV) (d10 : Option xV) (I : xI) : Ey none mX4_spreadFrom 81 [some (.inr (some 6)), some (.inr (some b1)), some (.inl l2), some (.inl l3), some (.inl l4), some (.inl l5), some (.inl l6), some (.inl l7), d8, d9, d10] [] I (f_X4_spreadFrom_81b b1 k30 k81 l2 l3 l4 l5 l6 l7 I) := by
  unfold f_X4_spreadFrom_81b
  refine Ex.iload (M := mX4_spreadFrom) (pc2 := 83) dX4_spreadFrom_81 rfl rfl ?_
  refine Ex.iconst (M := mX4_spreadFrom) (pc2 := 84) dX4_spreadFrom_83 ki_4 rfl ?_
  refine Ey.icmp_ge (M := mX4_spreadFrom) (tgt := 202) (pc2 := 87) dX4_spreadFrom_84 rfl (fun _ => ?_) rfl (fun _ => ?_)
  · refine Ey.iinc (M := mX4_spreadFrom) (pc2 := 205) dX4_spreadFrom_202 rfl ki_1 (Nat.le_of_ble_eq_true rfl) rfl rfl ?_
    refine Ex.goto (M := mX4_spreadFrom) (tgt := 30) dX4_spreadFrom_205 rfl ?_
    exact hk30 _ _ _ _ _ _ _ _ _ _
  · refine Ex.aload_n (M := mX4_spreadFrom) (pc2 := 88) dX4_spreadFrom_87 rfl rfl rfl ?_
    refine Ex.getR (M := mX4_spreadFrom) (pc2 := 91) dX4_spreadFrom_88 xck4 lfX4_27 (Nat.le_of_ble_eq_true rfl) sh_6 rfl ff_6_0 rfl ?_
    refine Ex.getR (M := mX4_spreadFrom) (pc2 := 94) dX4_spreadFrom_91 xck1 lfX4_50 (Nat.le_of_ble_eq_true rfl) sh_1 rfl ff_1_1 rfl ?_
    refine Ex.iload (M := mX4_spreadFrom) (pc2 := 96) dX4_spreadFrom_94 rfl rfl ?_
    refine Ex.iconst (M := mX4_spreadFrom) (pc2 := 97) dX4_spreadFrom_96 ki_4 rfl ?_
    refine Ex.imul (M := mX4_spreadFrom) (pc2 := 98) dX4_spreadFrom_97 rfl ?_
    refine Ex.iload (M := mX4_spreadFrom) (pc2 := 100) dX4_spreadFrom_98 rfl rfl ?_
    refine Ex.iadd (M := mX4_spreadFrom) (pc2 := 101) dX4_spreadFrom_100 rfl ?_
    refine Ey.guard (fun hz7 => ?_)
    refine Ey.iaload (M := mX4_spreadFrom) (pc2 := 102) dX4_spreadFrom_101 sh_3 rfl hz7 rfl ?_
    refine Ey.istore (M := mX4_spreadFrom) (pc2 := 104) dX4_spreadFrom_102 (Nat.le_of_ble_eq_true rfl) rfl rfl ?_
    refine Ex.aload_n (M := mX4_spreadFrom) (pc2 := 105) dX4_spreadFrom_104 rfl rfl rfl ?_
    refine Ex.getR (M := mX4_spreadFrom) (pc2 := 108) dX4_spreadFrom_105 xck4 lfX4_27 (Nat.le_of_ble_eq_true rfl) sh_6 rfl ff_6_0 rfl ?_
    refine Ex.getR (M := mX4_spreadFrom) (pc2 := 111) dX4_spreadFrom_108 xck1 lfX4_55 (Nat.le_of_ble_eq_true rfl) sh_1 rfl ff_1_0 rfl ?_
    refine Ex.iload (M := mX4_spreadFrom) (pc2 := 113) dX4_spreadFrom_111 rfl rfl ?_
    refine Ex.iconst (M := mX4_spreadFrom) (pc2 := 114) dX4_spreadFrom_113 ki_4 rfl ?_
    refine Ex.imul (M := mX4_spreadFrom) (pc2 := 115) dX4_spreadFrom_114 rfl ?_
    refine Ex.iload (M := mX4_spreadFrom) (pc2 := 117) dX4_spreadFrom_115 rfl rfl ?_
    refine Ex.iadd (M := mX4_spreadFrom) (pc2 := 118) dX4_spreadFrom_117 rfl ?_
    refine Ey.guard (fun hz8 => ?_)
    refine Ey.iaload (M := mX4_spreadFrom) (pc2 := 119) dX4_spreadFrom_118 sh_2 rfl hz8 rfl ?_
    refine Ey.istore (M := mX4_spreadFrom) (pc2 := 121) dX4_spreadFrom_119 (Nat.le_of_ble_eq_true rfl) rfl rfl ?_
    refine Ex.iload (M := mX4_spreadFrom) (pc2 := 123) dX4_spreadFrom_121 rfl rfl ?_
    refine Ey.callSNi (M := mX4_spreadFrom) (pc2 := 126) (as := [.inl (I 3 (((l6 * (4 : Int32)) + l7).toNatClampNeg))]) (rest := []) rfl dX4_spreadFrom_123 isX6_isEdge lnX4_58  rfl ⟨(Nat.le_of_ble_eq_true rfl), (Nat.le_of_ble_eq_true rfl)⟩ rfl (Nat.le_of_ble_eq_true rfl) (Nat.le_of_ble_eq_true rfl) (t_X6_isEdge (I 3 (((l6 * (4 : Int32)) + l7).toNatClampNeg)) I) rfl (fun r9 I9 => ?_)
    refine Ey.if_eq (M := mX4_spreadFrom) (tgt := 151) (pc2 := 129) dX4_spreadFrom_126 rfl (fun _ => ?_) rfl (fun _ => ?_)
    · refine Ex.iconst (M := mX4_spreadFrom) (pc2 := 152) dX4_spreadFrom_151 ki_0 rfl ?_
      exact t_X4_spreadFrom_152 b1 h1 k30 hk30 k81 hk81 _ _ _ _ _ _ _ _ _ _ _
    · refine Ex.iload (M := mX4_spreadFrom) (pc2 := 131) dX4_spreadFrom_129 rfl rfl ?_
      refine Ey.callSNi (M := mX4_spreadFrom) (pc2 := 134) (as := [.inl (I 2 (((l6 * (4 : Int32)) + l7).toNatClampNeg))]) (rest := []) rfl dX4_spreadFrom_131 isX6_isField lnX4_41  rfl ⟨(Nat.le_of_ble_eq_true rfl), (Nat.le_of_ble_eq_true rfl)⟩ rfl (Nat.le_of_ble_eq_true rfl) (Nat.le_of_ble_eq_true rfl) (t_X6_isField (I 2 (((l6 * (4 : Int32)) + l7).toNatClampNeg)) I9) rfl (fun r10 I10 => ?_)
      refine Ey.if_eq (M := mX4_spreadFrom) (tgt := 151) (pc2 := 137) dX4_spreadFrom_134 rfl (fun _ => ?_) rfl (fun _ => ?_)
      · refine Ex.iconst (M := mX4_spreadFrom) (pc2 := 152) dX4_spreadFrom_151 ki_0 rfl ?_
        exact t_X4_spreadFrom_152 b1 h1 k30 hk30 k81 hk81 _ _ _ _ _ _ _ _ _ _ _
      · refine Ex.aload_n (M := mX4_spreadFrom) (pc2 := 138) dX4_spreadFrom_137 rfl rfl rfl ?_
        refine Ex.getR (M := mX4_spreadFrom) (pc2 := 141) dX4_spreadFrom_138 xck5 lfX4_61 (Nat.le_of_ble_eq_true rfl) (h1).s0 rfl (h1).f6 rfl ?_
        refine Ex.iload (M := mX4_spreadFrom) (pc2 := 143) dX4_spreadFrom_141 rfl rfl ?_
        refine Ey.guard (fun hz11 => ?_)
        refine Ey.iaload (M := mX4_spreadFrom) (pc2 := 144) dX4_spreadFrom_143 (h1).s3 rfl hz11 rfl ?_
        refine Ey.if_ne (M := mX4_spreadFrom) (tgt := 151) (pc2 := 147) dX4_spreadFrom_144 rfl (fun _ => ?_) rfl (fun _ => ?_)
        · refine Ex.iconst (M := mX4_spreadFrom) (pc2 := 152) dX4_spreadFrom_151 ki_0 rfl ?_
          exact t_X4_spreadFrom_152 b1 h1 k30 hk30 k81 hk81 _ _ _ _ _ _ _ _ _ _ _
        · refine Ex.iconst (M := mX4_spreadFrom) (pc2 := 148) dX4_spreadFrom_147 ki_1 rfl ?_
          refine Ex.goto (M := mX4_spreadFrom) (tgt := 152) dX4_spreadFrom_148 rfl ?_
          exact t_X4_spreadFrom_152 b1 h1 k30 hk30 k81 hk81 _ _ _ _ _ _ _ _ _ _ _
def f_X4_spreadFrom_81 (b1 : Nat) (k30 : Int32 → Int32 → Int32 → Int32 → xI → Option (Int32 × xI)) : Nat → Int32 → Int32 → Int32 → Int32 → Int32 → Int32 → xI → Option (Int32 × xI)
  | 0, _, _, _, _, _, _, _ => none
  | n + 1, l2, l3, l4, l5, l6, l7, I => f_X4_spreadFrom_81b b1 k30 (fun l2 l3 l4 l5 l6 l7 I => f_X4_spreadFrom_81 b1 k30 n l2 l3 l4 l5 l6 l7 I) l2 l3 l4 l5 l6 l7 I
theorem t_X4_spreadFrom_81 (b1 : Nat) (h1 : xSt b1) (k30 : Int32 → Int32 → Int32 → Int32 → xI → Option (Int32 × xI)) (hk30 : ∀ (l2 : Int32) (l3 : Int32) (l4 : Int32) (l5 : Int32) (d6 : Option xV) (d7 : Option xV) (d8 : Option xV) (d9 : Option xV) (d10 : Option xV) (I : xI), Ey none mX4_spreadFrom 30 [some (.inr (some 6)), some (.inr (some b1)), some (.inl l2), some (.inl l3), some (.inl l4), some (.inl l5), d6, d7, d8, d9, d10] [] I (k30 l2 l3 l4 l5 I)) : ∀ (n : Nat) (l2 : Int32) (l3 : Int32) (l4 : Int32) (l5 : Int32) (l6 : Int32) (l7 : Int32) (d8 : Option xV) (d9 : Option xV) (d10 : Option xV) (I : xI), Ey none mX4_spreadFrom 81 [some (.inr (some 6)), some (.inr (some b1)), some (.inl l2), some (.inl l3), some (.inl l4), some (.inl l5), some (.inl l6), some (.inl l7), d8, d9, d10] [] I (f_X4_spreadFrom_81 b1 k30 n l2 l3 l4 l5 l6 l7 I)
  | 0, l2, l3, l4, l5, l6, l7, d8, d9, d10, I => Ey.nil
  | n + 1, l2, l3, l4, l5, l6, l7, d8, d9, d10, I => t_X4_spreadFrom_81b b1 h1 k30 hk30 (fun l2 l3 l4 l5 l6 l7 I => f_X4_spreadFrom_81 b1 k30 n l2 l3 l4 l5 l6 l7 I) (fun l2 l3 l4 l5 l6 l7 d8 d9 d10 I => t_X4_spreadFrom_81 b1 h1 k30 hk30 n l2 l3 l4 l5 l6 l7 d8 d9 d10 I) l2 l3 l4 l5 l6 l7 d8 d9 d10 I
def f_X4_spreadFrom_30b (b1 : Nat) (k30 : Int32 → Int32 → Int32 → Int32 → xI → Option (Int32 × xI)) (l2 : Int32) (l3 : Int32) (l4 : Int32) (l5 : Int32) (I : xI) : Option (Int32 × xI) :=
  if l5 ≥ l3 then f_X4_spreadFrom_211 b1 xZ l2 l3 l4 l2 I else if l5 ≥ (48 : Int32) then f_X4_spreadFrom_211 b1 xZ l2 l3 l4 l2 I else if xin l5 48 then xb (f_X6_isField (I 10 l5.toNatClampNeg) I) (fun r13 I13 => if r13 ≠ 0 then if xin (I 10 l5.toNatClampNeg) 48 then if (I13 (b1 + 4) ((I 10 l5.toNatClampNeg).toNatClampNeg)) ≠ (-5 : Int32) then f_X4_spreadFrom_81 b1 k30 xZ l2 l3 l4 l5 (I 10 l5.toNatClampNeg) (0 : Int32) I13 else f_X4_spreadFrom_81 b1 k30 xZ l2 l3 (l4 + 1) l5 (I 10 l5.toNatClampNeg) (0 : Int32) I13 else none else k30 l2 l3 l4 (l5 + 1) I13) else none
theorem t_X4_spreadFrom_30b (b1 : Nat) (h1 : xSt b1) (k30 : Int32 → Int32 → Int32 → Int32 → xI → Option (Int32 × xI)) (hk30 : ∀ (l2 : Int32) (l3 : Int32) (l4 : Int32) (l5 : Int32) (d6 : Option xV) (d7 : Option xV) (d8 : Option xV) (d9 : Option xV) (d10 : Option xV) (I : xI), Ey none mX4_spreadFrom 30 [some (.inr (some 6)), some (.inr (some b1)), some (.inl l2), some (.inl l3), some (.inl l4), some (.inl l5), d6, d7, d8, d9, d10] [] I (k30 l2 l3 l4 l5 I)) (l2 : Int32) (l3 : Int32) (l4 : Int32) (l5 : Int32) (d6 : Option xV) (d7 : Option xV) (d8 : Option xV) (d9 : Option xV) (d10 : Option xV) (I : xI) : Ey none mX4_spreadFrom 30 [some (.inr (some 6)), some (.inr (some b1)), some (.inl l2), some (.inl l3), some (.inl l4), some (.inl l5), d6, d7, d8, d9, d10] [] I (f_X4_spreadFrom_30b b1 k30 l2 l3 l4 l5 I) := by
  unfold f_X4_spreadFrom_30b
  refine Ex.iload (M := mX4_spreadFrom) (pc2 := 32) dX4_spreadFrom_30 rfl rfl ?_
  refine Ex.iload_n (M := mX4_spreadFrom) (pc2 := 33) dX4_spreadFrom_32 rfl rfl rfl ?_
  refine Ey.icmp_ge (M := mX4_spreadFrom) (tgt := 208) (pc2 := 36) dX4_spreadFrom_33 rfl (fun _ => ?_) rfl (fun _ => ?_)
  · refine Ex.iload_n (M := mX4_spreadFrom) (pc2 := 209) dX4_spreadFrom_208 rfl rfl rfl ?_
    refine Ey.istore (M := mX4_spreadFrom) (pc2 := 211) dX4_spreadFrom_209 (Nat.le_of_ble_eq_true rfl) rfl rfl ?_
    exact t_X4_spreadFrom_211 b1 h1 xZ _ _ _ _ _ _ _ _ _ _
  · refine Ex.iload (M := mX4_spreadFrom) (pc2 := 38) dX4_spreadFrom_36 rfl rfl ?_
    refine Ex.bipush (M := mX4_spreadFrom) (pc2 := 40) dX4_spreadFrom_38 kb_48 rfl ?_
    refine Ey.icmp_ge (M := mX4_spreadFrom) (tgt := 208) (pc2 := 43) dX4_spreadFrom_40 rfl (fun _ => ?_) rfl (fun _ => ?_)
    · refine Ex.iload_n (M := mX4_spreadFrom) (pc2 := 209) dX4_spreadFrom_208 rfl rfl rfl ?_
      refine Ey.istore (M := mX4_spreadFrom) (pc2 := 211) dX4_spreadFrom_209 (Nat.le_of_ble_eq_true rfl) rfl rfl ?_
      exact t_X4_spreadFrom_211 b1 h1 xZ _ _ _ _ _ _ _ _ _ _
    · refine Ex.aload_n (M := mX4_spreadFrom) (pc2 := 44) dX4_spreadFrom_43 rfl rfl rfl ?_
      refine Ex.getR (M := mX4_spreadFrom) (pc2 := 47) dX4_spreadFrom_44 xck4 lfX4_21 (Nat.le_of_ble_eq_true rfl) sh_6 rfl ff_6_4 rfl ?_
      refine Ex.iload (M := mX4_spreadFrom) (pc2 := 49) dX4_spreadFrom_47 rfl rfl ?_
      refine Ey.guard (fun hz12 => ?_)
      refine Ey.iaload (M := mX4_spreadFrom) (pc2 := 50) dX4_spreadFrom_49 sh_10 rfl hz12 rfl ?_
      refine Ey.istore (M := mX4_spreadFrom) (pc2 := 52) dX4_spreadFrom_50 (Nat.le_of_ble_eq_true rfl) rfl rfl ?_
      refine Ex.iload (M := mX4_spreadFrom) (pc2 := 54) dX4_spreadFrom_52 rfl rfl ?_
      refine Ey.callSNi (M := mX4_spreadFrom) (pc2 := 57) (as := [.inl (I 10 l5.toNatClampNeg)]) (rest := []) rfl dX4_spreadFrom_54 isX6_isField lnX4_41  rfl ⟨(Nat.le_of_ble_eq_true rfl), (Nat.le_of_ble_eq_true rfl)⟩ rfl (Nat.le_of_ble_eq_true rfl) (Nat.le_of_ble_eq_true rfl) (t_X6_isField (I 10 l5.toNatClampNeg) I) rfl (fun r13 I13 => ?_)
      refine Ey.if_ne (M := mX4_spreadFrom) (tgt := 63) (pc2 := 60) dX4_spreadFrom_57 rfl (fun _ => ?_) rfl (fun _ => ?_)
      · refine Ex.aload_n (M := mX4_spreadFrom) (pc2 := 64) dX4_spreadFrom_63 rfl rfl rfl ?_
        refine Ex.getR (M := mX4_spreadFrom) (pc2 := 67) dX4_spreadFrom_64 xck5 lfX4_45 (Nat.le_of_ble_eq_true rfl) (h1).s0 rfl (h1).f7 rfl ?_
        refine Ex.iload (M := mX4_spreadFrom) (pc2 := 69) dX4_spreadFrom_67 rfl rfl ?_
        refine Ey.guard (fun hz14 => ?_)
        refine Ey.iaload (M := mX4_spreadFrom) (pc2 := 70) dX4_spreadFrom_69 (h1).s4 rfl hz14 rfl ?_
        refine Ex.bipush (M := mX4_spreadFrom) (pc2 := 72) dX4_spreadFrom_70 kb_m5 rfl ?_
        refine Ey.icmp_ne (M := mX4_spreadFrom) (tgt := 78) (pc2 := 75) dX4_spreadFrom_72 rfl (fun _ => ?_) rfl (fun _ => ?_)
        · refine Ex.iconst (M := mX4_spreadFrom) (pc2 := 79) dX4_spreadFrom_78 ki_0 rfl ?_
          refine Ey.istore (M := mX4_spreadFrom) (pc2 := 81) dX4_spreadFrom_79 (Nat.le_of_ble_eq_true rfl) rfl rfl ?_
          exact t_X4_spreadFrom_81 b1 h1 k30 hk30 xZ _ _ _ _ _ _ _ _ _ _
        · refine Ey.iinc (M := mX4_spreadFrom) (pc2 := 78) dX4_spreadFrom_75 rfl ki_1 (Nat.le_of_ble_eq_true rfl) rfl rfl ?_
          refine Ex.iconst (M := mX4_spreadFrom) (pc2 := 79) dX4_spreadFrom_78 ki_0 rfl ?_
          refine Ey.istore (M := mX4_spreadFrom) (pc2 := 81) dX4_spreadFrom_79 (Nat.le_of_ble_eq_true rfl) rfl rfl ?_
          exact t_X4_spreadFrom_81 b1 h1 k30 hk30 xZ _ _ _ _ _ _ _ _ _ _
      · refine Ex.goto (M := mX4_spreadFrom) (tgt := 202) dX4_spreadFrom_60 rfl ?_
        refine Ey.iinc (M := mX4_spreadFrom) (pc2 := 205) dX4_spreadFrom_202 rfl ki_1 (Nat.le_of_ble_eq_true rfl) rfl rfl ?_
        refine Ex.goto (M := mX4_spreadFrom) (tgt := 30) dX4_spreadFrom_205 rfl ?_
        exact hk30 _ _ _ _ _ _ _ _ _ _
def f_X4_spreadFrom_30 (b1 : Nat) : Nat → Int32 → Int32 → Int32 → Int32 → xI → Option (Int32 × xI)
  | 0, _, _, _, _, _ => none
  | n + 1, l2, l3, l4, l5, I => f_X4_spreadFrom_30b b1 (fun l2 l3 l4 l5 I => f_X4_spreadFrom_30 b1 n l2 l3 l4 l5 I) l2 l3 l4 l5 I
theorem t_X4_spreadFrom_30 (b1 : Nat) (h1 : xSt b1) : ∀ (n : Nat) (l2 : Int32) (l3 : Int32) (l4 : Int32) (l5 : Int32) (d6 : Option xV) (d7 : Option xV) (d8 : Option xV) (d9 : Option xV) (d10 : Option xV) (I : xI), Ey none mX4_spreadFrom 30 [some (.inr (some 6)), some (.inr (some b1)), some (.inl l2), some (.inl l3), some (.inl l4), some (.inl l5), d6, d7, d8, d9, d10] [] I (f_X4_spreadFrom_30 b1 n l2 l3 l4 l5 I)
  | 0, l2, l3, l4, l5, d6, d7, d8, d9, d10, I => Ey.nil
  | n + 1, l2, l3, l4, l5, d6, d7, d8, d9, d10, I => t_X4_spreadFrom_30b b1 h1 (fun l2 l3 l4 l5 I => f_X4_spreadFrom_30 b1 n l2 l3 l4 l5 I) (fun l2 l3 l4 l5 d6 d7 d8 d9 d10 I => t_X4_spreadFrom_30 b1 h1 n l2 l3 l4 l5 d6 d7 d8 d9 d10 I) l2 l3 l4 l5 d6 d7 d8 d9 d10 I
def f_X4_spreadFrom (b1 : Nat) (l2 : Int32) (I : xI) : Option (Int32 × xI) :=
  xb (f_X6_isField l2 I) (fun r15 I15 => if r15 ≠ 0 then if xin l2 48 then f_X4_spreadFrom_30 b1 xZ l2 (1 : Int32) (0 : Int32) (0 : Int32) (xup (xup I15 7 l2.toNatClampNeg l2) 10 0 l2) else none else some (0, I15))
theorem t_X4_spreadFrom (b1 : Nat) (h1 : xSt b1) (l2 : Int32) (I : xI) : Ey none mX4_spreadFrom 0 [some (.inr (some 6)), some (.inr (some b1)), some (.inl l2), none, none, none, none, none, none, none, none] [] I (f_X4_spreadFrom b1 l2 I) := by
  unfold f_X4_spreadFrom
  refine Ex.iload_n (M := mX4_spreadFrom) (pc2 := 1) dX4_spreadFrom_0 rfl rfl rfl ?_
  refine Ey.callSNi (M := mX4_spreadFrom) (pc2 := 4) (as := [.inl l2]) (rest := []) rfl dX4_spreadFrom_1 isX6_isField lnX4_41  rfl ⟨(Nat.le_of_ble_eq_true rfl), (Nat.le_of_ble_eq_true rfl)⟩ rfl (Nat.le_of_ble_eq_true rfl) (Nat.le_of_ble_eq_true rfl) (t_X6_isField l2 I) rfl (fun r15 I15 => ?_)
  refine Ey.if_ne (M := mX4_spreadFrom) (tgt := 8) (pc2 := 7) dX4_spreadFrom_4 rfl (fun _ => ?_) rfl (fun _ => ?_)
  · refine Ex.aload_n (M := mX4_spreadFrom) (pc2 := 9) dX4_spreadFrom_8 rfl rfl rfl ?_
    refine Ex.getR (M := mX4_spreadFrom) (pc2 := 12) dX4_spreadFrom_9 xck4 lfX4_9 (Nat.le_of_ble_eq_true rfl) sh_6 rfl ff_6_1 rfl ?_
    refine Ex.iload_n (M := mX4_spreadFrom) (pc2 := 13) dX4_spreadFrom_12 rfl rfl rfl ?_
    refine Ex.iload_n (M := mX4_spreadFrom) (pc2 := 14) dX4_spreadFrom_13 rfl rfl rfl ?_
    refine Ey.guard (fun hz16 => ?_)
    refine Ey.iastore (M := mX4_spreadFrom) (pc2 := 15) dX4_spreadFrom_14 sh_7 rfl hz16 rfl ?_
    refine Ex.aload_n (M := mX4_spreadFrom) (pc2 := 16) dX4_spreadFrom_15 rfl rfl rfl ?_
    refine Ex.getR (M := mX4_spreadFrom) (pc2 := 19) dX4_spreadFrom_16 xck4 lfX4_21 (Nat.le_of_ble_eq_true rfl) sh_6 rfl ff_6_4 rfl ?_
    refine Ex.iconst (M := mX4_spreadFrom) (pc2 := 20) dX4_spreadFrom_19 ki_0 rfl ?_
    refine Ex.iload_n (M := mX4_spreadFrom) (pc2 := 21) dX4_spreadFrom_20 rfl rfl rfl ?_
    refine Ey.iastore (M := mX4_spreadFrom) (pc2 := 22) dX4_spreadFrom_21 sh_10 kn_0 (by decide) rfl ?_
    refine Ex.iconst (M := mX4_spreadFrom) (pc2 := 23) dX4_spreadFrom_22 ki_1 rfl ?_
    refine Ey.istore_n (M := mX4_spreadFrom) (pc2 := 24) dX4_spreadFrom_23 rfl (Nat.le_of_ble_eq_true rfl) rfl rfl ?_
    refine Ex.iconst (M := mX4_spreadFrom) (pc2 := 25) dX4_spreadFrom_24 ki_0 rfl ?_
    refine Ey.istore (M := mX4_spreadFrom) (pc2 := 27) dX4_spreadFrom_25 (Nat.le_of_ble_eq_true rfl) rfl rfl ?_
    refine Ex.iconst (M := mX4_spreadFrom) (pc2 := 28) dX4_spreadFrom_27 ki_0 rfl ?_
    refine Ey.istore (M := mX4_spreadFrom) (pc2 := 30) dX4_spreadFrom_28 (Nat.le_of_ble_eq_true rfl) rfl rfl ?_
    exact t_X4_spreadFrom_30 b1 h1 xZ _ _ _ _ _ _ _ _ _ _
  · exact Ey.ret (M := mX4_spreadFrom) dX4_spreadFrom_7 rfl
/-! FenceDuel$Regions.survey(LFenceDuel$State;)I -/
def f_X4_survey_13b (b1 : Nat) (k13 : Int32 → Int32 → xI → Option (Int32 × xI)) (l2 : Int32) (l3 : Int32) (I : xI) : Option (Int32 × xI) :=
  if l3 ≥ (48 : Int32) then some (l2, I) else if xin l3 48 then if (I 7 l3.toNatClampNeg) ≠ (-5 : Int32) then k13 l2 (l3 + 1) I else xb (f_X4_spreadFrom b1 l3 I) (fun _ I2 => k13 (l2 + 1) (l3 + 1) I2) else none
theorem t_X4_survey_13b (b1 : Nat) (h1 : xSt b1) (k13 : Int32 → Int32 → xI → Option (Int32 × xI)) (hk13 : ∀ (l2 : Int32) (l3 : Int32) (I : xI), Ey none mX4_survey 13 [some (.inr (some 6)), some (.inr (some b1)), some (.inl l2), some (.inl l3)] [] I (k13 l2 l3 I)) (l2 : Int32) (l3 : Int32) (I : xI) : Ey none mX4_survey 13 [some (.inr (some 6)), some (.inr (some b1)), some (.inl l2), some (.inl l3)] [] I (f_X4_survey_13b b1 k13 l2 l3 I) := by
  unfold f_X4_survey_13b
  refine Ex.iload_n (M := mX4_survey) (pc2 := 14) dX4_survey_13 rfl rfl rfl ?_
  refine Ex.bipush (M := mX4_survey) (pc2 := 16) dX4_survey_14 kb_48 rfl ?_
  refine Ey.icmp_ge (M := mX4_survey) (tgt := 45) (pc2 := 19) dX4_survey_16 rfl (fun _ => ?_) rfl (fun _ => ?_)
  · refine Ex.iload_n (M := mX4_survey) (pc2 := 46) dX4_survey_45 rfl rfl rfl ?_
    exact Ey.ireturn (M := mX4_survey) dX4_survey_46 rfl rfl
  · refine Ex.aload_n (M := mX4_survey) (pc2 := 20) dX4_survey_19 rfl rfl rfl ?_
    refine Ex.getR (M := mX4_survey) (pc2 := 23) dX4_survey_20 xck4 lfX4_9 (Nat.le_of_ble_eq_true rfl) sh_6 rfl ff_6_1 rfl ?_
    refine Ex.iload_n (M := mX4_survey) (pc2 := 24) dX4_survey_23 rfl rfl rfl ?_
    refine Ey.guard (fun hz1 => ?_)
    refine Ey.iaload (M := mX4_survey) (pc2 := 25) dX4_survey_24 sh_7 rfl hz1 rfl ?_
    refine Ex.bipush (M := mX4_survey) (pc2 := 27) dX4_survey_25 kb_m5 rfl ?_
    refine Ey.icmp_ne (M := mX4_survey) (tgt := 39) (pc2 := 30) dX4_survey_27 rfl (fun _ => ?_) rfl (fun _ => ?_)
    · refine Ey.iinc (M := mX4_survey) (pc2 := 42) dX4_survey_39 rfl ki_1 (Nat.le_of_ble_eq_true rfl) rfl rfl ?_
      refine Ex.goto (M := mX4_survey) (tgt := 13) dX4_survey_42 rfl ?_
      exact hk13 _ _ _
    · refine Ex.aload_n (M := mX4_survey) (pc2 := 31) dX4_survey_30 rfl rfl rfl ?_
      refine Ex.aload_n (M := mX4_survey) (pc2 := 32) dX4_survey_31 rfl rfl rfl ?_
      refine Ex.iload_n (M := mX4_survey) (pc2 := 33) dX4_survey_32 rfl rfl rfl ?_
      refine Ey.callVv (M := mX4_survey) (pc2 := 36) (as := [.inr (some b1), .inl l3]) (rest := []) rfl dX4_survey_33 isX4_spreadFrom lcX4_37 sh_6 rfl rfl ⟨(Nat.le_of_ble_eq_true rfl), (Nat.le_of_ble_eq_true rfl)⟩ rfl (Nat.le_of_ble_eq_true rfl) (Nat.le_of_ble_eq_true rfl) (t_X4_spreadFrom b1 (h1) l3 I) rfl (fun I2 => ?_)
      refine Ey.iinc (M := mX4_survey) (pc2 := 39) dX4_survey_36 rfl ki_1 (Nat.le_of_ble_eq_true rfl) rfl rfl ?_
      refine Ey.iinc (M := mX4_survey) (pc2 := 42) dX4_survey_39 rfl ki_1 (Nat.le_of_ble_eq_true rfl) rfl rfl ?_
      refine Ex.goto (M := mX4_survey) (tgt := 13) dX4_survey_42 rfl ?_
      exact hk13 _ _ _
def f_X4_survey_13 (b1 : Nat) : Nat → Int32 → Int32 → xI → Option (Int32 × xI)
  | 0, _, _, _ => none
  | n + 1, l2, l3, I => f_X4_survey_13b b1 (fun l2 l3 I => f_X4_survey_13 b1 n l2 l3 I) l2 l3 I
theorem t_X4_survey_13 (b1 : Nat) (h1 : xSt b1) : ∀ (n : Nat) (l2 : Int32) (l3 : Int32) (I : xI), Ey none mX4_survey 13 [some (.inr (some 6)), some (.inr (some b1)), some (.inl l2), some (.inl l3)] [] I (f_X4_survey_13 b1 n l2 l3 I)
  | 0, l2, l3, I => Ey.nil
  | n + 1, l2, l3, I => t_X4_survey_13b b1 h1 (fun l2 l3 I => f_X4_survey_13 b1 n l2 l3 I) (fun l2 l3 I => t_X4_survey_13 b1 h1 n l2 l3 I) l2 l3 I
def f_X4_survey (b1 : Nat) (I : xI) : Option (Int32 × xI) :=
  xb (f_fill 7 48 (-5 : Int32) I) (fun _ I3 => f_X4_survey_13 b1 xZ (0 : Int32) (0 : Int32) I3)
theorem t_X4_survey (b1 : Nat) (h1 : xSt b1) (I : xI) : Ey none mX4_survey 0 [some (.inr (some 6)), some (.inr (some b1)), none, none] [] I (f_X4_survey b1 I) := by
  unfold f_X4_survey
  refine Ex.aload_n (M := mX4_survey) (pc2 := 1) dX4_survey_0 rfl rfl rfl ?_
  refine Ex.getR (M := mX4_survey) (pc2 := 4) dX4_survey_1 xck4 lfX4_9 (Nat.le_of_ble_eq_true rfl) sh_6 rfl ff_6_1 rfl ?_
  refine Ex.bipush (M := mX4_survey) (pc2 := 6) dX4_survey_4 kb_m5 rfl ?_
  refine Ey.callSv (M := mX4_survey) (pc2 := 9) (as := [.inr (some 7), .inl (-5 : Int32)]) (rest := []) rfl dX4_survey_6 isJ7_fill_53178 lcX4_31  rfl ⟨(Nat.le_of_ble_eq_true rfl), (Nat.le_of_ble_eq_true rfl)⟩ rfl (Nat.le_of_ble_eq_true rfl) (Nat.le_of_ble_eq_true rfl) (t_fill (-5 : Int32) I sh_7 (by decide)) rfl (fun I3 => ?_)
  refine Ex.iconst (M := mX4_survey) (pc2 := 10) dX4_survey_9 ki_0 rfl ?_
  refine Ey.istore_n (M := mX4_survey) (pc2 := 11) dX4_survey_10 rfl (Nat.le_of_ble_eq_true rfl) rfl rfl ?_
  refine Ex.iconst (M := mX4_survey) (pc2 := 12) dX4_survey_11 ki_0 rfl ?_
  refine Ey.istore_n (M := mX4_survey) (pc2 := 13) dX4_survey_12 rfl (Nat.le_of_ble_eq_true rfl) rfl rfl ?_
  exact t_X4_survey_13 b1 h1 xZ _ _ _
/-! FenceDuel$Regions.sizeAround(I)I -/
def f_X4_sizeAround (l1 : Int32) (I : xI) : Option (Int32 × xI) :=
  xb (f_X6_isField l1 I) (fun r1 I1 => if r1 = 0 then some ((0 : Int32), I1) else if xin l1 48 then some ((I1 8 l1.toNatClampNeg), I1) else none)
theorem t_X4_sizeAround (l1 : Int32) (I : xI) : Ey none mX4_sizeAround 0 [some (.inr (some 6)), some (.inl l1)] [] I (f_X4_sizeAround l1 I) := by
  unfold f_X4_sizeAround
  refine Ex.iload_n (M := mX4_sizeAround) (pc2 := 1) dX4_sizeAround_0 rfl rfl rfl ?_
  refine Ey.callSNi (M := mX4_sizeAround) (pc2 := 4) (as := [.inl l1]) (rest := []) rfl dX4_sizeAround_1 isX6_isField lnX4_41  rfl ⟨(Nat.le_of_ble_eq_true rfl), (Nat.le_of_ble_eq_true rfl)⟩ rfl (Nat.le_of_ble_eq_true rfl) (Nat.le_of_ble_eq_true rfl) (t_X6_isField l1 I) rfl (fun r1 I1 => ?_)
  refine Ey.if_eq (M := mX4_sizeAround) (tgt := 16) (pc2 := 7) dX4_sizeAround_4 rfl (fun _ => ?_) rfl (fun _ => ?_)
  · refine Ex.iconst (M := mX4_sizeAround) (pc2 := 17) dX4_sizeAround_16 ki_0 rfl ?_
    exact Ey.ireturn (M := mX4_sizeAround) dX4_sizeAround_17 rfl rfl
  · refine Ex.aload_n (M := mX4_sizeAround) (pc2 := 8) dX4_sizeAround_7 rfl rfl rfl ?_
    refine Ex.getR (M := mX4_sizeAround) (pc2 := 11) dX4_sizeAround_8 xck4 lfX4_15 (Nat.le_of_ble_eq_true rfl) sh_6 rfl ff_6_2 rfl ?_
    refine Ex.iload_n (M := mX4_sizeAround) (pc2 := 12) dX4_sizeAround_11 rfl rfl rfl ?_
    refine Ey.guard (fun hz2 => ?_)
    refine Ey.iaload (M := mX4_sizeAround) (pc2 := 13) dX4_sizeAround_12 sh_8 rfl hz2 rfl ?_
    refine Ex.goto (M := mX4_sizeAround) (tgt := 17) dX4_sizeAround_13 rfl ?_
    exact Ey.ireturn (M := mX4_sizeAround) dX4_sizeAround_17 rfl rfl
/-! FenceDuel$Post.reasonAgainstClaim(LFenceDuel$State;I)I -/
def f_X3_reasonAgainstClaim (b1 : Nat) (l2 : Int32) (I : xI) : Option (Int32 × xI) :=
  xb (f_X5_takerOf b1 l2 I) (fun r1 I1 => if r1 = (-5 : Int32) then xb (f_X4_sizeAround l2 I1) (fun r2 I2 => if r2 ≤ (I2 (b1 + 1) 1) then some ((0 : Int32), I2) else some ((5 : Int32), I2)) else some ((4 : Int32), I1))
theorem t_X3_reasonAgainstClaim (b1 : Nat) (h1 : xSt b1) (l2 : Int32) (I : xI) : Ey none mX3_reasonAgainstClaim 0 [some (.inr (some 12)), some (.inr (some b1)), some (.inl l2)] [] I (f_X3_reasonAgainstClaim b1 l2 I) := by
  unfold f_X3_reasonAgainstClaim
  refine Ex.aload_n (M := mX3_reasonAgainstClaim) (pc2 := 1) dX3_reasonAgainstClaim_0 rfl rfl rfl ?_
  refine Ex.iload_n (M := mX3_reasonAgainstClaim) (pc2 := 2) dX3_reasonAgainstClaim_1 rfl rfl rfl ?_
  refine Ey.callVi (M := mX3_reasonAgainstClaim) (pc2 := 5) (as := [.inl l2]) (rest := []) rfl dX3_reasonAgainstClaim_2 isX5_takerOf lcX3_80 (h1).s0 rfl rfl ⟨(Nat.le_of_ble_eq_true rfl), (Nat.le_of_ble_eq_true rfl)⟩ rfl (Nat.le_of_ble_eq_true rfl) (Nat.le_of_ble_eq_true rfl) (t_X5_takerOf b1 (h1) l2 I) rfl (fun r1 I1 => ?_)
  refine Ex.bipush (M := mX3_reasonAgainstClaim) (pc2 := 7) dX3_reasonAgainstClaim_5 kb_m5 rfl ?_
  refine Ey.icmp_eq (M := mX3_reasonAgainstClaim) (tgt := 12) (pc2 := 10) dX3_reasonAgainstClaim_7 rfl (fun _ => ?_) rfl (fun _ => ?_)
  · refine Ex.aload_n (M := mX3_reasonAgainstClaim) (pc2 := 13) dX3_reasonAgainstClaim_12 rfl rfl rfl ?_
    refine Ex.getR (M := mX3_reasonAgainstClaim) (pc2 := 16) dX3_reasonAgainstClaim_13 xck3 lfX3_15 (Nat.le_of_ble_eq_true rfl) sh_12 rfl ff_12_1 rfl ?_
    refine Ex.iload_n (M := mX3_reasonAgainstClaim) (pc2 := 17) dX3_reasonAgainstClaim_16 rfl rfl rfl ?_
    refine Ey.callVi (M := mX3_reasonAgainstClaim) (pc2 := 20) (as := [.inl l2]) (rest := []) rfl dX3_reasonAgainstClaim_17 isX4_sizeAround lcX3_102 sh_6 rfl rfl ⟨(Nat.le_of_ble_eq_true rfl), (Nat.le_of_ble_eq_true rfl)⟩ rfl (Nat.le_of_ble_eq_true rfl) (Nat.le_of_ble_eq_true rfl) (t_X4_sizeAround l2 I1) rfl (fun r2 I2 => ?_)
    refine Ex.aload_n (M := mX3_reasonAgainstClaim) (pc2 := 21) dX3_reasonAgainstClaim_20 rfl rfl rfl ?_
    refine Ex.getR (M := mX3_reasonAgainstClaim) (pc2 := 24) dX3_reasonAgainstClaim_21 xck5 lfX3_105 (Nat.le_of_ble_eq_true rfl) (h1).s0 rfl (h1).f4 rfl ?_
    refine Ex.iconst (M := mX3_reasonAgainstClaim) (pc2 := 25) dX3_reasonAgainstClaim_24 ki_1 rfl ?_
    refine Ey.iaload (M := mX3_reasonAgainstClaim) (pc2 := 26) dX3_reasonAgainstClaim_25 (h1).s1 kn_1 (by decide) rfl ?_
    refine Ey.icmp_le (M := mX3_reasonAgainstClaim) (tgt := 33) (pc2 := 29) dX3_reasonAgainstClaim_26 rfl (fun _ => ?_) rfl (fun _ => ?_)
    · refine Ex.iconst (M := mX3_reasonAgainstClaim) (pc2 := 34) dX3_reasonAgainstClaim_33 ki_0 rfl ?_
      exact Ey.ireturn (M := mX3_reasonAgainstClaim) dX3_reasonAgainstClaim_34 rfl rfl
    · refine Ex.iconst (M := mX3_reasonAgainstClaim) (pc2 := 30) dX3_reasonAgainstClaim_29 ki_5 rfl ?_
      refine Ex.goto (M := mX3_reasonAgainstClaim) (tgt := 34) dX3_reasonAgainstClaim_30 rfl ?_
      exact Ey.ireturn (M := mX3_reasonAgainstClaim) dX3_reasonAgainstClaim_34 rfl rfl
  · refine Ex.iconst (M := mX3_reasonAgainstClaim) (pc2 := 11) dX3_reasonAgainstClaim_10 ki_4 rfl ?_
    exact Ey.ireturn (M := mX3_reasonAgainstClaim) dX3_reasonAgainstClaim_11 rfl rfl
/-! FenceDuel$Post.reasonAgainst(LFenceDuel$State;I)I -/
def f_X3_reasonAgainst (b1 : Nat) (l2 : Int32) (I : xI) : Option (Int32 × xI) :=
  xb (f_X5_told b1 l2 (1 : Int32) I) (fun r1 I1 => if r1 = 0 then xb (f_X3_edgeOf b1 l2 I1) (fun r3 I3 => xb (f_X3_reasonAgainstFence b1 r3 I3) (fun r4 I4 => some (r4, I4))) else if r1 = 1 then xb (f_X3_edgeOf b1 l2 I1) (fun r5 I5 => xb (f_X3_reasonAgainstGap b1 r5 I5) (fun r6 I6 => some (r6, I6))) else if r1 = 2 then xb (f_X4_survey b1 I1) (fun r7 I7 => xb (f_X5_told b1 l2 (2 : Int32) I7) (fun r8 I8 => xb (f_X3_reasonAgainstClaim b1 r8 I8) (fun r9 I9 => some (r9, I9)))) else some ((0 : Int32), I1))
theorem t_X3_reasonAgainst (b1 : Nat) (h1 : xSt b1) (l2 : Int32) (I : xI) : Ey none mX3_reasonAgainst 0 [some (.inr (some 12)), some (.inr (some b1)), some (.inl l2)] [] I (f_X3_reasonAgainst b1 l2 I) := by
  unfold f_X3_reasonAgainst
  refine Ex.aload_n (M := mX3_reasonAgainst) (pc2 := 1) dX3_reasonAgainst_0 rfl rfl rfl ?_
  refine Ex.iload_n (M := mX3_reasonAgainst) (pc2 := 2) dX3_reasonAgainst_1 rfl rfl rfl ?_
  refine Ex.iconst (M := mX3_reasonAgainst) (pc2 := 3) dX3_reasonAgainst_2 ki_1 rfl ?_
  refine Ey.callVi (M := mX3_reasonAgainst) (pc2 := 6) (as := [.inl l2, .inl (1 : Int32)]) (rest := []) rfl dX3_reasonAgainst_3 isX5_told lcX3_25 (h1).s0 rfl rfl ⟨(Nat.le_of_ble_eq_true rfl), (Nat.le_of_ble_eq_true rfl)⟩ rfl (Nat.le_of_ble_eq_true rfl) (Nat.le_of_ble_eq_true rfl) (t_X5_told b1 (h1) l2 (1 : Int32) I) rfl (fun r1 I1 => ?_)
  refine Ey.ite (fun hc2_0 => ?_) (fun hc2_0 => ?_)
  · refine Ey.tcase (M := mX3_reasonAgainst) (c := 0) (off := 26) (tgt := 32) hc2_0 dX3_reasonAgainst_6 (by decide) (by decide) (by decide) rfl ?_
    refine Ex.aload_n (M := mX3_reasonAgainst) (pc2 := 33) dX3_reasonAgainst_32 rfl rfl rfl ?_
    refine Ex.aload_n (M := mX3_reasonAgainst) (pc2 := 34) dX3_reasonAgainst_33 rfl rfl rfl ?_
    refine Ex.aload_n (M := mX3_reasonAgainst) (pc2 := 35) dX3_reasonAgainst_34 rfl rfl rfl ?_
    refine Ex.aload_n (M := mX3_reasonAgainst) (pc2 := 36) dX3_reasonAgainst_35 rfl rfl rfl ?_
    refine Ex.iload_n (M := mX3_reasonAgainst) (pc2 := 37) dX3_reasonAgainst_36 rfl rfl rfl ?_
    refine Ey.callVi (M := mX3_reasonAgainst) (pc2 := 40) (as := [.inr (some b1), .inl l2]) (rest := [.inr (some b1), .inr (some 12)]) rfl dX3_reasonAgainst_37 isX3_edgeOf lcX3_45 sh_12 rfl rfl ⟨(Nat.le_of_ble_eq_true rfl), (Nat.le_of_ble_eq_true rfl)⟩ rfl (Nat.le_of_ble_eq_true rfl) (Nat.le_of_ble_eq_true rfl) (t_X3_edgeOf b1 (h1) l2 I1) rfl (fun r3 I3 => ?_)
    refine Ey.callVi (M := mX3_reasonAgainst) (pc2 := 43) (as := [.inr (some b1), .inl r3]) (rest := []) rfl dX3_reasonAgainst_40 isX3_reasonAgainstFence lcX3_83 sh_12 rfl rfl ⟨(Nat.le_of_ble_eq_true rfl), (Nat.le_of_ble_eq_true rfl)⟩ rfl (Nat.le_of_ble_eq_true rfl) (Nat.le_of_ble_eq_true rfl) (t_X3_reasonAgainstFence b1 (h1) r3 I3) rfl (fun r4 I4 => ?_)
    exact Ey.ireturn (M := mX3_reasonAgainst) dX3_reasonAgainst_43 rfl rfl
  · refine Ey.ite (fun hc2_1 => ?_) (fun hc2_1 => ?_)
    · refine Ey.tcase (M := mX3_reasonAgainst) (c := 1) (off := 38) (tgt := 44) hc2_1 dX3_reasonAgainst_6 (by decide) (by decide) (by decide) rfl ?_
      refine Ex.aload_n (M := mX3_reasonAgainst) (pc2 := 45) dX3_reasonAgainst_44 rfl rfl rfl ?_
      refine Ex.aload_n (M := mX3_reasonAgainst) (pc2 := 46) dX3_reasonAgainst_45 rfl rfl rfl ?_
      refine Ex.aload_n (M := mX3_reasonAgainst) (pc2 := 47) dX3_reasonAgainst_46 rfl rfl rfl ?_
      refine Ex.aload_n (M := mX3_reasonAgainst) (pc2 := 48) dX3_reasonAgainst_47 rfl rfl rfl ?_
      refine Ex.iload_n (M := mX3_reasonAgainst) (pc2 := 49) dX3_reasonAgainst_48 rfl rfl rfl ?_
      refine Ey.callVi (M := mX3_reasonAgainst) (pc2 := 52) (as := [.inr (some b1), .inl l2]) (rest := [.inr (some b1), .inr (some 12)]) rfl dX3_reasonAgainst_49 isX3_edgeOf lcX3_45 sh_12 rfl rfl ⟨(Nat.le_of_ble_eq_true rfl), (Nat.le_of_ble_eq_true rfl)⟩ rfl (Nat.le_of_ble_eq_true rfl) (Nat.le_of_ble_eq_true rfl) (t_X3_edgeOf b1 (h1) l2 I1) rfl (fun r5 I5 => ?_)
      refine Ey.callVi (M := mX3_reasonAgainst) (pc2 := 55) (as := [.inr (some b1), .inl r5]) (rest := []) rfl dX3_reasonAgainst_52 isX3_reasonAgainstGap lcX3_86 sh_12 rfl rfl ⟨(Nat.le_of_ble_eq_true rfl), (Nat.le_of_ble_eq_true rfl)⟩ rfl (Nat.le_of_ble_eq_true rfl) (Nat.le_of_ble_eq_true rfl) (t_X3_reasonAgainstGap b1 (h1) r5 I5) rfl (fun r6 I6 => ?_)
      exact Ey.ireturn (M := mX3_reasonAgainst) dX3_reasonAgainst_55 rfl rfl
    · refine Ey.ite (fun hc2_2 => ?_) (fun hc2_2 => ?_)
      · refine Ey.tcase (M := mX3_reasonAgainst) (c := 2) (off := 50) (tgt := 56) hc2_2 dX3_reasonAgainst_6 (by decide) (by decide) (by decide) rfl ?_
        refine Ex.aload_n (M := mX3_reasonAgainst) (pc2 := 57) dX3_reasonAgainst_56 rfl rfl rfl ?_
        refine Ex.getR (M := mX3_reasonAgainst) (pc2 := 60) dX3_reasonAgainst_57 xck3 lfX3_15 (Nat.le_of_ble_eq_true rfl) sh_12 rfl ff_12_1 rfl ?_
        refine Ex.aload_n (M := mX3_reasonAgainst) (pc2 := 61) dX3_reasonAgainst_60 rfl rfl rfl ?_
        refine Ey.callVi (M := mX3_reasonAgainst) (pc2 := 64) (as := [.inr (some b1)]) (rest := []) rfl dX3_reasonAgainst_61 isX4_survey lcX3_89 sh_6 rfl rfl ⟨(Nat.le_of_ble_eq_true rfl), (Nat.le_of_ble_eq_true rfl)⟩ rfl (Nat.le_of_ble_eq_true rfl) (Nat.le_of_ble_eq_true rfl) (t_X4_survey b1 (h1) I1) rfl (fun r7 I7 => ?_)
        refine Ex.pop (M := mX3_reasonAgainst) (pc2 := 65) dX3_reasonAgainst_64 rfl ?_
        refine Ex.aload_n (M := mX3_reasonAgainst) (pc2 := 66) dX3_reasonAgainst_65 rfl rfl rfl ?_
        refine Ex.aload_n (M := mX3_reasonAgainst) (pc2 := 67) dX3_reasonAgainst_66 rfl rfl rfl ?_
        refine Ex.aload_n (M := mX3_reasonAgainst) (pc2 := 68) dX3_reasonAgainst_67 rfl rfl rfl ?_
        refine Ex.iload_n (M := mX3_reasonAgainst) (pc2 := 69) dX3_reasonAgainst_68 rfl rfl rfl ?_
        refine Ex.iconst (M := mX3_reasonAgainst) (pc2 := 70) dX3_reasonAgainst_69 ki_2 rfl ?_
        refine Ey.callVi (M := mX3_reasonAgainst) (pc2 := 73) (as := [.inl l2, .inl (2 : Int32)]) (rest := [.inr (some b1), .inr (some 12)]) rfl dX3_reasonAgainst_70 isX5_told lcX3_25 (h1).s0 rfl rfl ⟨(Nat.le_of_ble_eq_true rfl), (Nat.le_of_ble_eq_true rfl)⟩ rfl (Nat.le_of_ble_eq_true rfl) (Nat.le_of_ble_eq_true rfl) (t_X5_told b1 (h1) l2 (2 : Int32) I7) rfl (fun r8 I8 => ?_)
        refine Ey.callVi (M := mX3_reasonAgainst) (pc2 := 76) (as := [.inr (some b1), .inl r8]) (rest := []) rfl dX3_reasonAgainst_73 isX3_reasonAgainstClaim lcX3_95 sh_12 rfl rfl ⟨(Nat.le_of_ble_eq_true rfl), (Nat.le_of_ble_eq_true rfl)⟩ rfl (Nat.le_of_ble_eq_true rfl) (Nat.le_of_ble_eq_true rfl) (t_X3_reasonAgainstClaim b1 (h1) r8 I8) rfl (fun r9 I9 => ?_)
        exact Ey.ireturn (M := mX3_reasonAgainst) dX3_reasonAgainst_76 rfl rfl
      · refine Ex.tableOut (M := mX3_reasonAgainst) (tgt := 77) dX3_reasonAgainst_6 (xOut (n := 3) (by decide) (fun j hj => match j, hj with | 0, _ => xNe hc2_0 (by decide) | 1, _ => xNe hc2_1 (by decide) | 2, _ => xNe hc2_2 (by decide) | j + 3, hj => absurd hj (by omega))) rfl ?_
        refine Ex.iconst (M := mX3_reasonAgainst) (pc2 := 78) dX3_reasonAgainst_77 ki_0 rfl ?_
        exact Ey.ireturn (M := mX3_reasonAgainst) dX3_reasonAgainst_78 rfl rfl
/-! FenceDuel$Regions.lowestAround(I)I -/
def f_X4_lowestAround (l1 : Int32) (I : xI) : Option (Int32 × xI) :=
  xb (f_X6_isField l1 I) (fun r1 I1 => if r1 = 0 then some ((-5 : Int32), I1) else if xin l1 48 then some ((I1 7 l1.toNatClampNeg), I1) else none)
theorem t_X4_lowestAround (l1 : Int32) (I : xI) : Ey none mX4_lowestAround 0 [some (.inr (some 6)), some (.inl l1)] [] I (f_X4_lowestAround l1 I) := by
  unfold f_X4_lowestAround
  refine Ex.iload_n (M := mX4_lowestAround) (pc2 := 1) dX4_lowestAround_0 rfl rfl rfl ?_
  refine Ey.callSNi (M := mX4_lowestAround) (pc2 := 4) (as := [.inl l1]) (rest := []) rfl dX4_lowestAround_1 isX6_isField lnX4_41  rfl ⟨(Nat.le_of_ble_eq_true rfl), (Nat.le_of_ble_eq_true rfl)⟩ rfl (Nat.le_of_ble_eq_true rfl) (Nat.le_of_ble_eq_true rfl) (t_X6_isField l1 I) rfl (fun r1 I1 => ?_)
  refine Ey.if_eq (M := mX4_lowestAround) (tgt := 16) (pc2 := 7) dX4_lowestAround_4 rfl (fun _ => ?_) rfl (fun _ => ?_)
  · refine Ex.bipush (M := mX4_lowestAround) (pc2 := 18) dX4_lowestAround_16 kb_m5 rfl ?_
    exact Ey.ireturn (M := mX4_lowestAround) dX4_lowestAround_18 rfl rfl
  · refine Ex.aload_n (M := mX4_lowestAround) (pc2 := 8) dX4_lowestAround_7 rfl rfl rfl ?_
    refine Ex.getR (M := mX4_lowestAround) (pc2 := 11) dX4_lowestAround_8 xck4 lfX4_9 (Nat.le_of_ble_eq_true rfl) sh_6 rfl ff_6_1 rfl ?_
    refine Ex.iload_n (M := mX4_lowestAround) (pc2 := 12) dX4_lowestAround_11 rfl rfl rfl ?_
    refine Ey.guard (fun hz2 => ?_)
    refine Ey.iaload (M := mX4_lowestAround) (pc2 := 13) dX4_lowestAround_12 sh_7 rfl hz2 rfl ?_
    refine Ex.goto (M := mX4_lowestAround) (tgt := 18) dX4_lowestAround_13 rfl ?_
    exact Ey.ireturn (M := mX4_lowestAround) dX4_lowestAround_18 rfl rfl
/-! FenceDuel$Post.takeRegion(LFenceDuel$State;I)V -/
def f_X3_takeRegion_17b (b1 : Nat) (k17 : Int32 → Int32 → Int32 → xI → Option (Int32 × xI)) (l2 : Int32) (l3 : Int32) (l4 : Int32) (I : xI) : Option (Int32 × xI) :=
  if l4 ≥ (48 : Int32) then some (0, I) else xb (f_X4_lowestAround l4 I) (fun r1 I1 => if r1 ≠ l3 then k17 l2 l3 (l4 + 1) I1 else if xin l4 48 then if (I1 (b1 + 4) l4.toNatClampNeg) ≠ (-5 : Int32) then k17 l2 l3 (l4 + 1) I1 else if xin l4 48 then k17 l2 l3 (l4 + 1) (xup I1 (b1 + 4) l4.toNatClampNeg l2) else none else none)
theorem t_X3_takeRegion_17b (b1 : Nat) (h1 : xSt b1) (k17 : Int32 → Int32 → Int32 → xI → Option (Int32 × xI)) (hk17 : ∀ (l2 : Int32) (l3 : Int32) (l4 : Int32) (I : xI), Ey none mX3_takeRegion 17 [some (.inr (some 12)), some (.inr (some b1)), some (.inl l2), some (.inl l3), some (.inl l4)] [] I (k17 l2 l3 l4 I)) (l2 : Int32) (l3 : Int32) (l4 : Int32) (I : xI) : Ey none mX3_takeRegion 17 [some (.inr (some 12)), some (.inr (some b1)), some (.inl l2), some (.inl l3), some (.inl l4)] [] I (f_X3_takeRegion_17b b1 k17 l2 l3 l4 I) := by
  unfold f_X3_takeRegion_17b
  refine Ex.iload (M := mX3_takeRegion) (pc2 := 19) dX3_takeRegion_17 rfl rfl ?_
  refine Ex.bipush (M := mX3_takeRegion) (pc2 := 21) dX3_takeRegion_19 kb_48 rfl ?_
  refine Ey.icmp_ge (M := mX3_takeRegion) (tgt := 63) (pc2 := 24) dX3_takeRegion_21 rfl (fun _ => ?_) rfl (fun _ => ?_)
  · exact Ey.ret (M := mX3_takeRegion) dX3_takeRegion_63 rfl
  · refine Ex.aload_n (M := mX3_takeRegion) (pc2 := 25) dX3_takeRegion_24 rfl rfl rfl ?_
    refine Ex.getR (M := mX3_takeRegion) (pc2 := 28) dX3_takeRegion_25 xck3 lfX3_15 (Nat.le_of_ble_eq_true rfl) sh_12 rfl ff_12_1 rfl ?_
    refine Ex.iload (M := mX3_takeRegion) (pc2 := 30) dX3_takeRegion_28 rfl rfl ?_
    refine Ey.callVi (M := mX3_takeRegion) (pc2 := 33) (as := [.inl l4]) (rest := []) rfl dX3_takeRegion_30 isX4_lowestAround lcX3_119 sh_6 rfl rfl ⟨(Nat.le_of_ble_eq_true rfl), (Nat.le_of_ble_eq_true rfl)⟩ rfl (Nat.le_of_ble_eq_true rfl) (Nat.le_of_ble_eq_true rfl) (t_X4_lowestAround l4 I) rfl (fun r1 I1 => ?_)
    refine Ex.iload_n (M := mX3_takeRegion) (pc2 := 34) dX3_takeRegion_33 rfl rfl rfl ?_
    refine Ey.icmp_ne (M := mX3_takeRegion) (tgt := 57) (pc2 := 37) dX3_takeRegion_34 rfl (fun _ => ?_) rfl (fun _ => ?_)
    · refine Ey.iinc (M := mX3_takeRegion) (pc2 := 60) dX3_takeRegion_57 rfl ki_1 (Nat.le_of_ble_eq_true rfl) rfl rfl ?_
      refine Ex.goto (M := mX3_takeRegion) (tgt := 17) dX3_takeRegion_60 rfl ?_
      exact hk17 _ _ _ _
    · refine Ex.aload_n (M := mX3_takeRegion) (pc2 := 38) dX3_takeRegion_37 rfl rfl rfl ?_
      refine Ex.getR (M := mX3_takeRegion) (pc2 := 41) dX3_takeRegion_38 xck5 lfX3_122 (Nat.le_of_ble_eq_true rfl) (h1).s0 rfl (h1).f7 rfl ?_
      refine Ex.iload (M := mX3_takeRegion) (pc2 := 43) dX3_takeRegion_41 rfl rfl ?_
      refine Ey.guard (fun hz2 => ?_)
      refine Ey.iaload (M := mX3_takeRegion) (pc2 := 44) dX3_takeRegion_43 (h1).s4 rfl hz2 rfl ?_
      refine Ex.bipush (M := mX3_takeRegion) (pc2 := 46) dX3_takeRegion_44 kb_m5 rfl ?_
      refine Ey.icmp_ne (M := mX3_takeRegion) (tgt := 57) (pc2 := 49) dX3_takeRegion_46 rfl (fun _ => ?_) rfl (fun _ => ?_)
      · refine Ey.iinc (M := mX3_takeRegion) (pc2 := 60) dX3_takeRegion_57 rfl ki_1 (Nat.le_of_ble_eq_true rfl) rfl rfl ?_
        refine Ex.goto (M := mX3_takeRegion) (tgt := 17) dX3_takeRegion_60 rfl ?_
        exact hk17 _ _ _ _
      · refine Ex.aload_n (M := mX3_takeRegion) (pc2 := 50) dX3_takeRegion_49 rfl rfl rfl ?_
        refine Ex.getR (M := mX3_takeRegion) (pc2 := 53) dX3_takeRegion_50 xck5 lfX3_122 (Nat.le_of_ble_eq_true rfl) (h1).s0 rfl (h1).f7 rfl ?_
        refine Ex.iload (M := mX3_takeRegion) (pc2 := 55) dX3_takeRegion_53 rfl rfl ?_
        refine Ex.iload_n (M := mX3_takeRegion) (pc2 := 56) dX3_takeRegion_55 rfl rfl rfl ?_
        refine Ey.guard (fun hz3 => ?_)
        refine Ey.iastore (M := mX3_takeRegion) (pc2 := 57) dX3_takeRegion_56 (h1).s4 rfl hz3 rfl ?_
        refine Ey.iinc (M := mX3_takeRegion) (pc2 := 60) dX3_takeRegion_57 rfl ki_1 (Nat.le_of_ble_eq_true rfl) rfl rfl ?_
        refine Ex.goto (M := mX3_takeRegion) (tgt := 17) dX3_takeRegion_60 rfl ?_
        exact hk17 _ _ _ _
def f_X3_takeRegion_17 (b1 : Nat) : Nat → Int32 → Int32 → Int32 → xI → Option (Int32 × xI)
  | 0, _, _, _, _ => none
  | n + 1, l2, l3, l4, I => f_X3_takeRegion_17b b1 (fun l2 l3 l4 I => f_X3_takeRegion_17 b1 n l2 l3 l4 I) l2 l3 l4 I
theorem t_X3_takeRegion_17 (b1 : Nat) (h1 : xSt b1) : ∀ (n : Nat) (l2 : Int32) (l3 : Int32) (l4 : Int32) (I : xI), Ey none mX3_takeRegion 17 [some (.inr (some 12)), some (.inr (some b1)), some (.inl l2), some (.inl l3), some (.inl l4)] [] I (f_X3_takeRegion_17 b1 n l2 l3 l4 I)
  | 0, l2, l3, l4, I => Ey.nil
  | n + 1, l2, l3, l4, I => t_X3_takeRegion_17b b1 h1 (fun l2 l3 l4 I => f_X3_takeRegion_17 b1 n l2 l3 l4 I) (fun l2 l3 l4 I => t_X3_takeRegion_17 b1 h1 n l2 l3 l4 I) l2 l3 l4 I
def f_X3_takeRegion (b1 : Nat) (l2 : Int32) (I : xI) : Option (Int32 × xI) :=
  xb (f_X5_told b1 l2 (2 : Int32) I) (fun r4 I4 => xb (f_X4_lowestAround r4 I4) (fun r5 I5 => f_X3_takeRegion_17 b1 xZ l2 r5 (0 : Int32) I5))
theorem t_X3_takeRegion (b1 : Nat) (h1 : xSt b1) (l2 : Int32) (I : xI) : Ey none mX3_takeRegion 0 [some (.inr (some 12)), some (.inr (some b1)), some (.inl l2), none, none] [] I (f_X3_takeRegion b1 l2 I) := by
  unfold f_X3_takeRegion
  refine Ex.aload_n (M := mX3_takeRegion) (pc2 := 1) dX3_takeRegion_0 rfl rfl rfl ?_
  refine Ex.getR (M := mX3_takeRegion) (pc2 := 4) dX3_takeRegion_1 xck3 lfX3_15 (Nat.le_of_ble_eq_true rfl) sh_12 rfl ff_12_1 rfl ?_
  refine Ex.aload_n (M := mX3_takeRegion) (pc2 := 5) dX3_takeRegion_4 rfl rfl rfl ?_
  refine Ex.iload_n (M := mX3_takeRegion) (pc2 := 6) dX3_takeRegion_5 rfl rfl rfl ?_
  refine Ex.iconst (M := mX3_takeRegion) (pc2 := 7) dX3_takeRegion_6 ki_2 rfl ?_
  refine Ey.callVi (M := mX3_takeRegion) (pc2 := 10) (as := [.inl l2, .inl (2 : Int32)]) (rest := [.inr (some 6)]) rfl dX3_takeRegion_7 isX5_told lcX3_25 (h1).s0 rfl rfl ⟨(Nat.le_of_ble_eq_true rfl), (Nat.le_of_ble_eq_true rfl)⟩ rfl (Nat.le_of_ble_eq_true rfl) (Nat.le_of_ble_eq_true rfl) (t_X5_told b1 (h1) l2 (2 : Int32) I) rfl (fun r4 I4 => ?_)
  refine Ey.callVi (M := mX3_takeRegion) (pc2 := 13) (as := [.inl r4]) (rest := []) rfl dX3_takeRegion_10 isX4_lowestAround lcX3_119 sh_6 rfl rfl ⟨(Nat.le_of_ble_eq_true rfl), (Nat.le_of_ble_eq_true rfl)⟩ rfl (Nat.le_of_ble_eq_true rfl) (Nat.le_of_ble_eq_true rfl) (t_X4_lowestAround r4 I4) rfl (fun r5 I5 => ?_)
  refine Ey.istore_n (M := mX3_takeRegion) (pc2 := 14) dX3_takeRegion_13 rfl (Nat.le_of_ble_eq_true rfl) rfl rfl ?_
  refine Ex.iconst (M := mX3_takeRegion) (pc2 := 15) dX3_takeRegion_14 ki_0 rfl ?_
  refine Ey.istore (M := mX3_takeRegion) (pc2 := 17) dX3_takeRegion_15 (Nat.le_of_ble_eq_true rfl) rfl rfl ?_
  exact t_X3_takeRegion_17 b1 h1 xZ _ _ _ _
/-! FenceDuel$Post.carryOut(LFenceDuel$State;I)V -/
def f_X3_carryOut (b1 : Nat) (l2 : Int32) (I : xI) : Option (Int32 × xI) :=
  xb (f_X5_told b1 l2 (0 : Int32) I) (fun r1 I1 => xb (f_X5_told b1 l2 (1 : Int32) I1) (fun r2 I2 => if r2 = 0 then xb (f_X3_edgeOf b1 l2 I2) (fun r4 I4 => xb (f_X6_fenceOf r1 I4) (fun r5 I5 => xb (f_X5_putOnEdge b1 r4 r5 I5) (fun _ I6 => some (0, I6)))) else if r2 = 1 then xb (f_X3_edgeOf b1 l2 I2) (fun r7 I7 => xb (f_X5_putOnEdge b1 r7 (0 : Int32) I7) (fun _ I8 => some (0, I8))) else if r2 = 2 then xb (f_X3_takeRegion b1 l2 I2) (fun _ I9 => some (0, I9)) else xb (f_X6_isPlayer r1 I2) (fun r10 I10 => if r10 = 0 then some (0, I10) else xb (f_X5_told b1 l2 (3 : Int32) I10) (fun r11 I11 => if xin r1 2 then some (0, (xup I11 (b1 + 2) r1.toNatClampNeg ((I10 b1 0) + r11))) else none))))
theorem t_X3_carryOut (b1 : Nat) (h1 : xSt b1) (l2 : Int32) (I : xI) : Ey none mX3_carryOut 0 [some (.inr (some 12)), some (.inr (some b1)), some (.inl l2), none] [] I (f_X3_carryOut b1 l2 I) := by
  unfold f_X3_carryOut
  refine Ex.aload_n (M := mX3_carryOut) (pc2 := 1) dX3_carryOut_0 rfl rfl rfl ?_
  refine Ex.iload_n (M := mX3_carryOut) (pc2 := 2) dX3_carryOut_1 rfl rfl rfl ?_
  refine Ex.iconst (M := mX3_carryOut) (pc2 := 3) dX3_carryOut_2 ki_0 rfl ?_
  refine Ey.callVi (M := mX3_carryOut) (pc2 := 6) (as := [.inl l2, .inl (0 : Int32)]) (rest := []) rfl dX3_carryOut_3 isX5_told lcX3_25 (h1).s0 rfl rfl ⟨(Nat.le_of_ble_eq_true rfl), (Nat.le_of_ble_eq_true rfl)⟩ rfl (Nat.le_of_ble_eq_true rfl) (Nat.le_of_ble_eq_true rfl) (t_X5_told b1 (h1) l2 (0 : Int32) I) rfl (fun r1 I1 => ?_)
  refine Ey.istore_n (M := mX3_carryOut) (pc2 := 7) dX3_carryOut_6 rfl (Nat.le_of_ble_eq_true rfl) rfl rfl ?_
  refine Ex.aload_n (M := mX3_carryOut) (pc2 := 8) dX3_carryOut_7 rfl rfl rfl ?_
  refine Ex.iload_n (M := mX3_carryOut) (pc2 := 9) dX3_carryOut_8 rfl rfl rfl ?_
  refine Ex.iconst (M := mX3_carryOut) (pc2 := 10) dX3_carryOut_9 ki_1 rfl ?_
  refine Ey.callVi (M := mX3_carryOut) (pc2 := 13) (as := [.inl l2, .inl (1 : Int32)]) (rest := []) rfl dX3_carryOut_10 isX5_told lcX3_25 (h1).s0 rfl rfl ⟨(Nat.le_of_ble_eq_true rfl), (Nat.le_of_ble_eq_true rfl)⟩ rfl (Nat.le_of_ble_eq_true rfl) (Nat.le_of_ble_eq_true rfl) (t_X5_told b1 (h1) l2 (1 : Int32) I1) rfl (fun r2 I2 => ?_)
  refine Ey.ite (fun hc3_0 => ?_) (fun hc3_0 => ?_)
  · refine Ey.tcase (M := mX3_carryOut) (c := 0) (off := 27) (tgt := 40) hc3_0 dX3_carryOut_13 (by decide) (by decide) (by decide) rfl ?_
    refine Ex.aload_n (M := mX3_carryOut) (pc2 := 41) dX3_carryOut_40 rfl rfl rfl ?_
    refine Ex.aload_n (M := mX3_carryOut) (pc2 := 42) dX3_carryOut_41 rfl rfl rfl ?_
    refine Ex.aload_n (M := mX3_carryOut) (pc2 := 43) dX3_carryOut_42 rfl rfl rfl ?_
    refine Ex.iload_n (M := mX3_carryOut) (pc2 := 44) dX3_carryOut_43 rfl rfl rfl ?_
    refine Ey.callVi (M := mX3_carryOut) (pc2 := 47) (as := [.inr (some b1), .inl l2]) (rest := [.inr (some b1)]) rfl dX3_carryOut_44 isX3_edgeOf lcX3_45 sh_12 rfl rfl ⟨(Nat.le_of_ble_eq_true rfl), (Nat.le_of_ble_eq_true rfl)⟩ rfl (Nat.le_of_ble_eq_true rfl) (Nat.le_of_ble_eq_true rfl) (t_X3_edgeOf b1 (h1) l2 I2) rfl (fun r4 I4 => ?_)
    refine Ex.iload_n (M := mX3_carryOut) (pc2 := 48) dX3_carryOut_47 rfl rfl rfl ?_
    refine Ey.callSNi (M := mX3_carryOut) (pc2 := 51) (as := [.inl r1]) (rest := [.inl r4, .inr (some b1)]) rfl dX3_carryOut_48 isX6_fenceOf lnX3_77  rfl ⟨(Nat.le_of_ble_eq_true rfl), (Nat.le_of_ble_eq_true rfl)⟩ rfl (Nat.le_of_ble_eq_true rfl) (Nat.le_of_ble_eq_true rfl) (t_X6_fenceOf r1 I4) rfl (fun r5 I5 => ?_)
    refine Ey.callVv (M := mX3_carryOut) (pc2 := 54) (as := [.inl r4, .inl r5]) (rest := []) rfl dX3_carryOut_51 isX5_putOnEdge lcX3_49 (h1).s0 rfl rfl ⟨(Nat.le_of_ble_eq_true rfl), (Nat.le_of_ble_eq_true rfl)⟩ rfl (Nat.le_of_ble_eq_true rfl) (Nat.le_of_ble_eq_true rfl) (t_X5_putOnEdge b1 (h1) r4 r5 I5) rfl (fun I6 => ?_)
    refine Ex.goto (M := mX3_carryOut) (tgt := 104) dX3_carryOut_54 rfl ?_
    exact Ey.ret (M := mX3_carryOut) dX3_carryOut_104 rfl
  · refine Ey.ite (fun hc3_1 => ?_) (fun hc3_1 => ?_)
    · refine Ey.tcase (M := mX3_carryOut) (c := 1) (off := 44) (tgt := 57) hc3_1 dX3_carryOut_13 (by decide) (by decide) (by decide) rfl ?_
      refine Ex.aload_n (M := mX3_carryOut) (pc2 := 58) dX3_carryOut_57 rfl rfl rfl ?_
      refine Ex.aload_n (M := mX3_carryOut) (pc2 := 59) dX3_carryOut_58 rfl rfl rfl ?_
      refine Ex.aload_n (M := mX3_carryOut) (pc2 := 60) dX3_carryOut_59 rfl rfl rfl ?_
      refine Ex.iload_n (M := mX3_carryOut) (pc2 := 61) dX3_carryOut_60 rfl rfl rfl ?_
      refine Ey.callVi (M := mX3_carryOut) (pc2 := 64) (as := [.inr (some b1), .inl l2]) (rest := [.inr (some b1)]) rfl dX3_carryOut_61 isX3_edgeOf lcX3_45 sh_12 rfl rfl ⟨(Nat.le_of_ble_eq_true rfl), (Nat.le_of_ble_eq_true rfl)⟩ rfl (Nat.le_of_ble_eq_true rfl) (Nat.le_of_ble_eq_true rfl) (t_X3_edgeOf b1 (h1) l2 I2) rfl (fun r7 I7 => ?_)
      refine Ex.iconst (M := mX3_carryOut) (pc2 := 65) dX3_carryOut_64 ki_0 rfl ?_
      refine Ey.callVv (M := mX3_carryOut) (pc2 := 68) (as := [.inl r7, .inl (0 : Int32)]) (rest := []) rfl dX3_carryOut_65 isX5_putOnEdge lcX3_49 (h1).s0 rfl rfl ⟨(Nat.le_of_ble_eq_true rfl), (Nat.le_of_ble_eq_true rfl)⟩ rfl (Nat.le_of_ble_eq_true rfl) (Nat.le_of_ble_eq_true rfl) (t_X5_putOnEdge b1 (h1) r7 (0 : Int32) I7) rfl (fun I8 => ?_)
      refine Ex.goto (M := mX3_carryOut) (tgt := 104) dX3_carryOut_68 rfl ?_
      exact Ey.ret (M := mX3_carryOut) dX3_carryOut_104 rfl
    · refine Ey.ite (fun hc3_2 => ?_) (fun hc3_2 => ?_)
      · refine Ey.tcase (M := mX3_carryOut) (c := 2) (off := 58) (tgt := 71) hc3_2 dX3_carryOut_13 (by decide) (by decide) (by decide) rfl ?_
        refine Ex.aload_n (M := mX3_carryOut) (pc2 := 72) dX3_carryOut_71 rfl rfl rfl ?_
        refine Ex.aload_n (M := mX3_carryOut) (pc2 := 73) dX3_carryOut_72 rfl rfl rfl ?_
        refine Ex.iload_n (M := mX3_carryOut) (pc2 := 74) dX3_carryOut_73 rfl rfl rfl ?_
        refine Ey.callVv (M := mX3_carryOut) (pc2 := 77) (as := [.inr (some b1), .inl l2]) (rest := []) rfl dX3_carryOut_74 isX3_takeRegion lcX3_109 sh_12 rfl rfl ⟨(Nat.le_of_ble_eq_true rfl), (Nat.le_of_ble_eq_true rfl)⟩ rfl (Nat.le_of_ble_eq_true rfl) (Nat.le_of_ble_eq_true rfl) (t_X3_takeRegion b1 (h1) l2 I2) rfl (fun I9 => ?_)
        refine Ex.goto (M := mX3_carryOut) (tgt := 104) dX3_carryOut_77 rfl ?_
        exact Ey.ret (M := mX3_carryOut) dX3_carryOut_104 rfl
      · refine Ex.tableOut (M := mX3_carryOut) (tgt := 80) dX3_carryOut_13 (xOut (n := 3) (by decide) (fun j hj => match j, hj with | 0, _ => xNe hc3_0 (by decide) | 1, _ => xNe hc3_1 (by decide) | 2, _ => xNe hc3_2 (by decide) | j + 3, hj => absurd hj (by omega))) rfl ?_
        refine Ex.iload_n (M := mX3_carryOut) (pc2 := 81) dX3_carryOut_80 rfl rfl rfl ?_
        refine Ey.callSNi (M := mX3_carryOut) (pc2 := 84) (as := [.inl r1]) (rest := []) rfl dX3_carryOut_81 isX6_isPlayer lnX3_112  rfl ⟨(Nat.le_of_ble_eq_true rfl), (Nat.le_of_ble_eq_true rfl)⟩ rfl (Nat.le_of_ble_eq_true rfl) (Nat.le_of_ble_eq_true rfl) (t_X6_isPlayer r1 I2) rfl (fun r10 I10 => ?_)
        refine Ey.if_eq (M := mX3_carryOut) (tgt := 104) (pc2 := 87) dX3_carryOut_84 rfl (fun _ => ?_) rfl (fun _ => ?_)
        · exact Ey.ret (M := mX3_carryOut) dX3_carryOut_104 rfl
        · refine Ex.aload_n (M := mX3_carryOut) (pc2 := 88) dX3_carryOut_87 rfl rfl rfl ?_
          refine Ex.getR (M := mX3_carryOut) (pc2 := 91) dX3_carryOut_88 xck5 lfX3_116 (Nat.le_of_ble_eq_true rfl) (h1).s0 rfl (h1).f5 rfl ?_
          refine Ex.iload_n (M := mX3_carryOut) (pc2 := 92) dX3_carryOut_91 rfl rfl rfl ?_
          refine Ex.aload_n (M := mX3_carryOut) (pc2 := 93) dX3_carryOut_92 rfl rfl rfl ?_
          refine Ex.getI (M := mX3_carryOut) (pc2 := 96) dX3_carryOut_93 xck5 lfX3_29 (Nat.le_of_ble_eq_true rfl) (h1).s0 rfl rfl ?_
          refine Ex.aload_n (M := mX3_carryOut) (pc2 := 97) dX3_carryOut_96 rfl rfl rfl ?_
          refine Ex.iload_n (M := mX3_carryOut) (pc2 := 98) dX3_carryOut_97 rfl rfl rfl ?_
          refine Ex.iconst (M := mX3_carryOut) (pc2 := 99) dX3_carryOut_98 ki_3 rfl ?_
          refine Ey.callVi (M := mX3_carryOut) (pc2 := 102) (as := [.inl l2, .inl (3 : Int32)]) (rest := [.inl (I10 b1 0), .inl r1, .inr (some (b1 + 2))]) rfl dX3_carryOut_99 isX5_told lcX3_25 (h1).s0 rfl rfl ⟨(Nat.le_of_ble_eq_true rfl), (Nat.le_of_ble_eq_true rfl)⟩ rfl (Nat.le_of_ble_eq_true rfl) (Nat.le_of_ble_eq_true rfl) (t_X5_told b1 (h1) l2 (3 : Int32) I10) rfl (fun r11 I11 => ?_)
          refine Ex.iadd (M := mX3_carryOut) (pc2 := 103) dX3_carryOut_102 rfl ?_
          refine Ey.guard (fun hz12 => ?_)
          refine Ey.iastore (M := mX3_carryOut) (pc2 := 104) dX3_carryOut_103 (h1).s2 rfl hz12 rfl ?_
          exact Ey.ret (M := mX3_carryOut) dX3_carryOut_104 rfl
/-! FenceDuel$Post.bring(LFenceDuel$State;I)V -/
def f_X3_bring_74 (b1 : Nat) (l2 : Int32) (l4 : Int32) (I : xI) : Option (Int32 × xI) :=
  xb (f_X5_mark b1 l2 (7 : Int32) l4 I) (fun _ I1 => if l4 ≠ 0 then xb (f_X5_mark b1 l2 (6 : Int32) (2 : Int32) I1) (fun _ I2 => some (0, I2)) else xb (f_X5_mark b1 l2 (6 : Int32) (1 : Int32) I1) (fun _ I3 => some (0, I3)))
theorem t_X3_bring_74 (b1 : Nat) (h1 : xSt b1) (l2 : Int32) (d3 : Option xV) (l4 : Int32) (I : xI) : Ey none mX3_bring 74 [some (.inr (some 12)), some (.inr (some b1)), some (.inl l2), d3, some (.inl l4)] [] I (f_X3_bring_74 b1 l2 l4 I) := by
  unfold f_X3_bring_74
  refine Ex.aload_n (M := mX3_bring) (pc2 := 75) dX3_bring_74 rfl rfl rfl ?_
  refine Ex.iload_n (M := mX3_bring) (pc2 := 76) dX3_bring_75 rfl rfl rfl ?_
  refine Ex.bipush (M := mX3_bring) (pc2 := 78) dX3_bring_76 kb_7 rfl ?_
  refine Ex.iload (M := mX3_bring) (pc2 := 80) dX3_bring_78 rfl rfl ?_
  refine Ey.callVv (M := mX3_bring) (pc2 := 83) (as := [.inl l2, .inl (7 : Int32), .inl l4]) (rest := []) rfl dX3_bring_80 isX5_mark lcX3_66 (h1).s0 rfl rfl ⟨(Nat.le_of_ble_eq_true rfl), (Nat.le_of_ble_eq_true rfl)⟩ rfl (Nat.le_of_ble_eq_true rfl) (Nat.le_of_ble_eq_true rfl) (t_X5_mark b1 (h1) l2 (7 : Int32) l4 I) rfl (fun I1 => ?_)
  refine Ex.aload_n (M := mX3_bring) (pc2 := 84) dX3_bring_83 rfl rfl rfl ?_
  refine Ex.iload_n (M := mX3_bring) (pc2 := 85) dX3_bring_84 rfl rfl rfl ?_
  refine Ex.bipush (M := mX3_bring) (pc2 := 87) dX3_bring_85 kb_6 rfl ?_
  refine Ex.iload (M := mX3_bring) (pc2 := 89) dX3_bring_87 rfl rfl ?_
  refine Ey.if_ne (M := mX3_bring) (tgt := 96) (pc2 := 92) dX3_bring_89 rfl (fun _ => ?_) rfl (fun _ => ?_)
  · refine Ex.iconst (M := mX3_bring) (pc2 := 97) dX3_bring_96 ki_2 rfl ?_
    refine Ey.callVv (M := mX3_bring) (pc2 := 100) (as := [.inl l2, .inl (6 : Int32), .inl (2 : Int32)]) (rest := []) rfl dX3_bring_97 isX5_mark lcX3_66 (h1).s0 rfl rfl ⟨(Nat.le_of_ble_eq_true rfl), (Nat.le_of_ble_eq_true rfl)⟩ rfl (Nat.le_of_ble_eq_true rfl) (Nat.le_of_ble_eq_true rfl) (t_X5_mark b1 (h1) l2 (6 : Int32) (2 : Int32) I1) rfl (fun I2 => ?_)
    exact Ey.ret (M := mX3_bring) dX3_bring_100 rfl
  · refine Ex.iconst (M := mX3_bring) (pc2 := 93) dX3_bring_92 ki_1 rfl ?_
    refine Ex.goto (M := mX3_bring) (tgt := 97) dX3_bring_93 rfl ?_
    refine Ey.callVv (M := mX3_bring) (pc2 := 100) (as := [.inl l2, .inl (6 : Int32), .inl (1 : Int32)]) (rest := []) rfl dX3_bring_97 isX5_mark lcX3_66 (h1).s0 rfl rfl ⟨(Nat.le_of_ble_eq_true rfl), (Nat.le_of_ble_eq_true rfl)⟩ rfl (Nat.le_of_ble_eq_true rfl) (Nat.le_of_ble_eq_true rfl) (t_X5_mark b1 (h1) l2 (6 : Int32) (1 : Int32) I1) rfl (fun I3 => ?_)
    exact Ey.ret (M := mX3_bring) dX3_bring_100 rfl
def f_X3_bring (b1 : Nat) (l2 : Int32) (I : xI) : Option (Int32 × xI) :=
  xb (f_X5_enterTurn b1 l2 I) (fun r4 I4 => xb (f_X3_growsHedge b1 r4 l2 I4) (fun r5 I5 => if r5 = 0 then xb (f_X3_makesVoid b1 r4 l2 I5) (fun r6 I6 => if r6 = 0 then xb (f_X3_reasonAgainst b1 l2 I6) (fun r7 I7 => if r7 ≠ 0 then f_X3_bring_74 b1 l2 r7 I7 else xb (f_X3_carryOut b1 l2 I7) (fun _ I8 => f_X3_bring_74 b1 l2 r7 I8)) else xb (f_X5_giveBackFieldsOf b1 r4 I6) (fun _ I9 => f_X3_bring_74 b1 l2 (6 : Int32) I9)) else xb (f_X3_edgeOf b1 l2 I5) (fun r10 I10 => xb (f_X5_putOnEdge b1 r10 (3 : Int32) I10) (fun _ I11 => f_X3_bring_74 b1 l2 (0 : Int32) I11))))
theorem t_X3_bring (b1 : Nat) (h1 : xSt b1) (l2 : Int32) (I : xI) : Ey none mX3_bring 0 [some (.inr (some 12)), some (.inr (some b1)), some (.inl l2), none, none] [] I (f_X3_bring b1 l2 I) := by
  unfold f_X3_bring
  refine Ex.aload_n (M := mX3_bring) (pc2 := 1) dX3_bring_0 rfl rfl rfl ?_
  refine Ex.iload_n (M := mX3_bring) (pc2 := 2) dX3_bring_1 rfl rfl rfl ?_
  refine Ey.callVi (M := mX3_bring) (pc2 := 5) (as := [.inl l2]) (rest := []) rfl dX3_bring_2 isX5_enterTurn lcX3_37 (h1).s0 rfl rfl ⟨(Nat.le_of_ble_eq_true rfl), (Nat.le_of_ble_eq_true rfl)⟩ rfl (Nat.le_of_ble_eq_true rfl) (Nat.le_of_ble_eq_true rfl) (t_X5_enterTurn b1 (h1) l2 I) rfl (fun r4 I4 => ?_)
  refine Ey.istore_n (M := mX3_bring) (pc2 := 6) dX3_bring_5 rfl (Nat.le_of_ble_eq_true rfl) rfl rfl ?_
  refine Ex.iconst (M := mX3_bring) (pc2 := 7) dX3_bring_6 ki_0 rfl ?_
  refine Ey.istore (M := mX3_bring) (pc2 := 9) dX3_bring_7 (Nat.le_of_ble_eq_true rfl) rfl rfl ?_
  refine Ex.aload_n (M := mX3_bring) (pc2 := 10) dX3_bring_9 rfl rfl rfl ?_
  refine Ex.aload_n (M := mX3_bring) (pc2 := 11) dX3_bring_10 rfl rfl rfl ?_
  refine Ex.iload_n (M := mX3_bring) (pc2 := 12) dX3_bring_11 rfl rfl rfl ?_
  refine Ex.iload_n (M := mX3_bring) (pc2 := 13) dX3_bring_12 rfl rfl rfl ?_
  refine Ey.callVi (M := mX3_bring) (pc2 := 16) (as := [.inr (some b1), .inl r4, .inl l2]) (rest := []) rfl dX3_bring_13 isX3_growsHedge lcX3_41 sh_12 rfl rfl ⟨(Nat.le_of_ble_eq_true rfl), (Nat.le_of_ble_eq_true rfl)⟩ rfl (Nat.le_of_ble_eq_true rfl) (Nat.le_of_ble_eq_true rfl) (t_X3_growsHedge b1 (h1) r4 l2 I4) rfl (fun r5 I5 => ?_)
  refine Ey.if_eq (M := mX3_bring) (tgt := 33) (pc2 := 19) dX3_bring_16 rfl (fun _ => ?_) rfl (fun _ => ?_)
  · refine Ex.aload_n (M := mX3_bring) (pc2 := 34) dX3_bring_33 rfl rfl rfl ?_
    refine Ex.aload_n (M := mX3_bring) (pc2 := 35) dX3_bring_34 rfl rfl rfl ?_
    refine Ex.iload_n (M := mX3_bring) (pc2 := 36) dX3_bring_35 rfl rfl rfl ?_
    refine Ex.iload_n (M := mX3_bring) (pc2 := 37) dX3_bring_36 rfl rfl rfl ?_
    refine Ey.callVi (M := mX3_bring) (pc2 := 40) (as := [.inr (some b1), .inl r4, .inl l2]) (rest := []) rfl dX3_bring_37 isX3_makesVoid lcX3_53 sh_12 rfl rfl ⟨(Nat.le_of_ble_eq_true rfl), (Nat.le_of_ble_eq_true rfl)⟩ rfl (Nat.le_of_ble_eq_true rfl) (Nat.le_of_ble_eq_true rfl) (t_X3_makesVoid b1 (h1) r4 l2 I5) rfl (fun r6 I6 => ?_)
    refine Ey.if_eq (M := mX3_bring) (tgt := 55) (pc2 := 43) dX3_bring_40 rfl (fun _ => ?_) rfl (fun _ => ?_)
    · refine Ex.aload_n (M := mX3_bring) (pc2 := 56) dX3_bring_55 rfl rfl rfl ?_
      refine Ex.aload_n (M := mX3_bring) (pc2 := 57) dX3_bring_56 rfl rfl rfl ?_
      refine Ex.iload_n (M := mX3_bring) (pc2 := 58) dX3_bring_57 rfl rfl rfl ?_
      refine Ey.callVi (M := mX3_bring) (pc2 := 61) (as := [.inr (some b1), .inl l2]) (rest := []) rfl dX3_bring_58 isX3_reasonAgainst lcX3_60 sh_12 rfl rfl ⟨(Nat.le_of_ble_eq_true rfl), (Nat.le_of_ble_eq_true rfl)⟩ rfl (Nat.le_of_ble_eq_true rfl) (Nat.le_of_ble_eq_true rfl) (t_X3_reasonAgainst b1 (h1) l2 I6) rfl (fun r7 I7 => ?_)
      refine Ey.istore (M := mX3_bring) (pc2 := 63) dX3_bring_61 (Nat.le_of_ble_eq_true rfl) rfl rfl ?_
      refine Ex.iload (M := mX3_bring) (pc2 := 65) dX3_bring_63 rfl rfl ?_
      refine Ey.if_ne (M := mX3_bring) (tgt := 74) (pc2 := 68) dX3_bring_65 rfl (fun _ => ?_) rfl (fun _ => ?_)
      · exact t_X3_bring_74 b1 h1 _ _ _ _
      · refine Ex.aload_n (M := mX3_bring) (pc2 := 69) dX3_bring_68 rfl rfl rfl ?_
        refine Ex.aload_n (M := mX3_bring) (pc2 := 70) dX3_bring_69 rfl rfl rfl ?_
        refine Ex.iload_n (M := mX3_bring) (pc2 := 71) dX3_bring_70 rfl rfl rfl ?_
        refine Ey.callVv (M := mX3_bring) (pc2 := 74) (as := [.inr (some b1), .inl l2]) (rest := []) rfl dX3_bring_71 isX3_carryOut lcX3_63 sh_12 rfl rfl ⟨(Nat.le_of_ble_eq_true rfl), (Nat.le_of_ble_eq_true rfl)⟩ rfl (Nat.le_of_ble_eq_true rfl) (Nat.le_of_ble_eq_true rfl) (t_X3_carryOut b1 (h1) l2 I7) rfl (fun I8 => ?_)
        exact t_X3_bring_74 b1 h1 _ _ _ _
    · refine Ex.aload_n (M := mX3_bring) (pc2 := 44) dX3_bring_43 rfl rfl rfl ?_
      refine Ex.iload_n (M := mX3_bring) (pc2 := 45) dX3_bring_44 rfl rfl rfl ?_
      refine Ey.callVv (M := mX3_bring) (pc2 := 48) (as := [.inl r4]) (rest := []) rfl dX3_bring_45 isX5_giveBackFieldsOf lcX3_56 (h1).s0 rfl rfl ⟨(Nat.le_of_ble_eq_true rfl), (Nat.le_of_ble_eq_true rfl)⟩ rfl (Nat.le_of_ble_eq_true rfl) (Nat.le_of_ble_eq_true rfl) (t_X5_giveBackFieldsOf b1 (h1) r4 I6) rfl (fun I9 => ?_)
      refine Ex.bipush (M := mX3_bring) (pc2 := 50) dX3_bring_48 kb_6 rfl ?_
      refine Ey.istore (M := mX3_bring) (pc2 := 52) dX3_bring_50 (Nat.le_of_ble_eq_true rfl) rfl rfl ?_
      refine Ex.goto (M := mX3_bring) (tgt := 74) dX3_bring_52 rfl ?_
      exact t_X3_bring_74 b1 h1 _ _ _ _
  · refine Ex.aload_n (M := mX3_bring) (pc2 := 20) dX3_bring_19 rfl rfl rfl ?_
    refine Ex.aload_n (M := mX3_bring) (pc2 := 21) dX3_bring_20 rfl rfl rfl ?_
    refine Ex.aload_n (M := mX3_bring) (pc2 := 22) dX3_bring_21 rfl rfl rfl ?_
    refine Ex.iload_n (M := mX3_bring) (pc2 := 23) dX3_bring_22 rfl rfl rfl ?_
    refine Ey.callVi (M := mX3_bring) (pc2 := 26) (as := [.inr (some b1), .inl l2]) (rest := [.inr (some b1)]) rfl dX3_bring_23 isX3_edgeOf lcX3_45 sh_12 rfl rfl ⟨(Nat.le_of_ble_eq_true rfl), (Nat.le_of_ble_eq_true rfl)⟩ rfl (Nat.le_of_ble_eq_true rfl) (Nat.le_of_ble_eq_true rfl) (t_X3_edgeOf b1 (h1) l2 I5) rfl (fun r10 I10 => ?_)
    refine Ex.iconst (M := mX3_bring) (pc2 := 27) dX3_bring_26 ki_3 rfl ?_
    refine Ey.callVv (M := mX3_bring) (pc2 := 30) (as := [.inl r10, .inl (3 : Int32)]) (rest := []) rfl dX3_bring_27 isX5_putOnEdge lcX3_49 (h1).s0 rfl rfl ⟨(Nat.le_of_ble_eq_true rfl), (Nat.le_of_ble_eq_true rfl)⟩ rfl (Nat.le_of_ble_eq_true rfl) (Nat.le_of_ble_eq_true rfl) (t_X5_putOnEdge b1 (h1) r10 (3 : Int32) I10) rfl (fun I11 => ?_)
    refine Ex.goto (M := mX3_bring) (tgt := 74) dX3_bring_30 rfl ?_
    exact t_X3_bring_74 b1 h1 _ _ _ _
/-! FenceDuel$Post.deliver(LFenceDuel$State;I)I -/
def f_X3_deliver_5b (b1 : Nat) (k5 : Int32 → Int32 → Int32 → xI → Option (Int32 × xI)) (l2 : Int32) (l3 : Int32) (l4 : Int32) (I : xI) : Option (Int32 × xI) :=
  if l4 ≥ (60 : Int32) then some (l3, (xup I b1 0 l2)) else xb (f_X5_soonest b1 I) (fun r1 I1 => if r1 = (-5 : Int32) then some (l3, (xup I1 b1 0 l2)) else xb (f_X5_told b1 r1 (5 : Int32) I1) (fun r2 I2 => if r2 ≤ l2 then xb (f_X5_told b1 r1 (5 : Int32) I2) (fun r3 I3 => xb (f_X3_bring b1 r1 (xup I3 b1 0 r3)) (fun _ I4 => k5 l2 (l3 + 1) (l4 + 1) I4)) else some (l3, (xup I2 b1 0 l2))))
theorem t_X3_deliver_5b (b1 : Nat) (h1 : xSt b1) (k5 : Int32 → Int32 → Int32 → xI → Option (Int32 × xI)) (hk5 : ∀ (l2 : Int32) (l3 : Int32) (l4 : Int32) (d5 : Option xV) (I : xI), Ey none mX3_deliver 5 [some (.inr (some 12)), some (.inr (some b1)), some (.inl l2), some (.inl l3), some (.inl l4), d5] [] I (k5 l2 l3 l4 I)) (l2 : Int32) (l3 : Int32) (l4 : Int32) (d5 : Option xV) (I : xI) : Ey none mX3_deliver 5 [some (.inr (some 12)), some (.inr (some b1)), some (.inl l2), some (.inl l3), some (.inl l4), d5] [] I (f_X3_deliver_5b b1 k5 l2 l3 l4 I) := by
  unfold f_X3_deliver_5b
  refine Ex.iload (M := mX3_deliver) (pc2 := 7) dX3_deliver_5 rfl rfl ?_
  refine Ex.bipush (M := mX3_deliver) (pc2 := 9) dX3_deliver_7 kb_60 rfl ?_
  refine Ey.icmp_ge (M := mX3_deliver) (tgt := 66) (pc2 := 12) dX3_deliver_9 rfl (fun _ => ?_) rfl (fun _ => ?_)
  · refine Ex.aload_n (M := mX3_deliver) (pc2 := 67) dX3_deliver_66 rfl rfl rfl ?_
    refine Ex.iload_n (M := mX3_deliver) (pc2 := 68) dX3_deliver_67 rfl rfl rfl ?_
    refine Ex.putI (M := mX3_deliver) (pc2 := 71) dX3_deliver_68 xck5 lfX3_29 (Nat.le_of_ble_eq_true rfl) (h1).s0 rfl rfl ⟨rfl, rfl⟩ rfl ?_
    refine Ex.iload_n (M := mX3_deliver) (pc2 := 72) dX3_deliver_71 rfl rfl rfl ?_
    exact Ey.ireturn (M := mX3_deliver) dX3_deliver_72 rfl rfl
  · refine Ex.aload_n (M := mX3_deliver) (pc2 := 13) dX3_deliver_12 rfl rfl rfl ?_
    refine Ey.callVi (M := mX3_deliver) (pc2 := 16) (as := []) (rest := []) rfl dX3_deliver_13 isX5_soonest lcX3_19 (h1).s0 rfl rfl ⟨(Nat.le_of_ble_eq_true rfl), (Nat.le_of_ble_eq_true rfl)⟩ rfl (Nat.le_of_ble_eq_true rfl) (Nat.le_of_ble_eq_true rfl) (t_X5_soonest b1 (h1) I) rfl (fun r1 I1 => ?_)
    refine Ey.istore (M := mX3_deliver) (pc2 := 18) dX3_deliver_16 (Nat.le_of_ble_eq_true rfl) rfl rfl ?_
    refine Ex.iload (M := mX3_deliver) (pc2 := 20) dX3_deliver_18 rfl rfl ?_
    refine Ex.bipush (M := mX3_deliver) (pc2 := 22) dX3_deliver_20 kb_m5 rfl ?_
    refine Ey.icmp_eq (M := mX3_deliver) (tgt := 66) (pc2 := 25) dX3_deliver_22 rfl (fun _ => ?_) rfl (fun _ => ?_)
    · refine Ex.aload_n (M := mX3_deliver) (pc2 := 67) dX3_deliver_66 rfl rfl rfl ?_
      refine Ex.iload_n (M := mX3_deliver) (pc2 := 68) dX3_deliver_67 rfl rfl rfl ?_
      refine Ex.putI (M := mX3_deliver) (pc2 := 71) dX3_deliver_68 xck5 lfX3_29 (Nat.le_of_ble_eq_true rfl) (h1).s0 rfl rfl ⟨rfl, rfl⟩ rfl ?_
      refine Ex.iload_n (M := mX3_deliver) (pc2 := 72) dX3_deliver_71 rfl rfl rfl ?_
      exact Ey.ireturn (M := mX3_deliver) dX3_deliver_72 rfl rfl
    · refine Ex.aload_n (M := mX3_deliver) (pc2 := 26) dX3_deliver_25 rfl rfl rfl ?_
      refine Ex.iload (M := mX3_deliver) (pc2 := 28) dX3_deliver_26 rfl rfl ?_
      refine Ex.iconst (M := mX3_deliver) (pc2 := 29) dX3_deliver_28 ki_5 rfl ?_
      refine Ey.callVi (M := mX3_deliver) (pc2 := 32) (as := [.inl r1, .inl (5 : Int32)]) (rest := []) rfl dX3_deliver_29 isX5_told lcX3_25 (h1).s0 rfl rfl ⟨(Nat.le_of_ble_eq_true rfl), (Nat.le_of_ble_eq_true rfl)⟩ rfl (Nat.le_of_ble_eq_true rfl) (Nat.le_of_ble_eq_true rfl) (t_X5_told b1 (h1) r1 (5 : Int32) I1) rfl (fun r2 I2 => ?_)
      refine Ex.iload_n (M := mX3_deliver) (pc2 := 33) dX3_deliver_32 rfl rfl rfl ?_
      refine Ey.icmp_le (M := mX3_deliver) (tgt := 39) (pc2 := 36) dX3_deliver_33 rfl (fun _ => ?_) rfl (fun _ => ?_)
      · refine Ex.aload_n (M := mX3_deliver) (pc2 := 40) dX3_deliver_39 rfl rfl rfl ?_
        refine Ex.aload_n (M := mX3_deliver) (pc2 := 41) dX3_deliver_40 rfl rfl rfl ?_
        refine Ex.iload (M := mX3_deliver) (pc2 := 43) dX3_deliver_41 rfl rfl ?_
        refine Ex.iconst (M := mX3_deliver) (pc2 := 44) dX3_deliver_43 ki_5 rfl ?_
        refine Ey.callVi (M := mX3_deliver) (pc2 := 47) (as := [.inl r1, .inl (5 : Int32)]) (rest := [.inr (some b1)]) rfl dX3_deliver_44 isX5_told lcX3_25 (h1).s0 rfl rfl ⟨(Nat.le_of_ble_eq_true rfl), (Nat.le_of_ble_eq_true rfl)⟩ rfl (Nat.le_of_ble_eq_true rfl) (Nat.le_of_ble_eq_true rfl) (t_X5_told b1 (h1) r1 (5 : Int32) I2) rfl (fun r3 I3 => ?_)
        refine Ex.putI (M := mX3_deliver) (pc2 := 50) dX3_deliver_47 xck5 lfX3_29 (Nat.le_of_ble_eq_true rfl) (h1).s0 rfl rfl ⟨rfl, rfl⟩ rfl ?_
        refine Ex.aload_n (M := mX3_deliver) (pc2 := 51) dX3_deliver_50 rfl rfl rfl ?_
        refine Ex.aload_n (M := mX3_deliver) (pc2 := 52) dX3_deliver_51 rfl rfl rfl ?_
        refine Ex.iload (M := mX3_deliver) (pc2 := 54) dX3_deliver_52 rfl rfl ?_
        refine Ey.callVv (M := mX3_deliver) (pc2 := 57) (as := [.inr (some b1), .inl r1]) (rest := []) rfl dX3_deliver_54 isX3_bring lcX3_33 sh_12 rfl rfl ⟨(Nat.le_of_ble_eq_true rfl), (Nat.le_of_ble_eq_true rfl)⟩ rfl (Nat.le_of_ble_eq_true rfl) (Nat.le_of_ble_eq_true rfl) (t_X3_bring b1 (h1) r1 (xup I3 b1 0 r3)) rfl (fun I4 => ?_)
        refine Ey.iinc (M := mX3_deliver) (pc2 := 60) dX3_deliver_57 rfl ki_1 (Nat.le_of_ble_eq_true rfl) rfl rfl ?_
        refine Ey.iinc (M := mX3_deliver) (pc2 := 63) dX3_deliver_60 rfl ki_1 (Nat.le_of_ble_eq_true rfl) rfl rfl ?_
        refine Ex.goto (M := mX3_deliver) (tgt := 5) dX3_deliver_63 rfl ?_
        exact hk5 _ _ _ _ _
      · refine Ex.goto (M := mX3_deliver) (tgt := 66) dX3_deliver_36 rfl ?_
        refine Ex.aload_n (M := mX3_deliver) (pc2 := 67) dX3_deliver_66 rfl rfl rfl ?_
        refine Ex.iload_n (M := mX3_deliver) (pc2 := 68) dX3_deliver_67 rfl rfl rfl ?_
        refine Ex.putI (M := mX3_deliver) (pc2 := 71) dX3_deliver_68 xck5 lfX3_29 (Nat.le_of_ble_eq_true rfl) (h1).s0 rfl rfl ⟨rfl, rfl⟩ rfl ?_
        refine Ex.iload_n (M := mX3_deliver) (pc2 := 72) dX3_deliver_71 rfl rfl rfl ?_
        exact Ey.ireturn (M := mX3_deliver) dX3_deliver_72 rfl rfl
def f_X3_deliver_5 (b1 : Nat) : Nat → Int32 → Int32 → Int32 → xI → Option (Int32 × xI)
  | 0, _, _, _, _ => none
  | n + 1, l2, l3, l4, I => f_X3_deliver_5b b1 (fun l2 l3 l4 I => f_X3_deliver_5 b1 n l2 l3 l4 I) l2 l3 l4 I
theorem t_X3_deliver_5 (b1 : Nat) (h1 : xSt b1) : ∀ (n : Nat) (l2 : Int32) (l3 : Int32) (l4 : Int32) (d5 : Option xV) (I : xI), Ey none mX3_deliver 5 [some (.inr (some 12)), some (.inr (some b1)), some (.inl l2), some (.inl l3), some (.inl l4), d5] [] I (f_X3_deliver_5 b1 n l2 l3 l4 I)
  | 0, l2, l3, l4, d5, I => Ey.nil
  | n + 1, l2, l3, l4, d5, I => t_X3_deliver_5b b1 h1 (fun l2 l3 l4 I => f_X3_deliver_5 b1 n l2 l3 l4 I) (fun l2 l3 l4 d5 I => t_X3_deliver_5 b1 h1 n l2 l3 l4 d5 I) l2 l3 l4 d5 I
def f_X3_deliver (b1 : Nat) (l2 : Int32) (I : xI) : Option (Int32 × xI) :=
  f_X3_deliver_5 b1 xZ l2 (0 : Int32) (0 : Int32) I
theorem t_X3_deliver (b1 : Nat) (h1 : xSt b1) (l2 : Int32) (I : xI) : Ey none mX3_deliver 0 [some (.inr (some 12)), some (.inr (some b1)), some (.inl l2), none, none, none] [] I (f_X3_deliver b1 l2 I) := by
  unfold f_X3_deliver
  refine Ex.iconst (M := mX3_deliver) (pc2 := 1) dX3_deliver_0 ki_0 rfl ?_
  refine Ey.istore_n (M := mX3_deliver) (pc2 := 2) dX3_deliver_1 rfl (Nat.le_of_ble_eq_true rfl) rfl rfl ?_
  refine Ex.iconst (M := mX3_deliver) (pc2 := 3) dX3_deliver_2 ki_0 rfl ?_
  refine Ey.istore (M := mX3_deliver) (pc2 := 5) dX3_deliver_3 (Nat.le_of_ble_eq_true rfl) rfl rfl ?_
  exact t_X3_deliver_5 b1 h1 xZ _ _ _ _ _
/-! FenceDuel$Regions.freeAround(I)I -/
def f_X4_freeAround (l1 : Int32) (I : xI) : Option (Int32 × xI) :=
  xb (f_X6_isField l1 I) (fun r1 I1 => if r1 = 0 then some ((0 : Int32), I1) else if xin l1 48 then some ((I1 9 l1.toNatClampNeg), I1) else none)
theorem t_X4_freeAround (l1 : Int32) (I : xI) : Ey none mX4_freeAround 0 [some (.inr (some 6)), some (.inl l1)] [] I (f_X4_freeAround l1 I) := by
  unfold f_X4_freeAround
  refine Ex.iload_n (M := mX4_freeAround) (pc2 := 1) dX4_freeAround_0 rfl rfl rfl ?_
  refine Ey.callSNi (M := mX4_freeAround) (pc2 := 4) (as := [.inl l1]) (rest := []) rfl dX4_freeAround_1 isX6_isField lnX4_41  rfl ⟨(Nat.le_of_ble_eq_true rfl), (Nat.le_of_ble_eq_true rfl)⟩ rfl (Nat.le_of_ble_eq_true rfl) (Nat.le_of_ble_eq_true rfl) (t_X6_isField l1 I) rfl (fun r1 I1 => ?_)
  refine Ey.if_eq (M := mX4_freeAround) (tgt := 16) (pc2 := 7) dX4_freeAround_4 rfl (fun _ => ?_) rfl (fun _ => ?_)
  · refine Ex.iconst (M := mX4_freeAround) (pc2 := 17) dX4_freeAround_16 ki_0 rfl ?_
    exact Ey.ireturn (M := mX4_freeAround) dX4_freeAround_17 rfl rfl
  · refine Ex.aload_n (M := mX4_freeAround) (pc2 := 8) dX4_freeAround_7 rfl rfl rfl ?_
    refine Ex.getR (M := mX4_freeAround) (pc2 := 11) dX4_freeAround_8 xck4 lfX4_18 (Nat.le_of_ble_eq_true rfl) sh_6 rfl ff_6_3 rfl ?_
    refine Ex.iload_n (M := mX4_freeAround) (pc2 := 12) dX4_freeAround_11 rfl rfl rfl ?_
    refine Ey.guard (fun hz2 => ?_)
    refine Ey.iaload (M := mX4_freeAround) (pc2 := 13) dX4_freeAround_12 sh_9 rfl hz2 rfl ?_
    refine Ex.goto (M := mX4_freeAround) (tgt := 17) dX4_freeAround_13 rfl ?_
    exact Ey.ireturn (M := mX4_freeAround) dX4_freeAround_17 rfl rfl
/-! FenceDuel$Regions.relabel(II)V -/
def f_X4_relabel_2b (k2 : Int32 → Int32 → Int32 → xI → Option (Int32 × xI)) (l1 : Int32) (l2 : Int32) (l3 : Int32) (I : xI) : Option (Int32 × xI) :=
  if l3 ≥ (48 : Int32) then some (0, I) else if xin l3 48 then if (I 11 l3.toNatClampNeg) ≠ l1 then k2 l1 l2 (l3 + 1) I else if xin l3 48 then k2 l1 l2 (l3 + 1) (xup I 11 l3.toNatClampNeg l2) else none else none
theorem t_X4_relabel_2b (k2 : Int32 → Int32 → Int32 → xI → Option (Int32 × xI)) (hk2 : ∀ (l1 : Int32) (l2 : Int32) (l3 : Int32) (I : xI), Ey none mX4_relabel 2 [some (.inr (some 6)), some (.inl l1), some (.inl l2), some (.inl l3)] [] I (k2 l1 l2 l3 I)) (l1 : Int32) (l2 : Int32) (l3 : Int32) (I : xI) : Ey none mX4_relabel 2 [some (.inr (some 6)), some (.inl l1), some (.inl l2), some (.inl l3)] [] I (f_X4_relabel_2b k2 l1 l2 l3 I) := by
  unfold f_X4_relabel_2b
  refine Ex.iload_n (M := mX4_relabel) (pc2 := 3) dX4_relabel_2 rfl rfl rfl ?_
  refine Ex.bipush (M := mX4_relabel) (pc2 := 5) dX4_relabel_3 kb_48 rfl ?_
  refine Ey.icmp_ge (M := mX4_relabel) (tgt := 31) (pc2 := 8) dX4_relabel_5 rfl (fun _ => ?_) rfl (fun _ => ?_)
  · exact Ey.ret (M := mX4_relabel) dX4_relabel_31 rfl
  · refine Ex.aload_n (M := mX4_relabel) (pc2 := 9) dX4_relabel_8 rfl rfl rfl ?_
    refine Ex.getR (M := mX4_relabel) (pc2 := 12) dX4_relabel_9 xck4 lfX4_24 (Nat.le_of_ble_eq_true rfl) sh_6 rfl ff_6_5 rfl ?_
    refine Ex.iload_n (M := mX4_relabel) (pc2 := 13) dX4_relabel_12 rfl rfl rfl ?_
    refine Ey.guard (fun hz1 => ?_)
    refine Ey.iaload (M := mX4_relabel) (pc2 := 14) dX4_relabel_13 sh_11 rfl hz1 rfl ?_
    refine Ex.iload_n (M := mX4_relabel) (pc2 := 15) dX4_relabel_14 rfl rfl rfl ?_
    refine Ey.icmp_ne (M := mX4_relabel) (tgt := 25) (pc2 := 18) dX4_relabel_15 rfl (fun _ => ?_) rfl (fun _ => ?_)
    · refine Ey.iinc (M := mX4_relabel) (pc2 := 28) dX4_relabel_25 rfl ki_1 (Nat.le_of_ble_eq_true rfl) rfl rfl ?_
      refine Ex.goto (M := mX4_relabel) (tgt := 2) dX4_relabel_28 rfl ?_
      exact hk2 _ _ _ _
    · refine Ex.aload_n (M := mX4_relabel) (pc2 := 19) dX4_relabel_18 rfl rfl rfl ?_
      refine Ex.getR (M := mX4_relabel) (pc2 := 22) dX4_relabel_19 xck4 lfX4_24 (Nat.le_of_ble_eq_true rfl) sh_6 rfl ff_6_5 rfl ?_
      refine Ex.iload_n (M := mX4_relabel) (pc2 := 23) dX4_relabel_22 rfl rfl rfl ?_
      refine Ex.iload_n (M := mX4_relabel) (pc2 := 24) dX4_relabel_23 rfl rfl rfl ?_
      refine Ey.guard (fun hz2 => ?_)
      refine Ey.iastore (M := mX4_relabel) (pc2 := 25) dX4_relabel_24 sh_11 rfl hz2 rfl ?_
      refine Ey.iinc (M := mX4_relabel) (pc2 := 28) dX4_relabel_25 rfl ki_1 (Nat.le_of_ble_eq_true rfl) rfl rfl ?_
      refine Ex.goto (M := mX4_relabel) (tgt := 2) dX4_relabel_28 rfl ?_
      exact hk2 _ _ _ _
def f_X4_relabel_2 : Nat → Int32 → Int32 → Int32 → xI → Option (Int32 × xI)
  | 0, _, _, _, _ => none
  | n + 1, l1, l2, l3, I => f_X4_relabel_2b (fun l1 l2 l3 I => f_X4_relabel_2 n l1 l2 l3 I) l1 l2 l3 I
theorem t_X4_relabel_2 : ∀ (n : Nat) (l1 : Int32) (l2 : Int32) (l3 : Int32) (I : xI), Ey none mX4_relabel 2 [some (.inr (some 6)), some (.inl l1), some (.inl l2), some (.inl l3)] [] I (f_X4_relabel_2 n l1 l2 l3 I)
  | 0, l1, l2, l3, I => Ey.nil
  | n + 1, l1, l2, l3, I => t_X4_relabel_2b (fun l1 l2 l3 I => f_X4_relabel_2 n l1 l2 l3 I) (fun l1 l2 l3 I => t_X4_relabel_2 n l1 l2 l3 I) l1 l2 l3 I
def f_X4_relabel (l1 : Int32) (l2 : Int32) (I : xI) : Option (Int32 × xI) :=
  f_X4_relabel_2 xZ l1 l2 (0 : Int32) I
theorem t_X4_relabel (l1 : Int32) (l2 : Int32) (I : xI) : Ey none mX4_relabel 0 [some (.inr (some 6)), some (.inl l1), some (.inl l2), none] [] I (f_X4_relabel l1 l2 I) := by
  unfold f_X4_relabel
  refine Ex.iconst (M := mX4_relabel) (pc2 := 1) dX4_relabel_0 ki_0 rfl ?_
  refine Ey.istore_n (M := mX4_relabel) (pc2 := 2) dX4_relabel_1 rfl (Nat.le_of_ble_eq_true rfl) rfl rfl ?_
  exact t_X4_relabel_2 xZ _ _ _ _
/-! FenceDuel$Regions.countLabel(I)I -/
def f_X4_countLabel_4b (k4 : Int32 → Int32 → Int32 → xI → Option (Int32 × xI)) (l1 : Int32) (l2 : Int32) (l3 : Int32) (I : xI) : Option (Int32 × xI) :=
  if l3 ≥ (48 : Int32) then some (l2, I) else if xin l3 48 then if (I 11 l3.toNatClampNeg) ≠ l1 then k4 l1 l2 (l3 + 1) I else k4 l1 (l2 + 1) (l3 + 1) I else none
theorem t_X4_countLabel_4b (k4 : Int32 → Int32 → Int32 → xI → Option (Int32 × xI)) (hk4 : ∀ (l1 : Int32) (l2 : Int32) (l3 : Int32) (I : xI), Ey none mX4_countLabel 4 [some (.inr (some 6)), some (.inl l1), some (.inl l2), some (.inl l3)] [] I (k4 l1 l2 l3 I)) (l1 : Int32) (l2 : Int32) (l3 : Int32) (I : xI) : Ey none mX4_countLabel 4 [some (.inr (some 6)), some (.inl l1), some (.inl l2), some (.inl l3)] [] I (f_X4_countLabel_4b k4 l1 l2 l3 I) := by
  unfold f_X4_countLabel_4b
  refine Ex.iload_n (M := mX4_countLabel) (pc2 := 5) dX4_countLabel_4 rfl rfl rfl ?_
  refine Ex.bipush (M := mX4_countLabel) (pc2 := 7) dX4_countLabel_5 kb_48 rfl ?_
  refine Ey.icmp_ge (M := mX4_countLabel) (tgt := 29) (pc2 := 10) dX4_countLabel_7 rfl (fun _ => ?_) rfl (fun _ => ?_)
  · refine Ex.iload_n (M := mX4_countLabel) (pc2 := 30) dX4_countLabel_29 rfl rfl rfl ?_
    exact Ey.ireturn (M := mX4_countLabel) dX4_countLabel_30 rfl rfl
  · refine Ex.aload_n (M := mX4_countLabel) (pc2 := 11) dX4_countLabel_10 rfl rfl rfl ?_
    refine Ex.getR (M := mX4_countLabel) (pc2 := 14) dX4_countLabel_11 xck4 lfX4_24 (Nat.le_of_ble_eq_true rfl) sh_6 rfl ff_6_5 rfl ?_
    refine Ex.iload_n (M := mX4_countLabel) (pc2 := 15) dX4_countLabel_14 rfl rfl rfl ?_
    refine Ey.guard (fun hz1 => ?_)
    refine Ey.iaload (M := mX4_countLabel) (pc2 := 16) dX4_countLabel_15 sh_11 rfl hz1 rfl ?_
    refine Ex.iload_n (M := mX4_countLabel) (pc2 := 17) dX4_countLabel_16 rfl rfl rfl ?_
    refine Ey.icmp_ne (M := mX4_countLabel) (tgt := 23) (pc2 := 20) dX4_countLabel_17 rfl (fun _ => ?_) rfl (fun _ => ?_)
    · refine Ey.iinc (M := mX4_countLabel) (pc2 := 26) dX4_countLabel_23 rfl ki_1 (Nat.le_of_ble_eq_true rfl) rfl rfl ?_
      refine Ex.goto (M := mX4_countLabel) (tgt := 4) dX4_countLabel_26 rfl ?_
      exact hk4 _ _ _ _
    · refine Ey.iinc (M := mX4_countLabel) (pc2 := 23) dX4_countLabel_20 rfl ki_1 (Nat.le_of_ble_eq_true rfl) rfl rfl ?_
      refine Ey.iinc (M := mX4_countLabel) (pc2 := 26) dX4_countLabel_23 rfl ki_1 (Nat.le_of_ble_eq_true rfl) rfl rfl ?_
      refine Ex.goto (M := mX4_countLabel) (tgt := 4) dX4_countLabel_26 rfl ?_
      exact hk4 _ _ _ _
def f_X4_countLabel_4 : Nat → Int32 → Int32 → Int32 → xI → Option (Int32 × xI)
  | 0, _, _, _, _ => none
  | n + 1, l1, l2, l3, I => f_X4_countLabel_4b (fun l1 l2 l3 I => f_X4_countLabel_4 n l1 l2 l3 I) l1 l2 l3 I
theorem t_X4_countLabel_4 : ∀ (n : Nat) (l1 : Int32) (l2 : Int32) (l3 : Int32) (I : xI), Ey none mX4_countLabel 4 [some (.inr (some 6)), some (.inl l1), some (.inl l2), some (.inl l3)] [] I (f_X4_countLabel_4 n l1 l2 l3 I)
  | 0, l1, l2, l3, I => Ey.nil
  | n + 1, l1, l2, l3, I => t_X4_countLabel_4b (fun l1 l2 l3 I => f_X4_countLabel_4 n l1 l2 l3 I) (fun l1 l2 l3 I => t_X4_countLabel_4 n l1 l2 l3 I) l1 l2 l3 I
def f_X4_countLabel (l1 : Int32) (I : xI) : Option (Int32 × xI) :=
  f_X4_countLabel_4 xZ l1 (0 : Int32) (0 : Int32) I
theorem t_X4_countLabel (l1 : Int32) (I : xI) : Ey none mX4_countLabel 0 [some (.inr (some 6)), some (.inl l1), none, none] [] I (f_X4_countLabel l1 I) := by
  unfold f_X4_countLabel
  refine Ex.iconst (M := mX4_countLabel) (pc2 := 1) dX4_countLabel_0 ki_0 rfl ?_
  refine Ey.istore_n (M := mX4_countLabel) (pc2 := 2) dX4_countLabel_1 rfl (Nat.le_of_ble_eq_true rfl) rfl rfl ?_
  refine Ex.iconst (M := mX4_countLabel) (pc2 := 3) dX4_countLabel_2 ki_0 rfl ?_
  refine Ey.istore_n (M := mX4_countLabel) (pc2 := 4) dX4_countLabel_3 rfl (Nat.le_of_ble_eq_true rfl) rfl rfl ?_
  exact t_X4_countLabel_4 xZ _ _ _ _
/-! FenceDuel$Regions.sizeByJoining(LFenceDuel$State;I)I -/
def f_X4_sizeByJoining_23b (b1 : Nat) (k23 : Int32 → Int32 → xI → Option (Int32 × xI)) (l2 : Int32) (l3 : Int32) (I : xI) : Option (Int32 × xI) :=
  if l3 ≥ (82 : Int32) then xb (f_X6_isField l2 I) (fun r1 I1 => if r1 = 0 then some ((0 : Int32), I1) else if xin l2 48 then xb (f_X4_countLabel (I1 11 l2.toNatClampNeg) I1) (fun r3 I3 => some (r3, I3)) else none) else if xin l3 82 then if xin l3 82 then if xin l3 82 then if (I (b1 + 3) l3.toNatClampNeg) ≠ 0 then k23 l2 (l3 + 1) I else xb (f_X6_isField (I 5 l3.toNatClampNeg) I) (fun r7 I7 => if r7 = 0 then k23 l2 (l3 + 1) I7 else xb (f_X6_isField (I 4 l3.toNatClampNeg) I7) (fun r8 I8 => if r8 = 0 then k23 l2 (l3 + 1) I8 else if xin (I 5 l3.toNatClampNeg) 48 then if xin (I 4 l3.toNatClampNeg) 48 then xb (f_X4_relabel (I8 11 ((I 5 l3.toNatClampNeg).toNatClampNeg)) (I8 11 ((I 4 l3.toNatClampNeg).toNatClampNeg)) I8) (fun _ I11 => k23 l2 (l3 + 1) I11) else none else none)) else none else none else none
theorem t_X4_sizeByJoining_23b (b1 : Nat) (h1 : xSt b1) (k23 : Int32 → Int32 → xI → Option (Int32 × xI)) (hk23 : ∀ (l2 : Int32) (l3 : Int32) (d4 : Option xV) (d5 : Option xV) (I : xI), Ey none mX4_sizeByJoining 23 [some (.inr (some 6)), some (.inr (some b1)), some (.inl l2), some (.inl l3), d4, d5] [] I (k23 l2 l3 I)) (l2 : Int32) (l3 : Int32) (d4 : Option xV) (d5 : Option xV) (I : xI) : Ey none mX4_sizeByJoining 23 [some (.inr (some 6)), some (.inr (some b1)), some (.inl l2), some (.inl l3), d4, d5] [] I (f_X4_sizeByJoining_23b b1 k23 l2 l3 I) := by
  unfold f_X4_sizeByJoining_23b
  refine Ex.iload_n (M := mX4_sizeByJoining) (pc2 := 24) dX4_sizeByJoining_23 rfl rfl rfl ?_
  refine Ex.bipush (M := mX4_sizeByJoining) (pc2 := 26) dX4_sizeByJoining_24 kb_82 rfl ?_
  refine Ey.icmp_ge (M := mX4_sizeByJoining) (tgt := 100) (pc2 := 29) dX4_sizeByJoining_26 rfl (fun _ => ?_) rfl (fun _ => ?_)
  · refine Ex.iload_n (M := mX4_sizeByJoining) (pc2 := 101) dX4_sizeByJoining_100 rfl rfl rfl ?_
    refine Ey.callSNi (M := mX4_sizeByJoining) (pc2 := 104) (as := [.inl l2]) (rest := []) rfl dX4_sizeByJoining_101 isX6_isField lnX4_41  rfl ⟨(Nat.le_of_ble_eq_true rfl), (Nat.le_of_ble_eq_true rfl)⟩ rfl (Nat.le_of_ble_eq_true rfl) (Nat.le_of_ble_eq_true rfl) (t_X6_isField l2 I) rfl (fun r1 I1 => ?_)
    refine Ey.if_eq (M := mX4_sizeByJoining) (tgt := 120) (pc2 := 107) dX4_sizeByJoining_104 rfl (fun _ => ?_) rfl (fun _ => ?_)
    · refine Ex.iconst (M := mX4_sizeByJoining) (pc2 := 121) dX4_sizeByJoining_120 ki_0 rfl ?_
      exact Ey.ireturn (M := mX4_sizeByJoining) dX4_sizeByJoining_121 rfl rfl
    · refine Ex.aload_n (M := mX4_sizeByJoining) (pc2 := 108) dX4_sizeByJoining_107 rfl rfl rfl ?_
      refine Ex.aload_n (M := mX4_sizeByJoining) (pc2 := 109) dX4_sizeByJoining_108 rfl rfl rfl ?_
      refine Ex.getR (M := mX4_sizeByJoining) (pc2 := 112) dX4_sizeByJoining_109 xck4 lfX4_24 (Nat.le_of_ble_eq_true rfl) sh_6 rfl ff_6_5 rfl ?_
      refine Ex.iload_n (M := mX4_sizeByJoining) (pc2 := 113) dX4_sizeByJoining_112 rfl rfl rfl ?_
      refine Ey.guard (fun hz2 => ?_)
      refine Ey.iaload (M := mX4_sizeByJoining) (pc2 := 114) dX4_sizeByJoining_113 sh_11 rfl hz2 rfl ?_
      refine Ey.callVi (M := mX4_sizeByJoining) (pc2 := 117) (as := [.inl (I1 11 l2.toNatClampNeg)]) (rest := []) rfl dX4_sizeByJoining_114 isX4_countLabel lcX4_74 sh_6 rfl rfl ⟨(Nat.le_of_ble_eq_true rfl), (Nat.le_of_ble_eq_true rfl)⟩ rfl (Nat.le_of_ble_eq_true rfl) (Nat.le_of_ble_eq_true rfl) (t_X4_countLabel (I1 11 l2.toNatClampNeg) I1) rfl (fun r3 I3 => ?_)
      refine Ex.goto (M := mX4_sizeByJoining) (tgt := 121) dX4_sizeByJoining_117 rfl ?_
      exact Ey.ireturn (M := mX4_sizeByJoining) dX4_sizeByJoining_121 rfl rfl
  · refine Ex.aload_n (M := mX4_sizeByJoining) (pc2 := 30) dX4_sizeByJoining_29 rfl rfl rfl ?_
    refine Ex.getR (M := mX4_sizeByJoining) (pc2 := 33) dX4_sizeByJoining_30 xck4 lfX4_27 (Nat.le_of_ble_eq_true rfl) sh_6 rfl ff_6_0 rfl ?_
    refine Ex.getR (M := mX4_sizeByJoining) (pc2 := 36) dX4_sizeByJoining_33 xck1 lfX4_64 (Nat.le_of_ble_eq_true rfl) sh_1 rfl ff_1_3 rfl ?_
    refine Ex.iload_n (M := mX4_sizeByJoining) (pc2 := 37) dX4_sizeByJoining_36 rfl rfl rfl ?_
    refine Ey.guard (fun hz4 => ?_)
    refine Ey.iaload (M := mX4_sizeByJoining) (pc2 := 38) dX4_sizeByJoining_37 sh_5 rfl hz4 rfl ?_
    refine Ey.istore (M := mX4_sizeByJoining) (pc2 := 40) dX4_sizeByJoining_38 (Nat.le_of_ble_eq_true rfl) rfl rfl ?_
    refine Ex.aload_n (M := mX4_sizeByJoining) (pc2 := 41) dX4_sizeByJoining_40 rfl rfl rfl ?_
    refine Ex.getR (M := mX4_sizeByJoining) (pc2 := 44) dX4_sizeByJoining_41 xck4 lfX4_27 (Nat.le_of_ble_eq_true rfl) sh_6 rfl ff_6_0 rfl ?_
    refine Ex.getR (M := mX4_sizeByJoining) (pc2 := 47) dX4_sizeByJoining_44 xck1 lfX4_67 (Nat.le_of_ble_eq_true rfl) sh_1 rfl ff_1_2 rfl ?_
    refine Ex.iload_n (M := mX4_sizeByJoining) (pc2 := 48) dX4_sizeByJoining_47 rfl rfl rfl ?_
    refine Ey.guard (fun hz5 => ?_)
    refine Ey.iaload (M := mX4_sizeByJoining) (pc2 := 49) dX4_sizeByJoining_48 sh_4 rfl hz5 rfl ?_
    refine Ey.istore (M := mX4_sizeByJoining) (pc2 := 51) dX4_sizeByJoining_49 (Nat.le_of_ble_eq_true rfl) rfl rfl ?_
    refine Ex.aload_n (M := mX4_sizeByJoining) (pc2 := 52) dX4_sizeByJoining_51 rfl rfl rfl ?_
    refine Ex.getR (M := mX4_sizeByJoining) (pc2 := 55) dX4_sizeByJoining_52 xck5 lfX4_61 (Nat.le_of_ble_eq_true rfl) (h1).s0 rfl (h1).f6 rfl ?_
    refine Ex.iload_n (M := mX4_sizeByJoining) (pc2 := 56) dX4_sizeByJoining_55 rfl rfl rfl ?_
    refine Ey.guard (fun hz6 => ?_)
    refine Ey.iaload (M := mX4_sizeByJoining) (pc2 := 57) dX4_sizeByJoining_56 (h1).s3 rfl hz6 rfl ?_
    refine Ey.if_ne (M := mX4_sizeByJoining) (tgt := 94) (pc2 := 60) dX4_sizeByJoining_57 rfl (fun _ => ?_) rfl (fun _ => ?_)
    · refine Ey.iinc (M := mX4_sizeByJoining) (pc2 := 97) dX4_sizeByJoining_94 rfl ki_1 (Nat.le_of_ble_eq_true rfl) rfl rfl ?_
      refine Ex.goto (M := mX4_sizeByJoining) (tgt := 23) dX4_sizeByJoining_97 rfl ?_
      exact hk23 _ _ _ _ _
    · refine Ex.iload (M := mX4_sizeByJoining) (pc2 := 62) dX4_sizeByJoining_60 rfl rfl ?_
      refine Ey.callSNi (M := mX4_sizeByJoining) (pc2 := 65) (as := [.inl (I 5 l3.toNatClampNeg)]) (rest := []) rfl dX4_sizeByJoining_62 isX6_isField lnX4_41  rfl ⟨(Nat.le_of_ble_eq_true rfl), (Nat.le_of_ble_eq_true rfl)⟩ rfl (Nat.le_of_ble_eq_true rfl) (Nat.le_of_ble_eq_true rfl) (t_X6_isField (I 5 l3.toNatClampNeg) I) rfl (fun r7 I7 => ?_)
      refine Ey.if_eq (M := mX4_sizeByJoining) (tgt := 94) (pc2 := 68) dX4_sizeByJoining_65 rfl (fun _ => ?_) rfl (fun _ => ?_)
      · refine Ey.iinc (M := mX4_sizeByJoining) (pc2 := 97) dX4_sizeByJoining_94 rfl ki_1 (Nat.le_of_ble_eq_true rfl) rfl rfl ?_
        refine Ex.goto (M := mX4_sizeByJoining) (tgt := 23) dX4_sizeByJoining_97 rfl ?_
        exact hk23 _ _ _ _ _
      · refine Ex.iload (M := mX4_sizeByJoining) (pc2 := 70) dX4_sizeByJoining_68 rfl rfl ?_
        refine Ey.callSNi (M := mX4_sizeByJoining) (pc2 := 73) (as := [.inl (I 4 l3.toNatClampNeg)]) (rest := []) rfl dX4_sizeByJoining_70 isX6_isField lnX4_41  rfl ⟨(Nat.le_of_ble_eq_true rfl), (Nat.le_of_ble_eq_true rfl)⟩ rfl (Nat.le_of_ble_eq_true rfl) (Nat.le_of_ble_eq_true rfl) (t_X6_isField (I 4 l3.toNatClampNeg) I7) rfl (fun r8 I8 => ?_)
        refine Ey.if_eq (M := mX4_sizeByJoining) (tgt := 94) (pc2 := 76) dX4_sizeByJoining_73 rfl (fun _ => ?_) rfl (fun _ => ?_)
        · refine Ey.iinc (M := mX4_sizeByJoining) (pc2 := 97) dX4_sizeByJoining_94 rfl ki_1 (Nat.le_of_ble_eq_true rfl) rfl rfl ?_
          refine Ex.goto (M := mX4_sizeByJoining) (tgt := 23) dX4_sizeByJoining_97 rfl ?_
          exact hk23 _ _ _ _ _
        · refine Ex.aload_n (M := mX4_sizeByJoining) (pc2 := 77) dX4_sizeByJoining_76 rfl rfl rfl ?_
          refine Ex.aload_n (M := mX4_sizeByJoining) (pc2 := 78) dX4_sizeByJoining_77 rfl rfl rfl ?_
          refine Ex.getR (M := mX4_sizeByJoining) (pc2 := 81) dX4_sizeByJoining_78 xck4 lfX4_24 (Nat.le_of_ble_eq_true rfl) sh_6 rfl ff_6_5 rfl ?_
          refine Ex.iload (M := mX4_sizeByJoining) (pc2 := 83) dX4_sizeByJoining_81 rfl rfl ?_
          refine Ey.guard (fun hz9 => ?_)
          refine Ey.iaload (M := mX4_sizeByJoining) (pc2 := 84) dX4_sizeByJoining_83 sh_11 rfl hz9 rfl ?_
          refine Ex.aload_n (M := mX4_sizeByJoining) (pc2 := 85) dX4_sizeByJoining_84 rfl rfl rfl ?_
          refine Ex.getR (M := mX4_sizeByJoining) (pc2 := 88) dX4_sizeByJoining_85 xck4 lfX4_24 (Nat.le_of_ble_eq_true rfl) sh_6 rfl ff_6_5 rfl ?_
          refine Ex.iload (M := mX4_sizeByJoining) (pc2 := 90) dX4_sizeByJoining_88 rfl rfl ?_
          refine Ey.guard (fun hz10 => ?_)
          refine Ey.iaload (M := mX4_sizeByJoining) (pc2 := 91) dX4_sizeByJoining_90 sh_11 rfl hz10 rfl ?_
          refine Ey.callVv (M := mX4_sizeByJoining) (pc2 := 94) (as := [.inl (I8 11 ((I 5 l3.toNatClampNeg).toNatClampNeg)), .inl (I8 11 ((I 4 l3.toNatClampNeg).toNatClampNeg))]) (rest := []) rfl dX4_sizeByJoining_91 isX4_relabel lcX4_70 sh_6 rfl rfl ⟨(Nat.le_of_ble_eq_true rfl), (Nat.le_of_ble_eq_true rfl)⟩ rfl (Nat.le_of_ble_eq_true rfl) (Nat.le_of_ble_eq_true rfl) (t_X4_relabel (I8 11 ((I 5 l3.toNatClampNeg).toNatClampNeg)) (I8 11 ((I 4 l3.toNatClampNeg).toNatClampNeg)) I8) rfl (fun I11 => ?_)
          refine Ey.iinc (M := mX4_sizeByJoining) (pc2 := 97) dX4_sizeByJoining_94 rfl ki_1 (Nat.le_of_ble_eq_true rfl) rfl rfl ?_
          refine Ex.goto (M := mX4_sizeByJoining) (tgt := 23) dX4_sizeByJoining_97 rfl ?_
          exact hk23 _ _ _ _ _
def f_X4_sizeByJoining_23 (b1 : Nat) : Nat → Int32 → Int32 → xI → Option (Int32 × xI)
  | 0, _, _, _ => none
  | n + 1, l2, l3, I => f_X4_sizeByJoining_23b b1 (fun l2 l3 I => f_X4_sizeByJoining_23 b1 n l2 l3 I) l2 l3 I
theorem t_X4_sizeByJoining_23 (b1 : Nat) (h1 : xSt b1) : ∀ (n : Nat) (l2 : Int32) (l3 : Int32) (d4 : Option xV) (d5 : Option xV) (I : xI), Ey none mX4_sizeByJoining 23 [some (.inr (some 6)), some (.inr (some b1)), some (.inl l2), some (.inl l3), d4, d5] [] I (f_X4_sizeByJoining_23 b1 n l2 l3 I)
  | 0, l2, l3, d4, d5, I => Ey.nil
  | n + 1, l2, l3, d4, d5, I => t_X4_sizeByJoining_23b b1 h1 (fun l2 l3 I => f_X4_sizeByJoining_23 b1 n l2 l3 I) (fun l2 l3 d4 d5 I => t_X4_sizeByJoining_23 b1 h1 n l2 l3 d4 d5 I) l2 l3 d4 d5 I
def f_X4_sizeByJoining_2b (b1 : Nat) (k2 : Int32 → Int32 → xI → Option (Int32 × xI)) (l2 : Int32) (l3 : Int32) (I : xI) : Option (Int32 × xI) :=
  if l3 ≥ (48 : Int32) then f_X4_sizeByJoining_23 b1 xZ l2 (0 : Int32) I else if xin l3 48 then k2 l2 (l3 + 1) (xup I 11 l3.toNatClampNeg l3) else none
theorem t_X4_sizeByJoining_2b (b1 : Nat) (h1 : xSt b1) (k2 : Int32 → Int32 → xI → Option (Int32 × xI)) (hk2 : ∀ (l2 : Int32) (l3 : Int32) (d4 : Option xV) (d5 : Option xV) (I : xI), Ey none mX4_sizeByJoining 2 [some (.inr (some 6)), some (.inr (some b1)), some (.inl l2), some (.inl l3), d4, d5] [] I (k2 l2 l3 I)) (l2 : Int32) (l3 : Int32) (d4 : Option xV) (d5 : Option xV) (I : xI) : Ey none mX4_sizeByJoining 2 [some (.inr (some 6)), some (.inr (some b1)), some (.inl l2), some (.inl l3), d4, d5] [] I (f_X4_sizeByJoining_2b b1 k2 l2 l3 I) := by
  unfold f_X4_sizeByJoining_2b
  refine Ex.iload_n (M := mX4_sizeByJoining) (pc2 := 3) dX4_sizeByJoining_2 rfl rfl rfl ?_
  refine Ex.bipush (M := mX4_sizeByJoining) (pc2 := 5) dX4_sizeByJoining_3 kb_48 rfl ?_
  refine Ey.icmp_ge (M := mX4_sizeByJoining) (tgt := 21) (pc2 := 8) dX4_sizeByJoining_5 rfl (fun _ => ?_) rfl (fun _ => ?_)
  · refine Ex.iconst (M := mX4_sizeByJoining) (pc2 := 22) dX4_sizeByJoining_21 ki_0 rfl ?_
    refine Ey.istore_n (M := mX4_sizeByJoining) (pc2 := 23) dX4_sizeByJoining_22 rfl (Nat.le_of_ble_eq_true rfl) rfl rfl ?_
    exact t_X4_sizeByJoining_23 b1 h1 xZ _ _ _ _ _
  · refine Ex.aload_n (M := mX4_sizeByJoining) (pc2 := 9) dX4_sizeByJoining_8 rfl rfl rfl ?_
    refine Ex.getR (M := mX4_sizeByJoining) (pc2 := 12) dX4_sizeByJoining_9 xck4 lfX4_24 (Nat.le_of_ble_eq_true rfl) sh_6 rfl ff_6_5 rfl ?_
    refine Ex.iload_n (M := mX4_sizeByJoining) (pc2 := 13) dX4_sizeByJoining_12 rfl rfl rfl ?_
    refine Ex.iload_n (M := mX4_sizeByJoining) (pc2 := 14) dX4_sizeByJoining_13 rfl rfl rfl ?_
    refine Ey.guard (fun hz12 => ?_)
    refine Ey.iastore (M := mX4_sizeByJoining) (pc2 := 15) dX4_sizeByJoining_14 sh_11 rfl hz12 rfl ?_
    refine Ey.iinc (M := mX4_sizeByJoining) (pc2 := 18) dX4_sizeByJoining_15 rfl ki_1 (Nat.le_of_ble_eq_true rfl) rfl rfl ?_
    refine Ex.goto (M := mX4_sizeByJoining) (tgt := 2) dX4_sizeByJoining_18 rfl ?_
    exact hk2 _ _ _ _ _
def f_X4_sizeByJoining_2 (b1 : Nat) : Nat → Int32 → Int32 → xI → Option (Int32 × xI)
  | 0, _, _, _ => none
  | n + 1, l2, l3, I => f_X4_sizeByJoining_2b b1 (fun l2 l3 I => f_X4_sizeByJoining_2 b1 n l2 l3 I) l2 l3 I
theorem t_X4_sizeByJoining_2 (b1 : Nat) (h1 : xSt b1) : ∀ (n : Nat) (l2 : Int32) (l3 : Int32) (d4 : Option xV) (d5 : Option xV) (I : xI), Ey none mX4_sizeByJoining 2 [some (.inr (some 6)), some (.inr (some b1)), some (.inl l2), some (.inl l3), d4, d5] [] I (f_X4_sizeByJoining_2 b1 n l2 l3 I)
  | 0, l2, l3, d4, d5, I => Ey.nil
  | n + 1, l2, l3, d4, d5, I => t_X4_sizeByJoining_2b b1 h1 (fun l2 l3 I => f_X4_sizeByJoining_2 b1 n l2 l3 I) (fun l2 l3 d4 d5 I => t_X4_sizeByJoining_2 b1 h1 n l2 l3 d4 d5 I) l2 l3 d4 d5 I
def f_X4_sizeByJoining (b1 : Nat) (l2 : Int32) (I : xI) : Option (Int32 × xI) :=
  f_X4_sizeByJoining_2 b1 xZ l2 (0 : Int32) I
theorem t_X4_sizeByJoining (b1 : Nat) (h1 : xSt b1) (l2 : Int32) (I : xI) : Ey none mX4_sizeByJoining 0 [some (.inr (some 6)), some (.inr (some b1)), some (.inl l2), none, none, none] [] I (f_X4_sizeByJoining b1 l2 I) := by
  unfold f_X4_sizeByJoining
  refine Ex.iconst (M := mX4_sizeByJoining) (pc2 := 1) dX4_sizeByJoining_0 ki_0 rfl ?_
  refine Ey.istore_n (M := mX4_sizeByJoining) (pc2 := 2) dX4_sizeByJoining_1 rfl (Nat.le_of_ble_eq_true rfl) rfl rfl ?_
  exact t_X4_sizeByJoining_2 b1 h1 xZ _ _ _ _ _
/-! FenceDuel$State.addLetter(IIII)I -/
def f_X5_addLetter (b0 : Nat) (l1 : Int32) (l2 : Int32) (l3 : Int32) (l4 : Int32) (I : xI) : Option (Int32 × xI) :=
  if (I b0 1) < (60 : Int32) then xb (f_X5_mark b0 (I b0 1) (0 : Int32) l1 (xup I b0 1 ((I b0 1) + (1 : Int32)))) (fun _ I1 => xb (f_X5_mark b0 (I b0 1) (1 : Int32) l2 I1) (fun _ I2 => xb (f_X5_mark b0 (I b0 1) (2 : Int32) l3 I2) (fun _ I3 => xb (f_X5_mark b0 (I b0 1) (3 : Int32) l4 I3) (fun _ I4 => xb (f_X5_mark b0 (I b0 1) (4 : Int32) (I4 b0 0) I4) (fun _ I5 => xb (f_X5_mark b0 (I b0 1) (5 : Int32) ((I5 b0 0) + (I5 (b0 + 1) 0)) I5) (fun _ I6 => xb (f_X5_mark b0 (I b0 1) (6 : Int32) (0 : Int32) I6) (fun _ I7 => xb (f_X5_mark b0 (I b0 1) (7 : Int32) (0 : Int32) I7) (fun _ I8 => xb (f_X5_mark b0 (I b0 1) (8 : Int32) (-5 : Int32) I8) (fun _ I9 => xb (f_X5_mark b0 (I b0 1) (9 : Int32) (-5 : Int32) I9) (fun _ I10 => some ((I b0 1), I10))))))))))) else some ((-3 : Int32), I)
theorem t_X5_addLetter (b0 : Nat) (h0 : xSt b0) (l1 : Int32) (l2 : Int32) (l3 : Int32) (l4 : Int32) (I : xI) : Ey none mX5_addLetter 0 [some (.inr (some b0)), some (.inl l1), some (.inl l2), some (.inl l3), some (.inl l4), none] [] I (f_X5_addLetter b0 l1 l2 l3 l4 I) := by
  unfold f_X5_addLetter
  refine Ex.aload_n (M := mX5_addLetter) (pc2 := 1) dX5_addLetter_0 rfl rfl rfl ?_
  refine Ex.getI (M := mX5_addLetter) (pc2 := 4) dX5_addLetter_1 xck5 lfX5_40 (Nat.le_of_ble_eq_true rfl) (h0).s0 rfl rfl ?_
  refine Ex.bipush (M := mX5_addLetter) (pc2 := 6) dX5_addLetter_4 kb_60 rfl ?_
  refine Ey.icmp_lt (M := mX5_addLetter) (tgt := 12) (pc2 := 9) dX5_addLetter_6 rfl (fun _ => ?_) rfl (fun _ => ?_)
  · refine Ex.aload_n (M := mX5_addLetter) (pc2 := 13) dX5_addLetter_12 rfl rfl rfl ?_
    refine Ex.getI (M := mX5_addLetter) (pc2 := 16) dX5_addLetter_13 xck5 lfX5_40 (Nat.le_of_ble_eq_true rfl) (h0).s0 rfl rfl ?_
    refine Ey.istore (M := mX5_addLetter) (pc2 := 18) dX5_addLetter_16 (Nat.le_of_ble_eq_true rfl) rfl rfl ?_
    refine Ex.aload_n (M := mX5_addLetter) (pc2 := 19) dX5_addLetter_18 rfl rfl rfl ?_
    refine Ex.dup (M := mX5_addLetter) (pc2 := 20) dX5_addLetter_19 rfl ?_
    refine Ex.getI (M := mX5_addLetter) (pc2 := 23) dX5_addLetter_20 xck5 lfX5_40 (Nat.le_of_ble_eq_true rfl) (h0).s0 rfl rfl ?_
    refine Ex.iconst (M := mX5_addLetter) (pc2 := 24) dX5_addLetter_23 ki_1 rfl ?_
    refine Ex.iadd (M := mX5_addLetter) (pc2 := 25) dX5_addLetter_24 rfl ?_
    refine Ex.putI (M := mX5_addLetter) (pc2 := 28) dX5_addLetter_25 xck5 lfX5_40 (Nat.le_of_ble_eq_true rfl) (h0).s0 rfl rfl ⟨rfl, rfl⟩ rfl ?_
    refine Ex.aload_n (M := mX5_addLetter) (pc2 := 29) dX5_addLetter_28 rfl rfl rfl ?_
    refine Ex.iload (M := mX5_addLetter) (pc2 := 31) dX5_addLetter_29 rfl rfl ?_
    refine Ex.iconst (M := mX5_addLetter) (pc2 := 32) dX5_addLetter_31 ki_0 rfl ?_
    refine Ex.iload_n (M := mX5_addLetter) (pc2 := 33) dX5_addLetter_32 rfl rfl rfl ?_
    refine Ey.callVv (M := mX5_addLetter) (pc2 := 36) (as := [.inl (I b0 1), .inl (0 : Int32), .inl l1]) (rest := []) rfl dX5_addLetter_33 isX5_mark lcX5_56 (h0).s0 rfl rfl ⟨(Nat.le_of_ble_eq_true rfl), (Nat.le_of_ble_eq_true rfl)⟩ rfl (Nat.le_of_ble_eq_true rfl) (Nat.le_of_ble_eq_true rfl) (t_X5_mark b0 (h0) (I b0 1) (0 : Int32) l1 (xup I b0 1 ((I b0 1) + (1 : Int32)))) rfl (fun I1 => ?_)
    refine Ex.aload_n (M := mX5_addLetter) (pc2 := 37) dX5_addLetter_36 rfl rfl rfl ?_
    refine Ex.iload (M := mX5_addLetter) (pc2 := 39) dX5_addLetter_37 rfl rfl ?_
    refine Ex.iconst (M := mX5_addLetter) (pc2 := 40) dX5_addLetter_39 ki_1 rfl ?_
    refine Ex.iload_n (M := mX5_addLetter) (pc2 := 41) dX5_addLetter_40 rfl rfl rfl ?_
    refine Ey.callVv (M := mX5_addLetter) (pc2 := 44) (as := [.inl (I b0 1), .inl (1 : Int32), .inl l2]) (rest := []) rfl dX5_addLetter_41 isX5_mark lcX5_56 (h0).s0 rfl rfl ⟨(Nat.le_of_ble_eq_true rfl), (Nat.le_of_ble_eq_true rfl)⟩ rfl (Nat.le_of_ble_eq_true rfl) (Nat.le_of_ble_eq_true rfl) (t_X5_mark b0 (h0) (I b0 1) (1 : Int32) l2 I1) rfl (fun I2 => ?_)
    refine Ex.aload_n (M := mX5_addLetter) (pc2 := 45) dX5_addLetter_44 rfl rfl rfl ?_
    refine Ex.iload (M := mX5_addLetter) (pc2 := 47) dX5_addLetter_45 rfl rfl ?_
    refine Ex.iconst (M := mX5_addLetter) (pc2 := 48) dX5_addLetter_47 ki_2 rfl ?_
    refine Ex.iload_n (M := mX5_addLetter) (pc2 := 49) dX5_addLetter_48 rfl rfl rfl ?_
    refine Ey.callVv (M := mX5_addLetter) (pc2 := 52) (as := [.inl (I b0 1), .inl (2 : Int32), .inl l3]) (rest := []) rfl dX5_addLetter_49 isX5_mark lcX5_56 (h0).s0 rfl rfl ⟨(Nat.le_of_ble_eq_true rfl), (Nat.le_of_ble_eq_true rfl)⟩ rfl (Nat.le_of_ble_eq_true rfl) (Nat.le_of_ble_eq_true rfl) (t_X5_mark b0 (h0) (I b0 1) (2 : Int32) l3 I2) rfl (fun I3 => ?_)
    refine Ex.aload_n (M := mX5_addLetter) (pc2 := 53) dX5_addLetter_52 rfl rfl rfl ?_
    refine Ex.iload (M := mX5_addLetter) (pc2 := 55) dX5_addLetter_53 rfl rfl ?_
    refine Ex.iconst (M := mX5_addLetter) (pc2 := 56) dX5_addLetter_55 ki_3 rfl ?_
    refine Ex.iload (M := mX5_addLetter) (pc2 := 58) dX5_addLetter_56 rfl rfl ?_
    refine Ey.callVv (M := mX5_addLetter) (pc2 := 61) (as := [.inl (I b0 1), .inl (3 : Int32), .inl l4]) (rest := []) rfl dX5_addLetter_58 isX5_mark lcX5_56 (h0).s0 rfl rfl ⟨(Nat.le_of_ble_eq_true rfl), (Nat.le_of_ble_eq_true rfl)⟩ rfl (Nat.le_of_ble_eq_true rfl) (Nat.le_of_ble_eq_true rfl) (t_X5_mark b0 (h0) (I b0 1) (3 : Int32) l4 I3) rfl (fun I4 => ?_)
    refine Ex.aload_n (M := mX5_addLetter) (pc2 := 62) dX5_addLetter_61 rfl rfl rfl ?_
    refine Ex.iload (M := mX5_addLetter) (pc2 := 64) dX5_addLetter_62 rfl rfl ?_
    refine Ex.iconst (M := mX5_addLetter) (pc2 := 65) dX5_addLetter_64 ki_4 rfl ?_
    refine Ex.aload_n (M := mX5_addLetter) (pc2 := 66) dX5_addLetter_65 rfl rfl rfl ?_
    refine Ex.getI (M := mX5_addLetter) (pc2 := 69) dX5_addLetter_66 xck5 lfX5_37 (Nat.le_of_ble_eq_true rfl) (h0).s0 rfl rfl ?_
    refine Ey.callVv (M := mX5_addLetter) (pc2 := 72) (as := [.inl (I b0 1), .inl (4 : Int32), .inl (I4 b0 0)]) (rest := []) rfl dX5_addLetter_69 isX5_mark lcX5_56 (h0).s0 rfl rfl ⟨(Nat.le_of_ble_eq_true rfl), (Nat.le_of_ble_eq_true rfl)⟩ rfl (Nat.le_of_ble_eq_true rfl) (Nat.le_of_ble_eq_true rfl) (t_X5_mark b0 (h0) (I b0 1) (4 : Int32) (I4 b0 0) I4) rfl (fun I5 => ?_)
    refine Ex.aload_n (M := mX5_addLetter) (pc2 := 73) dX5_addLetter_72 rfl rfl rfl ?_
    refine Ex.iload (M := mX5_addLetter) (pc2 := 75) dX5_addLetter_73 rfl rfl ?_
    refine Ex.iconst (M := mX5_addLetter) (pc2 := 76) dX5_addLetter_75 ki_5 rfl ?_
    refine Ex.aload_n (M := mX5_addLetter) (pc2 := 77) dX5_addLetter_76 rfl rfl rfl ?_
    refine Ex.getI (M := mX5_addLetter) (pc2 := 80) dX5_addLetter_77 xck5 lfX5_37 (Nat.le_of_ble_eq_true rfl) (h0).s0 rfl rfl ?_
    refine Ex.aload_n (M := mX5_addLetter) (pc2 := 81) dX5_addLetter_80 rfl rfl rfl ?_
    refine Ex.getR (M := mX5_addLetter) (pc2 := 84) dX5_addLetter_81 xck5 lfX5_15 (Nat.le_of_ble_eq_true rfl) (h0).s0 rfl (h0).f4 rfl ?_
    refine Ex.iconst (M := mX5_addLetter) (pc2 := 85) dX5_addLetter_84 ki_0 rfl ?_
    refine Ey.iaload (M := mX5_addLetter) (pc2 := 86) dX5_addLetter_85 (h0).s1 kn_0 (by decide) rfl ?_
    refine Ex.iadd (M := mX5_addLetter) (pc2 := 87) dX5_addLetter_86 rfl ?_
    refine Ey.callVv (M := mX5_addLetter) (pc2 := 90) (as := [.inl (I b0 1), .inl (5 : Int32), .inl ((I5 b0 0) + (I5 (b0 + 1) 0))]) (rest := []) rfl dX5_addLetter_87 isX5_mark lcX5_56 (h0).s0 rfl rfl ⟨(Nat.le_of_ble_eq_true rfl), (Nat.le_of_ble_eq_true rfl)⟩ rfl (Nat.le_of_ble_eq_true rfl) (Nat.le_of_ble_eq_true rfl) (t_X5_mark b0 (h0) (I b0 1) (5 : Int32) ((I5 b0 0) + (I5 (b0 + 1) 0)) I5) rfl (fun I6 => ?_)
    refine Ex.aload_n (M := mX5_addLetter) (pc2 := 91) dX5_addLetter_90 rfl rfl rfl ?_
    refine Ex.iload (M := mX5_addLetter) (pc2 := 93) dX5_addLetter_91 rfl rfl ?_
    refine Ex.bipush (M := mX5_addLetter) (pc2 := 95) dX5_addLetter_93 kb_6 rfl ?_
    refine Ex.iconst (M := mX5_addLetter) (pc2 := 96) dX5_addLetter_95 ki_0 rfl ?_
    refine Ey.callVv (M := mX5_addLetter) (pc2 := 99) (as := [.inl (I b0 1), .inl (6 : Int32), .inl (0 : Int32)]) (rest := []) rfl dX5_addLetter_96 isX5_mark lcX5_56 (h0).s0 rfl rfl ⟨(Nat.le_of_ble_eq_true rfl), (Nat.le_of_ble_eq_true rfl)⟩ rfl (Nat.le_of_ble_eq_true rfl) (Nat.le_of_ble_eq_true rfl) (t_X5_mark b0 (h0) (I b0 1) (6 : Int32) (0 : Int32) I6) rfl (fun I7 => ?_)
    refine Ex.aload_n (M := mX5_addLetter) (pc2 := 100) dX5_addLetter_99 rfl rfl rfl ?_
    refine Ex.iload (M := mX5_addLetter) (pc2 := 102) dX5_addLetter_100 rfl rfl ?_
    refine Ex.bipush (M := mX5_addLetter) (pc2 := 104) dX5_addLetter_102 kb_7 rfl ?_
    refine Ex.iconst (M := mX5_addLetter) (pc2 := 105) dX5_addLetter_104 ki_0 rfl ?_
    refine Ey.callVv (M := mX5_addLetter) (pc2 := 108) (as := [.inl (I b0 1), .inl (7 : Int32), .inl (0 : Int32)]) (rest := []) rfl dX5_addLetter_105 isX5_mark lcX5_56 (h0).s0 rfl rfl ⟨(Nat.le_of_ble_eq_true rfl), (Nat.le_of_ble_eq_true rfl)⟩ rfl (Nat.le_of_ble_eq_true rfl) (Nat.le_of_ble_eq_true rfl) (t_X5_mark b0 (h0) (I b0 1) (7 : Int32) (0 : Int32) I7) rfl (fun I8 => ?_)
    refine Ex.aload_n (M := mX5_addLetter) (pc2 := 109) dX5_addLetter_108 rfl rfl rfl ?_
    refine Ex.iload (M := mX5_addLetter) (pc2 := 111) dX5_addLetter_109 rfl rfl ?_
    refine Ex.bipush (M := mX5_addLetter) (pc2 := 113) dX5_addLetter_111 kb_8 rfl ?_
    refine Ex.bipush (M := mX5_addLetter) (pc2 := 115) dX5_addLetter_113 kb_m5 rfl ?_
    refine Ey.callVv (M := mX5_addLetter) (pc2 := 118) (as := [.inl (I b0 1), .inl (8 : Int32), .inl (-5 : Int32)]) (rest := []) rfl dX5_addLetter_115 isX5_mark lcX5_56 (h0).s0 rfl rfl ⟨(Nat.le_of_ble_eq_true rfl), (Nat.le_of_ble_eq_true rfl)⟩ rfl (Nat.le_of_ble_eq_true rfl) (Nat.le_of_ble_eq_true rfl) (t_X5_mark b0 (h0) (I b0 1) (8 : Int32) (-5 : Int32) I8) rfl (fun I9 => ?_)
    refine Ex.aload_n (M := mX5_addLetter) (pc2 := 119) dX5_addLetter_118 rfl rfl rfl ?_
    refine Ex.iload (M := mX5_addLetter) (pc2 := 121) dX5_addLetter_119 rfl rfl ?_
    refine Ex.bipush (M := mX5_addLetter) (pc2 := 123) dX5_addLetter_121 kb_9 rfl ?_
    refine Ex.bipush (M := mX5_addLetter) (pc2 := 125) dX5_addLetter_123 kb_m5 rfl ?_
    refine Ey.callVv (M := mX5_addLetter) (pc2 := 128) (as := [.inl (I b0 1), .inl (9 : Int32), .inl (-5 : Int32)]) (rest := []) rfl dX5_addLetter_125 isX5_mark lcX5_56 (h0).s0 rfl rfl ⟨(Nat.le_of_ble_eq_true rfl), (Nat.le_of_ble_eq_true rfl)⟩ rfl (Nat.le_of_ble_eq_true rfl) (Nat.le_of_ble_eq_true rfl) (t_X5_mark b0 (h0) (I b0 1) (9 : Int32) (-5 : Int32) I9) rfl (fun I10 => ?_)
    refine Ex.iload (M := mX5_addLetter) (pc2 := 130) dX5_addLetter_128 rfl rfl ?_
    exact Ey.ireturn (M := mX5_addLetter) dX5_addLetter_130 rfl rfl
  · refine Ex.bipush (M := mX5_addLetter) (pc2 := 11) dX5_addLetter_9 kb_m3 rfl ?_
    exact Ey.ireturn (M := mX5_addLetter) dX5_addLetter_11 rfl rfl
/-! FenceDuel$State.ownerOf(I)I -/
def f_X5_ownerOf (b0 : Nat) (l1 : Int32) (I : xI) : Option (Int32 × xI) :=
  xb (f_X5_takerOf b0 l1 I) (fun r1 I1 => xb (f_X5_told b0 r1 (0 : Int32) I1) (fun r2 I2 => some (r2, I2)))
theorem t_X5_ownerOf (b0 : Nat) (h0 : xSt b0) (l1 : Int32) (I : xI) : Ey none mX5_ownerOf 0 [some (.inr (some b0)), some (.inl l1)] [] I (f_X5_ownerOf b0 l1 I) := by
  unfold f_X5_ownerOf
  refine Ex.aload_n (M := mX5_ownerOf) (pc2 := 1) dX5_ownerOf_0 rfl rfl rfl ?_
  refine Ex.aload_n (M := mX5_ownerOf) (pc2 := 2) dX5_ownerOf_1 rfl rfl rfl ?_
  refine Ex.iload_n (M := mX5_ownerOf) (pc2 := 3) dX5_ownerOf_2 rfl rfl rfl ?_
  refine Ey.callVi (M := mX5_ownerOf) (pc2 := 6) (as := [.inl l1]) (rest := [.inr (some b0)]) rfl dX5_ownerOf_3 isX5_takerOf lcX5_74 (h0).s0 rfl rfl ⟨(Nat.le_of_ble_eq_true rfl), (Nat.le_of_ble_eq_true rfl)⟩ rfl (Nat.le_of_ble_eq_true rfl) (Nat.le_of_ble_eq_true rfl) (t_X5_takerOf b0 (h0) l1 I) rfl (fun r1 I1 => ?_)
  refine Ex.iconst (M := mX5_ownerOf) (pc2 := 7) dX5_ownerOf_6 ki_0 rfl ?_
  refine Ey.callVi (M := mX5_ownerOf) (pc2 := 10) (as := [.inl r1, .inl (0 : Int32)]) (rest := []) rfl dX5_ownerOf_7 isX5_told lcX5_60 (h0).s0 rfl rfl ⟨(Nat.le_of_ble_eq_true rfl), (Nat.le_of_ble_eq_true rfl)⟩ rfl (Nat.le_of_ble_eq_true rfl) (Nat.le_of_ble_eq_true rfl) (t_X5_told b0 (h0) r1 (0 : Int32) I1) rfl (fun r2 I2 => ?_)
  exact Ey.ireturn (M := mX5_ownerOf) dX5_ownerOf_10 rfl rfl
/-! FenceDuel$State.lettersThatAre(I)I -/
def f_X5_lettersThatAre_4b (b0 : Nat) (k4 : Int32 → Int32 → Int32 → xI → Option (Int32 × xI)) (l1 : Int32) (l2 : Int32) (l3 : Int32) (I : xI) : Option (Int32 × xI) :=
  if l3 ≥ (I b0 1) then some (l2, I) else xb (f_X5_told b0 l3 (6 : Int32) I) (fun r1 I1 => if r1 ≠ l1 then k4 l1 l2 (l3 + 1) I1 else k4 l1 (l2 + 1) (l3 + 1) I1)
theorem t_X5_lettersThatAre_4b (b0 : Nat) (h0 : xSt b0) (k4 : Int32 → Int32 → Int32 → xI → Option (Int32 × xI)) (hk4 : ∀ (l1 : Int32) (l2 : Int32) (l3 : Int32) (I : xI), Ey none mX5_lettersThatAre 4 [some (.inr (some b0)), some (.inl l1), some (.inl l2), some (.inl l3)] [] I (k4 l1 l2 l3 I)) (l1 : Int32) (l2 : Int32) (l3 : Int32) (I : xI) : Ey none mX5_lettersThatAre 4 [some (.inr (some b0)), some (.inl l1), some (.inl l2), some (.inl l3)] [] I (f_X5_lettersThatAre_4b b0 k4 l1 l2 l3 I) := by
  unfold f_X5_lettersThatAre_4b
  refine Ex.iload_n (M := mX5_lettersThatAre) (pc2 := 5) dX5_lettersThatAre_4 rfl rfl rfl ?_
  refine Ex.aload_n (M := mX5_lettersThatAre) (pc2 := 6) dX5_lettersThatAre_5 rfl rfl rfl ?_
  refine Ex.getI (M := mX5_lettersThatAre) (pc2 := 9) dX5_lettersThatAre_6 xck5 lfX5_40 (Nat.le_of_ble_eq_true rfl) (h0).s0 rfl rfl ?_
  refine Ey.icmp_ge (M := mX5_lettersThatAre) (tgt := 32) (pc2 := 12) dX5_lettersThatAre_9 rfl (fun _ => ?_) rfl (fun _ => ?_)
  · refine Ex.iload_n (M := mX5_lettersThatAre) (pc2 := 33) dX5_lettersThatAre_32 rfl rfl rfl ?_
    exact Ey.ireturn (M := mX5_lettersThatAre) dX5_lettersThatAre_33 rfl rfl
  · refine Ex.aload_n (M := mX5_lettersThatAre) (pc2 := 13) dX5_lettersThatAre_12 rfl rfl rfl ?_
    refine Ex.iload_n (M := mX5_lettersThatAre) (pc2 := 14) dX5_lettersThatAre_13 rfl rfl rfl ?_
    refine Ex.bipush (M := mX5_lettersThatAre) (pc2 := 16) dX5_lettersThatAre_14 kb_6 rfl ?_
    refine Ey.callVi (M := mX5_lettersThatAre) (pc2 := 19) (as := [.inl l3, .inl (6 : Int32)]) (rest := []) rfl dX5_lettersThatAre_16 isX5_told lcX5_60 (h0).s0 rfl rfl ⟨(Nat.le_of_ble_eq_true rfl), (Nat.le_of_ble_eq_true rfl)⟩ rfl (Nat.le_of_ble_eq_true rfl) (Nat.le_of_ble_eq_true rfl) (t_X5_told b0 (h0) l3 (6 : Int32) I) rfl (fun r1 I1 => ?_)
    refine Ex.iload_n (M := mX5_lettersThatAre) (pc2 := 20) dX5_lettersThatAre_19 rfl rfl rfl ?_
    refine Ey.icmp_ne (M := mX5_lettersThatAre) (tgt := 26) (pc2 := 23) dX5_lettersThatAre_20 rfl (fun _ => ?_) rfl (fun _ => ?_)
    · refine Ey.iinc (M := mX5_lettersThatAre) (pc2 := 29) dX5_lettersThatAre_26 rfl ki_1 (Nat.le_of_ble_eq_true rfl) rfl rfl ?_
      refine Ex.goto (M := mX5_lettersThatAre) (tgt := 4) dX5_lettersThatAre_29 rfl ?_
      exact hk4 _ _ _ _
    · refine Ey.iinc (M := mX5_lettersThatAre) (pc2 := 26) dX5_lettersThatAre_23 rfl ki_1 (Nat.le_of_ble_eq_true rfl) rfl rfl ?_
      refine Ey.iinc (M := mX5_lettersThatAre) (pc2 := 29) dX5_lettersThatAre_26 rfl ki_1 (Nat.le_of_ble_eq_true rfl) rfl rfl ?_
      refine Ex.goto (M := mX5_lettersThatAre) (tgt := 4) dX5_lettersThatAre_29 rfl ?_
      exact hk4 _ _ _ _
def f_X5_lettersThatAre_4 (b0 : Nat) : Nat → Int32 → Int32 → Int32 → xI → Option (Int32 × xI)
  | 0, _, _, _, _ => none
  | n + 1, l1, l2, l3, I => f_X5_lettersThatAre_4b b0 (fun l1 l2 l3 I => f_X5_lettersThatAre_4 b0 n l1 l2 l3 I) l1 l2 l3 I
theorem t_X5_lettersThatAre_4 (b0 : Nat) (h0 : xSt b0) : ∀ (n : Nat) (l1 : Int32) (l2 : Int32) (l3 : Int32) (I : xI), Ey none mX5_lettersThatAre 4 [some (.inr (some b0)), some (.inl l1), some (.inl l2), some (.inl l3)] [] I (f_X5_lettersThatAre_4 b0 n l1 l2 l3 I)
  | 0, l1, l2, l3, I => Ey.nil
  | n + 1, l1, l2, l3, I => t_X5_lettersThatAre_4b b0 h0 (fun l1 l2 l3 I => f_X5_lettersThatAre_4 b0 n l1 l2 l3 I) (fun l1 l2 l3 I => t_X5_lettersThatAre_4 b0 h0 n l1 l2 l3 I) l1 l2 l3 I
def f_X5_lettersThatAre (b0 : Nat) (l1 : Int32) (I : xI) : Option (Int32 × xI) :=
  f_X5_lettersThatAre_4 b0 xZ l1 (0 : Int32) (0 : Int32) I
theorem t_X5_lettersThatAre (b0 : Nat) (h0 : xSt b0) (l1 : Int32) (I : xI) : Ey none mX5_lettersThatAre 0 [some (.inr (some b0)), some (.inl l1), none, none] [] I (f_X5_lettersThatAre b0 l1 I) := by
  unfold f_X5_lettersThatAre
  refine Ex.iconst (M := mX5_lettersThatAre) (pc2 := 1) dX5_lettersThatAre_0 ki_0 rfl ?_
  refine Ey.istore_n (M := mX5_lettersThatAre) (pc2 := 2) dX5_lettersThatAre_1 rfl (Nat.le_of_ble_eq_true rfl) rfl rfl ?_
  refine Ex.iconst (M := mX5_lettersThatAre) (pc2 := 3) dX5_lettersThatAre_2 ki_0 rfl ?_
  refine Ey.istore_n (M := mX5_lettersThatAre) (pc2 := 4) dX5_lettersThatAre_3 rfl (Nat.le_of_ble_eq_true rfl) rfl rfl ?_
  exact t_X5_lettersThatAre_4 b0 h0 xZ _ _ _ _
/-! FenceDuel$State.turnsOfTwo()I -/
def f_X5_turnsOfTwo_4b (b0 : Nat) (k4 : Int32 → Int32 → xI → Option (Int32 × xI)) (l1 : Int32) (l2 : Int32) (I : xI) : Option (Int32 × xI) :=
  if l2 ≥ (I b0 1) then some ((l1 / (2 : Int32)), I) else xb (f_X5_told b0 l2 (9 : Int32) I) (fun r1 I1 => if r1 = (-5 : Int32) then k4 l1 (l2 + 1) I1 else k4 (l1 + 1) (l2 + 1) I1)
theorem t_X5_turnsOfTwo_4b (b0 : Nat) (h0 : xSt b0) (k4 : Int32 → Int32 → xI → Option (Int32 × xI)) (hk4 : ∀ (l1 : Int32) (l2 : Int32) (I : xI), Ey none mX5_turnsOfTwo 4 [some (.inr (some b0)), some (.inl l1), some (.inl l2)] [] I (k4 l1 l2 I)) (l1 : Int32) (l2 : Int32) (I : xI) : Ey none mX5_turnsOfTwo 4 [some (.inr (some b0)), some (.inl l1), some (.inl l2)] [] I (f_X5_turnsOfTwo_4b b0 k4 l1 l2 I) := by
  unfold f_X5_turnsOfTwo_4b
  refine Ex.iload_n (M := mX5_turnsOfTwo) (pc2 := 5) dX5_turnsOfTwo_4 rfl rfl rfl ?_
  refine Ex.aload_n (M := mX5_turnsOfTwo) (pc2 := 6) dX5_turnsOfTwo_5 rfl rfl rfl ?_
  refine Ex.getI (M := mX5_turnsOfTwo) (pc2 := 9) dX5_turnsOfTwo_6 xck5 lfX5_40 (Nat.le_of_ble_eq_true rfl) (h0).s0 rfl rfl ?_
  refine Ey.icmp_ge (M := mX5_turnsOfTwo) (tgt := 33) (pc2 := 12) dX5_turnsOfTwo_9 rfl (fun _ => ?_) rfl (fun _ => ?_)
  · refine Ex.iload_n (M := mX5_turnsOfTwo) (pc2 := 34) dX5_turnsOfTwo_33 rfl rfl rfl ?_
    refine Ex.iconst (M := mX5_turnsOfTwo) (pc2 := 35) dX5_turnsOfTwo_34 ki_2 rfl ?_
    refine Ex.idiv (M := mX5_turnsOfTwo) (pc2 := 36) dX5_turnsOfTwo_35 (by decide) rfl ?_
    exact Ey.ireturn (M := mX5_turnsOfTwo) dX5_turnsOfTwo_36 rfl rfl
  · refine Ex.aload_n (M := mX5_turnsOfTwo) (pc2 := 13) dX5_turnsOfTwo_12 rfl rfl rfl ?_
    refine Ex.iload_n (M := mX5_turnsOfTwo) (pc2 := 14) dX5_turnsOfTwo_13 rfl rfl rfl ?_
    refine Ex.bipush (M := mX5_turnsOfTwo) (pc2 := 16) dX5_turnsOfTwo_14 kb_9 rfl ?_
    refine Ey.callVi (M := mX5_turnsOfTwo) (pc2 := 19) (as := [.inl l2, .inl (9 : Int32)]) (rest := []) rfl dX5_turnsOfTwo_16 isX5_told lcX5_60 (h0).s0 rfl rfl ⟨(Nat.le_of_ble_eq_true rfl), (Nat.le_of_ble_eq_true rfl)⟩ rfl (Nat.le_of_ble_eq_true rfl) (Nat.le_of_ble_eq_true rfl) (t_X5_told b0 (h0) l2 (9 : Int32) I) rfl (fun r1 I1 => ?_)
    refine Ex.bipush (M := mX5_turnsOfTwo) (pc2 := 21) dX5_turnsOfTwo_19 kb_m5 rfl ?_
    refine Ey.icmp_eq (M := mX5_turnsOfTwo) (tgt := 27) (pc2 := 24) dX5_turnsOfTwo_21 rfl (fun _ => ?_) rfl (fun _ => ?_)
    · refine Ey.iinc (M := mX5_turnsOfTwo) (pc2 := 30) dX5_turnsOfTwo_27 rfl ki_1 (Nat.le_of_ble_eq_true rfl) rfl rfl ?_
      refine Ex.goto (M := mX5_turnsOfTwo) (tgt := 4) dX5_turnsOfTwo_30 rfl ?_
      exact hk4 _ _ _
    · refine Ey.iinc (M := mX5_turnsOfTwo) (pc2 := 27) dX5_turnsOfTwo_24 rfl ki_1 (Nat.le_of_ble_eq_true rfl) rfl rfl ?_
      refine Ey.iinc (M := mX5_turnsOfTwo) (pc2 := 30) dX5_turnsOfTwo_27 rfl ki_1 (Nat.le_of_ble_eq_true rfl) rfl rfl ?_
      refine Ex.goto (M := mX5_turnsOfTwo) (tgt := 4) dX5_turnsOfTwo_30 rfl ?_
      exact hk4 _ _ _
def f_X5_turnsOfTwo_4 (b0 : Nat) : Nat → Int32 → Int32 → xI → Option (Int32 × xI)
  | 0, _, _, _ => none
  | n + 1, l1, l2, I => f_X5_turnsOfTwo_4b b0 (fun l1 l2 I => f_X5_turnsOfTwo_4 b0 n l1 l2 I) l1 l2 I
theorem t_X5_turnsOfTwo_4 (b0 : Nat) (h0 : xSt b0) : ∀ (n : Nat) (l1 : Int32) (l2 : Int32) (I : xI), Ey none mX5_turnsOfTwo 4 [some (.inr (some b0)), some (.inl l1), some (.inl l2)] [] I (f_X5_turnsOfTwo_4 b0 n l1 l2 I)
  | 0, l1, l2, I => Ey.nil
  | n + 1, l1, l2, I => t_X5_turnsOfTwo_4b b0 h0 (fun l1 l2 I => f_X5_turnsOfTwo_4 b0 n l1 l2 I) (fun l1 l2 I => t_X5_turnsOfTwo_4 b0 h0 n l1 l2 I) l1 l2 I
def f_X5_turnsOfTwo (b0 : Nat) (I : xI) : Option (Int32 × xI) :=
  f_X5_turnsOfTwo_4 b0 xZ (0 : Int32) (0 : Int32) I
theorem t_X5_turnsOfTwo (b0 : Nat) (h0 : xSt b0) (I : xI) : Ey none mX5_turnsOfTwo 0 [some (.inr (some b0)), none, none] [] I (f_X5_turnsOfTwo b0 I) := by
  unfold f_X5_turnsOfTwo
  refine Ex.iconst (M := mX5_turnsOfTwo) (pc2 := 1) dX5_turnsOfTwo_0 ki_0 rfl ?_
  refine Ey.istore_n (M := mX5_turnsOfTwo) (pc2 := 2) dX5_turnsOfTwo_1 rfl (Nat.le_of_ble_eq_true rfl) rfl rfl ?_
  refine Ex.iconst (M := mX5_turnsOfTwo) (pc2 := 3) dX5_turnsOfTwo_2 ki_0 rfl ?_
  refine Ey.istore_n (M := mX5_turnsOfTwo) (pc2 := 4) dX5_turnsOfTwo_3 rfl (Nat.le_of_ble_eq_true rfl) rfl rfl ?_
  exact t_X5_turnsOfTwo_4 b0 h0 xZ _ _ _
/-! FenceDuel$State.fieldsOf(I)I -/
def f_X5_fieldsOf_4b (b0 : Nat) (k4 : Int32 → Int32 → Int32 → xI → Option (Int32 × xI)) (l1 : Int32) (l2 : Int32) (l3 : Int32) (I : xI) : Option (Int32 × xI) :=
  if l3 ≥ (48 : Int32) then some (l2, I) else xb (f_X5_ownerOf b0 l3 I) (fun r1 I1 => if r1 ≠ l1 then k4 l1 l2 (l3 + 1) I1 else k4 l1 (l2 + 1) (l3 + 1) I1)
theorem t_X5_fieldsOf_4b (b0 : Nat) (h0 : xSt b0) (k4 : Int32 → Int32 → Int32 → xI → Option (Int32 × xI)) (hk4 : ∀ (l1 : Int32) (l2 : Int32) (l3 : Int32) (I : xI), Ey none mX5_fieldsOf 4 [some (.inr (some b0)), some (.inl l1), some (.inl l2), some (.inl l3)] [] I (k4 l1 l2 l3 I)) (l1 : Int32) (l2 : Int32) (l3 : Int32) (I : xI) : Ey none mX5_fieldsOf 4 [some (.inr (some b0)), some (.inl l1), some (.inl l2), some (.inl l3)] [] I (f_X5_fieldsOf_4b b0 k4 l1 l2 l3 I) := by
  unfold f_X5_fieldsOf_4b
  refine Ex.iload_n (M := mX5_fieldsOf) (pc2 := 5) dX5_fieldsOf_4 rfl rfl rfl ?_
  refine Ex.bipush (M := mX5_fieldsOf) (pc2 := 7) dX5_fieldsOf_5 kb_48 rfl ?_
  refine Ey.icmp_ge (M := mX5_fieldsOf) (tgt := 28) (pc2 := 10) dX5_fieldsOf_7 rfl (fun _ => ?_) rfl (fun _ => ?_)
  · refine Ex.iload_n (M := mX5_fieldsOf) (pc2 := 29) dX5_fieldsOf_28 rfl rfl rfl ?_
    exact Ey.ireturn (M := mX5_fieldsOf) dX5_fieldsOf_29 rfl rfl
  · refine Ex.aload_n (M := mX5_fieldsOf) (pc2 := 11) dX5_fieldsOf_10 rfl rfl rfl ?_
    refine Ex.iload_n (M := mX5_fieldsOf) (pc2 := 12) dX5_fieldsOf_11 rfl rfl rfl ?_
    refine Ey.callVi (M := mX5_fieldsOf) (pc2 := 15) (as := [.inl l3]) (rest := []) rfl dX5_fieldsOf_12 isX5_ownerOf lcX5_78 (h0).s0 rfl rfl ⟨(Nat.le_of_ble_eq_true rfl), (Nat.le_of_ble_eq_true rfl)⟩ rfl (Nat.le_of_ble_eq_true rfl) (Nat.le_of_ble_eq_true rfl) (t_X5_ownerOf b0 (h0) l3 I) rfl (fun r1 I1 => ?_)
    refine Ex.iload_n (M := mX5_fieldsOf) (pc2 := 16) dX5_fieldsOf_15 rfl rfl rfl ?_
    refine Ey.icmp_ne (M := mX5_fieldsOf) (tgt := 22) (pc2 := 19) dX5_fieldsOf_16 rfl (fun _ => ?_) rfl (fun _ => ?_)
    · refine Ey.iinc (M := mX5_fieldsOf) (pc2 := 25) dX5_fieldsOf_22 rfl ki_1 (Nat.le_of_ble_eq_true rfl) rfl rfl ?_
      refine Ex.goto (M := mX5_fieldsOf) (tgt := 4) dX5_fieldsOf_25 rfl ?_
      exact hk4 _ _ _ _
    · refine Ey.iinc (M := mX5_fieldsOf) (pc2 := 22) dX5_fieldsOf_19 rfl ki_1 (Nat.le_of_ble_eq_true rfl) rfl rfl ?_
      refine Ey.iinc (M := mX5_fieldsOf) (pc2 := 25) dX5_fieldsOf_22 rfl ki_1 (Nat.le_of_ble_eq_true rfl) rfl rfl ?_
      refine Ex.goto (M := mX5_fieldsOf) (tgt := 4) dX5_fieldsOf_25 rfl ?_
      exact hk4 _ _ _ _
def f_X5_fieldsOf_4 (b0 : Nat) : Nat → Int32 → Int32 → Int32 → xI → Option (Int32 × xI)
  | 0, _, _, _, _ => none
  | n + 1, l1, l2, l3, I => f_X5_fieldsOf_4b b0 (fun l1 l2 l3 I => f_X5_fieldsOf_4 b0 n l1 l2 l3 I) l1 l2 l3 I
theorem t_X5_fieldsOf_4 (b0 : Nat) (h0 : xSt b0) : ∀ (n : Nat) (l1 : Int32) (l2 : Int32) (l3 : Int32) (I : xI), Ey none mX5_fieldsOf 4 [some (.inr (some b0)), some (.inl l1), some (.inl l2), some (.inl l3)] [] I (f_X5_fieldsOf_4 b0 n l1 l2 l3 I)
  | 0, l1, l2, l3, I => Ey.nil
  | n + 1, l1, l2, l3, I => t_X5_fieldsOf_4b b0 h0 (fun l1 l2 l3 I => f_X5_fieldsOf_4 b0 n l1 l2 l3 I) (fun l1 l2 l3 I => t_X5_fieldsOf_4 b0 h0 n l1 l2 l3 I) l1 l2 l3 I
def f_X5_fieldsOf (b0 : Nat) (l1 : Int32) (I : xI) : Option (Int32 × xI) :=
  f_X5_fieldsOf_4 b0 xZ l1 (0 : Int32) (0 : Int32) I
theorem t_X5_fieldsOf (b0 : Nat) (h0 : xSt b0) (l1 : Int32) (I : xI) : Ey none mX5_fieldsOf 0 [some (.inr (some b0)), some (.inl l1), none, none] [] I (f_X5_fieldsOf b0 l1 I) := by
  unfold f_X5_fieldsOf
  refine Ex.iconst (M := mX5_fieldsOf) (pc2 := 1) dX5_fieldsOf_0 ki_0 rfl ?_
  refine Ey.istore_n (M := mX5_fieldsOf) (pc2 := 2) dX5_fieldsOf_1 rfl (Nat.le_of_ble_eq_true rfl) rfl rfl ?_
  refine Ex.iconst (M := mX5_fieldsOf) (pc2 := 3) dX5_fieldsOf_2 ki_0 rfl ?_
  refine Ey.istore_n (M := mX5_fieldsOf) (pc2 := 4) dX5_fieldsOf_3 rfl (Nat.le_of_ble_eq_true rfl) rfl rfl ?_
  exact t_X5_fieldsOf_4 b0 h0 xZ _ _ _ _
/-! FenceDuel$State.edgesWith(I)I -/
def f_X5_edgesWith_4b (b0 : Nat) (k4 : Int32 → Int32 → Int32 → xI → Option (Int32 × xI)) (l1 : Int32) (l2 : Int32) (l3 : Int32) (I : xI) : Option (Int32 × xI) :=
  if l3 ≥ (82 : Int32) then some (l2, I) else if xin l3 82 then if (I (b0 + 3) l3.toNatClampNeg) ≠ l1 then k4 l1 l2 (l3 + 1) I else k4 l1 (l2 + 1) (l3 + 1) I else none
theorem t_X5_edgesWith_4b (b0 : Nat) (h0 : xSt b0) (k4 : Int32 → Int32 → Int32 → xI → Option (Int32 × xI)) (hk4 : ∀ (l1 : Int32) (l2 : Int32) (l3 : Int32) (I : xI), Ey none mX5_edgesWith 4 [some (.inr (some b0)), some (.inl l1), some (.inl l2), some (.inl l3)] [] I (k4 l1 l2 l3 I)) (l1 : Int32) (l2 : Int32) (l3 : Int32) (I : xI) : Ey none mX5_edgesWith 4 [some (.inr (some b0)), some (.inl l1), some (.inl l2), some (.inl l3)] [] I (f_X5_edgesWith_4b b0 k4 l1 l2 l3 I) := by
  unfold f_X5_edgesWith_4b
  refine Ex.iload_n (M := mX5_edgesWith) (pc2 := 5) dX5_edgesWith_4 rfl rfl rfl ?_
  refine Ex.bipush (M := mX5_edgesWith) (pc2 := 7) dX5_edgesWith_5 kb_82 rfl ?_
  refine Ey.icmp_ge (M := mX5_edgesWith) (tgt := 29) (pc2 := 10) dX5_edgesWith_7 rfl (fun _ => ?_) rfl (fun _ => ?_)
  · refine Ex.iload_n (M := mX5_edgesWith) (pc2 := 30) dX5_edgesWith_29 rfl rfl rfl ?_
    exact Ey.ireturn (M := mX5_edgesWith) dX5_edgesWith_30 rfl rfl
  · refine Ex.aload_n (M := mX5_edgesWith) (pc2 := 11) dX5_edgesWith_10 rfl rfl rfl ?_
    refine Ex.getR (M := mX5_edgesWith) (pc2 := 14) dX5_edgesWith_11 xck5 lfX5_22 (Nat.le_of_ble_eq_true rfl) (h0).s0 rfl (h0).f6 rfl ?_
    refine Ex.iload_n (M := mX5_edgesWith) (pc2 := 15) dX5_edgesWith_14 rfl rfl rfl ?_
    refine Ey.guard (fun hz1 => ?_)
    refine Ey.iaload (M := mX5_edgesWith) (pc2 := 16) dX5_edgesWith_15 (h0).s3 rfl hz1 rfl ?_
    refine Ex.iload_n (M := mX5_edgesWith) (pc2 := 17) dX5_edgesWith_16 rfl rfl rfl ?_
    refine Ey.icmp_ne (M := mX5_edgesWith) (tgt := 23) (pc2 := 20) dX5_edgesWith_17 rfl (fun _ => ?_) rfl (fun _ => ?_)
    · refine Ey.iinc (M := mX5_edgesWith) (pc2 := 26) dX5_edgesWith_23 rfl ki_1 (Nat.le_of_ble_eq_true rfl) rfl rfl ?_
      refine Ex.goto (M := mX5_edgesWith) (tgt := 4) dX5_edgesWith_26 rfl ?_
      exact hk4 _ _ _ _
    · refine Ey.iinc (M := mX5_edgesWith) (pc2 := 23) dX5_edgesWith_20 rfl ki_1 (Nat.le_of_ble_eq_true rfl) rfl rfl ?_
      refine Ey.iinc (M := mX5_edgesWith) (pc2 := 26) dX5_edgesWith_23 rfl ki_1 (Nat.le_of_ble_eq_true rfl) rfl rfl ?_
      refine Ex.goto (M := mX5_edgesWith) (tgt := 4) dX5_edgesWith_26 rfl ?_
      exact hk4 _ _ _ _
def f_X5_edgesWith_4 (b0 : Nat) : Nat → Int32 → Int32 → Int32 → xI → Option (Int32 × xI)
  | 0, _, _, _, _ => none
  | n + 1, l1, l2, l3, I => f_X5_edgesWith_4b b0 (fun l1 l2 l3 I => f_X5_edgesWith_4 b0 n l1 l2 l3 I) l1 l2 l3 I
theorem t_X5_edgesWith_4 (b0 : Nat) (h0 : xSt b0) : ∀ (n : Nat) (l1 : Int32) (l2 : Int32) (l3 : Int32) (I : xI), Ey none mX5_edgesWith 4 [some (.inr (some b0)), some (.inl l1), some (.inl l2), some (.inl l3)] [] I (f_X5_edgesWith_4 b0 n l1 l2 l3 I)
  | 0, l1, l2, l3, I => Ey.nil
  | n + 1, l1, l2, l3, I => t_X5_edgesWith_4b b0 h0 (fun l1 l2 l3 I => f_X5_edgesWith_4 b0 n l1 l2 l3 I) (fun l1 l2 l3 I => t_X5_edgesWith_4 b0 h0 n l1 l2 l3 I) l1 l2 l3 I
def f_X5_edgesWith (b0 : Nat) (l1 : Int32) (I : xI) : Option (Int32 × xI) :=
  f_X5_edgesWith_4 b0 xZ l1 (0 : Int32) (0 : Int32) I
theorem t_X5_edgesWith (b0 : Nat) (h0 : xSt b0) (l1 : Int32) (I : xI) : Ey none mX5_edgesWith 0 [some (.inr (some b0)), some (.inl l1), none, none] [] I (f_X5_edgesWith b0 l1 I) := by
  unfold f_X5_edgesWith
  refine Ex.iconst (M := mX5_edgesWith) (pc2 := 1) dX5_edgesWith_0 ki_0 rfl ?_
  refine Ey.istore_n (M := mX5_edgesWith) (pc2 := 2) dX5_edgesWith_1 rfl (Nat.le_of_ble_eq_true rfl) rfl rfl ?_
  refine Ex.iconst (M := mX5_edgesWith) (pc2 := 3) dX5_edgesWith_2 ki_0 rfl ?_
  refine Ey.istore_n (M := mX5_edgesWith) (pc2 := 4) dX5_edgesWith_3 rfl (Nat.le_of_ble_eq_true rfl) rfl rfl ?_
  exact t_X5_edgesWith_4 b0 h0 xZ _ _ _ _
