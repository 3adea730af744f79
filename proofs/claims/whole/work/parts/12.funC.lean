/-! FenceDuelModel.in(III)Z -/
def f_X7_in (l0 : Int32) (l1 : Int32) (l2 : Int32) (I : xI) : Option (Int32 × xI) :=
  if l0 < l1 then some ((0 : Int32), I) else if l0 > l2 then some ((0 : Int32), I) else some ((1 : Int32), I)
theorem t_X7_in (l0 : Int32) (l1 : Int32) (l2 : Int32) (I : xI) : Ey none mX7_in 0 [some (.inl l0), some (.inl l1), some (.inl l2)] [] I (f_X7_in l0 l1 l2 I) := by
  unfold f_X7_in
  refine Ex.iload_n (M := mX7_in) (pc2 := 1) dX7_in_0 rfl rfl rfl ?_
  refine Ex.iload_n (M := mX7_in) (pc2 := 2) dX7_in_1 rfl rfl rfl ?_
  refine Ey.icmp_lt (M := mX7_in) (tgt := 14) (pc2 := 5) dX7_in_2 rfl (fun _ => ?_) rfl (fun _ => ?_)
  · refine Ex.iconst (M := mX7_in) (pc2 := 15) dX7_in_14 ki_0 rfl ?_
    exact Ey.ireturn (M := mX7_in) dX7_in_15 rfl (by decide)
  · refine Ex.iload_n (M := mX7_in) (pc2 := 6) dX7_in_5 rfl rfl rfl ?_
    refine Ex.iload_n (M := mX7_in) (pc2 := 7) dX7_in_6 rfl rfl rfl ?_
    refine Ey.icmp_gt (M := mX7_in) (tgt := 14) (pc2 := 10) dX7_in_7 rfl (fun _ => ?_) rfl (fun _ => ?_)
    · refine Ex.iconst (M := mX7_in) (pc2 := 15) dX7_in_14 ki_0 rfl ?_
      exact Ey.ireturn (M := mX7_in) dX7_in_15 rfl (by decide)
    · refine Ex.iconst (M := mX7_in) (pc2 := 11) dX7_in_10 ki_1 rfl ?_
      refine Ex.goto (M := mX7_in) (tgt := 15) dX7_in_11 rfl ?_
      exact Ey.ireturn (M := mX7_in) dX7_in_15 rfl (by decide)
/-! FenceDuelModel.isPlayer(I)Z -/
def f_X7_isPlayer (l0 : Int32) (I : xI) : Option (Int32 × xI) :=
  xb (f_X7_in l0 (0 : Int32) (1 : Int32) I) (fun r1 I1 => if r1 = 0 ∨ r1 = 1 then some (r1, I1) else none)
theorem t_X7_isPlayer (l0 : Int32) (I : xI) : Ey none mX7_isPlayer 0 [some (.inl l0)] [] I (f_X7_isPlayer l0 I) := by
  unfold f_X7_isPlayer
  refine Ex.iload_n (M := mX7_isPlayer) (pc2 := 1) dX7_isPlayer_0 rfl rfl rfl ?_
  refine Ex.iconst (M := mX7_isPlayer) (pc2 := 2) dX7_isPlayer_1 ki_0 rfl ?_
  refine Ex.iconst (M := mX7_isPlayer) (pc2 := 3) dX7_isPlayer_2 ki_1 rfl ?_
  refine Ey.callSi (M := mX7_isPlayer) (pc2 := 6) (as := [.inl l0, .inl (0 : Int32), .inl (1 : Int32)]) (rest := []) rfl dX7_isPlayer_3 isX7_in lcX7_39  rfl ⟨(Nat.le_of_ble_eq_true rfl), (Nat.le_of_ble_eq_true rfl)⟩ rfl (Nat.le_of_ble_eq_true rfl) (Nat.le_of_ble_eq_true rfl) (t_X7_in l0 (0 : Int32) (1 : Int32) I) rfl (fun r1 I1 => ?_)
  refine Ey.guard (fun hz2 => ?_)
  exact Ey.ireturn (M := mX7_isPlayer) dX7_isPlayer_6 rfl (xbool hz2).1
/-! FenceDuelModel.isField(I)Z -/
def f_X7_isField (l0 : Int32) (I : xI) : Option (Int32 × xI) :=
  xb (f_X7_in l0 (0 : Int32) (47 : Int32) I) (fun r1 I1 => if r1 = 0 ∨ r1 = 1 then some (r1, I1) else none)
theorem t_X7_isField (l0 : Int32) (I : xI) : Ey none mX7_isField 0 [some (.inl l0)] [] I (f_X7_isField l0 I) := by
  unfold f_X7_isField
  refine Ex.iload_n (M := mX7_isField) (pc2 := 1) dX7_isField_0 rfl rfl rfl ?_
  refine Ex.iconst (M := mX7_isField) (pc2 := 2) dX7_isField_1 ki_0 rfl ?_
  refine Ex.bipush (M := mX7_isField) (pc2 := 4) dX7_isField_2 kb_47 rfl ?_
  refine Ey.callSi (M := mX7_isField) (pc2 := 7) (as := [.inl l0, .inl (0 : Int32), .inl (47 : Int32)]) (rest := []) rfl dX7_isField_4 isX7_in lcX7_39  rfl ⟨(Nat.le_of_ble_eq_true rfl), (Nat.le_of_ble_eq_true rfl)⟩ rfl (Nat.le_of_ble_eq_true rfl) (Nat.le_of_ble_eq_true rfl) (t_X7_in l0 (0 : Int32) (47 : Int32) I) rfl (fun r1 I1 => ?_)
  refine Ey.guard (fun hz2 => ?_)
  exact Ey.ireturn (M := mX7_isField) dX7_isField_7 rfl (xbool hz2).1
/-! FenceDuelModel.isLetter(I)Z -/
def f_X7_isLetter (l1 : Int32) (I : xI) : Option (Int32 × xI) :=
  xb (f_X7_in l1 (0 : Int32) ((I 70 1) - (1 : Int32)) I) (fun r1 I1 => if r1 = 0 ∨ r1 = 1 then some (r1, I1) else none)
theorem t_X7_isLetter (l1 : Int32) (I : xI) : Ey none mX7_isLetter 0 [some (.inr (some 69)), some (.inl l1)] [] I (f_X7_isLetter l1 I) := by
  unfold f_X7_isLetter
  refine Ex.iload_n (M := mX7_isLetter) (pc2 := 1) dX7_isLetter_0 rfl rfl rfl ?_
  refine Ex.iconst (M := mX7_isLetter) (pc2 := 2) dX7_isLetter_1 ki_0 rfl ?_
  refine Ex.aload_n (M := mX7_isLetter) (pc2 := 3) dX7_isLetter_2 rfl rfl rfl ?_
  refine Ex.getR (M := mX7_isLetter) (pc2 := 6) dX7_isLetter_3 xck7 lfX7_7 (Nat.le_of_ble_eq_true rfl) sh_69 rfl ff_69_0 rfl ?_
  refine Ex.iconst (M := mX7_isLetter) (pc2 := 7) dX7_isLetter_6 ki_1 rfl ?_
  refine Ey.iaload (M := mX7_isLetter) (pc2 := 8) dX7_isLetter_7 sh_70 kn_1 (by decide) rfl ?_
  refine Ex.iconst (M := mX7_isLetter) (pc2 := 9) dX7_isLetter_8 ki_1 rfl ?_
  refine Ex.isub (M := mX7_isLetter) (pc2 := 10) dX7_isLetter_9 rfl ?_
  refine Ey.callSi (M := mX7_isLetter) (pc2 := 13) (as := [.inl l1, .inl (0 : Int32), .inl ((I 70 1) - (1 : Int32))]) (rest := []) rfl dX7_isLetter_10 isX7_in lcX7_39  rfl ⟨(Nat.le_of_ble_eq_true rfl), (Nat.le_of_ble_eq_true rfl)⟩ rfl (Nat.le_of_ble_eq_true rfl) (Nat.le_of_ble_eq_true rfl) (t_X7_in l1 (0 : Int32) ((I 70 1) - (1 : Int32)) I) rfl (fun r1 I1 => ?_)
  refine Ey.guard (fun hz2 => ?_)
  exact Ey.ireturn (M := mX7_isLetter) dX7_isLetter_13 rfl (xbool hz2).1
/-! FenceDuelModel.at(II)I -/
def f_X7_at (l0 : Int32) (l1 : Int32) (I : xI) : Option (Int32 × xI) :=
  some ((((142 : Int32) + ((10 : Int32) * l0)) + l1), I)
theorem t_X7_at (l0 : Int32) (l1 : Int32) (I : xI) : Ey none mX7_at 0 [some (.inl l0), some (.inl l1)] [] I (f_X7_at l0 l1 I) := by
  unfold f_X7_at
  refine Ex.sipush (M := mX7_at) (pc2 := 3) dX7_at_0 ks_142 rfl ?_
  refine Ex.bipush (M := mX7_at) (pc2 := 5) dX7_at_3 kb_10 rfl ?_
  refine Ex.iload_n (M := mX7_at) (pc2 := 6) dX7_at_5 rfl rfl rfl ?_
  refine Ex.imul (M := mX7_at) (pc2 := 7) dX7_at_6 rfl ?_
  refine Ex.iadd (M := mX7_at) (pc2 := 8) dX7_at_7 rfl ?_
  refine Ex.iload_n (M := mX7_at) (pc2 := 9) dX7_at_8 rfl rfl rfl ?_
  refine Ex.iadd (M := mX7_at) (pc2 := 10) dX7_at_9 rfl ?_
  exact Ey.ireturn (M := mX7_at) dX7_at_10 rfl rfl
/-! FenceDuelModel.of(II)I -/
def f_X7_of (l1 : Int32) (l2 : Int32) (I : xI) : Option (Int32 × xI) :=
  xb (f_X7_at l1 l2 I) (fun r1 I1 => if xin r1 742 then some ((I1 70 r1.toNatClampNeg), I1) else none)
theorem t_X7_of (l1 : Int32) (l2 : Int32) (I : xI) : Ey none mX7_of 0 [some (.inr (some 69)), some (.inl l1), some (.inl l2)] [] I (f_X7_of l1 l2 I) := by
  unfold f_X7_of
  refine Ex.aload_n (M := mX7_of) (pc2 := 1) dX7_of_0 rfl rfl rfl ?_
  refine Ex.getR (M := mX7_of) (pc2 := 4) dX7_of_1 xck7 lfX7_7 (Nat.le_of_ble_eq_true rfl) sh_69 rfl ff_69_0 rfl ?_
  refine Ex.iload_n (M := mX7_of) (pc2 := 5) dX7_of_4 rfl rfl rfl ?_
  refine Ex.iload_n (M := mX7_of) (pc2 := 6) dX7_of_5 rfl rfl rfl ?_
  refine Ey.callSi (M := mX7_of) (pc2 := 9) (as := [.inl l1, .inl l2]) (rest := [.inr (some 70)]) rfl dX7_of_6 isX7_at lcX7_43  rfl ⟨(Nat.le_of_ble_eq_true rfl), (Nat.le_of_ble_eq_true rfl)⟩ rfl (Nat.le_of_ble_eq_true rfl) (Nat.le_of_ble_eq_true rfl) (t_X7_at l1 l2 I) rfl (fun r1 I1 => ?_)
  refine Ey.guard (fun hz2 => ?_)
  refine Ey.iaload (M := mX7_of) (pc2 := 10) dX7_of_9 sh_70 rfl hz2 rfl ?_
  exact Ey.ireturn (M := mX7_of) dX7_of_10 rfl rfl
/-! FenceDuelModel.looks()V -/
def f_X7_looks_2b (k2 : Int32 → xI → Option (Int32 × xI)) (l1 : Int32) (I : xI) : Option (Int32 × xI) :=
  if l1 ≥ (742 : Int32) then some (0, I) else if xin l1 742 then if xin l1 742 then k2 (l1 + 1) (xup I 72 l1.toNatClampNeg (I 70 l1.toNatClampNeg)) else none else none
theorem t_X7_looks_2b (k2 : Int32 → xI → Option (Int32 × xI)) (hk2 : ∀ (l1 : Int32) (I : xI), Ey none mX7_looks 2 [some (.inr (some 69)), some (.inl l1)] [] I (k2 l1 I)) (l1 : Int32) (I : xI) : Ey none mX7_looks 2 [some (.inr (some 69)), some (.inl l1)] [] I (f_X7_looks_2b k2 l1 I) := by
  unfold f_X7_looks_2b
  refine Ex.iload_n (M := mX7_looks) (pc2 := 3) dX7_looks_2 rfl rfl rfl ?_
  refine Ex.sipush (M := mX7_looks) (pc2 := 6) dX7_looks_3 ks_742 rfl ?_
  refine Ey.icmp_ge (M := mX7_looks) (tgt := 27) (pc2 := 9) dX7_looks_6 rfl (fun _ => ?_) rfl (fun _ => ?_)
  · exact Ey.ret (M := mX7_looks) dX7_looks_27 rfl
  · refine Ex.aload_n (M := mX7_looks) (pc2 := 10) dX7_looks_9 rfl rfl rfl ?_
    refine Ex.getR (M := mX7_looks) (pc2 := 13) dX7_looks_10 xck7 lfX7_16 (Nat.le_of_ble_eq_true rfl) sh_69 rfl ff_69_2 rfl ?_
    refine Ex.iload_n (M := mX7_looks) (pc2 := 14) dX7_looks_13 rfl rfl rfl ?_
    refine Ex.aload_n (M := mX7_looks) (pc2 := 15) dX7_looks_14 rfl rfl rfl ?_
    refine Ex.getR (M := mX7_looks) (pc2 := 18) dX7_looks_15 xck7 lfX7_7 (Nat.le_of_ble_eq_true rfl) sh_69 rfl ff_69_0 rfl ?_
    refine Ex.iload_n (M := mX7_looks) (pc2 := 19) dX7_looks_18 rfl rfl rfl ?_
    refine Ey.guard (fun hz1 => ?_)
    refine Ey.iaload (M := mX7_looks) (pc2 := 20) dX7_looks_19 sh_70 rfl hz1 rfl ?_
    refine Ey.guard (fun hz2 => ?_)
    refine Ey.iastore (M := mX7_looks) (pc2 := 21) dX7_looks_20 sh_72 rfl hz2 rfl ?_
    refine Ey.iinc (M := mX7_looks) (pc2 := 24) dX7_looks_21 rfl ki_1 (Nat.le_of_ble_eq_true rfl) rfl rfl ?_
    refine Ex.goto (M := mX7_looks) (tgt := 2) dX7_looks_24 rfl ?_
    exact hk2 _ _
def f_X7_looks_2 : Nat → Int32 → xI → Option (Int32 × xI)
  | 0, _, _ => none
  | n + 1, l1, I => f_X7_looks_2b (fun l1 I => f_X7_looks_2 n l1 I) l1 I
theorem t_X7_looks_2 : ∀ (n : Nat) (l1 : Int32) (I : xI), Ey none mX7_looks 2 [some (.inr (some 69)), some (.inl l1)] [] I (f_X7_looks_2 n l1 I)
  | 0, l1, I => Ey.nil
  | n + 1, l1, I => t_X7_looks_2b (fun l1 I => f_X7_looks_2 n l1 I) (fun l1 I => t_X7_looks_2 n l1 I) l1 I
def f_X7_looks (I : xI) : Option (Int32 × xI) :=
  f_X7_looks_2 xZ (0 : Int32) I
theorem t_X7_looks (I : xI) : Ey none mX7_looks 0 [some (.inr (some 69)), none] [] I (f_X7_looks I) := by
  unfold f_X7_looks
  refine Ex.iconst (M := mX7_looks) (pc2 := 1) dX7_looks_0 ki_0 rfl ?_
  refine Ey.istore_n (M := mX7_looks) (pc2 := 2) dX7_looks_1 rfl (Nat.le_of_ble_eq_true rfl) rfl rfl ?_
  exact t_X7_looks_2 xZ _ _
/-! FenceDuelModel.records()V -/
def f_X7_records_51b (k51 : Int32 → xI → Option (Int32 × xI)) (l1 : Int32) (I : xI) : Option (Int32 × xI) :=
  if l1 ≥ (742 : Int32) then some (0, (xup I 69 6 ((I 69 6) + (1 : Int32)))) else if xin l1 742 then if xin (((742 : Int32) * (I 69 6)) + l1) 2968 then k51 (l1 + 1) (xup I 74 ((((742 : Int32) * (I 69 6)) + l1).toNatClampNeg) (I 72 l1.toNatClampNeg)) else none else none
theorem t_X7_records_51b (k51 : Int32 → xI → Option (Int32 × xI)) (hk51 : ∀ (l1 : Int32) (I : xI), Ey none mX7_records 51 [some (.inr (some 69)), some (.inl l1)] [] I (k51 l1 I)) (l1 : Int32) (I : xI) : Ey none mX7_records 51 [some (.inr (some 69)), some (.inl l1)] [] I (f_X7_records_51b k51 l1 I) := by
  unfold f_X7_records_51b
  refine Ex.iload_n (M := mX7_records) (pc2 := 52) dX7_records_51 rfl rfl rfl ?_
  refine Ex.sipush (M := mX7_records) (pc2 := 55) dX7_records_52 ks_742 rfl ?_
  refine Ey.icmp_ge (M := mX7_records) (tgt := 85) (pc2 := 58) dX7_records_55 rfl (fun _ => ?_) rfl (fun _ => ?_)
  · refine Ex.aload_n (M := mX7_records) (pc2 := 86) dX7_records_85 rfl rfl rfl ?_
    refine Ex.dup (M := mX7_records) (pc2 := 87) dX7_records_86 rfl ?_
    refine Ex.getI (M := mX7_records) (pc2 := 90) dX7_records_87 xck7 lfX7_47 (Nat.le_of_ble_eq_true rfl) sh_69 rfl rfl ?_
    refine Ex.iconst (M := mX7_records) (pc2 := 91) dX7_records_90 ki_1 rfl ?_
    refine Ex.iadd (M := mX7_records) (pc2 := 92) dX7_records_91 rfl ?_
    refine Ex.putI (M := mX7_records) (pc2 := 95) dX7_records_92 xck7 lfX7_47 (Nat.le_of_ble_eq_true rfl) sh_69 rfl rfl ⟨rfl, rfl⟩ rfl ?_
    exact Ey.ret (M := mX7_records) dX7_records_95 rfl
  · refine Ex.aload_n (M := mX7_records) (pc2 := 59) dX7_records_58 rfl rfl rfl ?_
    refine Ex.getR (M := mX7_records) (pc2 := 62) dX7_records_59 xck7 lfX7_22 (Nat.le_of_ble_eq_true rfl) sh_69 rfl ff_69_5 rfl ?_
    refine Ex.sipush (M := mX7_records) (pc2 := 65) dX7_records_62 ks_742 rfl ?_
    refine Ex.aload_n (M := mX7_records) (pc2 := 66) dX7_records_65 rfl rfl rfl ?_
    refine Ex.getI (M := mX7_records) (pc2 := 69) dX7_records_66 xck7 lfX7_47 (Nat.le_of_ble_eq_true rfl) sh_69 rfl rfl ?_
    refine Ex.imul (M := mX7_records) (pc2 := 70) dX7_records_69 rfl ?_
    refine Ex.iload_n (M := mX7_records) (pc2 := 71) dX7_records_70 rfl rfl rfl ?_
    refine Ex.iadd (M := mX7_records) (pc2 := 72) dX7_records_71 rfl ?_
    refine Ex.aload_n (M := mX7_records) (pc2 := 73) dX7_records_72 rfl rfl rfl ?_
    refine Ex.getR (M := mX7_records) (pc2 := 76) dX7_records_73 xck7 lfX7_16 (Nat.le_of_ble_eq_true rfl) sh_69 rfl ff_69_2 rfl ?_
    refine Ex.iload_n (M := mX7_records) (pc2 := 77) dX7_records_76 rfl rfl rfl ?_
    refine Ey.guard (fun hz1 => ?_)
    refine Ey.iaload (M := mX7_records) (pc2 := 78) dX7_records_77 sh_72 rfl hz1 rfl ?_
    refine Ey.guard (fun hz2 => ?_)
    refine Ey.iastore (M := mX7_records) (pc2 := 79) dX7_records_78 sh_74 rfl hz2 rfl ?_
    refine Ey.iinc (M := mX7_records) (pc2 := 82) dX7_records_79 rfl ki_1 (Nat.le_of_ble_eq_true rfl) rfl rfl ?_
    refine Ex.goto (M := mX7_records) (tgt := 51) dX7_records_82 rfl ?_
    exact hk51 _ _
def f_X7_records_51 : Nat → Int32 → xI → Option (Int32 × xI)
  | 0, _, _ => none
  | n + 1, l1, I => f_X7_records_51b (fun l1 I => f_X7_records_51 n l1 I) l1 I
theorem t_X7_records_51 : ∀ (n : Nat) (l1 : Int32) (I : xI), Ey none mX7_records 51 [some (.inr (some 69)), some (.inl l1)] [] I (f_X7_records_51 n l1 I)
  | 0, l1, I => Ey.nil
  | n + 1, l1, I => t_X7_records_51b (fun l1 I => f_X7_records_51 n l1 I) (fun l1 I => t_X7_records_51 n l1 I) l1 I
def f_X7_records_10b (k10 : Int32 → xI → Option (Int32 × xI)) (l1 : Int32) (I : xI) : Option (Int32 × xI) :=
  if l1 ≥ (2226 : Int32) then f_X7_records_51 xZ (0 : Int32) (xup I 69 6 ((I 69 6) - (1 : Int32))) else if xin ((742 : Int32) + l1) 2968 then if xin l1 2968 then k10 (l1 + 1) (xup I 74 l1.toNatClampNeg (I 74 (((742 : Int32) + l1).toNatClampNeg))) else none else none
theorem t_X7_records_10b (k10 : Int32 → xI → Option (Int32 × xI)) (hk10 : ∀ (l1 : Int32) (I : xI), Ey none mX7_records 10 [some (.inr (some 69)), some (.inl l1)] [] I (k10 l1 I)) (l1 : Int32) (I : xI) : Ey none mX7_records 10 [some (.inr (some 69)), some (.inl l1)] [] I (f_X7_records_10b k10 l1 I) := by
  unfold f_X7_records_10b
  refine Ex.iload_n (M := mX7_records) (pc2 := 11) dX7_records_10 rfl rfl rfl ?_
  refine Ex.sipush (M := mX7_records) (pc2 := 14) dX7_records_11 ks_2226 rfl ?_
  refine Ey.icmp_ge (M := mX7_records) (tgt := 39) (pc2 := 17) dX7_records_14 rfl (fun _ => ?_) rfl (fun _ => ?_)
  · refine Ex.aload_n (M := mX7_records) (pc2 := 40) dX7_records_39 rfl rfl rfl ?_
    refine Ex.dup (M := mX7_records) (pc2 := 41) dX7_records_40 rfl ?_
    refine Ex.getI (M := mX7_records) (pc2 := 44) dX7_records_41 xck7 lfX7_47 (Nat.le_of_ble_eq_true rfl) sh_69 rfl rfl ?_
    refine Ex.iconst (M := mX7_records) (pc2 := 45) dX7_records_44 ki_1 rfl ?_
    refine Ex.isub (M := mX7_records) (pc2 := 46) dX7_records_45 rfl ?_
    refine Ex.putI (M := mX7_records) (pc2 := 49) dX7_records_46 xck7 lfX7_47 (Nat.le_of_ble_eq_true rfl) sh_69 rfl rfl ⟨rfl, rfl⟩ rfl ?_
    refine Ex.iconst (M := mX7_records) (pc2 := 50) dX7_records_49 ki_0 rfl ?_
    refine Ey.istore_n (M := mX7_records) (pc2 := 51) dX7_records_50 rfl (Nat.le_of_ble_eq_true rfl) rfl rfl ?_
    exact t_X7_records_51 xZ _ _
  · refine Ex.aload_n (M := mX7_records) (pc2 := 18) dX7_records_17 rfl rfl rfl ?_
    refine Ex.getR (M := mX7_records) (pc2 := 21) dX7_records_18 xck7 lfX7_22 (Nat.le_of_ble_eq_true rfl) sh_69 rfl ff_69_5 rfl ?_
    refine Ex.iload_n (M := mX7_records) (pc2 := 22) dX7_records_21 rfl rfl rfl ?_
    refine Ex.aload_n (M := mX7_records) (pc2 := 23) dX7_records_22 rfl rfl rfl ?_
    refine Ex.getR (M := mX7_records) (pc2 := 26) dX7_records_23 xck7 lfX7_22 (Nat.le_of_ble_eq_true rfl) sh_69 rfl ff_69_5 rfl ?_
    refine Ex.sipush (M := mX7_records) (pc2 := 29) dX7_records_26 ks_742 rfl ?_
    refine Ex.iload_n (M := mX7_records) (pc2 := 30) dX7_records_29 rfl rfl rfl ?_
    refine Ex.iadd (M := mX7_records) (pc2 := 31) dX7_records_30 rfl ?_
    refine Ey.guard (fun hz3 => ?_)
    refine Ey.iaload (M := mX7_records) (pc2 := 32) dX7_records_31 sh_74 rfl hz3 rfl ?_
    refine Ey.guard (fun hz4 => ?_)
    refine Ey.iastore (M := mX7_records) (pc2 := 33) dX7_records_32 sh_74 rfl hz4 rfl ?_
    refine Ey.iinc (M := mX7_records) (pc2 := 36) dX7_records_33 rfl ki_1 (Nat.le_of_ble_eq_true rfl) rfl rfl ?_
    refine Ex.goto (M := mX7_records) (tgt := 10) dX7_records_36 rfl ?_
    exact hk10 _ _
def f_X7_records_10 : Nat → Int32 → xI → Option (Int32 × xI)
  | 0, _, _ => none
  | n + 1, l1, I => f_X7_records_10b (fun l1 I => f_X7_records_10 n l1 I) l1 I
theorem t_X7_records_10 : ∀ (n : Nat) (l1 : Int32) (I : xI), Ey none mX7_records 10 [some (.inr (some 69)), some (.inl l1)] [] I (f_X7_records_10 n l1 I)
  | 0, l1, I => Ey.nil
  | n + 1, l1, I => t_X7_records_10b (fun l1 I => f_X7_records_10 n l1 I) (fun l1 I => t_X7_records_10 n l1 I) l1 I
def f_X7_records (I : xI) : Option (Int32 × xI) :=
  if (I 69 6) ≠ (4 : Int32) then f_X7_records_51 xZ (0 : Int32) I else f_X7_records_10 xZ (0 : Int32) I
theorem t_X7_records (I : xI) : Ey none mX7_records 0 [some (.inr (some 69)), none] [] I (f_X7_records I) := by
  unfold f_X7_records
  refine Ex.aload_n (M := mX7_records) (pc2 := 1) dX7_records_0 rfl rfl rfl ?_
  refine Ex.getI (M := mX7_records) (pc2 := 4) dX7_records_1 xck7 lfX7_47 (Nat.le_of_ble_eq_true rfl) sh_69 rfl rfl ?_
  refine Ex.iconst (M := mX7_records) (pc2 := 5) dX7_records_4 ki_4 rfl ?_
  refine Ey.icmp_ne (M := mX7_records) (tgt := 49) (pc2 := 8) dX7_records_5 rfl (fun _ => ?_) rfl (fun _ => ?_)
  · refine Ex.iconst (M := mX7_records) (pc2 := 50) dX7_records_49 ki_0 rfl ?_
    refine Ey.istore_n (M := mX7_records) (pc2 := 51) dX7_records_50 rfl (Nat.le_of_ble_eq_true rfl) rfl rfl ?_
    exact t_X7_records_51 xZ _ _
  · refine Ex.iconst (M := mX7_records) (pc2 := 9) dX7_records_8 ki_0 rfl ?_
    refine Ey.istore_n (M := mX7_records) (pc2 := 10) dX7_records_9 rfl (Nat.le_of_ble_eq_true rfl) rfl rfl ?_
    exact t_X7_records_10 xZ _ _
/-! FenceDuelModel.putAside()V -/
def f_X7_putAside_2b (k2 : Int32 → xI → Option (Int32 × xI)) (l1 : Int32) (I : xI) : Option (Int32 × xI) :=
  if l1 ≥ (742 : Int32) then some (0, I) else if xin l1 742 then if xin l1 742 then k2 (l1 + 1) (xup I 71 l1.toNatClampNeg (I 70 l1.toNatClampNeg)) else none else none
theorem t_X7_putAside_2b (k2 : Int32 → xI → Option (Int32 × xI)) (hk2 : ∀ (l1 : Int32) (I : xI), Ey none mX7_putAside 2 [some (.inr (some 69)), some (.inl l1)] [] I (k2 l1 I)) (l1 : Int32) (I : xI) : Ey none mX7_putAside 2 [some (.inr (some 69)), some (.inl l1)] [] I (f_X7_putAside_2b k2 l1 I) := by
  unfold f_X7_putAside_2b
  refine Ex.iload_n (M := mX7_putAside) (pc2 := 3) dX7_putAside_2 rfl rfl rfl ?_
  refine Ex.sipush (M := mX7_putAside) (pc2 := 6) dX7_putAside_3 ks_742 rfl ?_
  refine Ey.icmp_ge (M := mX7_putAside) (tgt := 27) (pc2 := 9) dX7_putAside_6 rfl (fun _ => ?_) rfl (fun _ => ?_)
  · exact Ey.ret (M := mX7_putAside) dX7_putAside_27 rfl
  · refine Ex.aload_n (M := mX7_putAside) (pc2 := 10) dX7_putAside_9 rfl rfl rfl ?_
    refine Ex.getR (M := mX7_putAside) (pc2 := 13) dX7_putAside_10 xck7 lfX7_13 (Nat.le_of_ble_eq_true rfl) sh_69 rfl ff_69_1 rfl ?_
    refine Ex.iload_n (M := mX7_putAside) (pc2 := 14) dX7_putAside_13 rfl rfl rfl ?_
    refine Ex.aload_n (M := mX7_putAside) (pc2 := 15) dX7_putAside_14 rfl rfl rfl ?_
    refine Ex.getR (M := mX7_putAside) (pc2 := 18) dX7_putAside_15 xck7 lfX7_7 (Nat.le_of_ble_eq_true rfl) sh_69 rfl ff_69_0 rfl ?_
    refine Ex.iload_n (M := mX7_putAside) (pc2 := 19) dX7_putAside_18 rfl rfl rfl ?_
    refine Ey.guard (fun hz1 => ?_)
    refine Ey.iaload (M := mX7_putAside) (pc2 := 20) dX7_putAside_19 sh_70 rfl hz1 rfl ?_
    refine Ey.guard (fun hz2 => ?_)
    refine Ey.iastore (M := mX7_putAside) (pc2 := 21) dX7_putAside_20 sh_71 rfl hz2 rfl ?_
    refine Ey.iinc (M := mX7_putAside) (pc2 := 24) dX7_putAside_21 rfl ki_1 (Nat.le_of_ble_eq_true rfl) rfl rfl ?_
    refine Ex.goto (M := mX7_putAside) (tgt := 2) dX7_putAside_24 rfl ?_
    exact hk2 _ _
def f_X7_putAside_2 : Nat → Int32 → xI → Option (Int32 × xI)
  | 0, _, _ => none
  | n + 1, l1, I => f_X7_putAside_2b (fun l1 I => f_X7_putAside_2 n l1 I) l1 I
theorem t_X7_putAside_2 : ∀ (n : Nat) (l1 : Int32) (I : xI), Ey none mX7_putAside 2 [some (.inr (some 69)), some (.inl l1)] [] I (f_X7_putAside_2 n l1 I)
  | 0, l1, I => Ey.nil
  | n + 1, l1, I => t_X7_putAside_2b (fun l1 I => f_X7_putAside_2 n l1 I) (fun l1 I => t_X7_putAside_2 n l1 I) l1 I
def f_X7_putAside (I : xI) : Option (Int32 × xI) :=
  f_X7_putAside_2 xZ (0 : Int32) I
theorem t_X7_putAside (I : xI) : Ey none mX7_putAside 0 [some (.inr (some 69)), none] [] I (f_X7_putAside I) := by
  unfold f_X7_putAside
  refine Ex.iconst (M := mX7_putAside) (pc2 := 1) dX7_putAside_0 ki_0 rfl ?_
  refine Ey.istore_n (M := mX7_putAside) (pc2 := 2) dX7_putAside_1 rfl (Nat.le_of_ble_eq_true rfl) rfl rfl ?_
  exact t_X7_putAside_2 xZ _ _
/-! FenceDuelModel.putBack()V -/
def f_X7_putBack_2b (k2 : Int32 → xI → Option (Int32 × xI)) (l1 : Int32) (I : xI) : Option (Int32 × xI) :=
  if l1 ≥ (742 : Int32) then some (0, I) else if xin l1 742 then if xin l1 742 then k2 (l1 + 1) (xup I 70 l1.toNatClampNeg (I 71 l1.toNatClampNeg)) else none else none
theorem t_X7_putBack_2b (k2 : Int32 → xI → Option (Int32 × xI)) (hk2 : ∀ (l1 : Int32) (I : xI), Ey none mX7_putBack 2 [some (.inr (some 69)), some (.inl l1)] [] I (k2 l1 I)) (l1 : Int32) (I : xI) : Ey none mX7_putBack 2 [some (.inr (some 69)), some (.inl l1)] [] I (f_X7_putBack_2b k2 l1 I) := by
  unfold f_X7_putBack_2b
  refine Ex.iload_n (M := mX7_putBack) (pc2 := 3) dX7_putBack_2 rfl rfl rfl ?_
  refine Ex.sipush (M := mX7_putBack) (pc2 := 6) dX7_putBack_3 ks_742 rfl ?_
  refine Ey.icmp_ge (M := mX7_putBack) (tgt := 27) (pc2 := 9) dX7_putBack_6 rfl (fun _ => ?_) rfl (fun _ => ?_)
  · exact Ey.ret (M := mX7_putBack) dX7_putBack_27 rfl
  · refine Ex.aload_n (M := mX7_putBack) (pc2 := 10) dX7_putBack_9 rfl rfl rfl ?_
    refine Ex.getR (M := mX7_putBack) (pc2 := 13) dX7_putBack_10 xck7 lfX7_7 (Nat.le_of_ble_eq_true rfl) sh_69 rfl ff_69_0 rfl ?_
    refine Ex.iload_n (M := mX7_putBack) (pc2 := 14) dX7_putBack_13 rfl rfl rfl ?_
    refine Ex.aload_n (M := mX7_putBack) (pc2 := 15) dX7_putBack_14 rfl rfl rfl ?_
    refine Ex.getR (M := mX7_putBack) (pc2 := 18) dX7_putBack_15 xck7 lfX7_13 (Nat.le_of_ble_eq_true rfl) sh_69 rfl ff_69_1 rfl ?_
    refine Ex.iload_n (M := mX7_putBack) (pc2 := 19) dX7_putBack_18 rfl rfl rfl ?_
    refine Ey.guard (fun hz1 => ?_)
    refine Ey.iaload (M := mX7_putBack) (pc2 := 20) dX7_putBack_19 sh_71 rfl hz1 rfl ?_
    refine Ey.guard (fun hz2 => ?_)
    refine Ey.iastore (M := mX7_putBack) (pc2 := 21) dX7_putBack_20 sh_70 rfl hz2 rfl ?_
    refine Ey.iinc (M := mX7_putBack) (pc2 := 24) dX7_putBack_21 rfl ki_1 (Nat.le_of_ble_eq_true rfl) rfl rfl ?_
    refine Ex.goto (M := mX7_putBack) (tgt := 2) dX7_putBack_24 rfl ?_
    exact hk2 _ _
def f_X7_putBack_2 : Nat → Int32 → xI → Option (Int32 × xI)
  | 0, _, _ => none
  | n + 1, l1, I => f_X7_putBack_2b (fun l1 I => f_X7_putBack_2 n l1 I) l1 I
theorem t_X7_putBack_2 : ∀ (n : Nat) (l1 : Int32) (I : xI), Ey none mX7_putBack 2 [some (.inr (some 69)), some (.inl l1)] [] I (f_X7_putBack_2 n l1 I)
  | 0, l1, I => Ey.nil
  | n + 1, l1, I => t_X7_putBack_2b (fun l1 I => f_X7_putBack_2 n l1 I) (fun l1 I => t_X7_putBack_2 n l1 I) l1 I
def f_X7_putBack (I : xI) : Option (Int32 × xI) :=
  f_X7_putBack_2 xZ (0 : Int32) I
theorem t_X7_putBack (I : xI) : Ey none mX7_putBack 0 [some (.inr (some 69)), none] [] I (f_X7_putBack I) := by
  unfold f_X7_putBack
  refine Ex.iconst (M := mX7_putBack) (pc2 := 1) dX7_putBack_0 ki_0 rfl ?_
  refine Ey.istore_n (M := mX7_putBack) (pc2 := 2) dX7_putBack_1 rfl (Nat.le_of_ble_eq_true rfl) rfl rfl ?_
  exact t_X7_putBack_2 xZ _ _
/-! FenceDuelModel.edgeAt(II)I -/
def f_X7_edgeAt (l0 : Int32) (l1 : Int32) (I : xI) : Option (Int32 × xI) :=
  xb (f_X7_isField l0 I) (fun r1 I1 => if r1 ≠ 0 then if l1 = 0 then if (l0 / (8 : Int32)) ≤ 0 then some ((-5 : Int32), I1) else some ((((42 : Int32) + l0) - (8 : Int32)), I1) else if l1 = 1 then if (l0 - l0 / (8 : Int32) * (8 : Int32)) ≥ (7 : Int32) then some ((-5 : Int32), I1) else some ((((7 : Int32) * (l0 / (8 : Int32))) + (l0 - l0 / (8 : Int32) * (8 : Int32))), I1) else if l1 = 2 then if (l0 / (8 : Int32)) ≥ (5 : Int32) then some ((-5 : Int32), I1) else some (((42 : Int32) + l0), I1) else if l1 = 3 then if (l0 - l0 / (8 : Int32) * (8 : Int32)) ≤ 0 then some ((-5 : Int32), I1) else some (((((7 : Int32) * (l0 / (8 : Int32))) + (l0 - l0 / (8 : Int32) * (8 : Int32))) - (1 : Int32)), I1) else some ((-5 : Int32), I1) else some ((-5 : Int32), I1))
theorem t_X7_edgeAt (l0 : Int32) (l1 : Int32) (I : xI) : Ey none mX7_edgeAt 0 [some (.inl l0), some (.inl l1), none, none] [] I (f_X7_edgeAt l0 l1 I) := by
  unfold f_X7_edgeAt
  refine Ex.iload_n (M := mX7_edgeAt) (pc2 := 1) dX7_edgeAt_0 rfl rfl rfl ?_
  refine Ey.callSi (M := mX7_edgeAt) (pc2 := 4) (as := [.inl l0]) (rest := []) rfl dX7_edgeAt_1 isX7_isField lcX7_50  rfl ⟨(Nat.le_of_ble_eq_true rfl), (Nat.le_of_ble_eq_true rfl)⟩ rfl (Nat.le_of_ble_eq_true rfl) (Nat.le_of_ble_eq_true rfl) (t_X7_isField l0 I) rfl (fun r1 I1 => ?_)
  refine Ey.if_ne (M := mX7_edgeAt) (tgt := 10) (pc2 := 7) dX7_edgeAt_4 rfl (fun _ => ?_) rfl (fun _ => ?_)
  · refine Ex.iload_n (M := mX7_edgeAt) (pc2 := 11) dX7_edgeAt_10 rfl rfl rfl ?_
    refine Ex.bipush (M := mX7_edgeAt) (pc2 := 13) dX7_edgeAt_11 kb_8 rfl ?_
    refine Ex.idiv (M := mX7_edgeAt) (pc2 := 14) dX7_edgeAt_13 (by decide) rfl ?_
    refine Ey.istore_n (M := mX7_edgeAt) (pc2 := 15) dX7_edgeAt_14 rfl (Nat.le_of_ble_eq_true rfl) rfl rfl ?_
    refine Ex.iload_n (M := mX7_edgeAt) (pc2 := 16) dX7_edgeAt_15 rfl rfl rfl ?_
    refine Ex.bipush (M := mX7_edgeAt) (pc2 := 18) dX7_edgeAt_16 kb_8 rfl ?_
    refine Ex.irem (M := mX7_edgeAt) (pc2 := 19) dX7_edgeAt_18 (by decide) rfl ?_
    refine Ey.istore_n (M := mX7_edgeAt) (pc2 := 20) dX7_edgeAt_19 rfl (Nat.le_of_ble_eq_true rfl) rfl rfl ?_
    refine Ex.iload_n (M := mX7_edgeAt) (pc2 := 21) dX7_edgeAt_20 rfl rfl rfl ?_
    refine Ey.ite (fun hc2_0 => ?_) (fun hc2_0 => ?_)
    · refine Ey.tcase (M := mX7_edgeAt) (c := 0) (off := 31) (tgt := 52) hc2_0 dX7_edgeAt_21 (by decide) (by decide) (by decide) rfl ?_
      refine Ex.iload_n (M := mX7_edgeAt) (pc2 := 53) dX7_edgeAt_52 rfl rfl rfl ?_
      refine Ey.if_le (M := mX7_edgeAt) (tgt := 66) (pc2 := 56) dX7_edgeAt_53 rfl (fun _ => ?_) rfl (fun _ => ?_)
      · refine Ex.bipush (M := mX7_edgeAt) (pc2 := 68) dX7_edgeAt_66 kb_m5 rfl ?_
        exact Ey.ireturn (M := mX7_edgeAt) dX7_edgeAt_68 rfl rfl
      · refine Ex.bipush (M := mX7_edgeAt) (pc2 := 58) dX7_edgeAt_56 kb_42 rfl ?_
        refine Ex.iload_n (M := mX7_edgeAt) (pc2 := 59) dX7_edgeAt_58 rfl rfl rfl ?_
        refine Ex.iadd (M := mX7_edgeAt) (pc2 := 60) dX7_edgeAt_59 rfl ?_
        refine Ex.bipush (M := mX7_edgeAt) (pc2 := 62) dX7_edgeAt_60 kb_8 rfl ?_
        refine Ex.isub (M := mX7_edgeAt) (pc2 := 63) dX7_edgeAt_62 rfl ?_
        refine Ex.goto (M := mX7_edgeAt) (tgt := 68) dX7_edgeAt_63 rfl ?_
        exact Ey.ireturn (M := mX7_edgeAt) dX7_edgeAt_68 rfl rfl
    · refine Ey.ite (fun hc2_1 => ?_) (fun hc2_1 => ?_)
      · refine Ey.tcase (M := mX7_edgeAt) (c := 1) (off := 48) (tgt := 69) hc2_1 dX7_edgeAt_21 (by decide) (by decide) (by decide) rfl ?_
        refine Ex.iload_n (M := mX7_edgeAt) (pc2 := 70) dX7_edgeAt_69 rfl rfl rfl ?_
        refine Ex.bipush (M := mX7_edgeAt) (pc2 := 72) dX7_edgeAt_70 kb_7 rfl ?_
        refine Ey.icmp_ge (M := mX7_edgeAt) (tgt := 84) (pc2 := 75) dX7_edgeAt_72 rfl (fun _ => ?_) rfl (fun _ => ?_)
        · refine Ex.bipush (M := mX7_edgeAt) (pc2 := 86) dX7_edgeAt_84 kb_m5 rfl ?_
          exact Ey.ireturn (M := mX7_edgeAt) dX7_edgeAt_86 rfl rfl
        · refine Ex.bipush (M := mX7_edgeAt) (pc2 := 77) dX7_edgeAt_75 kb_7 rfl ?_
          refine Ex.iload_n (M := mX7_edgeAt) (pc2 := 78) dX7_edgeAt_77 rfl rfl rfl ?_
          refine Ex.imul (M := mX7_edgeAt) (pc2 := 79) dX7_edgeAt_78 rfl ?_
          refine Ex.iload_n (M := mX7_edgeAt) (pc2 := 80) dX7_edgeAt_79 rfl rfl rfl ?_
          refine Ex.iadd (M := mX7_edgeAt) (pc2 := 81) dX7_edgeAt_80 rfl ?_
          refine Ex.goto (M := mX7_edgeAt) (tgt := 86) dX7_edgeAt_81 rfl ?_
          exact Ey.ireturn (M := mX7_edgeAt) dX7_edgeAt_86 rfl rfl
      · refine Ey.ite (fun hc2_2 => ?_) (fun hc2_2 => ?_)
        · refine Ey.tcase (M := mX7_edgeAt) (c := 2) (off := 66) (tgt := 87) hc2_2 dX7_edgeAt_21 (by decide) (by decide) (by decide) rfl ?_
          refine Ex.iload_n (M := mX7_edgeAt) (pc2 := 88) dX7_edgeAt_87 rfl rfl rfl ?_
          refine Ex.iconst (M := mX7_edgeAt) (pc2 := 89) dX7_edgeAt_88 ki_5 rfl ?_
          refine Ey.icmp_ge (M := mX7_edgeAt) (tgt := 99) (pc2 := 92) dX7_edgeAt_89 rfl (fun _ => ?_) rfl (fun _ => ?_)
          · refine Ex.bipush (M := mX7_edgeAt) (pc2 := 101) dX7_edgeAt_99 kb_m5 rfl ?_
            exact Ey.ireturn (M := mX7_edgeAt) dX7_edgeAt_101 rfl rfl
          · refine Ex.bipush (M := mX7_edgeAt) (pc2 := 94) dX7_edgeAt_92 kb_42 rfl ?_
            refine Ex.iload_n (M := mX7_edgeAt) (pc2 := 95) dX7_edgeAt_94 rfl rfl rfl ?_
            refine Ex.iadd (M := mX7_edgeAt) (pc2 := 96) dX7_edgeAt_95 rfl ?_
            refine Ex.goto (M := mX7_edgeAt) (tgt := 101) dX7_edgeAt_96 rfl ?_
            exact Ey.ireturn (M := mX7_edgeAt) dX7_edgeAt_101 rfl rfl
        · refine Ey.ite (fun hc2_3 => ?_) (fun hc2_3 => ?_)
          · refine Ey.tcase (M := mX7_edgeAt) (c := 3) (off := 81) (tgt := 102) hc2_3 dX7_edgeAt_21 (by decide) (by decide) (by decide) rfl ?_
            refine Ex.iload_n (M := mX7_edgeAt) (pc2 := 103) dX7_edgeAt_102 rfl rfl rfl ?_
            refine Ey.if_le (M := mX7_edgeAt) (tgt := 117) (pc2 := 106) dX7_edgeAt_103 rfl (fun _ => ?_) rfl (fun _ => ?_)
            · refine Ex.bipush (M := mX7_edgeAt) (pc2 := 119) dX7_edgeAt_117 kb_m5 rfl ?_
              exact Ey.ireturn (M := mX7_edgeAt) dX7_edgeAt_119 rfl rfl
            · refine Ex.bipush (M := mX7_edgeAt) (pc2 := 108) dX7_edgeAt_106 kb_7 rfl ?_
              refine Ex.iload_n (M := mX7_edgeAt) (pc2 := 109) dX7_edgeAt_108 rfl rfl rfl ?_
              refine Ex.imul (M := mX7_edgeAt) (pc2 := 110) dX7_edgeAt_109 rfl ?_
              refine Ex.iload_n (M := mX7_edgeAt) (pc2 := 111) dX7_edgeAt_110 rfl rfl rfl ?_
              refine Ex.iadd (M := mX7_edgeAt) (pc2 := 112) dX7_edgeAt_111 rfl ?_
              refine Ex.iconst (M := mX7_edgeAt) (pc2 := 113) dX7_edgeAt_112 ki_1 rfl ?_
              refine Ex.isub (M := mX7_edgeAt) (pc2 := 114) dX7_edgeAt_113 rfl ?_
              refine Ex.goto (M := mX7_edgeAt) (tgt := 119) dX7_edgeAt_114 rfl ?_
              exact Ey.ireturn (M := mX7_edgeAt) dX7_edgeAt_119 rfl rfl
          · refine Ex.tableOut (M := mX7_edgeAt) (tgt := 120) dX7_edgeAt_21 (xOut (n := 4) (by decide) (fun j hj => match j, hj with | 0, _ => xNe hc2_0 (by decide) | 1, _ => xNe hc2_1 (by decide) | 2, _ => xNe hc2_2 (by decide) | 3, _ => xNe hc2_3 (by decide) | j + 4, hj => absurd hj (by omega))) rfl ?_
            refine Ex.bipush (M := mX7_edgeAt) (pc2 := 122) dX7_edgeAt_120 kb_m5 rfl ?_
            exact Ey.ireturn (M := mX7_edgeAt) dX7_edgeAt_122 rfl rfl
  · refine Ex.bipush (M := mX7_edgeAt) (pc2 := 9) dX7_edgeAt_7 kb_m5 rfl ?_
    exact Ey.ireturn (M := mX7_edgeAt) dX7_edgeAt_9 rfl rfl
/-! FenceDuelModel.oneOf(I)I -/
def f_X7_oneOf (l0 : Int32) (I : xI) : Option (Int32 × xI) :=
  if l0 ≥ (42 : Int32) then some ((l0 - (42 : Int32)), I) else some ((((l0 / (7 : Int32)) * (8 : Int32)) + (l0 - l0 / (7 : Int32) * (7 : Int32))), I)
theorem t_X7_oneOf (l0 : Int32) (I : xI) : Ey none mX7_oneOf 0 [some (.inl l0)] [] I (f_X7_oneOf l0 I) := by
  unfold f_X7_oneOf
  refine Ex.iload_n (M := mX7_oneOf) (pc2 := 1) dX7_oneOf_0 rfl rfl rfl ?_
  refine Ex.bipush (M := mX7_oneOf) (pc2 := 3) dX7_oneOf_1 kb_42 rfl ?_
  refine Ey.icmp_ge (M := mX7_oneOf) (tgt := 21) (pc2 := 6) dX7_oneOf_3 rfl (fun _ => ?_) rfl (fun _ => ?_)
  · refine Ex.iload_n (M := mX7_oneOf) (pc2 := 22) dX7_oneOf_21 rfl rfl rfl ?_
    refine Ex.bipush (M := mX7_oneOf) (pc2 := 24) dX7_oneOf_22 kb_42 rfl ?_
    refine Ex.isub (M := mX7_oneOf) (pc2 := 25) dX7_oneOf_24 rfl ?_
    exact Ey.ireturn (M := mX7_oneOf) dX7_oneOf_25 rfl rfl
  · refine Ex.iload_n (M := mX7_oneOf) (pc2 := 7) dX7_oneOf_6 rfl rfl rfl ?_
    refine Ex.bipush (M := mX7_oneOf) (pc2 := 9) dX7_oneOf_7 kb_7 rfl ?_
    refine Ex.idiv (M := mX7_oneOf) (pc2 := 10) dX7_oneOf_9 (by decide) rfl ?_
    refine Ex.bipush (M := mX7_oneOf) (pc2 := 12) dX7_oneOf_10 kb_8 rfl ?_
    refine Ex.imul (M := mX7_oneOf) (pc2 := 13) dX7_oneOf_12 rfl ?_
    refine Ex.iload_n (M := mX7_oneOf) (pc2 := 14) dX7_oneOf_13 rfl rfl rfl ?_
    refine Ex.bipush (M := mX7_oneOf) (pc2 := 16) dX7_oneOf_14 kb_7 rfl ?_
    refine Ex.irem (M := mX7_oneOf) (pc2 := 17) dX7_oneOf_16 (by decide) rfl ?_
    refine Ex.iadd (M := mX7_oneOf) (pc2 := 18) dX7_oneOf_17 rfl ?_
    refine Ex.goto (M := mX7_oneOf) (tgt := 25) dX7_oneOf_18 rfl ?_
    exact Ey.ireturn (M := mX7_oneOf) dX7_oneOf_25 rfl rfl
/-! FenceDuelModel.otherOf(I)I -/
def f_X7_otherOf (l0 : Int32) (I : xI) : Option (Int32 × xI) :=
  xb (f_X7_oneOf l0 I) (fun r1 I1 => if l0 ≥ (42 : Int32) then some ((r1 + (8 : Int32)), I1) else some ((r1 + (1 : Int32)), I1))
theorem t_X7_otherOf (l0 : Int32) (I : xI) : Ey none mX7_otherOf 0 [some (.inl l0)] [] I (f_X7_otherOf l0 I) := by
  unfold f_X7_otherOf
  refine Ex.iload_n (M := mX7_otherOf) (pc2 := 1) dX7_otherOf_0 rfl rfl rfl ?_
  refine Ey.callSi (M := mX7_otherOf) (pc2 := 4) (as := [.inl l0]) (rest := []) rfl dX7_otherOf_1 isX7_oneOf lcX7_54  rfl ⟨(Nat.le_of_ble_eq_true rfl), (Nat.le_of_ble_eq_true rfl)⟩ rfl (Nat.le_of_ble_eq_true rfl) (Nat.le_of_ble_eq_true rfl) (t_X7_oneOf l0 I) rfl (fun r1 I1 => ?_)
  refine Ex.iload_n (M := mX7_otherOf) (pc2 := 5) dX7_otherOf_4 rfl rfl rfl ?_
  refine Ex.bipush (M := mX7_otherOf) (pc2 := 7) dX7_otherOf_5 kb_42 rfl ?_
  refine Ey.icmp_ge (M := mX7_otherOf) (tgt := 14) (pc2 := 10) dX7_otherOf_7 rfl (fun _ => ?_) rfl (fun _ => ?_)
  · refine Ex.bipush (M := mX7_otherOf) (pc2 := 16) dX7_otherOf_14 kb_8 rfl ?_
    refine Ex.iadd (M := mX7_otherOf) (pc2 := 17) dX7_otherOf_16 rfl ?_
    exact Ey.ireturn (M := mX7_otherOf) dX7_otherOf_17 rfl rfl
  · refine Ex.iconst (M := mX7_otherOf) (pc2 := 11) dX7_otherOf_10 ki_1 rfl ?_
    refine Ex.goto (M := mX7_otherOf) (tgt := 16) dX7_otherOf_11 rfl ?_
    refine Ex.iadd (M := mX7_otherOf) (pc2 := 17) dX7_otherOf_16 rfl ?_
    exact Ey.ireturn (M := mX7_otherOf) dX7_otherOf_17 rfl rfl
/-! FenceDuelModel.mark(I)I -/
def f_X7_mark_127b (k127 : Int32 → Int32 → xI → Option (Int32 × xI)) (l3 : Int32) (l4 : Int32) (I : xI) : Option (Int32 × xI) :=
  if l4 ≥ (48 : Int32) then some (l3, I) else if xin l4 48 then if (I 76 l4.toNatClampNeg) = 0 then k127 (l3 + (0 : Int32)) (l4 + 1) I else k127 (l3 + (1 : Int32)) (l4 + 1) I else none
theorem t_X7_mark_127b (k127 : Int32 → Int32 → xI → Option (Int32 × xI)) (hk127 : ∀ (l3 : Int32) (l4 : Int32) (d1 : Option xV) (d2 : Option xV) (I : xI), Ey none mX7_mark 127 [some (.inr (some 69)), d1, d2, some (.inl l3), some (.inl l4)] [] I (k127 l3 l4 I)) (d1 : Option xV) (d2 : Option xV) (l3 : Int32) (l4 : Int32) (I : xI) : Ey none mX7_mark 127 [some (.inr (some 69)), d1, d2, some (.inl l3), some (.inl l4)] [] I (f_X7_mark_127b k127 l3 l4 I) := by
  unfold f_X7_mark_127b
  refine Ex.iload (M := mX7_mark) (pc2 := 129) dX7_mark_127 rfl rfl ?_
  refine Ex.bipush (M := mX7_mark) (pc2 := 131) dX7_mark_129 kb_48 rfl ?_
  refine Ey.icmp_ge (M := mX7_mark) (tgt := 158) (pc2 := 134) dX7_mark_131 rfl (fun _ => ?_) rfl (fun _ => ?_)
  · refine Ex.iload_n (M := mX7_mark) (pc2 := 159) dX7_mark_158 rfl rfl rfl ?_
    exact Ey.ireturn (M := mX7_mark) dX7_mark_159 rfl rfl
  · refine Ex.iload_n (M := mX7_mark) (pc2 := 135) dX7_mark_134 rfl rfl rfl ?_
    refine Ex.aload_n (M := mX7_mark) (pc2 := 136) dX7_mark_135 rfl rfl rfl ?_
    refine Ex.getR (M := mX7_mark) (pc2 := 139) dX7_mark_136 xck7 lfX7_35 (Nat.le_of_ble_eq_true rfl) sh_69 rfl ff_69_11 rfl ?_
    refine Ex.iload (M := mX7_mark) (pc2 := 141) dX7_mark_139 rfl rfl ?_
    refine Ey.guard (fun hz1 => ?_)
    refine Ey.baload (M := mX7_mark) (pc2 := 142) dX7_mark_141 sh_76 rfl hz1 rfl ?_
    refine Ey.if_eq (M := mX7_mark) (tgt := 149) (pc2 := 145) dX7_mark_142 rfl (fun _ => ?_) rfl (fun _ => ?_)
    · refine Ex.iconst (M := mX7_mark) (pc2 := 150) dX7_mark_149 ki_0 rfl ?_
      refine Ex.iadd (M := mX7_mark) (pc2 := 151) dX7_mark_150 rfl ?_
      refine Ey.istore_n (M := mX7_mark) (pc2 := 152) dX7_mark_151 rfl (Nat.le_of_ble_eq_true rfl) rfl rfl ?_
      refine Ey.iinc (M := mX7_mark) (pc2 := 155) dX7_mark_152 rfl ki_1 (Nat.le_of_ble_eq_true rfl) rfl rfl ?_
      refine Ex.goto (M := mX7_mark) (tgt := 127) dX7_mark_155 rfl ?_
      exact hk127 _ _ _ _ _
    · refine Ex.iconst (M := mX7_mark) (pc2 := 146) dX7_mark_145 ki_1 rfl ?_
      refine Ex.goto (M := mX7_mark) (tgt := 150) dX7_mark_146 rfl ?_
      refine Ex.iadd (M := mX7_mark) (pc2 := 151) dX7_mark_150 rfl ?_
      refine Ey.istore_n (M := mX7_mark) (pc2 := 152) dX7_mark_151 rfl (Nat.le_of_ble_eq_true rfl) rfl rfl ?_
      refine Ey.iinc (M := mX7_mark) (pc2 := 155) dX7_mark_152 rfl ki_1 (Nat.le_of_ble_eq_true rfl) rfl rfl ?_
      refine Ex.goto (M := mX7_mark) (tgt := 127) dX7_mark_155 rfl ?_
      exact hk127 _ _ _ _ _
def f_X7_mark_127 : Nat → Int32 → Int32 → xI → Option (Int32 × xI)
  | 0, _, _, _ => none
  | n + 1, l3, l4, I => f_X7_mark_127b (fun l3 l4 I => f_X7_mark_127 n l3 l4 I) l3 l4 I
theorem t_X7_mark_127 : ∀ (n : Nat) (d1 : Option xV) (d2 : Option xV) (l3 : Int32) (l4 : Int32) (I : xI), Ey none mX7_mark 127 [some (.inr (some 69)), d1, d2, some (.inl l3), some (.inl l4)] [] I (f_X7_mark_127 n l3 l4 I)
  | 0, d1, d2, l3, l4, I => Ey.nil
  | n + 1, d1, d2, l3, l4, I => t_X7_mark_127b (fun l3 l4 I => f_X7_mark_127 n l3 l4 I) (fun l3 l4 d1 d2 I => t_X7_mark_127 n d1 d2 l3 l4 I) d1 d2 l3 l4 I
def f_X7_mark_84 (k32 : Int32 → xI → Option (Int32 × xI)) (k40 : Int32 → Int32 → xI → Option (Int32 × xI)) (l2 : Int32) (l3 : Int32) (s0 : Int32) (I : xI) : Option (Int32 × xI) :=
  if s0 = 0 then k40 l2 (l3 + 1) I else xb (f_X7_oneOf l3 I) (fun r2 I2 => if xin r2 48 then xb (f_X7_otherOf l3 (xup I2 76 r2.toNatClampNeg (vp_nar .boolean (1 : Int32)))) (fun r4 I4 => if xin r4 48 then k40 (1 : Int32) (l3 + 1) (xup I4 76 r4.toNatClampNeg (vp_nar .boolean (1 : Int32))) else none) else none)
theorem t_X7_mark_84 (k32 : Int32 → xI → Option (Int32 × xI)) (hk32 : ∀ (l2 : Int32) (d1 : Option xV) (d3 : Option xV) (d4 : Option xV) (I : xI), Ey none mX7_mark 32 [some (.inr (some 69)), d1, some (.inl l2), d3, d4] [] I (k32 l2 I)) (k40 : Int32 → Int32 → xI → Option (Int32 × xI)) (hk40 : ∀ (l2 : Int32) (l3 : Int32) (d1 : Option xV) (d4 : Option xV) (I : xI), Ey none mX7_mark 40 [some (.inr (some 69)), d1, some (.inl l2), some (.inl l3), d4] [] I (k40 l2 l3 I)) (d1 : Option xV) (l2 : Int32) (l3 : Int32) (d4 : Option xV) (s0 : Int32) (I : xI) : Ey none mX7_mark 84 [some (.inr (some 69)), d1, some (.inl l2), some (.inl l3), d4] [.inl s0] I (f_X7_mark_84 k32 k40 l2 l3 s0 I) := by
  unfold f_X7_mark_84
  refine Ey.istore (M := mX7_mark) (pc2 := 86) dX7_mark_84 (Nat.le_of_ble_eq_true rfl) rfl rfl ?_
  refine Ex.iload (M := mX7_mark) (pc2 := 88) dX7_mark_86 rfl rfl ?_
  refine Ey.if_eq (M := mX7_mark) (tgt := 113) (pc2 := 91) dX7_mark_88 rfl (fun _ => ?_) rfl (fun _ => ?_)
  · refine Ey.iinc (M := mX7_mark) (pc2 := 116) dX7_mark_113 rfl ki_1 (Nat.le_of_ble_eq_true rfl) rfl rfl ?_
    refine Ex.goto (M := mX7_mark) (tgt := 40) dX7_mark_116 rfl ?_
    exact hk40 _ _ _ _ _
  · refine Ex.aload_n (M := mX7_mark) (pc2 := 92) dX7_mark_91 rfl rfl rfl ?_
    refine Ex.getR (M := mX7_mark) (pc2 := 95) dX7_mark_92 xck7 lfX7_35 (Nat.le_of_ble_eq_true rfl) sh_69 rfl ff_69_11 rfl ?_
    refine Ex.iload_n (M := mX7_mark) (pc2 := 96) dX7_mark_95 rfl rfl rfl ?_
    refine Ey.callSi (M := mX7_mark) (pc2 := 99) (as := [.inl l3]) (rest := [.inr (some 76)]) rfl dX7_mark_96 isX7_oneOf lcX7_54  rfl ⟨(Nat.le_of_ble_eq_true rfl), (Nat.le_of_ble_eq_true rfl)⟩ rfl (Nat.le_of_ble_eq_true rfl) (Nat.le_of_ble_eq_true rfl) (t_X7_oneOf l3 I) rfl (fun r2 I2 => ?_)
    refine Ex.iconst (M := mX7_mark) (pc2 := 100) dX7_mark_99 ki_1 rfl ?_
    refine Ey.guard (fun hz3 => ?_)
    refine Ey.bastore (M := mX7_mark) (pc2 := 101) dX7_mark_100 sh_76 rfl hz3 rfl ?_
    refine Ex.aload_n (M := mX7_mark) (pc2 := 102) dX7_mark_101 rfl rfl rfl ?_
    refine Ex.getR (M := mX7_mark) (pc2 := 105) dX7_mark_102 xck7 lfX7_35 (Nat.le_of_ble_eq_true rfl) sh_69 rfl ff_69_11 rfl ?_
    refine Ex.iload_n (M := mX7_mark) (pc2 := 106) dX7_mark_105 rfl rfl rfl ?_
    refine Ey.callSi (M := mX7_mark) (pc2 := 109) (as := [.inl l3]) (rest := [.inr (some 76)]) rfl dX7_mark_106 isX7_otherOf lcX7_58  rfl ⟨(Nat.le_of_ble_eq_true rfl), (Nat.le_of_ble_eq_true rfl)⟩ rfl (Nat.le_of_ble_eq_true rfl) (Nat.le_of_ble_eq_true rfl) (t_X7_otherOf l3 (xup I2 76 r2.toNatClampNeg (vp_nar .boolean (1 : Int32)))) rfl (fun r4 I4 => ?_)
    refine Ex.iconst (M := mX7_mark) (pc2 := 110) dX7_mark_109 ki_1 rfl ?_
    refine Ey.guard (fun hz5 => ?_)
    refine Ey.bastore (M := mX7_mark) (pc2 := 111) dX7_mark_110 sh_76 rfl hz5 rfl ?_
    refine Ex.iconst (M := mX7_mark) (pc2 := 112) dX7_mark_111 ki_1 rfl ?_
    refine Ey.istore_n (M := mX7_mark) (pc2 := 113) dX7_mark_112 rfl (Nat.le_of_ble_eq_true rfl) rfl rfl ?_
    refine Ey.iinc (M := mX7_mark) (pc2 := 116) dX7_mark_113 rfl ki_1 (Nat.le_of_ble_eq_true rfl) rfl rfl ?_
    refine Ex.goto (M := mX7_mark) (tgt := 40) dX7_mark_116 rfl ?_
    exact hk40 _ _ _ _ _
def f_X7_mark_40b (k32 : Int32 → xI → Option (Int32 × xI)) (k40 : Int32 → Int32 → xI → Option (Int32 × xI)) (l2 : Int32) (l3 : Int32) (I : xI) : Option (Int32 × xI) :=
  if l3 ≥ (82 : Int32) then k32 l2 I else if xin ((12 : Int32) + l3) 742 then if (I 70 (((12 : Int32) + l3).toNatClampNeg)) ≠ 0 then f_X7_mark_84 k32 k40 l2 l3 (0 : Int32) I else xb (f_X7_oneOf l3 I) (fun r7 I7 => if xin r7 48 then xb (f_X7_otherOf l3 I7) (fun r9 I9 => if xin r9 48 then if (I7 76 r7.toNatClampNeg) = (I9 76 r9.toNatClampNeg) then f_X7_mark_84 k32 k40 l2 l3 (0 : Int32) I9 else f_X7_mark_84 k32 k40 l2 l3 (1 : Int32) I9 else none) else none) else none
theorem t_X7_mark_40b (k32 : Int32 → xI → Option (Int32 × xI)) (hk32 : ∀ (l2 : Int32) (d1 : Option xV) (d3 : Option xV) (d4 : Option xV) (I : xI), Ey none mX7_mark 32 [some (.inr (some 69)), d1, some (.inl l2), d3, d4] [] I (k32 l2 I)) (k40 : Int32 → Int32 → xI → Option (Int32 × xI)) (hk40 : ∀ (l2 : Int32) (l3 : Int32) (d1 : Option xV) (d4 : Option xV) (I : xI), Ey none mX7_mark 40 [some (.inr (some 69)), d1, some (.inl l2), some (.inl l3), d4] [] I (k40 l2 l3 I)) (d1 : Option xV) (l2 : Int32) (l3 : Int32) (d4 : Option xV) (I : xI) : Ey none mX7_mark 40 [some (.inr (some 69)), d1, some (.inl l2), some (.inl l3), d4] [] I (f_X7_mark_40b k32 k40 l2 l3 I) := by
  unfold f_X7_mark_40b
  refine Ex.iload_n (M := mX7_mark) (pc2 := 41) dX7_mark_40 rfl rfl rfl ?_
  refine Ex.bipush (M := mX7_mark) (pc2 := 43) dX7_mark_41 kb_82 rfl ?_
  refine Ey.icmp_ge (M := mX7_mark) (tgt := 119) (pc2 := 46) dX7_mark_43 rfl (fun _ => ?_) rfl (fun _ => ?_)
  · refine Ex.goto (M := mX7_mark) (tgt := 32) dX7_mark_119 rfl ?_
    exact hk32 _ _ _ _ _
  · refine Ex.aload_n (M := mX7_mark) (pc2 := 47) dX7_mark_46 rfl rfl rfl ?_
    refine Ex.getR (M := mX7_mark) (pc2 := 50) dX7_mark_47 xck7 lfX7_7 (Nat.le_of_ble_eq_true rfl) sh_69 rfl ff_69_0 rfl ?_
    refine Ex.bipush (M := mX7_mark) (pc2 := 52) dX7_mark_50 kb_12 rfl ?_
    refine Ex.iload_n (M := mX7_mark) (pc2 := 53) dX7_mark_52 rfl rfl rfl ?_
    refine Ex.iadd (M := mX7_mark) (pc2 := 54) dX7_mark_53 rfl ?_
    refine Ey.guard (fun hz6 => ?_)
    refine Ey.iaload (M := mX7_mark) (pc2 := 55) dX7_mark_54 sh_70 rfl hz6 rfl ?_
    refine Ey.if_ne (M := mX7_mark) (tgt := 83) (pc2 := 58) dX7_mark_55 rfl (fun _ => ?_) rfl (fun _ => ?_)
    · refine Ex.iconst (M := mX7_mark) (pc2 := 84) dX7_mark_83 ki_0 rfl ?_
      exact t_X7_mark_84 k32 hk32 k40 hk40 _ _ _ _ _ _
    · refine Ex.aload_n (M := mX7_mark) (pc2 := 59) dX7_mark_58 rfl rfl rfl ?_
      refine Ex.getR (M := mX7_mark) (pc2 := 62) dX7_mark_59 xck7 lfX7_35 (Nat.le_of_ble_eq_true rfl) sh_69 rfl ff_69_11 rfl ?_
      refine Ex.iload_n (M := mX7_mark) (pc2 := 63) dX7_mark_62 rfl rfl rfl ?_
      refine Ey.callSi (M := mX7_mark) (pc2 := 66) (as := [.inl l3]) (rest := [.inr (some 76)]) rfl dX7_mark_63 isX7_oneOf lcX7_54  rfl ⟨(Nat.le_of_ble_eq_true rfl), (Nat.le_of_ble_eq_true rfl)⟩ rfl (Nat.le_of_ble_eq_true rfl) (Nat.le_of_ble_eq_true rfl) (t_X7_oneOf l3 I) rfl (fun r7 I7 => ?_)
      refine Ey.guard (fun hz8 => ?_)
      refine Ey.baload (M := mX7_mark) (pc2 := 67) dX7_mark_66 sh_76 rfl hz8 rfl ?_
      refine Ex.aload_n (M := mX7_mark) (pc2 := 68) dX7_mark_67 rfl rfl rfl ?_
      refine Ex.getR (M := mX7_mark) (pc2 := 71) dX7_mark_68 xck7 lfX7_35 (Nat.le_of_ble_eq_true rfl) sh_69 rfl ff_69_11 rfl ?_
      refine Ex.iload_n (M := mX7_mark) (pc2 := 72) dX7_mark_71 rfl rfl rfl ?_
      refine Ey.callSi (M := mX7_mark) (pc2 := 75) (as := [.inl l3]) (rest := [.inr (some 76), .inl (I7 76 r7.toNatClampNeg)]) rfl dX7_mark_72 isX7_otherOf lcX7_58  rfl ⟨(Nat.le_of_ble_eq_true rfl), (Nat.le_of_ble_eq_true rfl)⟩ rfl (Nat.le_of_ble_eq_true rfl) (Nat.le_of_ble_eq_true rfl) (t_X7_otherOf l3 I7) rfl (fun r9 I9 => ?_)
      refine Ey.guard (fun hz10 => ?_)
      refine Ey.baload (M := mX7_mark) (pc2 := 76) dX7_mark_75 sh_76 rfl hz10 rfl ?_
      refine Ey.icmp_eq (M := mX7_mark) (tgt := 83) (pc2 := 79) dX7_mark_76 rfl (fun _ => ?_) rfl (fun _ => ?_)
      · refine Ex.iconst (M := mX7_mark) (pc2 := 84) dX7_mark_83 ki_0 rfl ?_
        exact t_X7_mark_84 k32 hk32 k40 hk40 _ _ _ _ _ _
      · refine Ex.iconst (M := mX7_mark) (pc2 := 80) dX7_mark_79 ki_1 rfl ?_
        refine Ex.goto (M := mX7_mark) (tgt := 84) dX7_mark_80 rfl ?_
        exact t_X7_mark_84 k32 hk32 k40 hk40 _ _ _ _ _ _
def f_X7_mark_40 (k32 : Int32 → xI → Option (Int32 × xI)) : Nat → Int32 → Int32 → xI → Option (Int32 × xI)
  | 0, _, _, _ => none
  | n + 1, l2, l3, I => f_X7_mark_40b k32 (fun l2 l3 I => f_X7_mark_40 k32 n l2 l3 I) l2 l3 I
theorem t_X7_mark_40 (k32 : Int32 → xI → Option (Int32 × xI)) (hk32 : ∀ (l2 : Int32) (d1 : Option xV) (d3 : Option xV) (d4 : Option xV) (I : xI), Ey none mX7_mark 32 [some (.inr (some 69)), d1, some (.inl l2), d3, d4] [] I (k32 l2 I)) : ∀ (n : Nat) (d1 : Option xV) (l2 : Int32) (l3 : Int32) (d4 : Option xV) (I : xI), Ey none mX7_mark 40 [some (.inr (some 69)), d1, some (.inl l2), some (.inl l3), d4] [] I (f_X7_mark_40 k32 n l2 l3 I)
  | 0, d1, l2, l3, d4, I => Ey.nil
  | n + 1, d1, l2, l3, d4, I => t_X7_mark_40b k32 hk32 (fun l2 l3 I => f_X7_mark_40 k32 n l2 l3 I) (fun l2 l3 d1 d4 I => t_X7_mark_40 k32 hk32 n d1 l2 l3 d4 I) d1 l2 l3 d4 I
def f_X7_mark_32b (k32 : Int32 → xI → Option (Int32 × xI)) (l2 : Int32) (I : xI) : Option (Int32 × xI) :=
  if l2 = 0 then f_X7_mark_127 xZ (0 : Int32) (0 : Int32) I else f_X7_mark_40 k32 xZ (0 : Int32) (0 : Int32) I
theorem t_X7_mark_32b (k32 : Int32 → xI → Option (Int32 × xI)) (hk32 : ∀ (l2 : Int32) (d1 : Option xV) (d3 : Option xV) (d4 : Option xV) (I : xI), Ey none mX7_mark 32 [some (.inr (some 69)), d1, some (.inl l2), d3, d4] [] I (k32 l2 I)) (d1 : Option xV) (l2 : Int32) (d3 : Option xV) (d4 : Option xV) (I : xI) : Ey none mX7_mark 32 [some (.inr (some 69)), d1, some (.inl l2), d3, d4] [] I (f_X7_mark_32b k32 l2 I) := by
  unfold f_X7_mark_32b
  refine Ex.iload_n (M := mX7_mark) (pc2 := 33) dX7_mark_32 rfl rfl rfl ?_
  refine Ey.if_eq (M := mX7_mark) (tgt := 122) (pc2 := 36) dX7_mark_33 rfl (fun _ => ?_) rfl (fun _ => ?_)
  · refine Ex.iconst (M := mX7_mark) (pc2 := 123) dX7_mark_122 ki_0 rfl ?_
    refine Ey.istore_n (M := mX7_mark) (pc2 := 124) dX7_mark_123 rfl (Nat.le_of_ble_eq_true rfl) rfl rfl ?_
    refine Ex.iconst (M := mX7_mark) (pc2 := 125) dX7_mark_124 ki_0 rfl ?_
    refine Ey.istore (M := mX7_mark) (pc2 := 127) dX7_mark_125 (Nat.le_of_ble_eq_true rfl) rfl rfl ?_
    exact t_X7_mark_127 xZ _ _ _ _ _
  · refine Ex.iconst (M := mX7_mark) (pc2 := 37) dX7_mark_36 ki_0 rfl ?_
    refine Ey.istore_n (M := mX7_mark) (pc2 := 38) dX7_mark_37 rfl (Nat.le_of_ble_eq_true rfl) rfl rfl ?_
    refine Ex.iconst (M := mX7_mark) (pc2 := 39) dX7_mark_38 ki_0 rfl ?_
    refine Ey.istore_n (M := mX7_mark) (pc2 := 40) dX7_mark_39 rfl (Nat.le_of_ble_eq_true rfl) rfl rfl ?_
    exact t_X7_mark_40 k32 hk32 xZ _ _ _ _ _
def f_X7_mark_32 : Nat → Int32 → xI → Option (Int32 × xI)
  | 0, _, _ => none
  | n + 1, l2, I => f_X7_mark_32b (fun l2 I => f_X7_mark_32 n l2 I) l2 I
theorem t_X7_mark_32 : ∀ (n : Nat) (d1 : Option xV) (l2 : Int32) (d3 : Option xV) (d4 : Option xV) (I : xI), Ey none mX7_mark 32 [some (.inr (some 69)), d1, some (.inl l2), d3, d4] [] I (f_X7_mark_32 n l2 I)
  | 0, d1, l2, d3, d4, I => Ey.nil
  | n + 1, d1, l2, d3, d4, I => t_X7_mark_32b (fun l2 I => f_X7_mark_32 n l2 I) (fun l2 d1 d3 d4 I => t_X7_mark_32 n d1 l2 d3 d4 I) d1 l2 d3 d4 I
def f_X7_mark_2b (k2 : Int32 → Int32 → xI → Option (Int32 × xI)) (l1 : Int32) (l2 : Int32) (I : xI) : Option (Int32 × xI) :=
  if l2 ≥ (48 : Int32) then f_X7_mark_32 xZ (1 : Int32) I else if l2 ≠ l1 then if xin l2 48 then k2 l1 (l2 + 1) (xup I 76 l2.toNatClampNeg (vp_nar .boolean (0 : Int32))) else none else if xin l2 48 then k2 l1 (l2 + 1) (xup I 76 l2.toNatClampNeg (vp_nar .boolean (1 : Int32))) else none
theorem t_X7_mark_2b (k2 : Int32 → Int32 → xI → Option (Int32 × xI)) (hk2 : ∀ (l1 : Int32) (l2 : Int32) (d3 : Option xV) (d4 : Option xV) (I : xI), Ey none mX7_mark 2 [some (.inr (some 69)), some (.inl l1), some (.inl l2), d3, d4] [] I (k2 l1 l2 I)) (l1 : Int32) (l2 : Int32) (d3 : Option xV) (d4 : Option xV) (I : xI) : Ey none mX7_mark 2 [some (.inr (some 69)), some (.inl l1), some (.inl l2), d3, d4] [] I (f_X7_mark_2b k2 l1 l2 I) := by
  unfold f_X7_mark_2b
  refine Ex.iload_n (M := mX7_mark) (pc2 := 3) dX7_mark_2 rfl rfl rfl ?_
  refine Ex.bipush (M := mX7_mark) (pc2 := 5) dX7_mark_3 kb_48 rfl ?_
  refine Ey.icmp_ge (M := mX7_mark) (tgt := 30) (pc2 := 8) dX7_mark_5 rfl (fun _ => ?_) rfl (fun _ => ?_)
  · refine Ex.iconst (M := mX7_mark) (pc2 := 31) dX7_mark_30 ki_1 rfl ?_
    refine Ey.istore_n (M := mX7_mark) (pc2 := 32) dX7_mark_31 rfl (Nat.le_of_ble_eq_true rfl) rfl rfl ?_
    exact t_X7_mark_32 xZ _ _ _ _ _
  · refine Ex.aload_n (M := mX7_mark) (pc2 := 9) dX7_mark_8 rfl rfl rfl ?_
    refine Ex.getR (M := mX7_mark) (pc2 := 12) dX7_mark_9 xck7 lfX7_35 (Nat.le_of_ble_eq_true rfl) sh_69 rfl ff_69_11 rfl ?_
    refine Ex.iload_n (M := mX7_mark) (pc2 := 13) dX7_mark_12 rfl rfl rfl ?_
    refine Ex.iload_n (M := mX7_mark) (pc2 := 14) dX7_mark_13 rfl rfl rfl ?_
    refine Ex.iload_n (M := mX7_mark) (pc2 := 15) dX7_mark_14 rfl rfl rfl ?_
    refine Ey.icmp_ne (M := mX7_mark) (tgt := 22) (pc2 := 18) dX7_mark_15 rfl (fun _ => ?_) rfl (fun _ => ?_)
    · refine Ex.iconst (M := mX7_mark) (pc2 := 23) dX7_mark_22 ki_0 rfl ?_
      refine Ey.guard (fun hz11 => ?_)
      refine Ey.bastore (M := mX7_mark) (pc2 := 24) dX7_mark_23 sh_76 rfl hz11 rfl ?_
      refine Ey.iinc (M := mX7_mark) (pc2 := 27) dX7_mark_24 rfl ki_1 (Nat.le_of_ble_eq_true rfl) rfl rfl ?_
      refine Ex.goto (M := mX7_mark) (tgt := 2) dX7_mark_27 rfl ?_
      exact hk2 _ _ _ _ _
    · refine Ex.iconst (M := mX7_mark) (pc2 := 19) dX7_mark_18 ki_1 rfl ?_
      refine Ex.goto (M := mX7_mark) (tgt := 23) dX7_mark_19 rfl ?_
      refine Ey.guard (fun hz12 => ?_)
      refine Ey.bastore (M := mX7_mark) (pc2 := 24) dX7_mark_23 sh_76 rfl hz12 rfl ?_
      refine Ey.iinc (M := mX7_mark) (pc2 := 27) dX7_mark_24 rfl ki_1 (Nat.le_of_ble_eq_true rfl) rfl rfl ?_
      refine Ex.goto (M := mX7_mark) (tgt := 2) dX7_mark_27 rfl ?_
      exact hk2 _ _ _ _ _
def f_X7_mark_2 : Nat → Int32 → Int32 → xI → Option (Int32 × xI)
  | 0, _, _, _ => none
  | n + 1, l1, l2, I => f_X7_mark_2b (fun l1 l2 I => f_X7_mark_2 n l1 l2 I) l1 l2 I
theorem t_X7_mark_2 : ∀ (n : Nat) (l1 : Int32) (l2 : Int32) (d3 : Option xV) (d4 : Option xV) (I : xI), Ey none mX7_mark 2 [some (.inr (some 69)), some (.inl l1), some (.inl l2), d3, d4] [] I (f_X7_mark_2 n l1 l2 I)
  | 0, l1, l2, d3, d4, I => Ey.nil
  | n + 1, l1, l2, d3, d4, I => t_X7_mark_2b (fun l1 l2 I => f_X7_mark_2 n l1 l2 I) (fun l1 l2 d3 d4 I => t_X7_mark_2 n l1 l2 d3 d4 I) l1 l2 d3 d4 I
def f_X7_mark (l1 : Int32) (I : xI) : Option (Int32 × xI) :=
  f_X7_mark_2 xZ l1 (0 : Int32) I
theorem t_X7_mark (l1 : Int32) (I : xI) : Ey none mX7_mark 0 [some (.inr (some 69)), some (.inl l1), none, none, none] [] I (f_X7_mark l1 I) := by
  unfold f_X7_mark
  refine Ex.iconst (M := mX7_mark) (pc2 := 1) dX7_mark_0 ki_0 rfl ?_
  refine Ey.istore_n (M := mX7_mark) (pc2 := 2) dX7_mark_1 rfl (Nat.le_of_ble_eq_true rfl) rfl rfl ?_
  exact t_X7_mark_2 xZ _ _ _ _ _
/-! FenceDuelModel.freeIn(I)I -/
def f_X7_freeIn_11b (k11 : Int32 → Int32 → xI → Option (Int32 × xI)) (l3 : Int32) (l4 : Int32) (I : xI) : Option (Int32 × xI) :=
  if l4 ≥ (48 : Int32) then some (l3, I) else if xin l4 48 then if (I 76 l4.toNatClampNeg) = 0 then k11 (l3 + (0 : Int32)) (l4 + 1) I else if xin ((94 : Int32) + l4) 742 then if (I 70 (((94 : Int32) + l4).toNatClampNeg)) ≠ (-5 : Int32) then k11 (l3 + (0 : Int32)) (l4 + 1) I else k11 (l3 + (1 : Int32)) (l4 + 1) I else none else none
theorem t_X7_freeIn_11b (k11 : Int32 → Int32 → xI → Option (Int32 × xI)) (hk11 : ∀ (l3 : Int32) (l4 : Int32) (d1 : Option xV) (d2 : Option xV) (I : xI), Ey none mX7_freeIn 11 [some (.inr (some 69)), d1, d2, some (.inl l3), some (.inl l4)] [] I (k11 l3 l4 I)) (d1 : Option xV) (d2 : Option xV) (l3 : Int32) (l4 : Int32) (I : xI) : Ey none mX7_freeIn 11 [some (.inr (some 69)), d1, d2, some (.inl l3), some (.inl l4)] [] I (f_X7_freeIn_11b k11 l3 l4 I) := by
  unfold f_X7_freeIn_11b
  refine Ex.iload (M := mX7_freeIn) (pc2 := 13) dX7_freeIn_11 rfl rfl ?_
  refine Ex.bipush (M := mX7_freeIn) (pc2 := 15) dX7_freeIn_13 kb_48 rfl ?_
  refine Ey.icmp_ge (M := mX7_freeIn) (tgt := 57) (pc2 := 18) dX7_freeIn_15 rfl (fun _ => ?_) rfl (fun _ => ?_)
  · refine Ex.iload_n (M := mX7_freeIn) (pc2 := 58) dX7_freeIn_57 rfl rfl rfl ?_
    exact Ey.ireturn (M := mX7_freeIn) dX7_freeIn_58 rfl rfl
  · refine Ex.iload_n (M := mX7_freeIn) (pc2 := 19) dX7_freeIn_18 rfl rfl rfl ?_
    refine Ex.aload_n (M := mX7_freeIn) (pc2 := 20) dX7_freeIn_19 rfl rfl rfl ?_
    refine Ex.getR (M := mX7_freeIn) (pc2 := 23) dX7_freeIn_20 xck7 lfX7_35 (Nat.le_of_ble_eq_true rfl) sh_69 rfl ff_69_11 rfl ?_
    refine Ex.iload (M := mX7_freeIn) (pc2 := 25) dX7_freeIn_23 rfl rfl ?_
    refine Ey.guard (fun hz1 => ?_)
    refine Ey.baload (M := mX7_freeIn) (pc2 := 26) dX7_freeIn_25 sh_76 rfl hz1 rfl ?_
    refine Ey.if_eq (M := mX7_freeIn) (tgt := 48) (pc2 := 29) dX7_freeIn_26 rfl (fun _ => ?_) rfl (fun _ => ?_)
    · refine Ex.iconst (M := mX7_freeIn) (pc2 := 49) dX7_freeIn_48 ki_0 rfl ?_
      refine Ex.iadd (M := mX7_freeIn) (pc2 := 50) dX7_freeIn_49 rfl ?_
      refine Ey.istore_n (M := mX7_freeIn) (pc2 := 51) dX7_freeIn_50 rfl (Nat.le_of_ble_eq_true rfl) rfl rfl ?_
      refine Ey.iinc (M := mX7_freeIn) (pc2 := 54) dX7_freeIn_51 rfl ki_1 (Nat.le_of_ble_eq_true rfl) rfl rfl ?_
      refine Ex.goto (M := mX7_freeIn) (tgt := 11) dX7_freeIn_54 rfl ?_
      exact hk11 _ _ _ _ _
    · refine Ex.aload_n (M := mX7_freeIn) (pc2 := 30) dX7_freeIn_29 rfl rfl rfl ?_
      refine Ex.getR (M := mX7_freeIn) (pc2 := 33) dX7_freeIn_30 xck7 lfX7_7 (Nat.le_of_ble_eq_true rfl) sh_69 rfl ff_69_0 rfl ?_
      refine Ex.bipush (M := mX7_freeIn) (pc2 := 35) dX7_freeIn_33 kb_94 rfl ?_
      refine Ex.iload (M := mX7_freeIn) (pc2 := 37) dX7_freeIn_35 rfl rfl ?_
      refine Ex.iadd (M := mX7_freeIn) (pc2 := 38) dX7_freeIn_37 rfl ?_
      refine Ey.guard (fun hz2 => ?_)
      refine Ey.iaload (M := mX7_freeIn) (pc2 := 39) dX7_freeIn_38 sh_70 rfl hz2 rfl ?_
      refine Ex.bipush (M := mX7_freeIn) (pc2 := 41) dX7_freeIn_39 kb_m5 rfl ?_
      refine Ey.icmp_ne (M := mX7_freeIn) (tgt := 48) (pc2 := 44) dX7_freeIn_41 rfl (fun _ => ?_) rfl (fun _ => ?_)
      · refine Ex.iconst (M := mX7_freeIn) (pc2 := 49) dX7_freeIn_48 ki_0 rfl ?_
        refine Ex.iadd (M := mX7_freeIn) (pc2 := 50) dX7_freeIn_49 rfl ?_
        refine Ey.istore_n (M := mX7_freeIn) (pc2 := 51) dX7_freeIn_50 rfl (Nat.le_of_ble_eq_true rfl) rfl rfl ?_
        refine Ey.iinc (M := mX7_freeIn) (pc2 := 54) dX7_freeIn_51 rfl ki_1 (Nat.le_of_ble_eq_true rfl) rfl rfl ?_
        refine Ex.goto (M := mX7_freeIn) (tgt := 11) dX7_freeIn_54 rfl ?_
        exact hk11 _ _ _ _ _
      · refine Ex.iconst (M := mX7_freeIn) (pc2 := 45) dX7_freeIn_44 ki_1 rfl ?_
        refine Ex.goto (M := mX7_freeIn) (tgt := 49) dX7_freeIn_45 rfl ?_
        refine Ex.iadd (M := mX7_freeIn) (pc2 := 50) dX7_freeIn_49 rfl ?_
        refine Ey.istore_n (M := mX7_freeIn) (pc2 := 51) dX7_freeIn_50 rfl (Nat.le_of_ble_eq_true rfl) rfl rfl ?_
        refine Ey.iinc (M := mX7_freeIn) (pc2 := 54) dX7_freeIn_51 rfl ki_1 (Nat.le_of_ble_eq_true rfl) rfl rfl ?_
        refine Ex.goto (M := mX7_freeIn) (tgt := 11) dX7_freeIn_54 rfl ?_
        exact hk11 _ _ _ _ _
def f_X7_freeIn_11 : Nat → Int32 → Int32 → xI → Option (Int32 × xI)
  | 0, _, _, _ => none
  | n + 1, l3, l4, I => f_X7_freeIn_11b (fun l3 l4 I => f_X7_freeIn_11 n l3 l4 I) l3 l4 I
theorem t_X7_freeIn_11 : ∀ (n : Nat) (d1 : Option xV) (d2 : Option xV) (l3 : Int32) (l4 : Int32) (I : xI), Ey none mX7_freeIn 11 [some (.inr (some 69)), d1, d2, some (.inl l3), some (.inl l4)] [] I (f_X7_freeIn_11 n l3 l4 I)
  | 0, d1, d2, l3, l4, I => Ey.nil
  | n + 1, d1, d2, l3, l4, I => t_X7_freeIn_11b (fun l3 l4 I => f_X7_freeIn_11 n l3 l4 I) (fun l3 l4 d1 d2 I => t_X7_freeIn_11 n d1 d2 l3 l4 I) d1 d2 l3 l4 I
def f_X7_freeIn (l1 : Int32) (I : xI) : Option (Int32 × xI) :=
  xb (f_X7_mark l1 I) (fun r3 I3 => f_X7_freeIn_11 xZ (0 : Int32) (0 : Int32) I3)
theorem t_X7_freeIn (l1 : Int32) (I : xI) : Ey none mX7_freeIn 0 [some (.inr (some 69)), some (.inl l1), none, none, none] [] I (f_X7_freeIn l1 I) := by
  unfold f_X7_freeIn
  refine Ex.aload_n (M := mX7_freeIn) (pc2 := 1) dX7_freeIn_0 rfl rfl rfl ?_
  refine Ex.iload_n (M := mX7_freeIn) (pc2 := 2) dX7_freeIn_1 rfl rfl rfl ?_
  refine Ey.callVi (M := mX7_freeIn) (pc2 := 5) (as := [.inl l1]) (rest := []) rfl dX7_freeIn_2 isX7_mark lcX7_61 sh_69 rfl rfl ⟨(Nat.le_of_ble_eq_true rfl), (Nat.le_of_ble_eq_true rfl)⟩ rfl (Nat.le_of_ble_eq_true rfl) (Nat.le_of_ble_eq_true rfl) (t_X7_mark l1 I) rfl (fun r3 I3 => ?_)
  refine Ey.istore_n (M := mX7_freeIn) (pc2 := 6) dX7_freeIn_5 rfl (Nat.le_of_ble_eq_true rfl) rfl rfl ?_
  refine Ex.iconst (M := mX7_freeIn) (pc2 := 7) dX7_freeIn_6 ki_0 rfl ?_
  refine Ey.istore_n (M := mX7_freeIn) (pc2 := 8) dX7_freeIn_7 rfl (Nat.le_of_ble_eq_true rfl) rfl rfl ?_
  refine Ex.iconst (M := mX7_freeIn) (pc2 := 9) dX7_freeIn_8 ki_0 rfl ?_
  refine Ey.istore (M := mX7_freeIn) (pc2 := 11) dX7_freeIn_9 (Nat.le_of_ble_eq_true rfl) rfl rfl ?_
  exact t_X7_freeIn_11 xZ _ _ _ _ _
/-! FenceDuelModel.lowestIn(I)I -/
def f_X7_lowestIn_8b (k8 : Int32 → xI → Option (Int32 × xI)) (l3 : Int32) (I : xI) : Option (Int32 × xI) :=
  if xin l3 48 then if (I 76 l3.toNatClampNeg) ≠ 0 then some (l3, I) else k8 (l3 + 1) I else none
theorem t_X7_lowestIn_8b (k8 : Int32 → xI → Option (Int32 × xI)) (hk8 : ∀ (l3 : Int32) (d1 : Option xV) (d2 : Option xV) (I : xI), Ey none mX7_lowestIn 8 [some (.inr (some 69)), d1, d2, some (.inl l3)] [] I (k8 l3 I)) (d1 : Option xV) (d2 : Option xV) (l3 : Int32) (I : xI) : Ey none mX7_lowestIn 8 [some (.inr (some 69)), d1, d2, some (.inl l3)] [] I (f_X7_lowestIn_8b k8 l3 I) := by
  unfold f_X7_lowestIn_8b
  refine Ex.aload_n (M := mX7_lowestIn) (pc2 := 9) dX7_lowestIn_8 rfl rfl rfl ?_
  refine Ex.getR (M := mX7_lowestIn) (pc2 := 12) dX7_lowestIn_9 xck7 lfX7_35 (Nat.le_of_ble_eq_true rfl) sh_69 rfl ff_69_11 rfl ?_
  refine Ex.iload_n (M := mX7_lowestIn) (pc2 := 13) dX7_lowestIn_12 rfl rfl rfl ?_
  refine Ey.guard (fun hz1 => ?_)
  refine Ey.baload (M := mX7_lowestIn) (pc2 := 14) dX7_lowestIn_13 sh_76 rfl hz1 rfl ?_
  refine Ey.if_ne (M := mX7_lowestIn) (tgt := 23) (pc2 := 17) dX7_lowestIn_14 rfl (fun _ => ?_) rfl (fun _ => ?_)
  · refine Ex.iload_n (M := mX7_lowestIn) (pc2 := 24) dX7_lowestIn_23 rfl rfl rfl ?_
    exact Ey.ireturn (M := mX7_lowestIn) dX7_lowestIn_24 rfl rfl
  · refine Ey.iinc (M := mX7_lowestIn) (pc2 := 20) dX7_lowestIn_17 rfl ki_1 (Nat.le_of_ble_eq_true rfl) rfl rfl ?_
    refine Ex.goto (M := mX7_lowestIn) (tgt := 8) dX7_lowestIn_20 rfl ?_
    exact hk8 _ _ _ _
def f_X7_lowestIn_8 : Nat → Int32 → xI → Option (Int32 × xI)
  | 0, _, _ => none
  | n + 1, l3, I => f_X7_lowestIn_8b (fun l3 I => f_X7_lowestIn_8 n l3 I) l3 I
theorem t_X7_lowestIn_8 : ∀ (n : Nat) (d1 : Option xV) (d2 : Option xV) (l3 : Int32) (I : xI), Ey none mX7_lowestIn 8 [some (.inr (some 69)), d1, d2, some (.inl l3)] [] I (f_X7_lowestIn_8 n l3 I)
  | 0, d1, d2, l3, I => Ey.nil
  | n + 1, d1, d2, l3, I => t_X7_lowestIn_8b (fun l3 I => f_X7_lowestIn_8 n l3 I) (fun l3 d1 d2 I => t_X7_lowestIn_8 n d1 d2 l3 I) d1 d2 l3 I
def f_X7_lowestIn (l1 : Int32) (I : xI) : Option (Int32 × xI) :=
  xb (f_X7_mark l1 I) (fun r2 I2 => f_X7_lowestIn_8 xZ (0 : Int32) I2)
theorem t_X7_lowestIn (l1 : Int32) (I : xI) : Ey none mX7_lowestIn 0 [some (.inr (some 69)), some (.inl l1), none, none] [] I (f_X7_lowestIn l1 I) := by
  unfold f_X7_lowestIn
  refine Ex.aload_n (M := mX7_lowestIn) (pc2 := 1) dX7_lowestIn_0 rfl rfl rfl ?_
  refine Ex.iload_n (M := mX7_lowestIn) (pc2 := 2) dX7_lowestIn_1 rfl rfl rfl ?_
  refine Ey.callVi (M := mX7_lowestIn) (pc2 := 5) (as := [.inl l1]) (rest := []) rfl dX7_lowestIn_2 isX7_mark lcX7_61 sh_69 rfl rfl ⟨(Nat.le_of_ble_eq_true rfl), (Nat.le_of_ble_eq_true rfl)⟩ rfl (Nat.le_of_ble_eq_true rfl) (Nat.le_of_ble_eq_true rfl) (t_X7_mark l1 I) rfl (fun r2 I2 => ?_)
  refine Ey.istore_n (M := mX7_lowestIn) (pc2 := 6) dX7_lowestIn_5 rfl (Nat.le_of_ble_eq_true rfl) rfl rfl ?_
  refine Ex.iconst (M := mX7_lowestIn) (pc2 := 7) dX7_lowestIn_6 ki_0 rfl ?_
  refine Ey.istore_n (M := mX7_lowestIn) (pc2 := 8) dX7_lowestIn_7 rfl (Nat.le_of_ble_eq_true rfl) rfl rfl ?_
  exact t_X7_lowestIn_8 xZ _ _ _ _
/-! FenceDuelModel.isTruce()Z -/
def f_X7_isTruce (I : xI) : Option (Int32 × xI) :=
  if (I 70 0) ≥ (I 70 6) then some ((0 : Int32), I) else if (I 70 0) ≥ (I 70 7) then some ((0 : Int32), I) else some ((1 : Int32), I)
theorem t_X7_isTruce (I : xI) : Ey none mX7_isTruce 0 [some (.inr (some 69))] [] I (f_X7_isTruce I) := by
  unfold f_X7_isTruce
  refine Ex.aload_n (M := mX7_isTruce) (pc2 := 1) dX7_isTruce_0 rfl rfl rfl ?_
  refine Ex.getR (M := mX7_isTruce) (pc2 := 4) dX7_isTruce_1 xck7 lfX7_7 (Nat.le_of_ble_eq_true rfl) sh_69 rfl ff_69_0 rfl ?_
  refine Ex.iconst (M := mX7_isTruce) (pc2 := 5) dX7_isTruce_4 ki_0 rfl ?_
  refine Ey.iaload (M := mX7_isTruce) (pc2 := 6) dX7_isTruce_5 sh_70 kn_0 (by decide) rfl ?_
  refine Ex.aload_n (M := mX7_isTruce) (pc2 := 7) dX7_isTruce_6 rfl rfl rfl ?_
  refine Ex.getR (M := mX7_isTruce) (pc2 := 10) dX7_isTruce_7 xck7 lfX7_7 (Nat.le_of_ble_eq_true rfl) sh_69 rfl ff_69_0 rfl ?_
  refine Ex.bipush (M := mX7_isTruce) (pc2 := 12) dX7_isTruce_10 kb_6 rfl ?_
  refine Ey.iaload (M := mX7_isTruce) (pc2 := 13) dX7_isTruce_12 sh_70 kn_6 (by decide) rfl ?_
  refine Ey.icmp_ge (M := mX7_isTruce) (tgt := 36) (pc2 := 16) dX7_isTruce_13 rfl (fun _ => ?_) rfl (fun _ => ?_)
  · refine Ex.iconst (M := mX7_isTruce) (pc2 := 37) dX7_isTruce_36 ki_0 rfl ?_
    exact Ey.ireturn (M := mX7_isTruce) dX7_isTruce_37 rfl (by decide)
  · refine Ex.aload_n (M := mX7_isTruce) (pc2 := 17) dX7_isTruce_16 rfl rfl rfl ?_
    refine Ex.getR (M := mX7_isTruce) (pc2 := 20) dX7_isTruce_17 xck7 lfX7_7 (Nat.le_of_ble_eq_true rfl) sh_69 rfl ff_69_0 rfl ?_
    refine Ex.iconst (M := mX7_isTruce) (pc2 := 21) dX7_isTruce_20 ki_0 rfl ?_
    refine Ey.iaload (M := mX7_isTruce) (pc2 := 22) dX7_isTruce_21 sh_70 kn_0 (by decide) rfl ?_
    refine Ex.aload_n (M := mX7_isTruce) (pc2 := 23) dX7_isTruce_22 rfl rfl rfl ?_
    refine Ex.getR (M := mX7_isTruce) (pc2 := 26) dX7_isTruce_23 xck7 lfX7_7 (Nat.le_of_ble_eq_true rfl) sh_69 rfl ff_69_0 rfl ?_
    refine Ex.bipush (M := mX7_isTruce) (pc2 := 28) dX7_isTruce_26 kb_7 rfl ?_
    refine Ey.iaload (M := mX7_isTruce) (pc2 := 29) dX7_isTruce_28 sh_70 kn_7 (by decide) rfl ?_
    refine Ey.icmp_ge (M := mX7_isTruce) (tgt := 36) (pc2 := 32) dX7_isTruce_29 rfl (fun _ => ?_) rfl (fun _ => ?_)
    · refine Ex.iconst (M := mX7_isTruce) (pc2 := 37) dX7_isTruce_36 ki_0 rfl ?_
      exact Ey.ireturn (M := mX7_isTruce) dX7_isTruce_37 rfl (by decide)
    · refine Ex.iconst (M := mX7_isTruce) (pc2 := 33) dX7_isTruce_32 ki_1 rfl ?_
      refine Ex.goto (M := mX7_isTruce) (tgt := 37) dX7_isTruce_33 rfl ?_
      exact Ey.ireturn (M := mX7_isTruce) dX7_isTruce_37 rfl (by decide)
/-! FenceDuelModel.whyEdge(ZI)I -/
def f_X7_whyEdge (l1 : Int32) (l2 : Int32) (I : xI) : Option (Int32 × xI) :=
  if xin ((12 : Int32) + l2) 742 then if l1 ≠ 0 then if (I 70 (((12 : Int32) + l2).toNatClampNeg)) = 0 then some ((2 : Int32), I) else if (I 70 (((12 : Int32) + l2).toNatClampNeg)) ≠ (3 : Int32) then xb (f_X7_isTruce I) (fun r2 I2 => if r2 = 0 then some ((0 : Int32), I2) else some ((3 : Int32), I2)) else some ((2 : Int32), I) else if (I 70 (((12 : Int32) + l2).toNatClampNeg)) ≤ 0 then some ((0 : Int32), I) else some ((1 : Int32), I) else none
theorem t_X7_whyEdge (l1 : Int32) (l2 : Int32) (I : xI) : Ey none mX7_whyEdge 0 [some (.inr (some 69)), some (.inl l1), some (.inl l2), none] [] I (f_X7_whyEdge l1 l2 I) := by
  unfold f_X7_whyEdge
  refine Ex.aload_n (M := mX7_whyEdge) (pc2 := 1) dX7_whyEdge_0 rfl rfl rfl ?_
  refine Ex.getR (M := mX7_whyEdge) (pc2 := 4) dX7_whyEdge_1 xck7 lfX7_7 (Nat.le_of_ble_eq_true rfl) sh_69 rfl ff_69_0 rfl ?_
  refine Ex.bipush (M := mX7_whyEdge) (pc2 := 6) dX7_whyEdge_4 kb_12 rfl ?_
  refine Ex.iload_n (M := mX7_whyEdge) (pc2 := 7) dX7_whyEdge_6 rfl rfl rfl ?_
  refine Ex.iadd (M := mX7_whyEdge) (pc2 := 8) dX7_whyEdge_7 rfl ?_
  refine Ey.guard (fun hz1 => ?_)
  refine Ey.iaload (M := mX7_whyEdge) (pc2 := 9) dX7_whyEdge_8 sh_70 rfl hz1 rfl ?_
  refine Ey.istore_n (M := mX7_whyEdge) (pc2 := 10) dX7_whyEdge_9 rfl (Nat.le_of_ble_eq_true rfl) rfl rfl ?_
  refine Ex.iload_n (M := mX7_whyEdge) (pc2 := 11) dX7_whyEdge_10 rfl rfl rfl ?_
  refine Ey.if_ne (M := mX7_whyEdge) (tgt := 24) (pc2 := 14) dX7_whyEdge_11 rfl (fun _ => ?_) rfl (fun _ => ?_)
  · refine Ex.iload_n (M := mX7_whyEdge) (pc2 := 25) dX7_whyEdge_24 rfl rfl rfl ?_
    refine Ey.if_eq (M := mX7_whyEdge) (tgt := 33) (pc2 := 28) dX7_whyEdge_25 rfl (fun _ => ?_) rfl (fun _ => ?_)
    · refine Ex.iconst (M := mX7_whyEdge) (pc2 := 34) dX7_whyEdge_33 ki_2 rfl ?_
      refine Ex.goto (M := mX7_whyEdge) (tgt := 49) dX7_whyEdge_34 rfl ?_
      exact Ey.ireturn (M := mX7_whyEdge) dX7_whyEdge_49 rfl rfl
    · refine Ex.iload_n (M := mX7_whyEdge) (pc2 := 29) dX7_whyEdge_28 rfl rfl rfl ?_
      refine Ex.iconst (M := mX7_whyEdge) (pc2 := 30) dX7_whyEdge_29 ki_3 rfl ?_
      refine Ey.icmp_ne (M := mX7_whyEdge) (tgt := 37) (pc2 := 33) dX7_whyEdge_30 rfl (fun _ => ?_) rfl (fun _ => ?_)
      · refine Ex.aload_n (M := mX7_whyEdge) (pc2 := 38) dX7_whyEdge_37 rfl rfl rfl ?_
        refine Ey.callVi (M := mX7_whyEdge) (pc2 := 41) (as := []) (rest := []) rfl dX7_whyEdge_38 isX7_isTruce lcX7_64 sh_69 rfl rfl ⟨(Nat.le_of_ble_eq_true rfl), (Nat.le_of_ble_eq_true rfl)⟩ rfl (Nat.le_of_ble_eq_true rfl) (Nat.le_of_ble_eq_true rfl) (t_X7_isTruce I) rfl (fun r2 I2 => ?_)
        refine Ey.if_eq (M := mX7_whyEdge) (tgt := 48) (pc2 := 44) dX7_whyEdge_41 rfl (fun _ => ?_) rfl (fun _ => ?_)
        · refine Ex.iconst (M := mX7_whyEdge) (pc2 := 49) dX7_whyEdge_48 ki_0 rfl ?_
          exact Ey.ireturn (M := mX7_whyEdge) dX7_whyEdge_49 rfl rfl
        · refine Ex.iconst (M := mX7_whyEdge) (pc2 := 45) dX7_whyEdge_44 ki_3 rfl ?_
          refine Ex.goto (M := mX7_whyEdge) (tgt := 49) dX7_whyEdge_45 rfl ?_
          exact Ey.ireturn (M := mX7_whyEdge) dX7_whyEdge_49 rfl rfl
      · refine Ex.iconst (M := mX7_whyEdge) (pc2 := 34) dX7_whyEdge_33 ki_2 rfl ?_
        refine Ex.goto (M := mX7_whyEdge) (tgt := 49) dX7_whyEdge_34 rfl ?_
        exact Ey.ireturn (M := mX7_whyEdge) dX7_whyEdge_49 rfl rfl
  · refine Ex.iload_n (M := mX7_whyEdge) (pc2 := 15) dX7_whyEdge_14 rfl rfl rfl ?_
    refine Ey.if_le (M := mX7_whyEdge) (tgt := 22) (pc2 := 18) dX7_whyEdge_15 rfl (fun _ => ?_) rfl (fun _ => ?_)
    · refine Ex.iconst (M := mX7_whyEdge) (pc2 := 23) dX7_whyEdge_22 ki_0 rfl ?_
      exact Ey.ireturn (M := mX7_whyEdge) dX7_whyEdge_23 rfl rfl
    · refine Ex.iconst (M := mX7_whyEdge) (pc2 := 19) dX7_whyEdge_18 ki_1 rfl ?_
      refine Ex.goto (M := mX7_whyEdge) (tgt := 23) dX7_whyEdge_19 rfl ?_
      exact Ey.ireturn (M := mX7_whyEdge) dX7_whyEdge_23 rfl rfl
/-! FenceDuelModel.whyClaim(I)I -/
def f_X7_whyClaim (l1 : Int32) (I : xI) : Option (Int32 × xI) :=
  if xin ((94 : Int32) + l1) 742 then if (I 70 (((94 : Int32) + l1).toNatClampNeg)) = (-5 : Int32) then xb (f_X7_mark l1 I) (fun r2 I2 => if r2 ≤ (I2 70 5) then some ((0 : Int32), I2) else some ((5 : Int32), I2)) else some ((4 : Int32), I) else none
theorem t_X7_whyClaim (l1 : Int32) (I : xI) : Ey none mX7_whyClaim 0 [some (.inr (some 69)), some (.inl l1)] [] I (f_X7_whyClaim l1 I) := by
  unfold f_X7_whyClaim
  refine Ex.aload_n (M := mX7_whyClaim) (pc2 := 1) dX7_whyClaim_0 rfl rfl rfl ?_
  refine Ex.getR (M := mX7_whyClaim) (pc2 := 4) dX7_whyClaim_1 xck7 lfX7_7 (Nat.le_of_ble_eq_true rfl) sh_69 rfl ff_69_0 rfl ?_
  refine Ex.bipush (M := mX7_whyClaim) (pc2 := 6) dX7_whyClaim_4 kb_94 rfl ?_
  refine Ex.iload_n (M := mX7_whyClaim) (pc2 := 7) dX7_whyClaim_6 rfl rfl rfl ?_
  refine Ex.iadd (M := mX7_whyClaim) (pc2 := 8) dX7_whyClaim_7 rfl ?_
  refine Ey.guard (fun hz1 => ?_)
  refine Ey.iaload (M := mX7_whyClaim) (pc2 := 9) dX7_whyClaim_8 sh_70 rfl hz1 rfl ?_
  refine Ex.bipush (M := mX7_whyClaim) (pc2 := 11) dX7_whyClaim_9 kb_m5 rfl ?_
  refine Ey.icmp_eq (M := mX7_whyClaim) (tgt := 18) (pc2 := 14) dX7_whyClaim_11 rfl (fun _ => ?_) rfl (fun _ => ?_)
  · refine Ex.aload_n (M := mX7_whyClaim) (pc2 := 19) dX7_whyClaim_18 rfl rfl rfl ?_
    refine Ex.iload_n (M := mX7_whyClaim) (pc2 := 20) dX7_whyClaim_19 rfl rfl rfl ?_
    refine Ey.callVi (M := mX7_whyClaim) (pc2 := 23) (as := [.inl l1]) (rest := []) rfl dX7_whyClaim_20 isX7_mark lcX7_61 sh_69 rfl rfl ⟨(Nat.le_of_ble_eq_true rfl), (Nat.le_of_ble_eq_true rfl)⟩ rfl (Nat.le_of_ble_eq_true rfl) (Nat.le_of_ble_eq_true rfl) (t_X7_mark l1 I) rfl (fun r2 I2 => ?_)
    refine Ex.aload_n (M := mX7_whyClaim) (pc2 := 24) dX7_whyClaim_23 rfl rfl rfl ?_
    refine Ex.getR (M := mX7_whyClaim) (pc2 := 27) dX7_whyClaim_24 xck7 lfX7_7 (Nat.le_of_ble_eq_true rfl) sh_69 rfl ff_69_0 rfl ?_
    refine Ex.iconst (M := mX7_whyClaim) (pc2 := 28) dX7_whyClaim_27 ki_5 rfl ?_
    refine Ey.iaload (M := mX7_whyClaim) (pc2 := 29) dX7_whyClaim_28 sh_70 kn_5 (by decide) rfl ?_
    refine Ey.icmp_le (M := mX7_whyClaim) (tgt := 36) (pc2 := 32) dX7_whyClaim_29 rfl (fun _ => ?_) rfl (fun _ => ?_)
    · refine Ex.iconst (M := mX7_whyClaim) (pc2 := 37) dX7_whyClaim_36 ki_0 rfl ?_
      exact Ey.ireturn (M := mX7_whyClaim) dX7_whyClaim_37 rfl rfl
    · refine Ex.iconst (M := mX7_whyClaim) (pc2 := 33) dX7_whyClaim_32 ki_5 rfl ?_
      refine Ex.goto (M := mX7_whyClaim) (tgt := 37) dX7_whyClaim_33 rfl ?_
      exact Ey.ireturn (M := mX7_whyClaim) dX7_whyClaim_37 rfl rfl
  · refine Ex.iconst (M := mX7_whyClaim) (pc2 := 15) dX7_whyClaim_14 ki_4 rfl ?_
    refine Ex.goto (M := mX7_whyClaim) (tgt := 37) dX7_whyClaim_15 rfl ?_
    exact Ey.ireturn (M := mX7_whyClaim) dX7_whyClaim_37 rfl rfl
/-! FenceDuelModel.isTaken(I)Z -/
def f_X7_isTaken (l1 : Int32) (I : xI) : Option (Int32 × xI) :=
  if xin ((10 : Int32) + (l1 / (24 : Int32))) 742 then if (((I 70 (((10 : Int32) + (l1 / (24 : Int32))).toNatClampNeg)) >>> ((l1 - l1 / (24 : Int32) * (24 : Int32)) &&& 31)) &&& (1 : Int32)) ≠ (1 : Int32) then some ((0 : Int32), I) else some ((1 : Int32), I) else none
theorem t_X7_isTaken (l1 : Int32) (I : xI) : Ey none mX7_isTaken 0 [some (.inr (some 69)), some (.inl l1)] [] I (f_X7_isTaken l1 I) := by
  unfold f_X7_isTaken
  refine Ex.aload_n (M := mX7_isTaken) (pc2 := 1) dX7_isTaken_0 rfl rfl rfl ?_
  refine Ex.getR (M := mX7_isTaken) (pc2 := 4) dX7_isTaken_1 xck7 lfX7_7 (Nat.le_of_ble_eq_true rfl) sh_69 rfl ff_69_0 rfl ?_
  refine Ex.bipush (M := mX7_isTaken) (pc2 := 6) dX7_isTaken_4 kb_10 rfl ?_
  refine Ex.iload_n (M := mX7_isTaken) (pc2 := 7) dX7_isTaken_6 rfl rfl rfl ?_
  refine Ex.bipush (M := mX7_isTaken) (pc2 := 9) dX7_isTaken_7 kb_24 rfl ?_
  refine Ex.idiv (M := mX7_isTaken) (pc2 := 10) dX7_isTaken_9 (by decide) rfl ?_
  refine Ex.iadd (M := mX7_isTaken) (pc2 := 11) dX7_isTaken_10 rfl ?_
  refine Ey.guard (fun hz1 => ?_)
  refine Ey.iaload (M := mX7_isTaken) (pc2 := 12) dX7_isTaken_11 sh_70 rfl hz1 rfl ?_
  refine Ex.iload_n (M := mX7_isTaken) (pc2 := 13) dX7_isTaken_12 rfl rfl rfl ?_
  refine Ex.bipush (M := mX7_isTaken) (pc2 := 15) dX7_isTaken_13 kb_24 rfl ?_
  refine Ex.irem (M := mX7_isTaken) (pc2 := 16) dX7_isTaken_15 (by decide) rfl ?_
  refine Ex.ishr (M := mX7_isTaken) (pc2 := 17) dX7_isTaken_16 rfl ?_
  refine Ex.iconst (M := mX7_isTaken) (pc2 := 18) dX7_isTaken_17 ki_1 rfl ?_
  refine Ex.iand (M := mX7_isTaken) (pc2 := 19) dX7_isTaken_18 rfl ?_
  refine Ex.iconst (M := mX7_isTaken) (pc2 := 20) dX7_isTaken_19 ki_1 rfl ?_
  refine Ey.icmp_ne (M := mX7_isTaken) (tgt := 27) (pc2 := 23) dX7_isTaken_20 rfl (fun _ => ?_) rfl (fun _ => ?_)
  · refine Ex.iconst (M := mX7_isTaken) (pc2 := 28) dX7_isTaken_27 ki_0 rfl ?_
    exact Ey.ireturn (M := mX7_isTaken) dX7_isTaken_28 rfl (by decide)
  · refine Ex.iconst (M := mX7_isTaken) (pc2 := 24) dX7_isTaken_23 ki_1 rfl ?_
    refine Ex.goto (M := mX7_isTaken) (tgt := 28) dX7_isTaken_24 rfl ?_
    exact Ey.ireturn (M := mX7_isTaken) dX7_isTaken_28 rfl (by decide)
/-! FenceDuelModel.forgetsTaken()V -/
def f_X7_forgetsTaken (I : xI) : Option (Int32 × xI) :=
  some (0, (xup (xup I 70 10 (0 : Int32)) 70 11 (0 : Int32)))
theorem t_X7_forgetsTaken (I : xI) : Ey none mX7_forgetsTaken 0 [some (.inr (some 69))] [] I (f_X7_forgetsTaken I) := by
  unfold f_X7_forgetsTaken
  refine Ex.aload_n (M := mX7_forgetsTaken) (pc2 := 1) dX7_forgetsTaken_0 rfl rfl rfl ?_
  refine Ex.getR (M := mX7_forgetsTaken) (pc2 := 4) dX7_forgetsTaken_1 xck7 lfX7_7 (Nat.le_of_ble_eq_true rfl) sh_69 rfl ff_69_0 rfl ?_
  refine Ex.bipush (M := mX7_forgetsTaken) (pc2 := 6) dX7_forgetsTaken_4 kb_10 rfl ?_
  refine Ex.iconst (M := mX7_forgetsTaken) (pc2 := 7) dX7_forgetsTaken_6 ki_0 rfl ?_
  refine Ey.iastore (M := mX7_forgetsTaken) (pc2 := 8) dX7_forgetsTaken_7 sh_70 kn_10 (by decide) rfl ?_
  refine Ex.aload_n (M := mX7_forgetsTaken) (pc2 := 9) dX7_forgetsTaken_8 rfl rfl rfl ?_
  refine Ex.getR (M := mX7_forgetsTaken) (pc2 := 12) dX7_forgetsTaken_9 xck7 lfX7_7 (Nat.le_of_ble_eq_true rfl) sh_69 rfl ff_69_0 rfl ?_
  refine Ex.bipush (M := mX7_forgetsTaken) (pc2 := 14) dX7_forgetsTaken_12 kb_11 rfl ?_
  refine Ex.iconst (M := mX7_forgetsTaken) (pc2 := 15) dX7_forgetsTaken_14 ki_0 rfl ?_
  refine Ey.iastore (M := mX7_forgetsTaken) (pc2 := 16) dX7_forgetsTaken_15 sh_70 kn_11 (by decide) rfl ?_
  exact Ey.ret (M := mX7_forgetsTaken) dX7_forgetsTaken_16 rfl
/-! FenceDuelModel.isSecond(I)Z -/
def f_X7_isSecond_150 (l1 : Int32) (l3 : Int32) (I : xI) : Option (Int32 × xI) :=
  xb (f_X7_at l1 (8 : Int32) I) (fun r1 I1 => if xin r1 742 then if l3 = 0 ∨ l3 = 1 then some (l3, (xup I1 70 r1.toNatClampNeg (I1 70 2))) else none else none)
theorem t_X7_isSecond_150 (l1 : Int32) (d2 : Option xV) (l3 : Int32) (I : xI) : Ey none mX7_isSecond 150 [some (.inr (some 69)), some (.inl l1), d2, some (.inl l3)] [] I (f_X7_isSecond_150 l1 l3 I) := by
  unfold f_X7_isSecond_150
  refine Ex.aload_n (M := mX7_isSecond) (pc2 := 151) dX7_isSecond_150 rfl rfl rfl ?_
  refine Ex.getR (M := mX7_isSecond) (pc2 := 154) dX7_isSecond_151 xck7 lfX7_7 (Nat.le_of_ble_eq_true rfl) sh_69 rfl ff_69_0 rfl ?_
  refine Ex.iload_n (M := mX7_isSecond) (pc2 := 155) dX7_isSecond_154 rfl rfl rfl ?_
  refine Ex.bipush (M := mX7_isSecond) (pc2 := 157) dX7_isSecond_155 kb_8 rfl ?_
  refine Ey.callSi (M := mX7_isSecond) (pc2 := 160) (as := [.inl l1, .inl (8 : Int32)]) (rest := [.inr (some 70)]) rfl dX7_isSecond_157 isX7_at lcX7_43  rfl ⟨(Nat.le_of_ble_eq_true rfl), (Nat.le_of_ble_eq_true rfl)⟩ rfl (Nat.le_of_ble_eq_true rfl) (Nat.le_of_ble_eq_true rfl) (t_X7_at l1 (8 : Int32) I) rfl (fun r1 I1 => ?_)
  refine Ex.aload_n (M := mX7_isSecond) (pc2 := 161) dX7_isSecond_160 rfl rfl rfl ?_
  refine Ex.getR (M := mX7_isSecond) (pc2 := 164) dX7_isSecond_161 xck7 lfX7_7 (Nat.le_of_ble_eq_true rfl) sh_69 rfl ff_69_0 rfl ?_
  refine Ex.iconst (M := mX7_isSecond) (pc2 := 165) dX7_isSecond_164 ki_2 rfl ?_
  refine Ey.iaload (M := mX7_isSecond) (pc2 := 166) dX7_isSecond_165 sh_70 kn_2 (by decide) rfl ?_
  refine Ey.guard (fun hz2 => ?_)
  refine Ey.iastore (M := mX7_isSecond) (pc2 := 167) dX7_isSecond_166 sh_70 rfl hz2 rfl ?_
  refine Ex.iload_n (M := mX7_isSecond) (pc2 := 168) dX7_isSecond_167 rfl rfl rfl ?_
  refine Ey.guard (fun hz3 => ?_)
  exact Ey.ireturn (M := mX7_isSecond) dX7_isSecond_168 rfl (xbool hz3).1
def f_X7_isSecond_74 (l1 : Int32) (l2 : Int32) (s0 : Int32) (I : xI) : Option (Int32 × xI) :=
  if s0 = 0 then f_X7_isSecond_150 l1 s0 (xup (xup (xup I 70 2 ((I 70 2) + (1 : Int32))) 70 8 l1) 70 9 (0 : Int32)) else xb (f_X7_at l2 (9 : Int32) (xup (xup I 70 9 (1 : Int32)) 70 3 (((xup I 70 9 (1 : Int32)) 70 3) + (1 : Int32)))) (fun r4 I4 => if xin r4 742 then xb (f_X7_at l1 (9 : Int32) (xup I4 70 r4.toNatClampNeg l1)) (fun r6 I6 => if xin r6 742 then f_X7_isSecond_150 l1 s0 (xup I6 70 r6.toNatClampNeg l2) else none) else none)
theorem t_X7_isSecond_74 (l1 : Int32) (l2 : Int32) (d3 : Option xV) (s0 : Int32) (I : xI) : Ey none mX7_isSecond 74 [some (.inr (some 69)), some (.inl l1), some (.inl l2), d3] [.inl s0] I (f_X7_isSecond_74 l1 l2 s0 I) := by
  unfold f_X7_isSecond_74
  refine Ey.istore_n (M := mX7_isSecond) (pc2 := 75) dX7_isSecond_74 rfl (Nat.le_of_ble_eq_true rfl) rfl rfl ?_
  refine Ex.iload_n (M := mX7_isSecond) (pc2 := 76) dX7_isSecond_75 rfl rfl rfl ?_
  refine Ey.if_eq (M := mX7_isSecond) (tgt := 124) (pc2 := 79) dX7_isSecond_76 rfl (fun _ => ?_) rfl (fun _ => ?_)
  · refine Ex.aload_n (M := mX7_isSecond) (pc2 := 125) dX7_isSecond_124 rfl rfl rfl ?_
    refine Ex.getR (M := mX7_isSecond) (pc2 := 128) dX7_isSecond_125 xck7 lfX7_7 (Nat.le_of_ble_eq_true rfl) sh_69 rfl ff_69_0 rfl ?_
    refine Ex.iconst (M := mX7_isSecond) (pc2 := 129) dX7_isSecond_128 ki_2 rfl ?_
    refine Ex.dup2 (M := mX7_isSecond) (pc2 := 130) dX7_isSecond_129 rfl ?_
    refine Ey.iaload (M := mX7_isSecond) (pc2 := 131) dX7_isSecond_130 sh_70 kn_2 (by decide) rfl ?_
    refine Ex.iconst (M := mX7_isSecond) (pc2 := 132) dX7_isSecond_131 ki_1 rfl ?_
    refine Ex.iadd (M := mX7_isSecond) (pc2 := 133) dX7_isSecond_132 rfl ?_
    refine Ey.iastore (M := mX7_isSecond) (pc2 := 134) dX7_isSecond_133 sh_70 kn_2 (by decide) rfl ?_
    refine Ex.aload_n (M := mX7_isSecond) (pc2 := 135) dX7_isSecond_134 rfl rfl rfl ?_
    refine Ex.getR (M := mX7_isSecond) (pc2 := 138) dX7_isSecond_135 xck7 lfX7_7 (Nat.le_of_ble_eq_true rfl) sh_69 rfl ff_69_0 rfl ?_
    refine Ex.bipush (M := mX7_isSecond) (pc2 := 140) dX7_isSecond_138 kb_8 rfl ?_
    refine Ex.iload_n (M := mX7_isSecond) (pc2 := 141) dX7_isSecond_140 rfl rfl rfl ?_
    refine Ey.iastore (M := mX7_isSecond) (pc2 := 142) dX7_isSecond_141 sh_70 kn_8 (by decide) rfl ?_
    refine Ex.aload_n (M := mX7_isSecond) (pc2 := 143) dX7_isSecond_142 rfl rfl rfl ?_
    refine Ex.getR (M := mX7_isSecond) (pc2 := 146) dX7_isSecond_143 xck7 lfX7_7 (Nat.le_of_ble_eq_true rfl) sh_69 rfl ff_69_0 rfl ?_
    refine Ex.bipush (M := mX7_isSecond) (pc2 := 148) dX7_isSecond_146 kb_9 rfl ?_
    refine Ex.iconst (M := mX7_isSecond) (pc2 := 149) dX7_isSecond_148 ki_0 rfl ?_
    refine Ey.iastore (M := mX7_isSecond) (pc2 := 150) dX7_isSecond_149 sh_70 kn_9 (by decide) rfl ?_
    exact t_X7_isSecond_150 _ _ _ _
  · refine Ex.aload_n (M := mX7_isSecond) (pc2 := 80) dX7_isSecond_79 rfl rfl rfl ?_
    refine Ex.getR (M := mX7_isSecond) (pc2 := 83) dX7_isSecond_80 xck7 lfX7_7 (Nat.le_of_ble_eq_true rfl) sh_69 rfl ff_69_0 rfl ?_
    refine Ex.bipush (M := mX7_isSecond) (pc2 := 85) dX7_isSecond_83 kb_9 rfl ?_
    refine Ex.iconst (M := mX7_isSecond) (pc2 := 86) dX7_isSecond_85 ki_1 rfl ?_
    refine Ey.iastore (M := mX7_isSecond) (pc2 := 87) dX7_isSecond_86 sh_70 kn_9 (by decide) rfl ?_
    refine Ex.aload_n (M := mX7_isSecond) (pc2 := 88) dX7_isSecond_87 rfl rfl rfl ?_
    refine Ex.getR (M := mX7_isSecond) (pc2 := 91) dX7_isSecond_88 xck7 lfX7_7 (Nat.le_of_ble_eq_true rfl) sh_69 rfl ff_69_0 rfl ?_
    refine Ex.iconst (M := mX7_isSecond) (pc2 := 92) dX7_isSecond_91 ki_3 rfl ?_
    refine Ex.dup2 (M := mX7_isSecond) (pc2 := 93) dX7_isSecond_92 rfl ?_
    refine Ey.iaload (M := mX7_isSecond) (pc2 := 94) dX7_isSecond_93 sh_70 kn_3 (by decide) rfl ?_
    refine Ex.iconst (M := mX7_isSecond) (pc2 := 95) dX7_isSecond_94 ki_1 rfl ?_
    refine Ex.iadd (M := mX7_isSecond) (pc2 := 96) dX7_isSecond_95 rfl ?_
    refine Ey.iastore (M := mX7_isSecond) (pc2 := 97) dX7_isSecond_96 sh_70 kn_3 (by decide) rfl ?_
    refine Ex.aload_n (M := mX7_isSecond) (pc2 := 98) dX7_isSecond_97 rfl rfl rfl ?_
    refine Ex.getR (M := mX7_isSecond) (pc2 := 101) dX7_isSecond_98 xck7 lfX7_7 (Nat.le_of_ble_eq_true rfl) sh_69 rfl ff_69_0 rfl ?_
    refine Ex.iload_n (M := mX7_isSecond) (pc2 := 102) dX7_isSecond_101 rfl rfl rfl ?_
    refine Ex.bipush (M := mX7_isSecond) (pc2 := 104) dX7_isSecond_102 kb_9 rfl ?_
    refine Ey.callSi (M := mX7_isSecond) (pc2 := 107) (as := [.inl l2, .inl (9 : Int32)]) (rest := [.inr (some 70)]) rfl dX7_isSecond_104 isX7_at lcX7_43  rfl ⟨(Nat.le_of_ble_eq_true rfl), (Nat.le_of_ble_eq_true rfl)⟩ rfl (Nat.le_of_ble_eq_true rfl) (Nat.le_of_ble_eq_true rfl) (t_X7_at l2 (9 : Int32) (xup (xup I 70 9 (1 : Int32)) 70 3 (((xup I 70 9 (1 : Int32)) 70 3) + (1 : Int32)))) rfl (fun r4 I4 => ?_)
    refine Ex.iload_n (M := mX7_isSecond) (pc2 := 108) dX7_isSecond_107 rfl rfl rfl ?_
    refine Ey.guard (fun hz5 => ?_)
    refine Ey.iastore (M := mX7_isSecond) (pc2 := 109) dX7_isSecond_108 sh_70 rfl hz5 rfl ?_
    refine Ex.aload_n (M := mX7_isSecond) (pc2 := 110) dX7_isSecond_109 rfl rfl rfl ?_
    refine Ex.getR (M := mX7_isSecond) (pc2 := 113) dX7_isSecond_110 xck7 lfX7_7 (Nat.le_of_ble_eq_true rfl) sh_69 rfl ff_69_0 rfl ?_
    refine Ex.iload_n (M := mX7_isSecond) (pc2 := 114) dX7_isSecond_113 rfl rfl rfl ?_
    refine Ex.bipush (M := mX7_isSecond) (pc2 := 116) dX7_isSecond_114 kb_9 rfl ?_
    refine Ey.callSi (M := mX7_isSecond) (pc2 := 119) (as := [.inl l1, .inl (9 : Int32)]) (rest := [.inr (some 70)]) rfl dX7_isSecond_116 isX7_at lcX7_43  rfl ⟨(Nat.le_of_ble_eq_true rfl), (Nat.le_of_ble_eq_true rfl)⟩ rfl (Nat.le_of_ble_eq_true rfl) (Nat.le_of_ble_eq_true rfl) (t_X7_at l1 (9 : Int32) (xup I4 70 r4.toNatClampNeg l1)) rfl (fun r6 I6 => ?_)
    refine Ex.iload_n (M := mX7_isSecond) (pc2 := 120) dX7_isSecond_119 rfl rfl rfl ?_
    refine Ey.guard (fun hz7 => ?_)
    refine Ey.iastore (M := mX7_isSecond) (pc2 := 121) dX7_isSecond_120 sh_70 rfl hz7 rfl ?_
    refine Ex.goto (M := mX7_isSecond) (tgt := 150) dX7_isSecond_121 rfl ?_
    exact t_X7_isSecond_150 _ _ _ _
def f_X7_isSecond (l1 : Int32) (I : xI) : Option (Int32 × xI) :=
  if (I 70 8) = (-5 : Int32) then f_X7_isSecond_74 l1 (I 70 8) (0 : Int32) I else if (I 70 9) ≠ 0 then f_X7_isSecond_74 l1 (I 70 8) (0 : Int32) I else xb (f_X7_of (I 70 8) (0 : Int32) I) (fun r8 I8 => xb (f_X7_of l1 (0 : Int32) I8) (fun r9 I9 => if r8 = r9 then f_X7_isSecond_74 l1 (I 70 8) (0 : Int32) I9 else xb (f_X7_of (I 70 8) (4 : Int32) I9) (fun r10 I10 => xb (f_X7_of l1 (5 : Int32) I10) (fun r11 I11 => if r10 ≥ r11 then f_X7_isSecond_74 l1 (I 70 8) (0 : Int32) I11 else xb (f_X7_of l1 (4 : Int32) I11) (fun r12 I12 => xb (f_X7_of (I 70 8) (5 : Int32) I12) (fun r13 I13 => if r12 ≥ r13 then f_X7_isSecond_74 l1 (I 70 8) (0 : Int32) I13 else f_X7_isSecond_74 l1 (I 70 8) (1 : Int32) I13))))))
theorem t_X7_isSecond (l1 : Int32) (I : xI) : Ey none mX7_isSecond 0 [some (.inr (some 69)), some (.inl l1), none, none] [] I (f_X7_isSecond l1 I) := by
  unfold f_X7_isSecond
  refine Ex.aload_n (M := mX7_isSecond) (pc2 := 1) dX7_isSecond_0 rfl rfl rfl ?_
  refine Ex.getR (M := mX7_isSecond) (pc2 := 4) dX7_isSecond_1 xck7 lfX7_7 (Nat.le_of_ble_eq_true rfl) sh_69 rfl ff_69_0 rfl ?_
  refine Ex.bipush (M := mX7_isSecond) (pc2 := 6) dX7_isSecond_4 kb_8 rfl ?_
  refine Ey.iaload (M := mX7_isSecond) (pc2 := 7) dX7_isSecond_6 sh_70 kn_8 (by decide) rfl ?_
  refine Ey.istore_n (M := mX7_isSecond) (pc2 := 8) dX7_isSecond_7 rfl (Nat.le_of_ble_eq_true rfl) rfl rfl ?_
  refine Ex.iload_n (M := mX7_isSecond) (pc2 := 9) dX7_isSecond_8 rfl rfl rfl ?_
  refine Ex.bipush (M := mX7_isSecond) (pc2 := 11) dX7_isSecond_9 kb_m5 rfl ?_
  refine Ey.icmp_eq (M := mX7_isSecond) (tgt := 73) (pc2 := 14) dX7_isSecond_11 rfl (fun _ => ?_) rfl (fun _ => ?_)
  · refine Ex.iconst (M := mX7_isSecond) (pc2 := 74) dX7_isSecond_73 ki_0 rfl ?_
    exact t_X7_isSecond_74 _ _ _ _ _
  · refine Ex.aload_n (M := mX7_isSecond) (pc2 := 15) dX7_isSecond_14 rfl rfl rfl ?_
    refine Ex.getR (M := mX7_isSecond) (pc2 := 18) dX7_isSecond_15 xck7 lfX7_7 (Nat.le_of_ble_eq_true rfl) sh_69 rfl ff_69_0 rfl ?_
    refine Ex.bipush (M := mX7_isSecond) (pc2 := 20) dX7_isSecond_18 kb_9 rfl ?_
    refine Ey.iaload (M := mX7_isSecond) (pc2 := 21) dX7_isSecond_20 sh_70 kn_9 (by decide) rfl ?_
    refine Ey.if_ne (M := mX7_isSecond) (tgt := 73) (pc2 := 24) dX7_isSecond_21 rfl (fun _ => ?_) rfl (fun _ => ?_)
    · refine Ex.iconst (M := mX7_isSecond) (pc2 := 74) dX7_isSecond_73 ki_0 rfl ?_
      exact t_X7_isSecond_74 _ _ _ _ _
    · refine Ex.aload_n (M := mX7_isSecond) (pc2 := 25) dX7_isSecond_24 rfl rfl rfl ?_
      refine Ex.iload_n (M := mX7_isSecond) (pc2 := 26) dX7_isSecond_25 rfl rfl rfl ?_
      refine Ex.iconst (M := mX7_isSecond) (pc2 := 27) dX7_isSecond_26 ki_0 rfl ?_
      refine Ey.callVi (M := mX7_isSecond) (pc2 := 30) (as := [.inl (I 70 8), .inl (0 : Int32)]) (rest := []) rfl dX7_isSecond_27 isX7_of lcX7_68 sh_69 rfl rfl ⟨(Nat.le_of_ble_eq_true rfl), (Nat.le_of_ble_eq_true rfl)⟩ rfl (Nat.le_of_ble_eq_true rfl) (Nat.le_of_ble_eq_true rfl) (t_X7_of (I 70 8) (0 : Int32) I) rfl (fun r8 I8 => ?_)
      refine Ex.aload_n (M := mX7_isSecond) (pc2 := 31) dX7_isSecond_30 rfl rfl rfl ?_
      refine Ex.iload_n (M := mX7_isSecond) (pc2 := 32) dX7_isSecond_31 rfl rfl rfl ?_
      refine Ex.iconst (M := mX7_isSecond) (pc2 := 33) dX7_isSecond_32 ki_0 rfl ?_
      refine Ey.callVi (M := mX7_isSecond) (pc2 := 36) (as := [.inl l1, .inl (0 : Int32)]) (rest := [.inl r8]) rfl dX7_isSecond_33 isX7_of lcX7_68 sh_69 rfl rfl ⟨(Nat.le_of_ble_eq_true rfl), (Nat.le_of_ble_eq_true rfl)⟩ rfl (Nat.le_of_ble_eq_true rfl) (Nat.le_of_ble_eq_true rfl) (t_X7_of l1 (0 : Int32) I8) rfl (fun r9 I9 => ?_)
      refine Ey.icmp_eq (M := mX7_isSecond) (tgt := 73) (pc2 := 39) dX7_isSecond_36 rfl (fun _ => ?_) rfl (fun _ => ?_)
      · refine Ex.iconst (M := mX7_isSecond) (pc2 := 74) dX7_isSecond_73 ki_0 rfl ?_
        exact t_X7_isSecond_74 _ _ _ _ _
      · refine Ex.aload_n (M := mX7_isSecond) (pc2 := 40) dX7_isSecond_39 rfl rfl rfl ?_
        refine Ex.iload_n (M := mX7_isSecond) (pc2 := 41) dX7_isSecond_40 rfl rfl rfl ?_
        refine Ex.iconst (M := mX7_isSecond) (pc2 := 42) dX7_isSecond_41 ki_4 rfl ?_
        refine Ey.callVi (M := mX7_isSecond) (pc2 := 45) (as := [.inl (I 70 8), .inl (4 : Int32)]) (rest := []) rfl dX7_isSecond_42 isX7_of lcX7_68 sh_69 rfl rfl ⟨(Nat.le_of_ble_eq_true rfl), (Nat.le_of_ble_eq_true rfl)⟩ rfl (Nat.le_of_ble_eq_true rfl) (Nat.le_of_ble_eq_true rfl) (t_X7_of (I 70 8) (4 : Int32) I9) rfl (fun r10 I10 => ?_)
        refine Ex.aload_n (M := mX7_isSecond) (pc2 := 46) dX7_isSecond_45 rfl rfl rfl ?_
        refine Ex.iload_n (M := mX7_isSecond) (pc2 := 47) dX7_isSecond_46 rfl rfl rfl ?_
        refine Ex.iconst (M := mX7_isSecond) (pc2 := 48) dX7_isSecond_47 ki_5 rfl ?_
        refine Ey.callVi (M := mX7_isSecond) (pc2 := 51) (as := [.inl l1, .inl (5 : Int32)]) (rest := [.inl r10]) rfl dX7_isSecond_48 isX7_of lcX7_68 sh_69 rfl rfl ⟨(Nat.le_of_ble_eq_true rfl), (Nat.le_of_ble_eq_true rfl)⟩ rfl (Nat.le_of_ble_eq_true rfl) (Nat.le_of_ble_eq_true rfl) (t_X7_of l1 (5 : Int32) I10) rfl (fun r11 I11 => ?_)
        refine Ey.icmp_ge (M := mX7_isSecond) (tgt := 73) (pc2 := 54) dX7_isSecond_51 rfl (fun _ => ?_) rfl (fun _ => ?_)
        · refine Ex.iconst (M := mX7_isSecond) (pc2 := 74) dX7_isSecond_73 ki_0 rfl ?_
          exact t_X7_isSecond_74 _ _ _ _ _
        · refine Ex.aload_n (M := mX7_isSecond) (pc2 := 55) dX7_isSecond_54 rfl rfl rfl ?_
          refine Ex.iload_n (M := mX7_isSecond) (pc2 := 56) dX7_isSecond_55 rfl rfl rfl ?_
          refine Ex.iconst (M := mX7_isSecond) (pc2 := 57) dX7_isSecond_56 ki_4 rfl ?_
          refine Ey.callVi (M := mX7_isSecond) (pc2 := 60) (as := [.inl l1, .inl (4 : Int32)]) (rest := []) rfl dX7_isSecond_57 isX7_of lcX7_68 sh_69 rfl rfl ⟨(Nat.le_of_ble_eq_true rfl), (Nat.le_of_ble_eq_true rfl)⟩ rfl (Nat.le_of_ble_eq_true rfl) (Nat.le_of_ble_eq_true rfl) (t_X7_of l1 (4 : Int32) I11) rfl (fun r12 I12 => ?_)
          refine Ex.aload_n (M := mX7_isSecond) (pc2 := 61) dX7_isSecond_60 rfl rfl rfl ?_
          refine Ex.iload_n (M := mX7_isSecond) (pc2 := 62) dX7_isSecond_61 rfl rfl rfl ?_
          refine Ex.iconst (M := mX7_isSecond) (pc2 := 63) dX7_isSecond_62 ki_5 rfl ?_
          refine Ey.callVi (M := mX7_isSecond) (pc2 := 66) (as := [.inl (I 70 8), .inl (5 : Int32)]) (rest := [.inl r12]) rfl dX7_isSecond_63 isX7_of lcX7_68 sh_69 rfl rfl ⟨(Nat.le_of_ble_eq_true rfl), (Nat.le_of_ble_eq_true rfl)⟩ rfl (Nat.le_of_ble_eq_true rfl) (Nat.le_of_ble_eq_true rfl) (t_X7_of (I 70 8) (5 : Int32) I12) rfl (fun r13 I13 => ?_)
          refine Ey.icmp_ge (M := mX7_isSecond) (tgt := 73) (pc2 := 69) dX7_isSecond_66 rfl (fun _ => ?_) rfl (fun _ => ?_)
          · refine Ex.iconst (M := mX7_isSecond) (pc2 := 74) dX7_isSecond_73 ki_0 rfl ?_
            exact t_X7_isSecond_74 _ _ _ _ _
          · refine Ex.iconst (M := mX7_isSecond) (pc2 := 70) dX7_isSecond_69 ki_1 rfl ?_
            refine Ex.goto (M := mX7_isSecond) (tgt := 74) dX7_isSecond_70 rfl ?_
            exact t_X7_isSecond_74 _ _ _ _ _
/-! FenceDuelModel.edgeOf(I)I -/
def f_X7_edgeOf (l1 : Int32) (I : xI) : Option (Int32 × xI) :=
  xb (f_X7_of l1 (2 : Int32) I) (fun r1 I1 => xb (f_X7_of l1 (3 : Int32) I1) (fun r2 I2 => xb (f_X7_edgeAt r1 r2 I2) (fun r3 I3 => some (((12 : Int32) + r3), I3))))
theorem t_X7_edgeOf (l1 : Int32) (I : xI) : Ey none mX7_edgeOf 0 [some (.inr (some 69)), some (.inl l1)] [] I (f_X7_edgeOf l1 I) := by
  unfold f_X7_edgeOf
  refine Ex.bipush (M := mX7_edgeOf) (pc2 := 2) dX7_edgeOf_0 kb_12 rfl ?_
  refine Ex.aload_n (M := mX7_edgeOf) (pc2 := 3) dX7_edgeOf_2 rfl rfl rfl ?_
  refine Ex.iload_n (M := mX7_edgeOf) (pc2 := 4) dX7_edgeOf_3 rfl rfl rfl ?_
  refine Ex.iconst (M := mX7_edgeOf) (pc2 := 5) dX7_edgeOf_4 ki_2 rfl ?_
  refine Ey.callVi (M := mX7_edgeOf) (pc2 := 8) (as := [.inl l1, .inl (2 : Int32)]) (rest := [.inl (12 : Int32)]) rfl dX7_edgeOf_5 isX7_of lcX7_68 sh_69 rfl rfl ⟨(Nat.le_of_ble_eq_true rfl), (Nat.le_of_ble_eq_true rfl)⟩ rfl (Nat.le_of_ble_eq_true rfl) (Nat.le_of_ble_eq_true rfl) (t_X7_of l1 (2 : Int32) I) rfl (fun r1 I1 => ?_)
  refine Ex.aload_n (M := mX7_edgeOf) (pc2 := 9) dX7_edgeOf_8 rfl rfl rfl ?_
  refine Ex.iload_n (M := mX7_edgeOf) (pc2 := 10) dX7_edgeOf_9 rfl rfl rfl ?_
  refine Ex.iconst (M := mX7_edgeOf) (pc2 := 11) dX7_edgeOf_10 ki_3 rfl ?_
  refine Ey.callVi (M := mX7_edgeOf) (pc2 := 14) (as := [.inl l1, .inl (3 : Int32)]) (rest := [.inl r1, .inl (12 : Int32)]) rfl dX7_edgeOf_11 isX7_of lcX7_68 sh_69 rfl rfl ⟨(Nat.le_of_ble_eq_true rfl), (Nat.le_of_ble_eq_true rfl)⟩ rfl (Nat.le_of_ble_eq_true rfl) (Nat.le_of_ble_eq_true rfl) (t_X7_of l1 (3 : Int32) I1) rfl (fun r2 I2 => ?_)
  refine Ey.callSi (M := mX7_edgeOf) (pc2 := 17) (as := [.inl r1, .inl r2]) (rest := [.inl (12 : Int32)]) rfl dX7_edgeOf_14 isX7_edgeAt lcX7_71  rfl ⟨(Nat.le_of_ble_eq_true rfl), (Nat.le_of_ble_eq_true rfl)⟩ rfl (Nat.le_of_ble_eq_true rfl) (Nat.le_of_ble_eq_true rfl) (t_X7_edgeAt r1 r2 I2) rfl (fun r3 I3 => ?_)
  refine Ex.iadd (M := mX7_edgeOf) (pc2 := 18) dX7_edgeOf_17 rfl ?_
  exact Ey.ireturn (M := mX7_edgeOf) dX7_edgeOf_18 rfl rfl
/-! FenceDuelModel.does(I)I -/
def f_X7_does_134b (k134 : Int32 → Int32 → Int32 → xI → Option (Int32 × xI)) (l2 : Int32) (l5 : Int32) (l6 : Int32) (I : xI) : Option (Int32 × xI) :=
  if l6 ≥ (48 : Int32) then some (l5, I) else if l5 ≠ 0 then some (l5, I) else if xin l6 48 then if (I 76 l6.toNatClampNeg) = 0 then k134 l2 l5 (l6 + 1) I else if xin ((94 : Int32) + l6) 742 then if (I 70 (((94 : Int32) + l6).toNatClampNeg)) ≠ (-5 : Int32) then k134 l2 l5 (l6 + 1) I else if xin ((94 : Int32) + l6) 742 then if xin ((10 : Int32) + (l6 / (24 : Int32))) 742 then if xin ((10 : Int32) + (l6 / (24 : Int32))) 742 then k134 l2 l5 (l6 + 1) (xup (xup I 70 (((94 : Int32) + l6).toNatClampNeg) l2) 70 (((10 : Int32) + (l6 / (24 : Int32))).toNatClampNeg) (((xup I 70 (((94 : Int32) + l6).toNatClampNeg) l2) 70 (((10 : Int32) + (l6 / (24 : Int32))).toNatClampNeg)) ||| ((1 : Int32) <<< ((l6 - l6 / (24 : Int32) * (24 : Int32)) &&& 31)))) else none else none else none else none else none
theorem t_X7_does_134b (k134 : Int32 → Int32 → Int32 → xI → Option (Int32 × xI)) (hk134 : ∀ (l2 : Int32) (l5 : Int32) (l6 : Int32) (d1 : Option xV) (d3 : Option xV) (d4 : Option xV) (I : xI), Ey none mX7_does 134 [some (.inr (some 69)), d1, some (.inl l2), d3, d4, some (.inl l5), some (.inl l6)] [] I (k134 l2 l5 l6 I)) (d1 : Option xV) (l2 : Int32) (d3 : Option xV) (d4 : Option xV) (l5 : Int32) (l6 : Int32) (I : xI) : Ey none mX7_does 134 [some (.inr (some 69)), d1, some (.inl l2), d3, d4, some (.inl l5), some (.inl l6)] [] I (f_X7_does_134b k134 l2 l5 l6 I) := by
  unfold f_X7_does_134b
  refine Ex.iload (M := mX7_does) (pc2 := 136) dX7_does_134 rfl rfl ?_
  refine Ex.bipush (M := mX7_does) (pc2 := 138) dX7_does_136 kb_48 rfl ?_
  refine Ey.icmp_ge (M := mX7_does) (tgt := 211) (pc2 := 141) dX7_does_138 rfl (fun _ => ?_) rfl (fun _ => ?_)
  · refine Ex.iload (M := mX7_does) (pc2 := 213) dX7_does_211 rfl rfl ?_
    exact Ey.ireturn (M := mX7_does) dX7_does_213 rfl rfl
  · refine Ex.iload (M := mX7_does) (pc2 := 143) dX7_does_141 rfl rfl ?_
    refine Ey.if_ne (M := mX7_does) (tgt := 211) (pc2 := 146) dX7_does_143 rfl (fun _ => ?_) rfl (fun _ => ?_)
    · refine Ex.iload (M := mX7_does) (pc2 := 213) dX7_does_211 rfl rfl ?_
      exact Ey.ireturn (M := mX7_does) dX7_does_213 rfl rfl
    · refine Ex.aload_n (M := mX7_does) (pc2 := 147) dX7_does_146 rfl rfl rfl ?_
      refine Ex.getR (M := mX7_does) (pc2 := 150) dX7_does_147 xck7 lfX7_35 (Nat.le_of_ble_eq_true rfl) sh_69 rfl ff_69_11 rfl ?_
      refine Ex.iload (M := mX7_does) (pc2 := 152) dX7_does_150 rfl rfl ?_
      refine Ey.guard (fun hz1 => ?_)
      refine Ey.baload (M := mX7_does) (pc2 := 153) dX7_does_152 sh_76 rfl hz1 rfl ?_
      refine Ey.if_eq (M := mX7_does) (tgt := 205) (pc2 := 156) dX7_does_153 rfl (fun _ => ?_) rfl (fun _ => ?_)
      · refine Ey.iinc (M := mX7_does) (pc2 := 208) dX7_does_205 rfl ki_1 (Nat.le_of_ble_eq_true rfl) rfl rfl ?_
        refine Ex.goto (M := mX7_does) (tgt := 134) dX7_does_208 rfl ?_
        exact hk134 _ _ _ _ _ _ _
      · refine Ex.aload_n (M := mX7_does) (pc2 := 157) dX7_does_156 rfl rfl rfl ?_
        refine Ex.getR (M := mX7_does) (pc2 := 160) dX7_does_157 xck7 lfX7_7 (Nat.le_of_ble_eq_true rfl) sh_69 rfl ff_69_0 rfl ?_
        refine Ex.bipush (M := mX7_does) (pc2 := 162) dX7_does_160 kb_94 rfl ?_
        refine Ex.iload (M := mX7_does) (pc2 := 164) dX7_does_162 rfl rfl ?_
        refine Ex.iadd (M := mX7_does) (pc2 := 165) dX7_does_164 rfl ?_
        refine Ey.guard (fun hz2 => ?_)
        refine Ey.iaload (M := mX7_does) (pc2 := 166) dX7_does_165 sh_70 rfl hz2 rfl ?_
        refine Ex.bipush (M := mX7_does) (pc2 := 168) dX7_does_166 kb_m5 rfl ?_
        refine Ey.icmp_ne (M := mX7_does) (tgt := 205) (pc2 := 171) dX7_does_168 rfl (fun _ => ?_) rfl (fun _ => ?_)
        · refine Ey.iinc (M := mX7_does) (pc2 := 208) dX7_does_205 rfl ki_1 (Nat.le_of_ble_eq_true rfl) rfl rfl ?_
          refine Ex.goto (M := mX7_does) (tgt := 134) dX7_does_208 rfl ?_
          exact hk134 _ _ _ _ _ _ _
        · refine Ex.aload_n (M := mX7_does) (pc2 := 172) dX7_does_171 rfl rfl rfl ?_
          refine Ex.getR (M := mX7_does) (pc2 := 175) dX7_does_172 xck7 lfX7_7 (Nat.le_of_ble_eq_true rfl) sh_69 rfl ff_69_0 rfl ?_
          refine Ex.bipush (M := mX7_does) (pc2 := 177) dX7_does_175 kb_94 rfl ?_
          refine Ex.iload (M := mX7_does) (pc2 := 179) dX7_does_177 rfl rfl ?_
          refine Ex.iadd (M := mX7_does) (pc2 := 180) dX7_does_179 rfl ?_
          refine Ex.iload_n (M := mX7_does) (pc2 := 181) dX7_does_180 rfl rfl rfl ?_
          refine Ey.guard (fun hz3 => ?_)
          refine Ey.iastore (M := mX7_does) (pc2 := 182) dX7_does_181 sh_70 rfl hz3 rfl ?_
          refine Ex.aload_n (M := mX7_does) (pc2 := 183) dX7_does_182 rfl rfl rfl ?_
          refine Ex.getR (M := mX7_does) (pc2 := 186) dX7_does_183 xck7 lfX7_7 (Nat.le_of_ble_eq_true rfl) sh_69 rfl ff_69_0 rfl ?_
          refine Ex.bipush (M := mX7_does) (pc2 := 188) dX7_does_186 kb_10 rfl ?_
          refine Ex.iload (M := mX7_does) (pc2 := 190) dX7_does_188 rfl rfl ?_
          refine Ex.bipush (M := mX7_does) (pc2 := 192) dX7_does_190 kb_24 rfl ?_
          refine Ex.idiv (M := mX7_does) (pc2 := 193) dX7_does_192 (by decide) rfl ?_
          refine Ex.iadd (M := mX7_does) (pc2 := 194) dX7_does_193 rfl ?_
          refine Ex.dup2 (M := mX7_does) (pc2 := 195) dX7_does_194 rfl ?_
          refine Ey.guard (fun hz4 => ?_)
          refine Ey.iaload (M := mX7_does) (pc2 := 196) dX7_does_195 sh_70 rfl hz4 rfl ?_
          refine Ex.iconst (M := mX7_does) (pc2 := 197) dX7_does_196 ki_1 rfl ?_
          refine Ex.iload (M := mX7_does) (pc2 := 199) dX7_does_197 rfl rfl ?_
          refine Ex.bipush (M := mX7_does) (pc2 := 201) dX7_does_199 kb_24 rfl ?_
          refine Ex.irem (M := mX7_does) (pc2 := 202) dX7_does_201 (by decide) rfl ?_
          refine Ex.ishl (M := mX7_does) (pc2 := 203) dX7_does_202 rfl ?_
          refine Ex.ior (M := mX7_does) (pc2 := 204) dX7_does_203 rfl ?_
          refine Ey.guard (fun hz5 => ?_)
          refine Ey.iastore (M := mX7_does) (pc2 := 205) dX7_does_204 sh_70 rfl hz5 rfl ?_
          refine Ey.iinc (M := mX7_does) (pc2 := 208) dX7_does_205 rfl ki_1 (Nat.le_of_ble_eq_true rfl) rfl rfl ?_
          refine Ex.goto (M := mX7_does) (tgt := 134) dX7_does_208 rfl ?_
          exact hk134 _ _ _ _ _ _ _
def f_X7_does_134 : Nat → Int32 → Int32 → Int32 → xI → Option (Int32 × xI)
  | 0, _, _, _, _ => none
  | n + 1, l2, l5, l6, I => f_X7_does_134b (fun l2 l5 l6 I => f_X7_does_134 n l2 l5 l6 I) l2 l5 l6 I
theorem t_X7_does_134 : ∀ (n : Nat) (d1 : Option xV) (l2 : Int32) (d3 : Option xV) (d4 : Option xV) (l5 : Int32) (l6 : Int32) (I : xI), Ey none mX7_does 134 [some (.inr (some 69)), d1, some (.inl l2), d3, d4, some (.inl l5), some (.inl l6)] [] I (f_X7_does_134 n l2 l5 l6 I)
  | 0, d1, l2, d3, d4, l5, l6, I => Ey.nil
  | n + 1, d1, l2, d3, d4, l5, l6, I => t_X7_does_134b (fun l2 l5 l6 I => f_X7_does_134 n l2 l5 l6 I) (fun l2 l5 l6 d1 d3 d4 I => t_X7_does_134 n d1 l2 d3 d4 l5 l6 I) d1 l2 d3 d4 l5 l6 I
def f_X7_does_67 (l1 : Int32) (l2 : Int32) (l3 : Int32) (s0 : Int32) (I : xI) : Option (Int32 × xI) :=
  xb (f_X7_edgeOf l1 I) (fun r6 I6 => xb (f_X7_whyEdge s0 (r6 - (12 : Int32)) I6) (fun r7 I7 => xb (f_X7_edgeOf l1 I7) (fun r8 I8 => if r7 ≤ 0 then if l3 ≠ (1 : Int32) then if xin r8 742 then some (r7, (xup I8 70 r8.toNatClampNeg ((1 : Int32) + l2))) else none else if xin r8 742 then some (r7, (xup I8 70 r8.toNatClampNeg (0 : Int32))) else none else xb (f_X7_edgeOf l1 I8) (fun r11 I11 => if xin r11 742 then if xin r8 742 then some (r7, (xup I11 70 r8.toNatClampNeg (I11 70 r11.toNatClampNeg))) else none else none))))
theorem t_X7_does_67 (l1 : Int32) (l2 : Int32) (l3 : Int32) (d4 : Option xV) (d5 : Option xV) (d6 : Option xV) (s0 : Int32) (I : xI) : Ey none mX7_does 67 [some (.inr (some 69)), some (.inl l1), some (.inl l2), some (.inl l3), d4, d5, d6] [.inl s0, .inr (some 69)] I (f_X7_does_67 l1 l2 l3 s0 I) := by
  unfold f_X7_does_67
  refine Ex.aload_n (M := mX7_does) (pc2 := 68) dX7_does_67 rfl rfl rfl ?_
  refine Ex.iload_n (M := mX7_does) (pc2 := 69) dX7_does_68 rfl rfl rfl ?_
  refine Ey.callVi (M := mX7_does) (pc2 := 72) (as := [.inl l1]) (rest := [.inl s0, .inr (some 69)]) rfl dX7_does_69 isX7_edgeOf lcX7_74 sh_69 rfl rfl ⟨(Nat.le_of_ble_eq_true rfl), (Nat.le_of_ble_eq_true rfl)⟩ rfl (Nat.le_of_ble_eq_true rfl) (Nat.le_of_ble_eq_true rfl) (t_X7_edgeOf l1 I) rfl (fun r6 I6 => ?_)
  refine Ex.bipush (M := mX7_does) (pc2 := 74) dX7_does_72 kb_12 rfl ?_
  refine Ex.isub (M := mX7_does) (pc2 := 75) dX7_does_74 rfl ?_
  refine Ey.callVi (M := mX7_does) (pc2 := 78) (as := [.inl s0, .inl (r6 - (12 : Int32))]) (rest := []) rfl dX7_does_75 isX7_whyEdge lcX7_77 sh_69 rfl rfl ⟨(Nat.le_of_ble_eq_true rfl), (Nat.le_of_ble_eq_true rfl)⟩ rfl (Nat.le_of_ble_eq_true rfl) (Nat.le_of_ble_eq_true rfl) (t_X7_whyEdge s0 (r6 - (12 : Int32)) I6) rfl (fun r7 I7 => ?_)
  refine Ey.istore (M := mX7_does) (pc2 := 80) dX7_does_78 (Nat.le_of_ble_eq_true rfl) rfl rfl ?_
  refine Ex.aload_n (M := mX7_does) (pc2 := 81) dX7_does_80 rfl rfl rfl ?_
  refine Ex.getR (M := mX7_does) (pc2 := 84) dX7_does_81 xck7 lfX7_7 (Nat.le_of_ble_eq_true rfl) sh_69 rfl ff_69_0 rfl ?_
  refine Ex.aload_n (M := mX7_does) (pc2 := 85) dX7_does_84 rfl rfl rfl ?_
  refine Ex.iload_n (M := mX7_does) (pc2 := 86) dX7_does_85 rfl rfl rfl ?_
  refine Ey.callVi (M := mX7_does) (pc2 := 89) (as := [.inl l1]) (rest := [.inr (some 70)]) rfl dX7_does_86 isX7_edgeOf lcX7_74 sh_69 rfl rfl ⟨(Nat.le_of_ble_eq_true rfl), (Nat.le_of_ble_eq_true rfl)⟩ rfl (Nat.le_of_ble_eq_true rfl) (Nat.le_of_ble_eq_true rfl) (t_X7_edgeOf l1 I7) rfl (fun r8 I8 => ?_)
  refine Ex.iload (M := mX7_does) (pc2 := 91) dX7_does_89 rfl rfl ?_
  refine Ey.if_le (M := mX7_does) (tgt := 107) (pc2 := 94) dX7_does_91 rfl (fun _ => ?_) rfl (fun _ => ?_)
  · refine Ex.iload_n (M := mX7_does) (pc2 := 108) dX7_does_107 rfl rfl rfl ?_
    refine Ex.iconst (M := mX7_does) (pc2 := 109) dX7_does_108 ki_1 rfl ?_
    refine Ey.icmp_ne (M := mX7_does) (tgt := 116) (pc2 := 112) dX7_does_109 rfl (fun _ => ?_) rfl (fun _ => ?_)
    · refine Ex.iconst (M := mX7_does) (pc2 := 117) dX7_does_116 ki_1 rfl ?_
      refine Ex.iload_n (M := mX7_does) (pc2 := 118) dX7_does_117 rfl rfl rfl ?_
      refine Ex.iadd (M := mX7_does) (pc2 := 119) dX7_does_118 rfl ?_
      refine Ey.guard (fun hz9 => ?_)
      refine Ey.iastore (M := mX7_does) (pc2 := 120) dX7_does_119 sh_70 rfl hz9 rfl ?_
      refine Ex.iload (M := mX7_does) (pc2 := 122) dX7_does_120 rfl rfl ?_
      exact Ey.ireturn (M := mX7_does) dX7_does_122 rfl rfl
    · refine Ex.iconst (M := mX7_does) (pc2 := 113) dX7_does_112 ki_0 rfl ?_
      refine Ex.goto (M := mX7_does) (tgt := 119) dX7_does_113 rfl ?_
      refine Ey.guard (fun hz10 => ?_)
      refine Ey.iastore (M := mX7_does) (pc2 := 120) dX7_does_119 sh_70 rfl hz10 rfl ?_
      refine Ex.iload (M := mX7_does) (pc2 := 122) dX7_does_120 rfl rfl ?_
      exact Ey.ireturn (M := mX7_does) dX7_does_122 rfl rfl
  · refine Ex.aload_n (M := mX7_does) (pc2 := 95) dX7_does_94 rfl rfl rfl ?_
    refine Ex.getR (M := mX7_does) (pc2 := 98) dX7_does_95 xck7 lfX7_7 (Nat.le_of_ble_eq_true rfl) sh_69 rfl ff_69_0 rfl ?_
    refine Ex.aload_n (M := mX7_does) (pc2 := 99) dX7_does_98 rfl rfl rfl ?_
    refine Ex.iload_n (M := mX7_does) (pc2 := 100) dX7_does_99 rfl rfl rfl ?_
    refine Ey.callVi (M := mX7_does) (pc2 := 103) (as := [.inl l1]) (rest := [.inr (some 70), .inl r8, .inr (some 70)]) rfl dX7_does_100 isX7_edgeOf lcX7_74 sh_69 rfl rfl ⟨(Nat.le_of_ble_eq_true rfl), (Nat.le_of_ble_eq_true rfl)⟩ rfl (Nat.le_of_ble_eq_true rfl) (Nat.le_of_ble_eq_true rfl) (t_X7_edgeOf l1 I8) rfl (fun r11 I11 => ?_)
    refine Ey.guard (fun hz12 => ?_)
    refine Ey.iaload (M := mX7_does) (pc2 := 104) dX7_does_103 sh_70 rfl hz12 rfl ?_
    refine Ex.goto (M := mX7_does) (tgt := 119) dX7_does_104 rfl ?_
    refine Ey.guard (fun hz13 => ?_)
    refine Ey.iastore (M := mX7_does) (pc2 := 120) dX7_does_119 sh_70 rfl hz13 rfl ?_
    refine Ex.iload (M := mX7_does) (pc2 := 122) dX7_does_120 rfl rfl ?_
    exact Ey.ireturn (M := mX7_does) dX7_does_122 rfl rfl
def f_X7_does (l1 : Int32) (I : xI) : Option (Int32 × xI) :=
  xb (f_X7_of l1 (0 : Int32) I) (fun r14 I14 => xb (f_X7_of l1 (1 : Int32) I14) (fun r15 I15 => xb (f_X7_of l1 (2 : Int32) I15) (fun r16 I16 => if r15 ≠ (3 : Int32) then if r15 = (2 : Int32) then xb (f_X7_whyClaim r16 I16) (fun r17 I17 => f_X7_does_134 xZ r14 r17 (0 : Int32) I17) else if r15 ≠ (1 : Int32) then f_X7_does_67 l1 r14 r15 (0 : Int32) I16 else f_X7_does_67 l1 r14 r15 (1 : Int32) I16 else xb (f_X7_of l1 (3 : Int32) I16) (fun r18 I18 => if xin ((6 : Int32) + r14) 742 then some ((0 : Int32), (xup I18 70 (((6 : Int32) + r14).toNatClampNeg) ((I16 70 0) + r18))) else none))))
theorem t_X7_does (l1 : Int32) (I : xI) : Ey none mX7_does 0 [some (.inr (some 69)), some (.inl l1), none, none, none, none, none] [] I (f_X7_does l1 I) := by
  unfold f_X7_does
  refine Ex.aload_n (M := mX7_does) (pc2 := 1) dX7_does_0 rfl rfl rfl ?_
  refine Ex.iload_n (M := mX7_does) (pc2 := 2) dX7_does_1 rfl rfl rfl ?_
  refine Ex.iconst (M := mX7_does) (pc2 := 3) dX7_does_2 ki_0 rfl ?_
  refine Ey.callVi (M := mX7_does) (pc2 := 6) (as := [.inl l1, .inl (0 : Int32)]) (rest := []) rfl dX7_does_3 isX7_of lcX7_68 sh_69 rfl rfl ⟨(Nat.le_of_ble_eq_true rfl), (Nat.le_of_ble_eq_true rfl)⟩ rfl (Nat.le_of_ble_eq_true rfl) (Nat.le_of_ble_eq_true rfl) (t_X7_of l1 (0 : Int32) I) rfl (fun r14 I14 => ?_)
  refine Ey.istore_n (M := mX7_does) (pc2 := 7) dX7_does_6 rfl (Nat.le_of_ble_eq_true rfl) rfl rfl ?_
  refine Ex.aload_n (M := mX7_does) (pc2 := 8) dX7_does_7 rfl rfl rfl ?_
  refine Ex.iload_n (M := mX7_does) (pc2 := 9) dX7_does_8 rfl rfl rfl ?_
  refine Ex.iconst (M := mX7_does) (pc2 := 10) dX7_does_9 ki_1 rfl ?_
  refine Ey.callVi (M := mX7_does) (pc2 := 13) (as := [.inl l1, .inl (1 : Int32)]) (rest := []) rfl dX7_does_10 isX7_of lcX7_68 sh_69 rfl rfl ⟨(Nat.le_of_ble_eq_true rfl), (Nat.le_of_ble_eq_true rfl)⟩ rfl (Nat.le_of_ble_eq_true rfl) (Nat.le_of_ble_eq_true rfl) (t_X7_of l1 (1 : Int32) I14) rfl (fun r15 I15 => ?_)
  refine Ey.istore_n (M := mX7_does) (pc2 := 14) dX7_does_13 rfl (Nat.le_of_ble_eq_true rfl) rfl rfl ?_
  refine Ex.aload_n (M := mX7_does) (pc2 := 15) dX7_does_14 rfl rfl rfl ?_
  refine Ex.iload_n (M := mX7_does) (pc2 := 16) dX7_does_15 rfl rfl rfl ?_
  refine Ex.iconst (M := mX7_does) (pc2 := 17) dX7_does_16 ki_2 rfl ?_
  refine Ey.callVi (M := mX7_does) (pc2 := 20) (as := [.inl l1, .inl (2 : Int32)]) (rest := []) rfl dX7_does_17 isX7_of lcX7_68 sh_69 rfl rfl ⟨(Nat.le_of_ble_eq_true rfl), (Nat.le_of_ble_eq_true rfl)⟩ rfl (Nat.le_of_ble_eq_true rfl) (Nat.le_of_ble_eq_true rfl) (t_X7_of l1 (2 : Int32) I15) rfl (fun r16 I16 => ?_)
  refine Ey.istore (M := mX7_does) (pc2 := 22) dX7_does_20 (Nat.le_of_ble_eq_true rfl) rfl rfl ?_
  refine Ex.iload_n (M := mX7_does) (pc2 := 23) dX7_does_22 rfl rfl rfl ?_
  refine Ex.iconst (M := mX7_does) (pc2 := 24) dX7_does_23 ki_3 rfl ?_
  refine Ey.icmp_ne (M := mX7_does) (tgt := 51) (pc2 := 27) dX7_does_24 rfl (fun _ => ?_) rfl (fun _ => ?_)
  · refine Ex.iload_n (M := mX7_does) (pc2 := 52) dX7_does_51 rfl rfl rfl ?_
    refine Ex.iconst (M := mX7_does) (pc2 := 53) dX7_does_52 ki_2 rfl ?_
    refine Ey.icmp_eq (M := mX7_does) (tgt := 123) (pc2 := 56) dX7_does_53 rfl (fun _ => ?_) rfl (fun _ => ?_)
    · refine Ex.aload_n (M := mX7_does) (pc2 := 124) dX7_does_123 rfl rfl rfl ?_
      refine Ex.iload (M := mX7_does) (pc2 := 126) dX7_does_124 rfl rfl ?_
      refine Ey.callVi (M := mX7_does) (pc2 := 129) (as := [.inl r16]) (rest := []) rfl dX7_does_126 isX7_whyClaim lcX7_81 sh_69 rfl rfl ⟨(Nat.le_of_ble_eq_true rfl), (Nat.le_of_ble_eq_true rfl)⟩ rfl (Nat.le_of_ble_eq_true rfl) (Nat.le_of_ble_eq_true rfl) (t_X7_whyClaim r16 I16) rfl (fun r17 I17 => ?_)
      refine Ey.istore (M := mX7_does) (pc2 := 131) dX7_does_129 (Nat.le_of_ble_eq_true rfl) rfl rfl ?_
      refine Ex.iconst (M := mX7_does) (pc2 := 132) dX7_does_131 ki_0 rfl ?_
      refine Ey.istore (M := mX7_does) (pc2 := 134) dX7_does_132 (Nat.le_of_ble_eq_true rfl) rfl rfl ?_
      exact t_X7_does_134 xZ _ _ _ _ _ _ _
    · refine Ex.aload_n (M := mX7_does) (pc2 := 57) dX7_does_56 rfl rfl rfl ?_
      refine Ex.iload_n (M := mX7_does) (pc2 := 58) dX7_does_57 rfl rfl rfl ?_
      refine Ex.iconst (M := mX7_does) (pc2 := 59) dX7_does_58 ki_1 rfl ?_
      refine Ey.icmp_ne (M := mX7_does) (tgt := 66) (pc2 := 62) dX7_does_59 rfl (fun _ => ?_) rfl (fun _ => ?_)
      · refine Ex.iconst (M := mX7_does) (pc2 := 67) dX7_does_66 ki_0 rfl ?_
        exact t_X7_does_67 _ _ _ _ _ _ _ _
      · refine Ex.iconst (M := mX7_does) (pc2 := 63) dX7_does_62 ki_1 rfl ?_
        refine Ex.goto (M := mX7_does) (tgt := 67) dX7_does_63 rfl ?_
        exact t_X7_does_67 _ _ _ _ _ _ _ _
  · refine Ex.aload_n (M := mX7_does) (pc2 := 28) dX7_does_27 rfl rfl rfl ?_
    refine Ex.getR (M := mX7_does) (pc2 := 31) dX7_does_28 xck7 lfX7_7 (Nat.le_of_ble_eq_true rfl) sh_69 rfl ff_69_0 rfl ?_
    refine Ex.bipush (M := mX7_does) (pc2 := 33) dX7_does_31 kb_6 rfl ?_
    refine Ex.iload_n (M := mX7_does) (pc2 := 34) dX7_does_33 rfl rfl rfl ?_
    refine Ex.iadd (M := mX7_does) (pc2 := 35) dX7_does_34 rfl ?_
    refine Ex.aload_n (M := mX7_does) (pc2 := 36) dX7_does_35 rfl rfl rfl ?_
    refine Ex.getR (M := mX7_does) (pc2 := 39) dX7_does_36 xck7 lfX7_7 (Nat.le_of_ble_eq_true rfl) sh_69 rfl ff_69_0 rfl ?_
    refine Ex.iconst (M := mX7_does) (pc2 := 40) dX7_does_39 ki_0 rfl ?_
    refine Ey.iaload (M := mX7_does) (pc2 := 41) dX7_does_40 sh_70 kn_0 (by decide) rfl ?_
    refine Ex.aload_n (M := mX7_does) (pc2 := 42) dX7_does_41 rfl rfl rfl ?_
    refine Ex.iload_n (M := mX7_does) (pc2 := 43) dX7_does_42 rfl rfl rfl ?_
    refine Ex.iconst (M := mX7_does) (pc2 := 44) dX7_does_43 ki_3 rfl ?_
    refine Ey.callVi (M := mX7_does) (pc2 := 47) (as := [.inl l1, .inl (3 : Int32)]) (rest := [.inl (I16 70 0), .inl ((6 : Int32) + r14), .inr (some 70)]) rfl dX7_does_44 isX7_of lcX7_68 sh_69 rfl rfl ⟨(Nat.le_of_ble_eq_true rfl), (Nat.le_of_ble_eq_true rfl)⟩ rfl (Nat.le_of_ble_eq_true rfl) (Nat.le_of_ble_eq_true rfl) (t_X7_of l1 (3 : Int32) I16) rfl (fun r18 I18 => ?_)
    refine Ex.iadd (M := mX7_does) (pc2 := 48) dX7_does_47 rfl ?_
    refine Ey.guard (fun hz19 => ?_)
    refine Ey.iastore (M := mX7_does) (pc2 := 49) dX7_does_48 sh_70 rfl hz19 rfl ?_
    refine Ex.iconst (M := mX7_does) (pc2 := 50) dX7_does_49 ki_0 rfl ?_
    exact Ey.ireturn (M := mX7_does) dX7_does_50 rfl rfl
/-! FenceDuelModel.doesSecond(I)I -/
def f_X7_doesSecond_111b (k111 : Int32 → xI → Option (Int32 × xI)) (l4 : Int32) (I : xI) : Option (Int32 × xI) :=
  if l4 ≥ (48 : Int32) then some ((6 : Int32), I) else xb (f_X7_isTaken l4 I) (fun r1 I1 => if r1 = 0 then if xin ((94 : Int32) + l4) 742 then if xin ((94 : Int32) + l4) 742 then k111 (l4 + 1) (xup I1 70 (((94 : Int32) + l4).toNatClampNeg) (I1 70 (((94 : Int32) + l4).toNatClampNeg))) else none else none else if xin ((94 : Int32) + l4) 742 then k111 (l4 + 1) (xup I1 70 (((94 : Int32) + l4).toNatClampNeg) (-5 : Int32)) else none)
theorem t_X7_doesSecond_111b (k111 : Int32 → xI → Option (Int32 × xI)) (hk111 : ∀ (l4 : Int32) (d1 : Option xV) (d2 : Option xV) (d3 : Option xV) (I : xI), Ey none mX7_doesSecond 111 [some (.inr (some 69)), d1, d2, d3, some (.inl l4)] [] I (k111 l4 I)) (d1 : Option xV) (d2 : Option xV) (d3 : Option xV) (l4 : Int32) (I : xI) : Ey none mX7_doesSecond 111 [some (.inr (some 69)), d1, d2, d3, some (.inl l4)] [] I (f_X7_doesSecond_111b k111 l4 I) := by
  unfold f_X7_doesSecond_111b
  refine Ex.iload (M := mX7_doesSecond) (pc2 := 113) dX7_doesSecond_111 rfl rfl ?_
  refine Ex.bipush (M := mX7_doesSecond) (pc2 := 115) dX7_doesSecond_113 kb_48 rfl ?_
  refine Ey.icmp_ge (M := mX7_doesSecond) (tgt := 158) (pc2 := 118) dX7_doesSecond_115 rfl (fun _ => ?_) rfl (fun _ => ?_)
  · refine Ex.bipush (M := mX7_doesSecond) (pc2 := 160) dX7_doesSecond_158 kb_6 rfl ?_
    exact Ey.ireturn (M := mX7_doesSecond) dX7_doesSecond_160 rfl rfl
  · refine Ex.aload_n (M := mX7_doesSecond) (pc2 := 119) dX7_doesSecond_118 rfl rfl rfl ?_
    refine Ex.getR (M := mX7_doesSecond) (pc2 := 122) dX7_doesSecond_119 xck7 lfX7_7 (Nat.le_of_ble_eq_true rfl) sh_69 rfl ff_69_0 rfl ?_
    refine Ex.bipush (M := mX7_doesSecond) (pc2 := 124) dX7_doesSecond_122 kb_94 rfl ?_
    refine Ex.iload (M := mX7_doesSecond) (pc2 := 126) dX7_doesSecond_124 rfl rfl ?_
    refine Ex.iadd (M := mX7_doesSecond) (pc2 := 127) dX7_doesSecond_126 rfl ?_
    refine Ex.aload_n (M := mX7_doesSecond) (pc2 := 128) dX7_doesSecond_127 rfl rfl rfl ?_
    refine Ex.iload (M := mX7_doesSecond) (pc2 := 130) dX7_doesSecond_128 rfl rfl ?_
    refine Ey.callVi (M := mX7_doesSecond) (pc2 := 133) (as := [.inl l4]) (rest := [.inl ((94 : Int32) + l4), .inr (some 70)]) rfl dX7_doesSecond_130 isX7_isTaken lcX7_84 sh_69 rfl rfl ⟨(Nat.le_of_ble_eq_true rfl), (Nat.le_of_ble_eq_true rfl)⟩ rfl (Nat.le_of_ble_eq_true rfl) (Nat.le_of_ble_eq_true rfl) (t_X7_isTaken l4 I) rfl (fun r1 I1 => ?_)
    refine Ey.if_eq (M := mX7_doesSecond) (tgt := 141) (pc2 := 136) dX7_doesSecond_133 rfl (fun _ => ?_) rfl (fun _ => ?_)
    · refine Ex.aload_n (M := mX7_doesSecond) (pc2 := 142) dX7_doesSecond_141 rfl rfl rfl ?_
      refine Ex.getR (M := mX7_doesSecond) (pc2 := 145) dX7_doesSecond_142 xck7 lfX7_7 (Nat.le_of_ble_eq_true rfl) sh_69 rfl ff_69_0 rfl ?_
      refine Ex.bipush (M := mX7_doesSecond) (pc2 := 147) dX7_doesSecond_145 kb_94 rfl ?_
      refine Ex.iload (M := mX7_doesSecond) (pc2 := 149) dX7_doesSecond_147 rfl rfl ?_
      refine Ex.iadd (M := mX7_doesSecond) (pc2 := 150) dX7_doesSecond_149 rfl ?_
      refine Ey.guard (fun hz2 => ?_)
      refine Ey.iaload (M := mX7_doesSecond) (pc2 := 151) dX7_doesSecond_150 sh_70 rfl hz2 rfl ?_
      refine Ey.guard (fun hz3 => ?_)
      refine Ey.iastore (M := mX7_doesSecond) (pc2 := 152) dX7_doesSecond_151 sh_70 rfl hz3 rfl ?_
      refine Ey.iinc (M := mX7_doesSecond) (pc2 := 155) dX7_doesSecond_152 rfl ki_1 (Nat.le_of_ble_eq_true rfl) rfl rfl ?_
      refine Ex.goto (M := mX7_doesSecond) (tgt := 111) dX7_doesSecond_155 rfl ?_
      exact hk111 _ _ _ _ _
    · refine Ex.bipush (M := mX7_doesSecond) (pc2 := 138) dX7_doesSecond_136 kb_m5 rfl ?_
      refine Ex.goto (M := mX7_doesSecond) (tgt := 151) dX7_doesSecond_138 rfl ?_
      refine Ey.guard (fun hz4 => ?_)
      refine Ey.iastore (M := mX7_doesSecond) (pc2 := 152) dX7_doesSecond_151 sh_70 rfl hz4 rfl ?_
      refine Ey.iinc (M := mX7_doesSecond) (pc2 := 155) dX7_doesSecond_152 rfl ki_1 (Nat.le_of_ble_eq_true rfl) rfl rfl ?_
      refine Ex.goto (M := mX7_doesSecond) (tgt := 111) dX7_doesSecond_155 rfl ?_
      exact hk111 _ _ _ _ _
def f_X7_doesSecond_111 : Nat → Int32 → xI → Option (Int32 × xI)
  | 0, _, _ => none
  | n + 1, l4, I => f_X7_doesSecond_111b (fun l4 I => f_X7_doesSecond_111 n l4 I) l4 I
theorem t_X7_doesSecond_111 : ∀ (n : Nat) (d1 : Option xV) (d2 : Option xV) (d3 : Option xV) (l4 : Int32) (I : xI), Ey none mX7_doesSecond 111 [some (.inr (some 69)), d1, d2, d3, some (.inl l4)] [] I (f_X7_doesSecond_111 n l4 I)
  | 0, d1, d2, d3, l4, I => Ey.nil
  | n + 1, d1, d2, d3, l4, I => t_X7_doesSecond_111b (fun l4 I => f_X7_doesSecond_111 n l4 I) (fun l4 d1 d2 d3 I => t_X7_doesSecond_111 n d1 d2 d3 l4 I) d1 d2 d3 l4 I
def f_X7_doesSecond_90 (l1 : Int32) (l3 : Int32) (I : xI) : Option (Int32 × xI) :=
  if l3 ≠ (2 : Int32) then some ((-5 : Int32), I) else xb (f_X7_of l1 (2 : Int32) I) (fun r5 I5 => xb (f_X7_isTaken r5 I5) (fun r6 I6 => if r6 = 0 then some ((-5 : Int32), I6) else f_X7_doesSecond_111 xZ (0 : Int32) I6))
theorem t_X7_doesSecond_90 (l1 : Int32) (d2 : Option xV) (l3 : Int32) (d4 : Option xV) (I : xI) : Ey none mX7_doesSecond 90 [some (.inr (some 69)), some (.inl l1), d2, some (.inl l3), d4] [] I (f_X7_doesSecond_90 l1 l3 I) := by
  unfold f_X7_doesSecond_90
  refine Ex.iload_n (M := mX7_doesSecond) (pc2 := 91) dX7_doesSecond_90 rfl rfl rfl ?_
  refine Ex.iconst (M := mX7_doesSecond) (pc2 := 92) dX7_doesSecond_91 ki_2 rfl ?_
  refine Ey.icmp_ne (M := mX7_doesSecond) (tgt := 161) (pc2 := 95) dX7_doesSecond_92 rfl (fun _ => ?_) rfl (fun _ => ?_)
  · refine Ex.bipush (M := mX7_doesSecond) (pc2 := 163) dX7_doesSecond_161 kb_m5 rfl ?_
    exact Ey.ireturn (M := mX7_doesSecond) dX7_doesSecond_163 rfl rfl
  · refine Ex.aload_n (M := mX7_doesSecond) (pc2 := 96) dX7_doesSecond_95 rfl rfl rfl ?_
    refine Ex.aload_n (M := mX7_doesSecond) (pc2 := 97) dX7_doesSecond_96 rfl rfl rfl ?_
    refine Ex.iload_n (M := mX7_doesSecond) (pc2 := 98) dX7_doesSecond_97 rfl rfl rfl ?_
    refine Ex.iconst (M := mX7_doesSecond) (pc2 := 99) dX7_doesSecond_98 ki_2 rfl ?_
    refine Ey.callVi (M := mX7_doesSecond) (pc2 := 102) (as := [.inl l1, .inl (2 : Int32)]) (rest := [.inr (some 69)]) rfl dX7_doesSecond_99 isX7_of lcX7_68 sh_69 rfl rfl ⟨(Nat.le_of_ble_eq_true rfl), (Nat.le_of_ble_eq_true rfl)⟩ rfl (Nat.le_of_ble_eq_true rfl) (Nat.le_of_ble_eq_true rfl) (t_X7_of l1 (2 : Int32) I) rfl (fun r5 I5 => ?_)
    refine Ey.callVi (M := mX7_doesSecond) (pc2 := 105) (as := [.inl r5]) (rest := []) rfl dX7_doesSecond_102 isX7_isTaken lcX7_84 sh_69 rfl rfl ⟨(Nat.le_of_ble_eq_true rfl), (Nat.le_of_ble_eq_true rfl)⟩ rfl (Nat.le_of_ble_eq_true rfl) (Nat.le_of_ble_eq_true rfl) (t_X7_isTaken r5 I5) rfl (fun r6 I6 => ?_)
    refine Ey.if_eq (M := mX7_doesSecond) (tgt := 161) (pc2 := 108) dX7_doesSecond_105 rfl (fun _ => ?_) rfl (fun _ => ?_)
    · refine Ex.bipush (M := mX7_doesSecond) (pc2 := 163) dX7_doesSecond_161 kb_m5 rfl ?_
      exact Ey.ireturn (M := mX7_doesSecond) dX7_doesSecond_163 rfl rfl
    · refine Ex.iconst (M := mX7_doesSecond) (pc2 := 109) dX7_doesSecond_108 ki_0 rfl ?_
      refine Ey.istore (M := mX7_doesSecond) (pc2 := 111) dX7_doesSecond_109 (Nat.le_of_ble_eq_true rfl) rfl rfl ?_
      exact t_X7_doesSecond_111 xZ _ _ _ _ _
def f_X7_doesSecond (l1 : Int32) (I : xI) : Option (Int32 × xI) :=
  xb (f_X7_of l1 (1 : Int32) I) (fun r7 I7 => xb (f_X7_of (I 70 8) (1 : Int32) I7) (fun r8 I8 => if r7 ≠ r8 then some ((-5 : Int32), I8) else xb (f_X7_of (I 70 8) (6 : Int32) I8) (fun r9 I9 => if r9 = (1 : Int32) then if r7 ≠ 0 then f_X7_doesSecond_90 l1 r7 I9 else xb (f_X7_edgeOf l1 I9) (fun r10 I10 => xb (f_X7_edgeOf (I 70 8) I10) (fun r11 I11 => if r10 ≠ r11 then f_X7_doesSecond_90 l1 r7 I11 else xb (f_X7_edgeOf l1 I11) (fun r12 I12 => if xin r12 742 then xb (f_X7_of (I 70 8) (0 : Int32) I12) (fun r14 I14 => if (I12 70 r12.toNatClampNeg) ≠ ((1 : Int32) + r14) then f_X7_doesSecond_90 l1 r7 I14 else xb (f_X7_edgeOf l1 I14) (fun r15 I15 => if xin r15 742 then some ((0 : Int32), (xup I15 70 r15.toNatClampNeg (3 : Int32))) else none)) else none))) else some ((-5 : Int32), I9))))
theorem t_X7_doesSecond (l1 : Int32) (I : xI) : Ey none mX7_doesSecond 0 [some (.inr (some 69)), some (.inl l1), none, none, none] [] I (f_X7_doesSecond l1 I) := by
  unfold f_X7_doesSecond
  refine Ex.aload_n (M := mX7_doesSecond) (pc2 := 1) dX7_doesSecond_0 rfl rfl rfl ?_
  refine Ex.getR (M := mX7_doesSecond) (pc2 := 4) dX7_doesSecond_1 xck7 lfX7_7 (Nat.le_of_ble_eq_true rfl) sh_69 rfl ff_69_0 rfl ?_
  refine Ex.bipush (M := mX7_doesSecond) (pc2 := 6) dX7_doesSecond_4 kb_8 rfl ?_
  refine Ey.iaload (M := mX7_doesSecond) (pc2 := 7) dX7_doesSecond_6 sh_70 kn_8 (by decide) rfl ?_
  refine Ey.istore_n (M := mX7_doesSecond) (pc2 := 8) dX7_doesSecond_7 rfl (Nat.le_of_ble_eq_true rfl) rfl rfl ?_
  refine Ex.aload_n (M := mX7_doesSecond) (pc2 := 9) dX7_doesSecond_8 rfl rfl rfl ?_
  refine Ex.iload_n (M := mX7_doesSecond) (pc2 := 10) dX7_doesSecond_9 rfl rfl rfl ?_
  refine Ex.iconst (M := mX7_doesSecond) (pc2 := 11) dX7_doesSecond_10 ki_1 rfl ?_
  refine Ey.callVi (M := mX7_doesSecond) (pc2 := 14) (as := [.inl l1, .inl (1 : Int32)]) (rest := []) rfl dX7_doesSecond_11 isX7_of lcX7_68 sh_69 rfl rfl ⟨(Nat.le_of_ble_eq_true rfl), (Nat.le_of_ble_eq_true rfl)⟩ rfl (Nat.le_of_ble_eq_true rfl) (Nat.le_of_ble_eq_true rfl) (t_X7_of l1 (1 : Int32) I) rfl (fun r7 I7 => ?_)
  refine Ey.istore_n (M := mX7_doesSecond) (pc2 := 15) dX7_doesSecond_14 rfl (Nat.le_of_ble_eq_true rfl) rfl rfl ?_
  refine Ex.iload_n (M := mX7_doesSecond) (pc2 := 16) dX7_doesSecond_15 rfl rfl rfl ?_
  refine Ex.aload_n (M := mX7_doesSecond) (pc2 := 17) dX7_doesSecond_16 rfl rfl rfl ?_
  refine Ex.iload_n (M := mX7_doesSecond) (pc2 := 18) dX7_doesSecond_17 rfl rfl rfl ?_
  refine Ex.iconst (M := mX7_doesSecond) (pc2 := 19) dX7_doesSecond_18 ki_1 rfl ?_
  refine Ey.callVi (M := mX7_doesSecond) (pc2 := 22) (as := [.inl (I 70 8), .inl (1 : Int32)]) (rest := [.inl r7]) rfl dX7_doesSecond_19 isX7_of lcX7_68 sh_69 rfl rfl ⟨(Nat.le_of_ble_eq_true rfl), (Nat.le_of_ble_eq_true rfl)⟩ rfl (Nat.le_of_ble_eq_true rfl) (Nat.le_of_ble_eq_true rfl) (t_X7_of (I 70 8) (1 : Int32) I7) rfl (fun r8 I8 => ?_)
  refine Ey.icmp_ne (M := mX7_doesSecond) (tgt := 36) (pc2 := 25) dX7_doesSecond_22 rfl (fun _ => ?_) rfl (fun _ => ?_)
  · refine Ex.bipush (M := mX7_doesSecond) (pc2 := 38) dX7_doesSecond_36 kb_m5 rfl ?_
    exact Ey.ireturn (M := mX7_doesSecond) dX7_doesSecond_38 rfl rfl
  · refine Ex.aload_n (M := mX7_doesSecond) (pc2 := 26) dX7_doesSecond_25 rfl rfl rfl ?_
    refine Ex.iload_n (M := mX7_doesSecond) (pc2 := 27) dX7_doesSecond_26 rfl rfl rfl ?_
    refine Ex.bipush (M := mX7_doesSecond) (pc2 := 29) dX7_doesSecond_27 kb_6 rfl ?_
    refine Ey.callVi (M := mX7_doesSecond) (pc2 := 32) (as := [.inl (I 70 8), .inl (6 : Int32)]) (rest := []) rfl dX7_doesSecond_29 isX7_of lcX7_68 sh_69 rfl rfl ⟨(Nat.le_of_ble_eq_true rfl), (Nat.le_of_ble_eq_true rfl)⟩ rfl (Nat.le_of_ble_eq_true rfl) (Nat.le_of_ble_eq_true rfl) (t_X7_of (I 70 8) (6 : Int32) I8) rfl (fun r9 I9 => ?_)
    refine Ex.iconst (M := mX7_doesSecond) (pc2 := 33) dX7_doesSecond_32 ki_1 rfl ?_
    refine Ey.icmp_eq (M := mX7_doesSecond) (tgt := 39) (pc2 := 36) dX7_doesSecond_33 rfl (fun _ => ?_) rfl (fun _ => ?_)
    · refine Ex.iload_n (M := mX7_doesSecond) (pc2 := 40) dX7_doesSecond_39 rfl rfl rfl ?_
      refine Ey.if_ne (M := mX7_doesSecond) (tgt := 90) (pc2 := 43) dX7_doesSecond_40 rfl (fun _ => ?_) rfl (fun _ => ?_)
      · exact t_X7_doesSecond_90 _ _ _ _ _
      · refine Ex.aload_n (M := mX7_doesSecond) (pc2 := 44) dX7_doesSecond_43 rfl rfl rfl ?_
        refine Ex.iload_n (M := mX7_doesSecond) (pc2 := 45) dX7_doesSecond_44 rfl rfl rfl ?_
        refine Ey.callVi (M := mX7_doesSecond) (pc2 := 48) (as := [.inl l1]) (rest := []) rfl dX7_doesSecond_45 isX7_edgeOf lcX7_74 sh_69 rfl rfl ⟨(Nat.le_of_ble_eq_true rfl), (Nat.le_of_ble_eq_true rfl)⟩ rfl (Nat.le_of_ble_eq_true rfl) (Nat.le_of_ble_eq_true rfl) (t_X7_edgeOf l1 I9) rfl (fun r10 I10 => ?_)
        refine Ex.aload_n (M := mX7_doesSecond) (pc2 := 49) dX7_doesSecond_48 rfl rfl rfl ?_
        refine Ex.iload_n (M := mX7_doesSecond) (pc2 := 50) dX7_doesSecond_49 rfl rfl rfl ?_
        refine Ey.callVi (M := mX7_doesSecond) (pc2 := 53) (as := [.inl (I 70 8)]) (rest := [.inl r10]) rfl dX7_doesSecond_50 isX7_edgeOf lcX7_74 sh_69 rfl rfl ⟨(Nat.le_of_ble_eq_true rfl), (Nat.le_of_ble_eq_true rfl)⟩ rfl (Nat.le_of_ble_eq_true rfl) (Nat.le_of_ble_eq_true rfl) (t_X7_edgeOf (I 70 8) I10) rfl (fun r11 I11 => ?_)
        refine Ey.icmp_ne (M := mX7_doesSecond) (tgt := 90) (pc2 := 56) dX7_doesSecond_53 rfl (fun _ => ?_) rfl (fun _ => ?_)
        · exact t_X7_doesSecond_90 _ _ _ _ _
        · refine Ex.aload_n (M := mX7_doesSecond) (pc2 := 57) dX7_doesSecond_56 rfl rfl rfl ?_
          refine Ex.getR (M := mX7_doesSecond) (pc2 := 60) dX7_doesSecond_57 xck7 lfX7_7 (Nat.le_of_ble_eq_true rfl) sh_69 rfl ff_69_0 rfl ?_
          refine Ex.aload_n (M := mX7_doesSecond) (pc2 := 61) dX7_doesSecond_60 rfl rfl rfl ?_
          refine Ex.iload_n (M := mX7_doesSecond) (pc2 := 62) dX7_doesSecond_61 rfl rfl rfl ?_
          refine Ey.callVi (M := mX7_doesSecond) (pc2 := 65) (as := [.inl l1]) (rest := [.inr (some 70)]) rfl dX7_doesSecond_62 isX7_edgeOf lcX7_74 sh_69 rfl rfl ⟨(Nat.le_of_ble_eq_true rfl), (Nat.le_of_ble_eq_true rfl)⟩ rfl (Nat.le_of_ble_eq_true rfl) (Nat.le_of_ble_eq_true rfl) (t_X7_edgeOf l1 I11) rfl (fun r12 I12 => ?_)
          refine Ey.guard (fun hz13 => ?_)
          refine Ey.iaload (M := mX7_doesSecond) (pc2 := 66) dX7_doesSecond_65 sh_70 rfl hz13 rfl ?_
          refine Ex.iconst (M := mX7_doesSecond) (pc2 := 67) dX7_doesSecond_66 ki_1 rfl ?_
          refine Ex.aload_n (M := mX7_doesSecond) (pc2 := 68) dX7_doesSecond_67 rfl rfl rfl ?_
          refine Ex.iload_n (M := mX7_doesSecond) (pc2 := 69) dX7_doesSecond_68 rfl rfl rfl ?_
          refine Ex.iconst (M := mX7_doesSecond) (pc2 := 70) dX7_doesSecond_69 ki_0 rfl ?_
          refine Ey.callVi (M := mX7_doesSecond) (pc2 := 73) (as := [.inl (I 70 8), .inl (0 : Int32)]) (rest := [.inl (1 : Int32), .inl (I12 70 r12.toNatClampNeg)]) rfl dX7_doesSecond_70 isX7_of lcX7_68 sh_69 rfl rfl ⟨(Nat.le_of_ble_eq_true rfl), (Nat.le_of_ble_eq_true rfl)⟩ rfl (Nat.le_of_ble_eq_true rfl) (Nat.le_of_ble_eq_true rfl) (t_X7_of (I 70 8) (0 : Int32) I12) rfl (fun r14 I14 => ?_)
          refine Ex.iadd (M := mX7_doesSecond) (pc2 := 74) dX7_doesSecond_73 rfl ?_
          refine Ey.icmp_ne (M := mX7_doesSecond) (tgt := 90) (pc2 := 77) dX7_doesSecond_74 rfl (fun _ => ?_) rfl (fun _ => ?_)
          · exact t_X7_doesSecond_90 _ _ _ _ _
          · refine Ex.aload_n (M := mX7_doesSecond) (pc2 := 78) dX7_doesSecond_77 rfl rfl rfl ?_
            refine Ex.getR (M := mX7_doesSecond) (pc2 := 81) dX7_doesSecond_78 xck7 lfX7_7 (Nat.le_of_ble_eq_true rfl) sh_69 rfl ff_69_0 rfl ?_
            refine Ex.aload_n (M := mX7_doesSecond) (pc2 := 82) dX7_doesSecond_81 rfl rfl rfl ?_
            refine Ex.iload_n (M := mX7_doesSecond) (pc2 := 83) dX7_doesSecond_82 rfl rfl rfl ?_
            refine Ey.callVi (M := mX7_doesSecond) (pc2 := 86) (as := [.inl l1]) (rest := [.inr (some 70)]) rfl dX7_doesSecond_83 isX7_edgeOf lcX7_74 sh_69 rfl rfl ⟨(Nat.le_of_ble_eq_true rfl), (Nat.le_of_ble_eq_true rfl)⟩ rfl (Nat.le_of_ble_eq_true rfl) (Nat.le_of_ble_eq_true rfl) (t_X7_edgeOf l1 I14) rfl (fun r15 I15 => ?_)
            refine Ex.iconst (M := mX7_doesSecond) (pc2 := 87) dX7_doesSecond_86 ki_3 rfl ?_
            refine Ey.guard (fun hz16 => ?_)
            refine Ey.iastore (M := mX7_doesSecond) (pc2 := 88) dX7_doesSecond_87 sh_70 rfl hz16 rfl ?_
            refine Ex.iconst (M := mX7_doesSecond) (pc2 := 89) dX7_doesSecond_88 ki_0 rfl ?_
            exact Ey.ireturn (M := mX7_doesSecond) dX7_doesSecond_89 rfl rfl
    · refine Ex.bipush (M := mX7_doesSecond) (pc2 := 38) dX7_doesSecond_36 kb_m5 rfl ?_
      exact Ey.ireturn (M := mX7_doesSecond) dX7_doesSecond_38 rfl rfl
/-! FenceDuelModel.comes(I)V -/
def f_X7_comes_35 (l1 : Int32) (l2 : Int32) (I : xI) : Option (Int32 × xI) :=
  xb (f_X7_at l1 (7 : Int32) I) (fun r1 I1 => if xin r1 742 then xb (f_X7_at l1 (6 : Int32) (xup I1 70 r1.toNatClampNeg l2)) (fun r3 I3 => if l2 ≤ 0 then if xin r3 742 then some (0, (xup I3 70 r3.toNatClampNeg (1 : Int32))) else none else if xin r3 742 then some (0, (xup I3 70 r3.toNatClampNeg (2 : Int32))) else none) else none)
theorem t_X7_comes_35 (l1 : Int32) (l2 : Int32) (I : xI) : Ey none mX7_comes 35 [some (.inr (some 69)), some (.inl l1), some (.inl l2)] [] I (f_X7_comes_35 l1 l2 I) := by
  unfold f_X7_comes_35
  refine Ex.aload_n (M := mX7_comes) (pc2 := 36) dX7_comes_35 rfl rfl rfl ?_
  refine Ex.getR (M := mX7_comes) (pc2 := 39) dX7_comes_36 xck7 lfX7_7 (Nat.le_of_ble_eq_true rfl) sh_69 rfl ff_69_0 rfl ?_
  refine Ex.iload_n (M := mX7_comes) (pc2 := 40) dX7_comes_39 rfl rfl rfl ?_
  refine Ex.bipush (M := mX7_comes) (pc2 := 42) dX7_comes_40 kb_7 rfl ?_
  refine Ey.callSi (M := mX7_comes) (pc2 := 45) (as := [.inl l1, .inl (7 : Int32)]) (rest := [.inr (some 70)]) rfl dX7_comes_42 isX7_at lcX7_43  rfl ⟨(Nat.le_of_ble_eq_true rfl), (Nat.le_of_ble_eq_true rfl)⟩ rfl (Nat.le_of_ble_eq_true rfl) (Nat.le_of_ble_eq_true rfl) (t_X7_at l1 (7 : Int32) I) rfl (fun r1 I1 => ?_)
  refine Ex.iload_n (M := mX7_comes) (pc2 := 46) dX7_comes_45 rfl rfl rfl ?_
  refine Ey.guard (fun hz2 => ?_)
  refine Ey.iastore (M := mX7_comes) (pc2 := 47) dX7_comes_46 sh_70 rfl hz2 rfl ?_
  refine Ex.aload_n (M := mX7_comes) (pc2 := 48) dX7_comes_47 rfl rfl rfl ?_
  refine Ex.getR (M := mX7_comes) (pc2 := 51) dX7_comes_48 xck7 lfX7_7 (Nat.le_of_ble_eq_true rfl) sh_69 rfl ff_69_0 rfl ?_
  refine Ex.iload_n (M := mX7_comes) (pc2 := 52) dX7_comes_51 rfl rfl rfl ?_
  refine Ex.bipush (M := mX7_comes) (pc2 := 54) dX7_comes_52 kb_6 rfl ?_
  refine Ey.callSi (M := mX7_comes) (pc2 := 57) (as := [.inl l1, .inl (6 : Int32)]) (rest := [.inr (some 70)]) rfl dX7_comes_54 isX7_at lcX7_43  rfl ⟨(Nat.le_of_ble_eq_true rfl), (Nat.le_of_ble_eq_true rfl)⟩ rfl (Nat.le_of_ble_eq_true rfl) (Nat.le_of_ble_eq_true rfl) (t_X7_at l1 (6 : Int32) (xup I1 70 r1.toNatClampNeg l2)) rfl (fun r3 I3 => ?_)
  refine Ex.iload_n (M := mX7_comes) (pc2 := 58) dX7_comes_57 rfl rfl rfl ?_
  refine Ey.if_le (M := mX7_comes) (tgt := 65) (pc2 := 61) dX7_comes_58 rfl (fun _ => ?_) rfl (fun _ => ?_)
  · refine Ex.iconst (M := mX7_comes) (pc2 := 66) dX7_comes_65 ki_1 rfl ?_
    refine Ey.guard (fun hz4 => ?_)
    refine Ey.iastore (M := mX7_comes) (pc2 := 67) dX7_comes_66 sh_70 rfl hz4 rfl ?_
    exact Ey.ret (M := mX7_comes) dX7_comes_67 rfl
  · refine Ex.iconst (M := mX7_comes) (pc2 := 62) dX7_comes_61 ki_2 rfl ?_
    refine Ex.goto (M := mX7_comes) (tgt := 66) dX7_comes_62 rfl ?_
    refine Ey.guard (fun hz5 => ?_)
    refine Ey.iastore (M := mX7_comes) (pc2 := 67) dX7_comes_66 sh_70 rfl hz5 rfl ?_
    exact Ey.ret (M := mX7_comes) dX7_comes_67 rfl
def f_X7_comes_18 (l1 : Int32) (s0 : Int32) (I : xI) : Option (Int32 × xI) :=
  if s0 ≠ (-5 : Int32) then f_X7_comes_35 l1 s0 I else xb (f_X7_forgetsTaken I) (fun _ I6 => xb (f_X7_does l1 I6) (fun r7 I7 => f_X7_comes_35 l1 r7 I7))
theorem t_X7_comes_18 (l1 : Int32) (d2 : Option xV) (s0 : Int32) (I : xI) : Ey none mX7_comes 18 [some (.inr (some 69)), some (.inl l1), d2] [.inl s0] I (f_X7_comes_18 l1 s0 I) := by
  unfold f_X7_comes_18
  refine Ey.istore_n (M := mX7_comes) (pc2 := 19) dX7_comes_18 rfl (Nat.le_of_ble_eq_true rfl) rfl rfl ?_
  refine Ex.iload_n (M := mX7_comes) (pc2 := 20) dX7_comes_19 rfl rfl rfl ?_
  refine Ex.bipush (M := mX7_comes) (pc2 := 22) dX7_comes_20 kb_m5 rfl ?_
  refine Ey.icmp_ne (M := mX7_comes) (tgt := 35) (pc2 := 25) dX7_comes_22 rfl (fun _ => ?_) rfl (fun _ => ?_)
  · exact t_X7_comes_35 _ _ _
  · refine Ex.aload_n (M := mX7_comes) (pc2 := 26) dX7_comes_25 rfl rfl rfl ?_
    refine Ey.callVv (M := mX7_comes) (pc2 := 29) (as := []) (rest := []) rfl dX7_comes_26 isX7_forgetsTaken lcX7_93 sh_69 rfl rfl ⟨(Nat.le_of_ble_eq_true rfl), (Nat.le_of_ble_eq_true rfl)⟩ rfl (Nat.le_of_ble_eq_true rfl) (Nat.le_of_ble_eq_true rfl) (t_X7_forgetsTaken I) rfl (fun I6 => ?_)
    refine Ex.aload_n (M := mX7_comes) (pc2 := 30) dX7_comes_29 rfl rfl rfl ?_
    refine Ex.iload_n (M := mX7_comes) (pc2 := 31) dX7_comes_30 rfl rfl rfl ?_
    refine Ey.callVi (M := mX7_comes) (pc2 := 34) (as := [.inl l1]) (rest := []) rfl dX7_comes_31 isX7_does lcX7_96 sh_69 rfl rfl ⟨(Nat.le_of_ble_eq_true rfl), (Nat.le_of_ble_eq_true rfl)⟩ rfl (Nat.le_of_ble_eq_true rfl) (Nat.le_of_ble_eq_true rfl) (t_X7_does l1 I6) rfl (fun r7 I7 => ?_)
    refine Ey.istore_n (M := mX7_comes) (pc2 := 35) dX7_comes_34 rfl (Nat.le_of_ble_eq_true rfl) rfl rfl ?_
    exact t_X7_comes_35 _ _ _
def f_X7_comes (l1 : Int32) (I : xI) : Option (Int32 × xI) :=
  xb (f_X7_isSecond l1 I) (fun r8 I8 => if r8 = 0 then f_X7_comes_18 l1 (-5 : Int32) I8 else xb (f_X7_doesSecond l1 I8) (fun r9 I9 => f_X7_comes_18 l1 r9 I9))
theorem t_X7_comes (l1 : Int32) (I : xI) : Ey none mX7_comes 0 [some (.inr (some 69)), some (.inl l1), none] [] I (f_X7_comes l1 I) := by
  unfold f_X7_comes
  refine Ex.aload_n (M := mX7_comes) (pc2 := 1) dX7_comes_0 rfl rfl rfl ?_
  refine Ex.iload_n (M := mX7_comes) (pc2 := 2) dX7_comes_1 rfl rfl rfl ?_
  refine Ey.callVi (M := mX7_comes) (pc2 := 5) (as := [.inl l1]) (rest := []) rfl dX7_comes_2 isX7_isSecond lcX7_87 sh_69 rfl rfl ⟨(Nat.le_of_ble_eq_true rfl), (Nat.le_of_ble_eq_true rfl)⟩ rfl (Nat.le_of_ble_eq_true rfl) (Nat.le_of_ble_eq_true rfl) (t_X7_isSecond l1 I) rfl (fun r8 I8 => ?_)
  refine Ey.if_eq (M := mX7_comes) (tgt := 16) (pc2 := 8) dX7_comes_5 rfl (fun _ => ?_) rfl (fun _ => ?_)
  · refine Ex.bipush (M := mX7_comes) (pc2 := 18) dX7_comes_16 kb_m5 rfl ?_
    exact t_X7_comes_18 _ _ _ _
  · refine Ex.aload_n (M := mX7_comes) (pc2 := 9) dX7_comes_8 rfl rfl rfl ?_
    refine Ex.iload_n (M := mX7_comes) (pc2 := 10) dX7_comes_9 rfl rfl rfl ?_
    refine Ey.callVi (M := mX7_comes) (pc2 := 13) (as := [.inl l1]) (rest := []) rfl dX7_comes_10 isX7_doesSecond lcX7_90 sh_69 rfl rfl ⟨(Nat.le_of_ble_eq_true rfl), (Nat.le_of_ble_eq_true rfl)⟩ rfl (Nat.le_of_ble_eq_true rfl) (Nat.le_of_ble_eq_true rfl) (t_X7_doesSecond l1 I8) rfl (fun r9 I9 => ?_)
    refine Ex.goto (M := mX7_comes) (tgt := 18) dX7_comes_13 rfl ?_
    exact t_X7_comes_18 _ _ _ _
/-! FenceDuelModel.day()I -/
def f_X7_day_14b (k14 : Int32 → Int32 → xI → Option (Int32 × xI)) (l1 : Int32) (l2 : Int32) (I : xI) : Option (Int32 × xI) :=
  if l2 ≥ (I 70 1) then some (l1, I) else xb (f_X7_of l2 (6 : Int32) I) (fun r1 I1 => if r1 ≠ 0 then k14 l1 (l2 + 1) I1 else xb (f_X7_of l2 (5 : Int32) I1) (fun r2 I2 => if r2 ≠ (I2 70 0) then k14 l1 (l2 + 1) I2 else xb (f_X7_comes l2 I2) (fun _ I3 => k14 (l1 + 1) (l2 + 1) I3)))
theorem t_X7_day_14b (k14 : Int32 → Int32 → xI → Option (Int32 × xI)) (hk14 : ∀ (l1 : Int32) (l2 : Int32) (I : xI), Ey none mX7_day 14 [some (.inr (some 69)), some (.inl l1), some (.inl l2)] [] I (k14 l1 l2 I)) (l1 : Int32) (l2 : Int32) (I : xI) : Ey none mX7_day 14 [some (.inr (some 69)), some (.inl l1), some (.inl l2)] [] I (f_X7_day_14b k14 l1 l2 I) := by
  unfold f_X7_day_14b
  refine Ex.iload_n (M := mX7_day) (pc2 := 15) dX7_day_14 rfl rfl rfl ?_
  refine Ex.aload_n (M := mX7_day) (pc2 := 16) dX7_day_15 rfl rfl rfl ?_
  refine Ex.getR (M := mX7_day) (pc2 := 19) dX7_day_16 xck7 lfX7_7 (Nat.le_of_ble_eq_true rfl) sh_69 rfl ff_69_0 rfl ?_
  refine Ex.iconst (M := mX7_day) (pc2 := 20) dX7_day_19 ki_1 rfl ?_
  refine Ey.iaload (M := mX7_day) (pc2 := 21) dX7_day_20 sh_70 kn_1 (by decide) rfl ?_
  refine Ey.icmp_ge (M := mX7_day) (tgt := 63) (pc2 := 24) dX7_day_21 rfl (fun _ => ?_) rfl (fun _ => ?_)
  · refine Ex.iload_n (M := mX7_day) (pc2 := 64) dX7_day_63 rfl rfl rfl ?_
    exact Ey.ireturn (M := mX7_day) dX7_day_64 rfl rfl
  · refine Ex.aload_n (M := mX7_day) (pc2 := 25) dX7_day_24 rfl rfl rfl ?_
    refine Ex.iload_n (M := mX7_day) (pc2 := 26) dX7_day_25 rfl rfl rfl ?_
    refine Ex.bipush (M := mX7_day) (pc2 := 28) dX7_day_26 kb_6 rfl ?_
    refine Ey.callVi (M := mX7_day) (pc2 := 31) (as := [.inl l2, .inl (6 : Int32)]) (rest := []) rfl dX7_day_28 isX7_of lcX7_68 sh_69 rfl rfl ⟨(Nat.le_of_ble_eq_true rfl), (Nat.le_of_ble_eq_true rfl)⟩ rfl (Nat.le_of_ble_eq_true rfl) (Nat.le_of_ble_eq_true rfl) (t_X7_of l2 (6 : Int32) I) rfl (fun r1 I1 => ?_)
    refine Ey.if_ne (M := mX7_day) (tgt := 57) (pc2 := 34) dX7_day_31 rfl (fun _ => ?_) rfl (fun _ => ?_)
    · refine Ey.iinc (M := mX7_day) (pc2 := 60) dX7_day_57 rfl ki_1 (Nat.le_of_ble_eq_true rfl) rfl rfl ?_
      refine Ex.goto (M := mX7_day) (tgt := 14) dX7_day_60 rfl ?_
      exact hk14 _ _ _
    · refine Ex.aload_n (M := mX7_day) (pc2 := 35) dX7_day_34 rfl rfl rfl ?_
      refine Ex.iload_n (M := mX7_day) (pc2 := 36) dX7_day_35 rfl rfl rfl ?_
      refine Ex.iconst (M := mX7_day) (pc2 := 37) dX7_day_36 ki_5 rfl ?_
      refine Ey.callVi (M := mX7_day) (pc2 := 40) (as := [.inl l2, .inl (5 : Int32)]) (rest := []) rfl dX7_day_37 isX7_of lcX7_68 sh_69 rfl rfl ⟨(Nat.le_of_ble_eq_true rfl), (Nat.le_of_ble_eq_true rfl)⟩ rfl (Nat.le_of_ble_eq_true rfl) (Nat.le_of_ble_eq_true rfl) (t_X7_of l2 (5 : Int32) I1) rfl (fun r2 I2 => ?_)
      refine Ex.aload_n (M := mX7_day) (pc2 := 41) dX7_day_40 rfl rfl rfl ?_
      refine Ex.getR (M := mX7_day) (pc2 := 44) dX7_day_41 xck7 lfX7_7 (Nat.le_of_ble_eq_true rfl) sh_69 rfl ff_69_0 rfl ?_
      refine Ex.iconst (M := mX7_day) (pc2 := 45) dX7_day_44 ki_0 rfl ?_
      refine Ey.iaload (M := mX7_day) (pc2 := 46) dX7_day_45 sh_70 kn_0 (by decide) rfl ?_
      refine Ey.icmp_ne (M := mX7_day) (tgt := 57) (pc2 := 49) dX7_day_46 rfl (fun _ => ?_) rfl (fun _ => ?_)
      · refine Ey.iinc (M := mX7_day) (pc2 := 60) dX7_day_57 rfl ki_1 (Nat.le_of_ble_eq_true rfl) rfl rfl ?_
        refine Ex.goto (M := mX7_day) (tgt := 14) dX7_day_60 rfl ?_
        exact hk14 _ _ _
      · refine Ex.aload_n (M := mX7_day) (pc2 := 50) dX7_day_49 rfl rfl rfl ?_
        refine Ex.iload_n (M := mX7_day) (pc2 := 51) dX7_day_50 rfl rfl rfl ?_
        refine Ey.callVv (M := mX7_day) (pc2 := 54) (as := [.inl l2]) (rest := []) rfl dX7_day_51 isX7_comes lcX7_99 sh_69 rfl rfl ⟨(Nat.le_of_ble_eq_true rfl), (Nat.le_of_ble_eq_true rfl)⟩ rfl (Nat.le_of_ble_eq_true rfl) (Nat.le_of_ble_eq_true rfl) (t_X7_comes l2 I2) rfl (fun I3 => ?_)
        refine Ey.iinc (M := mX7_day) (pc2 := 57) dX7_day_54 rfl ki_1 (Nat.le_of_ble_eq_true rfl) rfl rfl ?_
        refine Ey.iinc (M := mX7_day) (pc2 := 60) dX7_day_57 rfl ki_1 (Nat.le_of_ble_eq_true rfl) rfl rfl ?_
        refine Ex.goto (M := mX7_day) (tgt := 14) dX7_day_60 rfl ?_
        exact hk14 _ _ _
def f_X7_day_14 : Nat → Int32 → Int32 → xI → Option (Int32 × xI)
  | 0, _, _, _ => none
  | n + 1, l1, l2, I => f_X7_day_14b (fun l1 l2 I => f_X7_day_14 n l1 l2 I) l1 l2 I
theorem t_X7_day_14 : ∀ (n : Nat) (l1 : Int32) (l2 : Int32) (I : xI), Ey none mX7_day 14 [some (.inr (some 69)), some (.inl l1), some (.inl l2)] [] I (f_X7_day_14 n l1 l2 I)
  | 0, l1, l2, I => Ey.nil
  | n + 1, l1, l2, I => t_X7_day_14b (fun l1 l2 I => f_X7_day_14 n l1 l2 I) (fun l1 l2 I => t_X7_day_14 n l1 l2 I) l1 l2 I
def f_X7_day (I : xI) : Option (Int32 × xI) :=
  f_X7_day_14 xZ (0 : Int32) (0 : Int32) (xup I 70 0 ((I 70 0) + (1 : Int32)))
theorem t_X7_day (I : xI) : Ey none mX7_day 0 [some (.inr (some 69)), none, none] [] I (f_X7_day I) := by
  unfold f_X7_day
  refine Ex.iconst (M := mX7_day) (pc2 := 1) dX7_day_0 ki_0 rfl ?_
  refine Ey.istore_n (M := mX7_day) (pc2 := 2) dX7_day_1 rfl (Nat.le_of_ble_eq_true rfl) rfl rfl ?_
  refine Ex.aload_n (M := mX7_day) (pc2 := 3) dX7_day_2 rfl rfl rfl ?_
  refine Ex.getR (M := mX7_day) (pc2 := 6) dX7_day_3 xck7 lfX7_7 (Nat.le_of_ble_eq_true rfl) sh_69 rfl ff_69_0 rfl ?_
  refine Ex.iconst (M := mX7_day) (pc2 := 7) dX7_day_6 ki_0 rfl ?_
  refine Ex.dup2 (M := mX7_day) (pc2 := 8) dX7_day_7 rfl ?_
  refine Ey.iaload (M := mX7_day) (pc2 := 9) dX7_day_8 sh_70 kn_0 (by decide) rfl ?_
  refine Ex.iconst (M := mX7_day) (pc2 := 10) dX7_day_9 ki_1 rfl ?_
  refine Ex.iadd (M := mX7_day) (pc2 := 11) dX7_day_10 rfl ?_
  refine Ey.iastore (M := mX7_day) (pc2 := 12) dX7_day_11 sh_70 kn_0 (by decide) rfl ?_
  refine Ex.iconst (M := mX7_day) (pc2 := 13) dX7_day_12 ki_0 rfl ?_
  refine Ey.istore_n (M := mX7_day) (pc2 := 14) dX7_day_13 rfl (Nat.le_of_ble_eq_true rfl) rfl rfl ?_
  exact t_X7_day_14 xZ _ _ _
/-! FenceDuelModel.passes(I)I -/
def f_X7_passes_21b (k21 : Int32 → Int32 → Int32 → xI → Option (Int32 × xI)) (l1 : Int32) (l2 : Int32) (l3 : Int32) (I : xI) : Option (Int32 × xI) :=
  if l3 ≥ l1 then some (l2, I) else xb (f_X7_day I) (fun r1 I1 => k21 l1 (l2 + r1) (l3 + 1) I1)
theorem t_X7_passes_21b (k21 : Int32 → Int32 → Int32 → xI → Option (Int32 × xI)) (hk21 : ∀ (l1 : Int32) (l2 : Int32) (l3 : Int32) (I : xI), Ey none mX7_passes 21 [some (.inr (some 69)), some (.inl l1), some (.inl l2), some (.inl l3)] [] I (k21 l1 l2 l3 I)) (l1 : Int32) (l2 : Int32) (l3 : Int32) (I : xI) : Ey none mX7_passes 21 [some (.inr (some 69)), some (.inl l1), some (.inl l2), some (.inl l3)] [] I (f_X7_passes_21b k21 l1 l2 l3 I) := by
  unfold f_X7_passes_21b
  refine Ex.iload_n (M := mX7_passes) (pc2 := 22) dX7_passes_21 rfl rfl rfl ?_
  refine Ex.iload_n (M := mX7_passes) (pc2 := 23) dX7_passes_22 rfl rfl rfl ?_
  refine Ey.icmp_ge (M := mX7_passes) (tgt := 39) (pc2 := 26) dX7_passes_23 rfl (fun _ => ?_) rfl (fun _ => ?_)
  · refine Ex.iload_n (M := mX7_passes) (pc2 := 40) dX7_passes_39 rfl rfl rfl ?_
    exact Ey.ireturn (M := mX7_passes) dX7_passes_40 rfl rfl
  · refine Ex.iload_n (M := mX7_passes) (pc2 := 27) dX7_passes_26 rfl rfl rfl ?_
    refine Ex.aload_n (M := mX7_passes) (pc2 := 28) dX7_passes_27 rfl rfl rfl ?_
    refine Ey.callVi (M := mX7_passes) (pc2 := 31) (as := []) (rest := [.inl l2]) rfl dX7_passes_28 isX7_day lcX7_103 sh_69 rfl rfl ⟨(Nat.le_of_ble_eq_true rfl), (Nat.le_of_ble_eq_true rfl)⟩ rfl (Nat.le_of_ble_eq_true rfl) (Nat.le_of_ble_eq_true rfl) (t_X7_day I) rfl (fun r1 I1 => ?_)
    refine Ex.iadd (M := mX7_passes) (pc2 := 32) dX7_passes_31 rfl ?_
    refine Ey.istore_n (M := mX7_passes) (pc2 := 33) dX7_passes_32 rfl (Nat.le_of_ble_eq_true rfl) rfl rfl ?_
    refine Ey.iinc (M := mX7_passes) (pc2 := 36) dX7_passes_33 rfl ki_1 (Nat.le_of_ble_eq_true rfl) rfl rfl ?_
    refine Ex.goto (M := mX7_passes) (tgt := 21) dX7_passes_36 rfl ?_
    exact hk21 _ _ _ _
def f_X7_passes_21 : Nat → Int32 → Int32 → Int32 → xI → Option (Int32 × xI)
  | 0, _, _, _, _ => none
  | n + 1, l1, l2, l3, I => f_X7_passes_21b (fun l1 l2 l3 I => f_X7_passes_21 n l1 l2 l3 I) l1 l2 l3 I
theorem t_X7_passes_21 : ∀ (n : Nat) (l1 : Int32) (l2 : Int32) (l3 : Int32) (I : xI), Ey none mX7_passes 21 [some (.inr (some 69)), some (.inl l1), some (.inl l2), some (.inl l3)] [] I (f_X7_passes_21 n l1 l2 l3 I)
  | 0, l1, l2, l3, I => Ey.nil
  | n + 1, l1, l2, l3, I => t_X7_passes_21b (fun l1 l2 l3 I => f_X7_passes_21 n l1 l2 l3 I) (fun l1 l2 l3 I => t_X7_passes_21 n l1 l2 l3 I) l1 l2 l3 I
def f_X7_passes (l1 : Int32) (I : xI) : Option (Int32 × xI) :=
  if ((I 70 0) + l1) ≤ (9999 : Int32) then f_X7_passes_21 xZ l1 (0 : Int32) (0 : Int32) I else some ((-3 : Int32), I)
theorem t_X7_passes (l1 : Int32) (I : xI) : Ey none mX7_passes 0 [some (.inr (some 69)), some (.inl l1), none, none] [] I (f_X7_passes l1 I) := by
  unfold f_X7_passes
  refine Ex.aload_n (M := mX7_passes) (pc2 := 1) dX7_passes_0 rfl rfl rfl ?_
  refine Ex.getR (M := mX7_passes) (pc2 := 4) dX7_passes_1 xck7 lfX7_7 (Nat.le_of_ble_eq_true rfl) sh_69 rfl ff_69_0 rfl ?_
  refine Ex.iconst (M := mX7_passes) (pc2 := 5) dX7_passes_4 ki_0 rfl ?_
  refine Ey.iaload (M := mX7_passes) (pc2 := 6) dX7_passes_5 sh_70 kn_0 (by decide) rfl ?_
  refine Ex.iload_n (M := mX7_passes) (pc2 := 7) dX7_passes_6 rfl rfl rfl ?_
  refine Ex.iadd (M := mX7_passes) (pc2 := 8) dX7_passes_7 rfl ?_
  refine Ex.sipush (M := mX7_passes) (pc2 := 11) dX7_passes_8 ks_9999 rfl ?_
  refine Ey.icmp_le (M := mX7_passes) (tgt := 17) (pc2 := 14) dX7_passes_11 rfl (fun _ => ?_) rfl (fun _ => ?_)
  · refine Ex.iconst (M := mX7_passes) (pc2 := 18) dX7_passes_17 ki_0 rfl ?_
    refine Ey.istore_n (M := mX7_passes) (pc2 := 19) dX7_passes_18 rfl (Nat.le_of_ble_eq_true rfl) rfl rfl ?_
    refine Ex.iconst (M := mX7_passes) (pc2 := 20) dX7_passes_19 ki_0 rfl ?_
    refine Ey.istore_n (M := mX7_passes) (pc2 := 21) dX7_passes_20 rfl (Nat.le_of_ble_eq_true rfl) rfl rfl ?_
    exact t_X7_passes_21 xZ _ _ _ _
  · refine Ex.bipush (M := mX7_passes) (pc2 := 16) dX7_passes_14 kb_m3 rfl ?_
    exact Ey.ireturn (M := mX7_passes) dX7_passes_16 rfl rfl
/-! FenceDuelModel.writes(IIII)I -/
def f_X7_writes_72 (l1 : Int32) (l2 : Int32) (l3 : Int32) (l4 : Int32) (I : xI) : Option (Int32 × xI) :=
  if (I 70 1) ≠ (60 : Int32) then xb (f_X7_at (I 70 1) (0 : Int32) (xup I 70 1 ((I 70 1) + (1 : Int32)))) (fun r1 I1 => if xin r1 742 then xb (f_X7_at (I 70 1) (1 : Int32) (xup I1 70 r1.toNatClampNeg l1)) (fun r3 I3 => if xin r3 742 then xb (f_X7_at (I 70 1) (2 : Int32) (xup I3 70 r3.toNatClampNeg l2)) (fun r5 I5 => if xin r5 742 then xb (f_X7_at (I 70 1) (3 : Int32) (xup I5 70 r5.toNatClampNeg l3)) (fun r7 I7 => if xin r7 742 then xb (f_X7_at (I 70 1) (4 : Int32) (xup I7 70 r7.toNatClampNeg l4)) (fun r9 I9 => if xin r9 742 then xb (f_X7_at (I 70 1) (5 : Int32) (xup I9 70 r9.toNatClampNeg (I9 70 0))) (fun r11 I11 => if xin r11 742 then xb (f_X7_at (I 70 1) (6 : Int32) (xup I11 70 r11.toNatClampNeg ((I11 70 0) + (I11 70 4)))) (fun r13 I13 => if xin r13 742 then xb (f_X7_at (I 70 1) (7 : Int32) (xup I13 70 r13.toNatClampNeg (0 : Int32))) (fun r15 I15 => if xin r15 742 then xb (f_X7_at (I 70 1) (8 : Int32) (xup I15 70 r15.toNatClampNeg (0 : Int32))) (fun r17 I17 => if xin r17 742 then xb (f_X7_at (I 70 1) (9 : Int32) (xup I17 70 r17.toNatClampNeg (-5 : Int32))) (fun r19 I19 => if xin r19 742 then some ((I 70 1), (xup I19 70 r19.toNatClampNeg (-5 : Int32))) else none) else none) else none) else none) else none) else none) else none) else none) else none) else none) else some ((-3 : Int32), I)
theorem t_X7_writes_72 (l1 : Int32) (l2 : Int32) (l3 : Int32) (l4 : Int32) (d5 : Option xV) (d6 : Option xV) (I : xI) : Ey none mX7_writes 72 [some (.inr (some 69)), some (.inl l1), some (.inl l2), some (.inl l3), some (.inl l4), d5, d6] [] I (f_X7_writes_72 l1 l2 l3 l4 I) := by
  unfold f_X7_writes_72
  refine Ex.aload_n (M := mX7_writes) (pc2 := 73) dX7_writes_72 rfl rfl rfl ?_
  refine Ex.getR (M := mX7_writes) (pc2 := 76) dX7_writes_73 xck7 lfX7_7 (Nat.le_of_ble_eq_true rfl) sh_69 rfl ff_69_0 rfl ?_
  refine Ex.iconst (M := mX7_writes) (pc2 := 77) dX7_writes_76 ki_1 rfl ?_
  refine Ey.iaload (M := mX7_writes) (pc2 := 78) dX7_writes_77 sh_70 kn_1 (by decide) rfl ?_
  refine Ex.bipush (M := mX7_writes) (pc2 := 80) dX7_writes_78 kb_60 rfl ?_
  refine Ey.icmp_ne (M := mX7_writes) (tgt := 86) (pc2 := 83) dX7_writes_80 rfl (fun _ => ?_) rfl (fun _ => ?_)
  · refine Ex.aload_n (M := mX7_writes) (pc2 := 87) dX7_writes_86 rfl rfl rfl ?_
    refine Ex.getR (M := mX7_writes) (pc2 := 90) dX7_writes_87 xck7 lfX7_7 (Nat.le_of_ble_eq_true rfl) sh_69 rfl ff_69_0 rfl ?_
    refine Ex.iconst (M := mX7_writes) (pc2 := 91) dX7_writes_90 ki_1 rfl ?_
    refine Ey.iaload (M := mX7_writes) (pc2 := 92) dX7_writes_91 sh_70 kn_1 (by decide) rfl ?_
    refine Ey.istore (M := mX7_writes) (pc2 := 94) dX7_writes_92 (Nat.le_of_ble_eq_true rfl) rfl rfl ?_
    refine Ex.aload_n (M := mX7_writes) (pc2 := 95) dX7_writes_94 rfl rfl rfl ?_
    refine Ex.getR (M := mX7_writes) (pc2 := 98) dX7_writes_95 xck7 lfX7_7 (Nat.le_of_ble_eq_true rfl) sh_69 rfl ff_69_0 rfl ?_
    refine Ex.iconst (M := mX7_writes) (pc2 := 99) dX7_writes_98 ki_1 rfl ?_
    refine Ex.dup2 (M := mX7_writes) (pc2 := 100) dX7_writes_99 rfl ?_
    refine Ey.iaload (M := mX7_writes) (pc2 := 101) dX7_writes_100 sh_70 kn_1 (by decide) rfl ?_
    refine Ex.iconst (M := mX7_writes) (pc2 := 102) dX7_writes_101 ki_1 rfl ?_
    refine Ex.iadd (M := mX7_writes) (pc2 := 103) dX7_writes_102 rfl ?_
    refine Ey.iastore (M := mX7_writes) (pc2 := 104) dX7_writes_103 sh_70 kn_1 (by decide) rfl ?_
    refine Ex.aload_n (M := mX7_writes) (pc2 := 105) dX7_writes_104 rfl rfl rfl ?_
    refine Ex.getR (M := mX7_writes) (pc2 := 108) dX7_writes_105 xck7 lfX7_7 (Nat.le_of_ble_eq_true rfl) sh_69 rfl ff_69_0 rfl ?_
    refine Ex.iload (M := mX7_writes) (pc2 := 110) dX7_writes_108 rfl rfl ?_
    refine Ex.iconst (M := mX7_writes) (pc2 := 111) dX7_writes_110 ki_0 rfl ?_
    refine Ey.callSi (M := mX7_writes) (pc2 := 114) (as := [.inl (I 70 1), .inl (0 : Int32)]) (rest := [.inr (some 70)]) rfl dX7_writes_111 isX7_at lcX7_43  rfl ⟨(Nat.le_of_ble_eq_true rfl), (Nat.le_of_ble_eq_true rfl)⟩ rfl (Nat.le_of_ble_eq_true rfl) (Nat.le_of_ble_eq_true rfl) (t_X7_at (I 70 1) (0 : Int32) (xup I 70 1 ((I 70 1) + (1 : Int32)))) rfl (fun r1 I1 => ?_)
    refine Ex.iload_n (M := mX7_writes) (pc2 := 115) dX7_writes_114 rfl rfl rfl ?_
    refine Ey.guard (fun hz2 => ?_)
    refine Ey.iastore (M := mX7_writes) (pc2 := 116) dX7_writes_115 sh_70 rfl hz2 rfl ?_
    refine Ex.aload_n (M := mX7_writes) (pc2 := 117) dX7_writes_116 rfl rfl rfl ?_
    refine Ex.getR (M := mX7_writes) (pc2 := 120) dX7_writes_117 xck7 lfX7_7 (Nat.le_of_ble_eq_true rfl) sh_69 rfl ff_69_0 rfl ?_
    refine Ex.iload (M := mX7_writes) (pc2 := 122) dX7_writes_120 rfl rfl ?_
    refine Ex.iconst (M := mX7_writes) (pc2 := 123) dX7_writes_122 ki_1 rfl ?_
    refine Ey.callSi (M := mX7_writes) (pc2 := 126) (as := [.inl (I 70 1), .inl (1 : Int32)]) (rest := [.inr (some 70)]) rfl dX7_writes_123 isX7_at lcX7_43  rfl ⟨(Nat.le_of_ble_eq_true rfl), (Nat.le_of_ble_eq_true rfl)⟩ rfl (Nat.le_of_ble_eq_true rfl) (Nat.le_of_ble_eq_true rfl) (t_X7_at (I 70 1) (1 : Int32) (xup I1 70 r1.toNatClampNeg l1)) rfl (fun r3 I3 => ?_)
    refine Ex.iload_n (M := mX7_writes) (pc2 := 127) dX7_writes_126 rfl rfl rfl ?_
    refine Ey.guard (fun hz4 => ?_)
    refine Ey.iastore (M := mX7_writes) (pc2 := 128) dX7_writes_127 sh_70 rfl hz4 rfl ?_
    refine Ex.aload_n (M := mX7_writes) (pc2 := 129) dX7_writes_128 rfl rfl rfl ?_
    refine Ex.getR (M := mX7_writes) (pc2 := 132) dX7_writes_129 xck7 lfX7_7 (Nat.le_of_ble_eq_true rfl) sh_69 rfl ff_69_0 rfl ?_
    refine Ex.iload (M := mX7_writes) (pc2 := 134) dX7_writes_132 rfl rfl ?_
    refine Ex.iconst (M := mX7_writes) (pc2 := 135) dX7_writes_134 ki_2 rfl ?_
    refine Ey.callSi (M := mX7_writes) (pc2 := 138) (as := [.inl (I 70 1), .inl (2 : Int32)]) (rest := [.inr (some 70)]) rfl dX7_writes_135 isX7_at lcX7_43  rfl ⟨(Nat.le_of_ble_eq_true rfl), (Nat.le_of_ble_eq_true rfl)⟩ rfl (Nat.le_of_ble_eq_true rfl) (Nat.le_of_ble_eq_true rfl) (t_X7_at (I 70 1) (2 : Int32) (xup I3 70 r3.toNatClampNeg l2)) rfl (fun r5 I5 => ?_)
    refine Ex.iload_n (M := mX7_writes) (pc2 := 139) dX7_writes_138 rfl rfl rfl ?_
    refine Ey.guard (fun hz6 => ?_)
    refine Ey.iastore (M := mX7_writes) (pc2 := 140) dX7_writes_139 sh_70 rfl hz6 rfl ?_
    refine Ex.aload_n (M := mX7_writes) (pc2 := 141) dX7_writes_140 rfl rfl rfl ?_
    refine Ex.getR (M := mX7_writes) (pc2 := 144) dX7_writes_141 xck7 lfX7_7 (Nat.le_of_ble_eq_true rfl) sh_69 rfl ff_69_0 rfl ?_
    refine Ex.iload (M := mX7_writes) (pc2 := 146) dX7_writes_144 rfl rfl ?_
    refine Ex.iconst (M := mX7_writes) (pc2 := 147) dX7_writes_146 ki_3 rfl ?_
    refine Ey.callSi (M := mX7_writes) (pc2 := 150) (as := [.inl (I 70 1), .inl (3 : Int32)]) (rest := [.inr (some 70)]) rfl dX7_writes_147 isX7_at lcX7_43  rfl ⟨(Nat.le_of_ble_eq_true rfl), (Nat.le_of_ble_eq_true rfl)⟩ rfl (Nat.le_of_ble_eq_true rfl) (Nat.le_of_ble_eq_true rfl) (t_X7_at (I 70 1) (3 : Int32) (xup I5 70 r5.toNatClampNeg l3)) rfl (fun r7 I7 => ?_)
    refine Ex.iload (M := mX7_writes) (pc2 := 152) dX7_writes_150 rfl rfl ?_
    refine Ey.guard (fun hz8 => ?_)
    refine Ey.iastore (M := mX7_writes) (pc2 := 153) dX7_writes_152 sh_70 rfl hz8 rfl ?_
    refine Ex.aload_n (M := mX7_writes) (pc2 := 154) dX7_writes_153 rfl rfl rfl ?_
    refine Ex.getR (M := mX7_writes) (pc2 := 157) dX7_writes_154 xck7 lfX7_7 (Nat.le_of_ble_eq_true rfl) sh_69 rfl ff_69_0 rfl ?_
    refine Ex.iload (M := mX7_writes) (pc2 := 159) dX7_writes_157 rfl rfl ?_
    refine Ex.iconst (M := mX7_writes) (pc2 := 160) dX7_writes_159 ki_4 rfl ?_
    refine Ey.callSi (M := mX7_writes) (pc2 := 163) (as := [.inl (I 70 1), .inl (4 : Int32)]) (rest := [.inr (some 70)]) rfl dX7_writes_160 isX7_at lcX7_43  rfl ⟨(Nat.le_of_ble_eq_true rfl), (Nat.le_of_ble_eq_true rfl)⟩ rfl (Nat.le_of_ble_eq_true rfl) (Nat.le_of_ble_eq_true rfl) (t_X7_at (I 70 1) (4 : Int32) (xup I7 70 r7.toNatClampNeg l4)) rfl (fun r9 I9 => ?_)
    refine Ex.aload_n (M := mX7_writes) (pc2 := 164) dX7_writes_163 rfl rfl rfl ?_
    refine Ex.getR (M := mX7_writes) (pc2 := 167) dX7_writes_164 xck7 lfX7_7 (Nat.le_of_ble_eq_true rfl) sh_69 rfl ff_69_0 rfl ?_
    refine Ex.iconst (M := mX7_writes) (pc2 := 168) dX7_writes_167 ki_0 rfl ?_
    refine Ey.iaload (M := mX7_writes) (pc2 := 169) dX7_writes_168 sh_70 kn_0 (by decide) rfl ?_
    refine Ey.guard (fun hz10 => ?_)
    refine Ey.iastore (M := mX7_writes) (pc2 := 170) dX7_writes_169 sh_70 rfl hz10 rfl ?_
    refine Ex.aload_n (M := mX7_writes) (pc2 := 171) dX7_writes_170 rfl rfl rfl ?_
    refine Ex.getR (M := mX7_writes) (pc2 := 174) dX7_writes_171 xck7 lfX7_7 (Nat.le_of_ble_eq_true rfl) sh_69 rfl ff_69_0 rfl ?_
    refine Ex.iload (M := mX7_writes) (pc2 := 176) dX7_writes_174 rfl rfl ?_
    refine Ex.iconst (M := mX7_writes) (pc2 := 177) dX7_writes_176 ki_5 rfl ?_
    refine Ey.callSi (M := mX7_writes) (pc2 := 180) (as := [.inl (I 70 1), .inl (5 : Int32)]) (rest := [.inr (some 70)]) rfl dX7_writes_177 isX7_at lcX7_43  rfl ⟨(Nat.le_of_ble_eq_true rfl), (Nat.le_of_ble_eq_true rfl)⟩ rfl (Nat.le_of_ble_eq_true rfl) (Nat.le_of_ble_eq_true rfl) (t_X7_at (I 70 1) (5 : Int32) (xup I9 70 r9.toNatClampNeg (I9 70 0))) rfl (fun r11 I11 => ?_)
    refine Ex.aload_n (M := mX7_writes) (pc2 := 181) dX7_writes_180 rfl rfl rfl ?_
    refine Ex.getR (M := mX7_writes) (pc2 := 184) dX7_writes_181 xck7 lfX7_7 (Nat.le_of_ble_eq_true rfl) sh_69 rfl ff_69_0 rfl ?_
    refine Ex.iconst (M := mX7_writes) (pc2 := 185) dX7_writes_184 ki_0 rfl ?_
    refine Ey.iaload (M := mX7_writes) (pc2 := 186) dX7_writes_185 sh_70 kn_0 (by decide) rfl ?_
    refine Ex.aload_n (M := mX7_writes) (pc2 := 187) dX7_writes_186 rfl rfl rfl ?_
    refine Ex.getR (M := mX7_writes) (pc2 := 190) dX7_writes_187 xck7 lfX7_7 (Nat.le_of_ble_eq_true rfl) sh_69 rfl ff_69_0 rfl ?_
    refine Ex.iconst (M := mX7_writes) (pc2 := 191) dX7_writes_190 ki_4 rfl ?_
    refine Ey.iaload (M := mX7_writes) (pc2 := 192) dX7_writes_191 sh_70 kn_4 (by decide) rfl ?_
    refine Ex.iadd (M := mX7_writes) (pc2 := 193) dX7_writes_192 rfl ?_
    refine Ey.guard (fun hz12 => ?_)
    refine Ey.iastore (M := mX7_writes) (pc2 := 194) dX7_writes_193 sh_70 rfl hz12 rfl ?_
    refine Ex.aload_n (M := mX7_writes) (pc2 := 195) dX7_writes_194 rfl rfl rfl ?_
    refine Ex.getR (M := mX7_writes) (pc2 := 198) dX7_writes_195 xck7 lfX7_7 (Nat.le_of_ble_eq_true rfl) sh_69 rfl ff_69_0 rfl ?_
    refine Ex.iload (M := mX7_writes) (pc2 := 200) dX7_writes_198 rfl rfl ?_
    refine Ex.bipush (M := mX7_writes) (pc2 := 202) dX7_writes_200 kb_6 rfl ?_
    refine Ey.callSi (M := mX7_writes) (pc2 := 205) (as := [.inl (I 70 1), .inl (6 : Int32)]) (rest := [.inr (some 70)]) rfl dX7_writes_202 isX7_at lcX7_43  rfl ⟨(Nat.le_of_ble_eq_true rfl), (Nat.le_of_ble_eq_true rfl)⟩ rfl (Nat.le_of_ble_eq_true rfl) (Nat.le_of_ble_eq_true rfl) (t_X7_at (I 70 1) (6 : Int32) (xup I11 70 r11.toNatClampNeg ((I11 70 0) + (I11 70 4)))) rfl (fun r13 I13 => ?_)
    refine Ex.iconst (M := mX7_writes) (pc2 := 206) dX7_writes_205 ki_0 rfl ?_
    refine Ey.guard (fun hz14 => ?_)
    refine Ey.iastore (M := mX7_writes) (pc2 := 207) dX7_writes_206 sh_70 rfl hz14 rfl ?_
    refine Ex.aload_n (M := mX7_writes) (pc2 := 208) dX7_writes_207 rfl rfl rfl ?_
    refine Ex.getR (M := mX7_writes) (pc2 := 211) dX7_writes_208 xck7 lfX7_7 (Nat.le_of_ble_eq_true rfl) sh_69 rfl ff_69_0 rfl ?_
    refine Ex.iload (M := mX7_writes) (pc2 := 213) dX7_writes_211 rfl rfl ?_
    refine Ex.bipush (M := mX7_writes) (pc2 := 215) dX7_writes_213 kb_7 rfl ?_
    refine Ey.callSi (M := mX7_writes) (pc2 := 218) (as := [.inl (I 70 1), .inl (7 : Int32)]) (rest := [.inr (some 70)]) rfl dX7_writes_215 isX7_at lcX7_43  rfl ⟨(Nat.le_of_ble_eq_true rfl), (Nat.le_of_ble_eq_true rfl)⟩ rfl (Nat.le_of_ble_eq_true rfl) (Nat.le_of_ble_eq_true rfl) (t_X7_at (I 70 1) (7 : Int32) (xup I13 70 r13.toNatClampNeg (0 : Int32))) rfl (fun r15 I15 => ?_)
    refine Ex.iconst (M := mX7_writes) (pc2 := 219) dX7_writes_218 ki_0 rfl ?_
    refine Ey.guard (fun hz16 => ?_)
    refine Ey.iastore (M := mX7_writes) (pc2 := 220) dX7_writes_219 sh_70 rfl hz16 rfl ?_
    refine Ex.aload_n (M := mX7_writes) (pc2 := 221) dX7_writes_220 rfl rfl rfl ?_
    refine Ex.getR (M := mX7_writes) (pc2 := 224) dX7_writes_221 xck7 lfX7_7 (Nat.le_of_ble_eq_true rfl) sh_69 rfl ff_69_0 rfl ?_
    refine Ex.iload (M := mX7_writes) (pc2 := 226) dX7_writes_224 rfl rfl ?_
    refine Ex.bipush (M := mX7_writes) (pc2 := 228) dX7_writes_226 kb_8 rfl ?_
    refine Ey.callSi (M := mX7_writes) (pc2 := 231) (as := [.inl (I 70 1), .inl (8 : Int32)]) (rest := [.inr (some 70)]) rfl dX7_writes_228 isX7_at lcX7_43  rfl ⟨(Nat.le_of_ble_eq_true rfl), (Nat.le_of_ble_eq_true rfl)⟩ rfl (Nat.le_of_ble_eq_true rfl) (Nat.le_of_ble_eq_true rfl) (t_X7_at (I 70 1) (8 : Int32) (xup I15 70 r15.toNatClampNeg (0 : Int32))) rfl (fun r17 I17 => ?_)
    refine Ex.bipush (M := mX7_writes) (pc2 := 233) dX7_writes_231 kb_m5 rfl ?_
    refine Ey.guard (fun hz18 => ?_)
    refine Ey.iastore (M := mX7_writes) (pc2 := 234) dX7_writes_233 sh_70 rfl hz18 rfl ?_
    refine Ex.aload_n (M := mX7_writes) (pc2 := 235) dX7_writes_234 rfl rfl rfl ?_
    refine Ex.getR (M := mX7_writes) (pc2 := 238) dX7_writes_235 xck7 lfX7_7 (Nat.le_of_ble_eq_true rfl) sh_69 rfl ff_69_0 rfl ?_
    refine Ex.iload (M := mX7_writes) (pc2 := 240) dX7_writes_238 rfl rfl ?_
    refine Ex.bipush (M := mX7_writes) (pc2 := 242) dX7_writes_240 kb_9 rfl ?_
    refine Ey.callSi (M := mX7_writes) (pc2 := 245) (as := [.inl (I 70 1), .inl (9 : Int32)]) (rest := [.inr (some 70)]) rfl dX7_writes_242 isX7_at lcX7_43  rfl ⟨(Nat.le_of_ble_eq_true rfl), (Nat.le_of_ble_eq_true rfl)⟩ rfl (Nat.le_of_ble_eq_true rfl) (Nat.le_of_ble_eq_true rfl) (t_X7_at (I 70 1) (9 : Int32) (xup I17 70 r17.toNatClampNeg (-5 : Int32))) rfl (fun r19 I19 => ?_)
    refine Ex.bipush (M := mX7_writes) (pc2 := 247) dX7_writes_245 kb_m5 rfl ?_
    refine Ey.guard (fun hz20 => ?_)
    refine Ey.iastore (M := mX7_writes) (pc2 := 248) dX7_writes_247 sh_70 rfl hz20 rfl ?_
    refine Ex.iload (M := mX7_writes) (pc2 := 250) dX7_writes_248 rfl rfl ?_
    exact Ey.ireturn (M := mX7_writes) dX7_writes_250 rfl rfl
  · refine Ex.bipush (M := mX7_writes) (pc2 := 85) dX7_writes_83 kb_m3 rfl ?_
    exact Ey.ireturn (M := mX7_writes) dX7_writes_85 rfl rfl
def f_X7_writes_53 (l1 : Int32) (l2 : Int32) (l3 : Int32) (l4 : Int32) (I : xI) : Option (Int32 × xI) :=
  if l2 ≠ (3 : Int32) then f_X7_writes_72 l1 l2 l3 l4 I else xb (f_X7_in l4 (1 : Int32) (99 : Int32) I) (fun r21 I21 => if r21 ≠ 0 then f_X7_writes_72 l1 l2 l3 l4 I21 else some ((-2 : Int32), I21))
theorem t_X7_writes_53 (l1 : Int32) (l2 : Int32) (l3 : Int32) (l4 : Int32) (d5 : Option xV) (d6 : Option xV) (I : xI) : Ey none mX7_writes 53 [some (.inr (some 69)), some (.inl l1), some (.inl l2), some (.inl l3), some (.inl l4), d5, d6] [] I (f_X7_writes_53 l1 l2 l3 l4 I) := by
  unfold f_X7_writes_53
  refine Ex.iload_n (M := mX7_writes) (pc2 := 54) dX7_writes_53 rfl rfl rfl ?_
  refine Ex.iconst (M := mX7_writes) (pc2 := 55) dX7_writes_54 ki_3 rfl ?_
  refine Ey.icmp_ne (M := mX7_writes) (tgt := 72) (pc2 := 58) dX7_writes_55 rfl (fun _ => ?_) rfl (fun _ => ?_)
  · exact t_X7_writes_72 _ _ _ _ _ _ _
  · refine Ex.iload (M := mX7_writes) (pc2 := 60) dX7_writes_58 rfl rfl ?_
    refine Ex.iconst (M := mX7_writes) (pc2 := 61) dX7_writes_60 ki_1 rfl ?_
    refine Ex.bipush (M := mX7_writes) (pc2 := 63) dX7_writes_61 kb_99 rfl ?_
    refine Ey.callSi (M := mX7_writes) (pc2 := 66) (as := [.inl l4, .inl (1 : Int32), .inl (99 : Int32)]) (rest := []) rfl dX7_writes_63 isX7_in lcX7_39  rfl ⟨(Nat.le_of_ble_eq_true rfl), (Nat.le_of_ble_eq_true rfl)⟩ rfl (Nat.le_of_ble_eq_true rfl) (Nat.le_of_ble_eq_true rfl) (t_X7_in l4 (1 : Int32) (99 : Int32) I) rfl (fun r21 I21 => ?_)
    refine Ey.if_ne (M := mX7_writes) (tgt := 72) (pc2 := 69) dX7_writes_66 rfl (fun _ => ?_) rfl (fun _ => ?_)
    · exact t_X7_writes_72 _ _ _ _ _ _ _
    · refine Ex.bipush (M := mX7_writes) (pc2 := 71) dX7_writes_69 kb_m2 rfl ?_
      exact Ey.ireturn (M := mX7_writes) dX7_writes_71 rfl rfl
def f_X7_writes_35 (l1 : Int32) (l2 : Int32) (l3 : Int32) (l4 : Int32) (l5 : Int32) (I : xI) : Option (Int32 × xI) :=
  if l5 = 0 then f_X7_writes_53 l1 l2 l3 l4 I else xb (f_X7_edgeAt l3 l4 I) (fun r22 I22 => if r22 ≠ (-5 : Int32) then f_X7_writes_53 l1 l2 l3 l4 I22 else some ((-1 : Int32), I22))
theorem t_X7_writes_35 (l1 : Int32) (l2 : Int32) (l3 : Int32) (l4 : Int32) (l5 : Int32) (d6 : Option xV) (I : xI) : Ey none mX7_writes 35 [some (.inr (some 69)), some (.inl l1), some (.inl l2), some (.inl l3), some (.inl l4), some (.inl l5), d6] [] I (f_X7_writes_35 l1 l2 l3 l4 l5 I) := by
  unfold f_X7_writes_35
  refine Ex.iload (M := mX7_writes) (pc2 := 37) dX7_writes_35 rfl rfl ?_
  refine Ey.if_eq (M := mX7_writes) (tgt := 53) (pc2 := 40) dX7_writes_37 rfl (fun _ => ?_) rfl (fun _ => ?_)
  · exact t_X7_writes_53 _ _ _ _ _ _ _
  · refine Ex.iload_n (M := mX7_writes) (pc2 := 41) dX7_writes_40 rfl rfl rfl ?_
    refine Ex.iload (M := mX7_writes) (pc2 := 43) dX7_writes_41 rfl rfl ?_
    refine Ey.callSi (M := mX7_writes) (pc2 := 46) (as := [.inl l3, .inl l4]) (rest := []) rfl dX7_writes_43 isX7_edgeAt lcX7_71  rfl ⟨(Nat.le_of_ble_eq_true rfl), (Nat.le_of_ble_eq_true rfl)⟩ rfl (Nat.le_of_ble_eq_true rfl) (Nat.le_of_ble_eq_true rfl) (t_X7_edgeAt l3 l4 I) rfl (fun r22 I22 => ?_)
    refine Ex.bipush (M := mX7_writes) (pc2 := 48) dX7_writes_46 kb_m5 rfl ?_
    refine Ey.icmp_ne (M := mX7_writes) (tgt := 53) (pc2 := 51) dX7_writes_48 rfl (fun _ => ?_) rfl (fun _ => ?_)
    · exact t_X7_writes_53 _ _ _ _ _ _ _
    · refine Ex.iconst (M := mX7_writes) (pc2 := 52) dX7_writes_51 ki_m1 rfl ?_
      exact Ey.ireturn (M := mX7_writes) dX7_writes_52 rfl rfl
def f_X7_writes_14 (l1 : Int32) (l2 : Int32) (l3 : Int32) (l4 : Int32) (s0 : Int32) (I : xI) : Option (Int32 × xI) :=
  xb (f_X7_isPlayer l1 I) (fun r23 I23 => if r23 = 0 then some ((-1 : Int32), I23) else if l2 = (3 : Int32) then f_X7_writes_35 l1 l2 l3 l4 s0 I23 else xb (f_X7_isField l3 I23) (fun r24 I24 => if r24 = 0 then some ((-1 : Int32), I24) else f_X7_writes_35 l1 l2 l3 l4 s0 I24))
theorem t_X7_writes_14 (l1 : Int32) (l2 : Int32) (l3 : Int32) (l4 : Int32) (d5 : Option xV) (d6 : Option xV) (s0 : Int32) (I : xI) : Ey none mX7_writes 14 [some (.inr (some 69)), some (.inl l1), some (.inl l2), some (.inl l3), some (.inl l4), d5, d6] [.inl s0] I (f_X7_writes_14 l1 l2 l3 l4 s0 I) := by
  unfold f_X7_writes_14
  refine Ey.istore (M := mX7_writes) (pc2 := 16) dX7_writes_14 (Nat.le_of_ble_eq_true rfl) rfl rfl ?_
  refine Ex.iload_n (M := mX7_writes) (pc2 := 17) dX7_writes_16 rfl rfl rfl ?_
  refine Ey.callSi (M := mX7_writes) (pc2 := 20) (as := [.inl l1]) (rest := []) rfl dX7_writes_17 isX7_isPlayer lcX7_107  rfl ⟨(Nat.le_of_ble_eq_true rfl), (Nat.le_of_ble_eq_true rfl)⟩ rfl (Nat.le_of_ble_eq_true rfl) (Nat.le_of_ble_eq_true rfl) (t_X7_isPlayer l1 I) rfl (fun r23 I23 => ?_)
  refine Ey.if_eq (M := mX7_writes) (tgt := 51) (pc2 := 23) dX7_writes_20 rfl (fun _ => ?_) rfl (fun _ => ?_)
  · refine Ex.iconst (M := mX7_writes) (pc2 := 52) dX7_writes_51 ki_m1 rfl ?_
    exact Ey.ireturn (M := mX7_writes) dX7_writes_52 rfl rfl
  · refine Ex.iload_n (M := mX7_writes) (pc2 := 24) dX7_writes_23 rfl rfl rfl ?_
    refine Ex.iconst (M := mX7_writes) (pc2 := 25) dX7_writes_24 ki_3 rfl ?_
    refine Ey.icmp_eq (M := mX7_writes) (tgt := 35) (pc2 := 28) dX7_writes_25 rfl (fun _ => ?_) rfl (fun _ => ?_)
    · exact t_X7_writes_35 _ _ _ _ _ _ _
    · refine Ex.iload_n (M := mX7_writes) (pc2 := 29) dX7_writes_28 rfl rfl rfl ?_
      refine Ey.callSi (M := mX7_writes) (pc2 := 32) (as := [.inl l3]) (rest := []) rfl dX7_writes_29 isX7_isField lcX7_50  rfl ⟨(Nat.le_of_ble_eq_true rfl), (Nat.le_of_ble_eq_true rfl)⟩ rfl (Nat.le_of_ble_eq_true rfl) (Nat.le_of_ble_eq_true rfl) (t_X7_isField l3 I23) rfl (fun r24 I24 => ?_)
      refine Ey.if_eq (M := mX7_writes) (tgt := 51) (pc2 := 35) dX7_writes_32 rfl (fun _ => ?_) rfl (fun _ => ?_)
      · refine Ex.iconst (M := mX7_writes) (pc2 := 52) dX7_writes_51 ki_m1 rfl ?_
        exact Ey.ireturn (M := mX7_writes) dX7_writes_52 rfl rfl
      · exact t_X7_writes_35 _ _ _ _ _ _ _
def f_X7_writes (l1 : Int32) (l2 : Int32) (l3 : Int32) (l4 : Int32) (I : xI) : Option (Int32 × xI) :=
  if l2 = 0 then f_X7_writes_14 l1 l2 l3 l4 (1 : Int32) I else if l2 ≠ (1 : Int32) then f_X7_writes_14 l1 l2 l3 l4 (0 : Int32) I else f_X7_writes_14 l1 l2 l3 l4 (1 : Int32) I
theorem t_X7_writes (l1 : Int32) (l2 : Int32) (l3 : Int32) (l4 : Int32) (I : xI) : Ey none mX7_writes 0 [some (.inr (some 69)), some (.inl l1), some (.inl l2), some (.inl l3), some (.inl l4), none, none] [] I (f_X7_writes l1 l2 l3 l4 I) := by
  unfold f_X7_writes
  refine Ex.iload_n (M := mX7_writes) (pc2 := 1) dX7_writes_0 rfl rfl rfl ?_
  refine Ey.if_eq (M := mX7_writes) (tgt := 9) (pc2 := 4) dX7_writes_1 rfl (fun _ => ?_) rfl (fun _ => ?_)
  · refine Ex.iconst (M := mX7_writes) (pc2 := 10) dX7_writes_9 ki_1 rfl ?_
    refine Ex.goto (M := mX7_writes) (tgt := 14) dX7_writes_10 rfl ?_
    exact t_X7_writes_14 _ _ _ _ _ _ _ _
  · refine Ex.iload_n (M := mX7_writes) (pc2 := 5) dX7_writes_4 rfl rfl rfl ?_
    refine Ex.iconst (M := mX7_writes) (pc2 := 6) dX7_writes_5 ki_1 rfl ?_
    refine Ey.icmp_ne (M := mX7_writes) (tgt := 13) (pc2 := 9) dX7_writes_6 rfl (fun _ => ?_) rfl (fun _ => ?_)
    · refine Ex.iconst (M := mX7_writes) (pc2 := 14) dX7_writes_13 ki_0 rfl ?_
      exact t_X7_writes_14 _ _ _ _ _ _ _ _
    · refine Ex.iconst (M := mX7_writes) (pc2 := 10) dX7_writes_9 ki_1 rfl ?_
      refine Ex.goto (M := mX7_writes) (tgt := 14) dX7_writes_10 rfl ?_
      exact t_X7_writes_14 _ _ _ _ _ _ _ _
/-! FenceDuelModel.acted(I)I -/
def f_X7_acted (l1 : Int32) (I : xI) : Option (Int32 × xI) :=
  if l1 < 0 then some (l1, I) else xb (f_X7_records I) (fun _ I1 => some (l1, I1))
theorem t_X7_acted (l1 : Int32) (I : xI) : Ey none mX7_acted 0 [some (.inr (some 69)), some (.inl l1)] [] I (f_X7_acted l1 I) := by
  unfold f_X7_acted
  refine Ex.iload_n (M := mX7_acted) (pc2 := 1) dX7_acted_0 rfl rfl rfl ?_
  refine Ey.if_lt (M := mX7_acted) (tgt := 8) (pc2 := 4) dX7_acted_1 rfl (fun _ => ?_) rfl (fun _ => ?_)
  · refine Ex.iload_n (M := mX7_acted) (pc2 := 9) dX7_acted_8 rfl rfl rfl ?_
    exact Ey.ireturn (M := mX7_acted) dX7_acted_9 rfl rfl
  · refine Ex.aload_n (M := mX7_acted) (pc2 := 5) dX7_acted_4 rfl rfl rfl ?_
    refine Ey.callVv (M := mX7_acted) (pc2 := 8) (as := []) (rest := []) rfl dX7_acted_5 isX7_records lcX7_110 sh_69 rfl rfl ⟨(Nat.le_of_ble_eq_true rfl), (Nat.le_of_ble_eq_true rfl)⟩ rfl (Nat.le_of_ble_eq_true rfl) (Nat.le_of_ble_eq_true rfl) (t_X7_records I) rfl (fun I1 => ?_)
    refine Ex.iload_n (M := mX7_acted) (pc2 := 9) dX7_acted_8 rfl rfl rfl ?_
    exact Ey.ireturn (M := mX7_acted) dX7_acted_9 rfl rfl
/-! FenceDuelModel.writeEdge(IZII)I -/
def f_X7_writeEdge (l1 : Int32) (l2 : Int32) (l3 : Int32) (l4 : Int32) (I : xI) : Option (Int32 × xI) :=
  xb (f_X7_looks I) (fun _ I1 => if l2 = 0 then xb (f_X7_writes l1 (0 : Int32) l3 l4 I1) (fun r2 I2 => xb (f_X7_acted r2 I2) (fun r3 I3 => some (r3, I3))) else xb (f_X7_writes l1 (1 : Int32) l3 l4 I1) (fun r4 I4 => xb (f_X7_acted r4 I4) (fun r5 I5 => some (r5, I5))))
theorem t_X7_writeEdge (l1 : Int32) (l2 : Int32) (l3 : Int32) (l4 : Int32) (I : xI) : Ey none mX7_writeEdge 0 [some (.inr (some 69)), some (.inl l1), some (.inl l2), some (.inl l3), some (.inl l4)] [] I (f_X7_writeEdge l1 l2 l3 l4 I) := by
  unfold f_X7_writeEdge
  refine Ex.aload_n (M := mX7_writeEdge) (pc2 := 1) dX7_writeEdge_0 rfl rfl rfl ?_
  refine Ey.callVv (M := mX7_writeEdge) (pc2 := 4) (as := []) (rest := []) rfl dX7_writeEdge_1 isX7_looks lcX7_113 sh_69 rfl rfl ⟨(Nat.le_of_ble_eq_true rfl), (Nat.le_of_ble_eq_true rfl)⟩ rfl (Nat.le_of_ble_eq_true rfl) (Nat.le_of_ble_eq_true rfl) (t_X7_looks I) rfl (fun I1 => ?_)
  refine Ex.aload_n (M := mX7_writeEdge) (pc2 := 5) dX7_writeEdge_4 rfl rfl rfl ?_
  refine Ex.aload_n (M := mX7_writeEdge) (pc2 := 6) dX7_writeEdge_5 rfl rfl rfl ?_
  refine Ex.iload_n (M := mX7_writeEdge) (pc2 := 7) dX7_writeEdge_6 rfl rfl rfl ?_
  refine Ex.iload_n (M := mX7_writeEdge) (pc2 := 8) dX7_writeEdge_7 rfl rfl rfl ?_
  refine Ey.if_eq (M := mX7_writeEdge) (tgt := 15) (pc2 := 11) dX7_writeEdge_8 rfl (fun _ => ?_) rfl (fun _ => ?_)
  · refine Ex.iconst (M := mX7_writeEdge) (pc2 := 16) dX7_writeEdge_15 ki_0 rfl ?_
    refine Ex.iload_n (M := mX7_writeEdge) (pc2 := 17) dX7_writeEdge_16 rfl rfl rfl ?_
    refine Ex.iload (M := mX7_writeEdge) (pc2 := 19) dX7_writeEdge_17 rfl rfl ?_
    refine Ey.callVi (M := mX7_writeEdge) (pc2 := 22) (as := [.inl l1, .inl (0 : Int32), .inl l3, .inl l4]) (rest := [.inr (some 69)]) rfl dX7_writeEdge_19 isX7_writes lcX7_116 sh_69 rfl rfl ⟨(Nat.le_of_ble_eq_true rfl), (Nat.le_of_ble_eq_true rfl)⟩ rfl (Nat.le_of_ble_eq_true rfl) (Nat.le_of_ble_eq_true rfl) (t_X7_writes l1 (0 : Int32) l3 l4 I1) rfl (fun r2 I2 => ?_)
    refine Ey.callVi (M := mX7_writeEdge) (pc2 := 25) (as := [.inl r2]) (rest := []) rfl dX7_writeEdge_22 isX7_acted lcX7_120 sh_69 rfl rfl ⟨(Nat.le_of_ble_eq_true rfl), (Nat.le_of_ble_eq_true rfl)⟩ rfl (Nat.le_of_ble_eq_true rfl) (Nat.le_of_ble_eq_true rfl) (t_X7_acted r2 I2) rfl (fun r3 I3 => ?_)
    exact Ey.ireturn (M := mX7_writeEdge) dX7_writeEdge_25 rfl rfl
  · refine Ex.iconst (M := mX7_writeEdge) (pc2 := 12) dX7_writeEdge_11 ki_1 rfl ?_
    refine Ex.goto (M := mX7_writeEdge) (tgt := 16) dX7_writeEdge_12 rfl ?_
    refine Ex.iload_n (M := mX7_writeEdge) (pc2 := 17) dX7_writeEdge_16 rfl rfl rfl ?_
    refine Ex.iload (M := mX7_writeEdge) (pc2 := 19) dX7_writeEdge_17 rfl rfl ?_
    refine Ey.callVi (M := mX7_writeEdge) (pc2 := 22) (as := [.inl l1, .inl (1 : Int32), .inl l3, .inl l4]) (rest := [.inr (some 69)]) rfl dX7_writeEdge_19 isX7_writes lcX7_116 sh_69 rfl rfl ⟨(Nat.le_of_ble_eq_true rfl), (Nat.le_of_ble_eq_true rfl)⟩ rfl (Nat.le_of_ble_eq_true rfl) (Nat.le_of_ble_eq_true rfl) (t_X7_writes l1 (1 : Int32) l3 l4 I1) rfl (fun r4 I4 => ?_)
    refine Ey.callVi (M := mX7_writeEdge) (pc2 := 25) (as := [.inl r4]) (rest := []) rfl dX7_writeEdge_22 isX7_acted lcX7_120 sh_69 rfl rfl ⟨(Nat.le_of_ble_eq_true rfl), (Nat.le_of_ble_eq_true rfl)⟩ rfl (Nat.le_of_ble_eq_true rfl) (Nat.le_of_ble_eq_true rfl) (t_X7_acted r4 I4) rfl (fun r5 I5 => ?_)
    exact Ey.ireturn (M := mX7_writeEdge) dX7_writeEdge_25 rfl rfl
/-! FenceDuelModel.writeClaim(II)I -/
def f_X7_writeClaim (l1 : Int32) (l2 : Int32) (I : xI) : Option (Int32 × xI) :=
  xb (f_X7_looks I) (fun _ I1 => xb (f_X7_writes l1 (2 : Int32) l2 (-5 : Int32) I1) (fun r2 I2 => xb (f_X7_acted r2 I2) (fun r3 I3 => some (r3, I3))))
theorem t_X7_writeClaim (l1 : Int32) (l2 : Int32) (I : xI) : Ey none mX7_writeClaim 0 [some (.inr (some 69)), some (.inl l1), some (.inl l2)] [] I (f_X7_writeClaim l1 l2 I) := by
  unfold f_X7_writeClaim
  refine Ex.aload_n (M := mX7_writeClaim) (pc2 := 1) dX7_writeClaim_0 rfl rfl rfl ?_
  refine Ey.callVv (M := mX7_writeClaim) (pc2 := 4) (as := []) (rest := []) rfl dX7_writeClaim_1 isX7_looks lcX7_113 sh_69 rfl rfl ⟨(Nat.le_of_ble_eq_true rfl), (Nat.le_of_ble_eq_true rfl)⟩ rfl (Nat.le_of_ble_eq_true rfl) (Nat.le_of_ble_eq_true rfl) (t_X7_looks I) rfl (fun I1 => ?_)
  refine Ex.aload_n (M := mX7_writeClaim) (pc2 := 5) dX7_writeClaim_4 rfl rfl rfl ?_
  refine Ex.aload_n (M := mX7_writeClaim) (pc2 := 6) dX7_writeClaim_5 rfl rfl rfl ?_
  refine Ex.iload_n (M := mX7_writeClaim) (pc2 := 7) dX7_writeClaim_6 rfl rfl rfl ?_
  refine Ex.iconst (M := mX7_writeClaim) (pc2 := 8) dX7_writeClaim_7 ki_2 rfl ?_
  refine Ex.iload_n (M := mX7_writeClaim) (pc2 := 9) dX7_writeClaim_8 rfl rfl rfl ?_
  refine Ex.bipush (M := mX7_writeClaim) (pc2 := 11) dX7_writeClaim_9 kb_m5 rfl ?_
  refine Ey.callVi (M := mX7_writeClaim) (pc2 := 14) (as := [.inl l1, .inl (2 : Int32), .inl l2, .inl (-5 : Int32)]) (rest := [.inr (some 69)]) rfl dX7_writeClaim_11 isX7_writes lcX7_116 sh_69 rfl rfl ⟨(Nat.le_of_ble_eq_true rfl), (Nat.le_of_ble_eq_true rfl)⟩ rfl (Nat.le_of_ble_eq_true rfl) (Nat.le_of_ble_eq_true rfl) (t_X7_writes l1 (2 : Int32) l2 (-5 : Int32) I1) rfl (fun r2 I2 => ?_)
  refine Ey.callVi (M := mX7_writeClaim) (pc2 := 17) (as := [.inl r2]) (rest := []) rfl dX7_writeClaim_14 isX7_acted lcX7_120 sh_69 rfl rfl ⟨(Nat.le_of_ble_eq_true rfl), (Nat.le_of_ble_eq_true rfl)⟩ rfl (Nat.le_of_ble_eq_true rfl) (Nat.le_of_ble_eq_true rfl) (t_X7_acted r2 I2) rfl (fun r3 I3 => ?_)
  exact Ey.ireturn (M := mX7_writeClaim) dX7_writeClaim_17 rfl rfl
/-! FenceDuelModel.writeTruce(II)I -/
def f_X7_writeTruce (l1 : Int32) (l2 : Int32) (I : xI) : Option (Int32 × xI) :=
  xb (f_X7_looks I) (fun _ I1 => xb (f_X7_writes l1 (3 : Int32) (-5 : Int32) l2 I1) (fun r2 I2 => xb (f_X7_acted r2 I2) (fun r3 I3 => some (r3, I3))))
theorem t_X7_writeTruce (l1 : Int32) (l2 : Int32) (I : xI) : Ey none mX7_writeTruce 0 [some (.inr (some 69)), some (.inl l1), some (.inl l2)] [] I (f_X7_writeTruce l1 l2 I) := by
  unfold f_X7_writeTruce
  refine Ex.aload_n (M := mX7_writeTruce) (pc2 := 1) dX7_writeTruce_0 rfl rfl rfl ?_
  refine Ey.callVv (M := mX7_writeTruce) (pc2 := 4) (as := []) (rest := []) rfl dX7_writeTruce_1 isX7_looks lcX7_113 sh_69 rfl rfl ⟨(Nat.le_of_ble_eq_true rfl), (Nat.le_of_ble_eq_true rfl)⟩ rfl (Nat.le_of_ble_eq_true rfl) (Nat.le_of_ble_eq_true rfl) (t_X7_looks I) rfl (fun I1 => ?_)
  refine Ex.aload_n (M := mX7_writeTruce) (pc2 := 5) dX7_writeTruce_4 rfl rfl rfl ?_
  refine Ex.aload_n (M := mX7_writeTruce) (pc2 := 6) dX7_writeTruce_5 rfl rfl rfl ?_
  refine Ex.iload_n (M := mX7_writeTruce) (pc2 := 7) dX7_writeTruce_6 rfl rfl rfl ?_
  refine Ex.iconst (M := mX7_writeTruce) (pc2 := 8) dX7_writeTruce_7 ki_3 rfl ?_
  refine Ex.bipush (M := mX7_writeTruce) (pc2 := 10) dX7_writeTruce_8 kb_m5 rfl ?_
  refine Ex.iload_n (M := mX7_writeTruce) (pc2 := 11) dX7_writeTruce_10 rfl rfl rfl ?_
  refine Ey.callVi (M := mX7_writeTruce) (pc2 := 14) (as := [.inl l1, .inl (3 : Int32), .inl (-5 : Int32), .inl l2]) (rest := [.inr (some 69)]) rfl dX7_writeTruce_11 isX7_writes lcX7_116 sh_69 rfl rfl ⟨(Nat.le_of_ble_eq_true rfl), (Nat.le_of_ble_eq_true rfl)⟩ rfl (Nat.le_of_ble_eq_true rfl) (Nat.le_of_ble_eq_true rfl) (t_X7_writes l1 (3 : Int32) (-5 : Int32) l2 I1) rfl (fun r2 I2 => ?_)
  refine Ey.callVi (M := mX7_writeTruce) (pc2 := 17) (as := [.inl r2]) (rest := []) rfl dX7_writeTruce_14 isX7_acted lcX7_120 sh_69 rfl rfl ⟨(Nat.le_of_ble_eq_true rfl), (Nat.le_of_ble_eq_true rfl)⟩ rfl (Nat.le_of_ble_eq_true rfl) (Nat.le_of_ble_eq_true rfl) (t_X7_acted r2 I2) rfl (fun r3 I3 => ?_)
  exact Ey.ireturn (M := mX7_writeTruce) dX7_writeTruce_17 rfl rfl
/-! FenceDuelModel.callBack(I)I -/
def f_X7_callBack (l1 : Int32) (I : xI) : Option (Int32 × xI) :=
  xb (f_X7_isLetter l1 I) (fun r1 I1 => if r1 ≠ 0 then xb (f_X7_of l1 (6 : Int32) I1) (fun r2 I2 => if r2 = 0 then xb (f_X7_looks I2) (fun _ I3 => xb (f_X7_records I3) (fun _ I4 => xb (f_X7_at l1 (6 : Int32) I4) (fun r5 I5 => if xin r5 742 then xb (f_X7_of l1 (5 : Int32) (xup I5 70 r5.toNatClampNeg (3 : Int32))) (fun r7 I7 => some ((r7 - (I7 70 0)), I7)) else none))) else some ((-4 : Int32), I2)) else some ((-1 : Int32), I1))
theorem t_X7_callBack (l1 : Int32) (I : xI) : Ey none mX7_callBack 0 [some (.inr (some 69)), some (.inl l1)] [] I (f_X7_callBack l1 I) := by
  unfold f_X7_callBack
  refine Ex.aload_n (M := mX7_callBack) (pc2 := 1) dX7_callBack_0 rfl rfl rfl ?_
  refine Ex.iload_n (M := mX7_callBack) (pc2 := 2) dX7_callBack_1 rfl rfl rfl ?_
  refine Ey.callVi (M := mX7_callBack) (pc2 := 5) (as := [.inl l1]) (rest := []) rfl dX7_callBack_2 isX7_isLetter lcX7_123 sh_69 rfl rfl ⟨(Nat.le_of_ble_eq_true rfl), (Nat.le_of_ble_eq_true rfl)⟩ rfl (Nat.le_of_ble_eq_true rfl) (Nat.le_of_ble_eq_true rfl) (t_X7_isLetter l1 I) rfl (fun r1 I1 => ?_)
  refine Ey.if_ne (M := mX7_callBack) (tgt := 10) (pc2 := 8) dX7_callBack_5 rfl (fun _ => ?_) rfl (fun _ => ?_)
  · refine Ex.aload_n (M := mX7_callBack) (pc2 := 11) dX7_callBack_10 rfl rfl rfl ?_
    refine Ex.iload_n (M := mX7_callBack) (pc2 := 12) dX7_callBack_11 rfl rfl rfl ?_
    refine Ex.bipush (M := mX7_callBack) (pc2 := 14) dX7_callBack_12 kb_6 rfl ?_
    refine Ey.callVi (M := mX7_callBack) (pc2 := 17) (as := [.inl l1, .inl (6 : Int32)]) (rest := []) rfl dX7_callBack_14 isX7_of lcX7_68 sh_69 rfl rfl ⟨(Nat.le_of_ble_eq_true rfl), (Nat.le_of_ble_eq_true rfl)⟩ rfl (Nat.le_of_ble_eq_true rfl) (Nat.le_of_ble_eq_true rfl) (t_X7_of l1 (6 : Int32) I1) rfl (fun r2 I2 => ?_)
    refine Ey.if_eq (M := mX7_callBack) (tgt := 23) (pc2 := 20) dX7_callBack_17 rfl (fun _ => ?_) rfl (fun _ => ?_)
    · refine Ex.aload_n (M := mX7_callBack) (pc2 := 24) dX7_callBack_23 rfl rfl rfl ?_
      refine Ey.callVv (M := mX7_callBack) (pc2 := 27) (as := []) (rest := []) rfl dX7_callBack_24 isX7_looks lcX7_113 sh_69 rfl rfl ⟨(Nat.le_of_ble_eq_true rfl), (Nat.le_of_ble_eq_true rfl)⟩ rfl (Nat.le_of_ble_eq_true rfl) (Nat.le_of_ble_eq_true rfl) (t_X7_looks I2) rfl (fun I3 => ?_)
      refine Ex.aload_n (M := mX7_callBack) (pc2 := 28) dX7_callBack_27 rfl rfl rfl ?_
      refine Ey.callVv (M := mX7_callBack) (pc2 := 31) (as := []) (rest := []) rfl dX7_callBack_28 isX7_records lcX7_110 sh_69 rfl rfl ⟨(Nat.le_of_ble_eq_true rfl), (Nat.le_of_ble_eq_true rfl)⟩ rfl (Nat.le_of_ble_eq_true rfl) (Nat.le_of_ble_eq_true rfl) (t_X7_records I3) rfl (fun I4 => ?_)
      refine Ex.aload_n (M := mX7_callBack) (pc2 := 32) dX7_callBack_31 rfl rfl rfl ?_
      refine Ex.getR (M := mX7_callBack) (pc2 := 35) dX7_callBack_32 xck7 lfX7_7 (Nat.le_of_ble_eq_true rfl) sh_69 rfl ff_69_0 rfl ?_
      refine Ex.iload_n (M := mX7_callBack) (pc2 := 36) dX7_callBack_35 rfl rfl rfl ?_
      refine Ex.bipush (M := mX7_callBack) (pc2 := 38) dX7_callBack_36 kb_6 rfl ?_
      refine Ey.callSi (M := mX7_callBack) (pc2 := 41) (as := [.inl l1, .inl (6 : Int32)]) (rest := [.inr (some 70)]) rfl dX7_callBack_38 isX7_at lcX7_43  rfl ⟨(Nat.le_of_ble_eq_true rfl), (Nat.le_of_ble_eq_true rfl)⟩ rfl (Nat.le_of_ble_eq_true rfl) (Nat.le_of_ble_eq_true rfl) (t_X7_at l1 (6 : Int32) I4) rfl (fun r5 I5 => ?_)
      refine Ex.iconst (M := mX7_callBack) (pc2 := 42) dX7_callBack_41 ki_3 rfl ?_
      refine Ey.guard (fun hz6 => ?_)
      refine Ey.iastore (M := mX7_callBack) (pc2 := 43) dX7_callBack_42 sh_70 rfl hz6 rfl ?_
      refine Ex.aload_n (M := mX7_callBack) (pc2 := 44) dX7_callBack_43 rfl rfl rfl ?_
      refine Ex.iload_n (M := mX7_callBack) (pc2 := 45) dX7_callBack_44 rfl rfl rfl ?_
      refine Ex.iconst (M := mX7_callBack) (pc2 := 46) dX7_callBack_45 ki_5 rfl ?_
      refine Ey.callVi (M := mX7_callBack) (pc2 := 49) (as := [.inl l1, .inl (5 : Int32)]) (rest := []) rfl dX7_callBack_46 isX7_of lcX7_68 sh_69 rfl rfl ⟨(Nat.le_of_ble_eq_true rfl), (Nat.le_of_ble_eq_true rfl)⟩ rfl (Nat.le_of_ble_eq_true rfl) (Nat.le_of_ble_eq_true rfl) (t_X7_of l1 (5 : Int32) (xup I5 70 r5.toNatClampNeg (3 : Int32))) rfl (fun r7 I7 => ?_)
      refine Ex.aload_n (M := mX7_callBack) (pc2 := 50) dX7_callBack_49 rfl rfl rfl ?_
      refine Ex.getR (M := mX7_callBack) (pc2 := 53) dX7_callBack_50 xck7 lfX7_7 (Nat.le_of_ble_eq_true rfl) sh_69 rfl ff_69_0 rfl ?_
      refine Ex.iconst (M := mX7_callBack) (pc2 := 54) dX7_callBack_53 ki_0 rfl ?_
      refine Ey.iaload (M := mX7_callBack) (pc2 := 55) dX7_callBack_54 sh_70 kn_0 (by decide) rfl ?_
      refine Ex.isub (M := mX7_callBack) (pc2 := 56) dX7_callBack_55 rfl ?_
      exact Ey.ireturn (M := mX7_callBack) dX7_callBack_56 rfl rfl
    · refine Ex.bipush (M := mX7_callBack) (pc2 := 22) dX7_callBack_20 kb_m4 rfl ?_
      exact Ey.ireturn (M := mX7_callBack) dX7_callBack_22 rfl rfl
  · refine Ex.iconst (M := mX7_callBack) (pc2 := 9) dX7_callBack_8 ki_m1 rfl ?_
    exact Ey.ireturn (M := mX7_callBack) dX7_callBack_9 rfl rfl
/-! FenceDuelModel.pass(I)I -/
def f_X7_pass (l1 : Int32) (I : xI) : Option (Int32 × xI) :=
  xb (f_X7_looks I) (fun _ I1 => xb (f_X7_in l1 (1 : Int32) (99 : Int32) I1) (fun r2 I2 => if r2 = 0 then some ((-2 : Int32), I2) else xb (f_X7_passes l1 I2) (fun r3 I3 => xb (f_X7_acted r3 I3) (fun r4 I4 => some (r4, I4)))))
theorem t_X7_pass (l1 : Int32) (I : xI) : Ey none mX7_pass 0 [some (.inr (some 69)), some (.inl l1)] [] I (f_X7_pass l1 I) := by
  unfold f_X7_pass
  refine Ex.aload_n (M := mX7_pass) (pc2 := 1) dX7_pass_0 rfl rfl rfl ?_
  refine Ey.callVv (M := mX7_pass) (pc2 := 4) (as := []) (rest := []) rfl dX7_pass_1 isX7_looks lcX7_113 sh_69 rfl rfl ⟨(Nat.le_of_ble_eq_true rfl), (Nat.le_of_ble_eq_true rfl)⟩ rfl (Nat.le_of_ble_eq_true rfl) (Nat.le_of_ble_eq_true rfl) (t_X7_looks I) rfl (fun I1 => ?_)
  refine Ex.iload_n (M := mX7_pass) (pc2 := 5) dX7_pass_4 rfl rfl rfl ?_
  refine Ex.iconst (M := mX7_pass) (pc2 := 6) dX7_pass_5 ki_1 rfl ?_
  refine Ex.bipush (M := mX7_pass) (pc2 := 8) dX7_pass_6 kb_99 rfl ?_
  refine Ey.callSi (M := mX7_pass) (pc2 := 11) (as := [.inl l1, .inl (1 : Int32), .inl (99 : Int32)]) (rest := []) rfl dX7_pass_8 isX7_in lcX7_39  rfl ⟨(Nat.le_of_ble_eq_true rfl), (Nat.le_of_ble_eq_true rfl)⟩ rfl (Nat.le_of_ble_eq_true rfl) (Nat.le_of_ble_eq_true rfl) (t_X7_in l1 (1 : Int32) (99 : Int32) I1) rfl (fun r2 I2 => ?_)
  refine Ey.if_eq (M := mX7_pass) (tgt := 26) (pc2 := 14) dX7_pass_11 rfl (fun _ => ?_) rfl (fun _ => ?_)
  · refine Ex.bipush (M := mX7_pass) (pc2 := 28) dX7_pass_26 kb_m2 rfl ?_
    exact Ey.ireturn (M := mX7_pass) dX7_pass_28 rfl rfl
  · refine Ex.aload_n (M := mX7_pass) (pc2 := 15) dX7_pass_14 rfl rfl rfl ?_
    refine Ex.aload_n (M := mX7_pass) (pc2 := 16) dX7_pass_15 rfl rfl rfl ?_
    refine Ex.iload_n (M := mX7_pass) (pc2 := 17) dX7_pass_16 rfl rfl rfl ?_
    refine Ey.callVi (M := mX7_pass) (pc2 := 20) (as := [.inl l1]) (rest := [.inr (some 69)]) rfl dX7_pass_17 isX7_passes lcX7_126 sh_69 rfl rfl ⟨(Nat.le_of_ble_eq_true rfl), (Nat.le_of_ble_eq_true rfl)⟩ rfl (Nat.le_of_ble_eq_true rfl) (Nat.le_of_ble_eq_true rfl) (t_X7_passes l1 I2) rfl (fun r3 I3 => ?_)
    refine Ey.callVi (M := mX7_pass) (pc2 := 23) (as := [.inl r3]) (rest := []) rfl dX7_pass_20 isX7_acted lcX7_120 sh_69 rfl rfl ⟨(Nat.le_of_ble_eq_true rfl), (Nat.le_of_ble_eq_true rfl)⟩ rfl (Nat.le_of_ble_eq_true rfl) (Nat.le_of_ble_eq_true rfl) (t_X7_acted r3 I3) rfl (fun r4 I4 => ?_)
    refine Ex.goto (M := mX7_pass) (tgt := 28) dX7_pass_23 rfl ?_
    exact Ey.ireturn (M := mX7_pass) dX7_pass_28 rfl rfl
/-! FenceDuelModel.set(II)I -/
def f_X7_set_24 (l1 : Int32) (l2 : Int32) (s0 : Int32) (s1 : Int32) (s2 : Int32) (I : xI) : Option (Int32 × xI) :=
  xb (f_X7_in s2 s1 s0 I) (fun r1 I1 => if r1 ≠ 0 then if xin ((4 : Int32) + l1) 742 then if (I1 70 (((4 : Int32) + l1).toNatClampNeg)) ≠ l2 then xb (f_X7_looks I1) (fun _ I3 => xb (f_X7_records I3) (fun _ I4 => if xin ((4 : Int32) + l1) 742 then some ((I1 70 (((4 : Int32) + l1).toNatClampNeg)), (xup I4 70 (((4 : Int32) + l1).toNatClampNeg) l2)) else none)) else some ((-5 : Int32), I1) else none else some ((-2 : Int32), I1))
theorem t_X7_set_24 (l1 : Int32) (l2 : Int32) (d3 : Option xV) (s0 : Int32) (s1 : Int32) (s2 : Int32) (I : xI) : Ey none mX7_set 24 [some (.inr (some 69)), some (.inl l1), some (.inl l2), d3] [.inl s0, .inl s1, .inl s2] I (f_X7_set_24 l1 l2 s0 s1 s2 I) := by
  unfold f_X7_set_24
  refine Ey.callSi (M := mX7_set) (pc2 := 27) (as := [.inl s2, .inl s1, .inl s0]) (rest := []) rfl dX7_set_24 isX7_in lcX7_39  rfl ⟨(Nat.le_of_ble_eq_true rfl), (Nat.le_of_ble_eq_true rfl)⟩ rfl (Nat.le_of_ble_eq_true rfl) (Nat.le_of_ble_eq_true rfl) (t_X7_in s2 s1 s0 I) rfl (fun r1 I1 => ?_)
  refine Ey.if_ne (M := mX7_set) (tgt := 33) (pc2 := 30) dX7_set_27 rfl (fun _ => ?_) rfl (fun _ => ?_)
  · refine Ex.aload_n (M := mX7_set) (pc2 := 34) dX7_set_33 rfl rfl rfl ?_
    refine Ex.getR (M := mX7_set) (pc2 := 37) dX7_set_34 xck7 lfX7_7 (Nat.le_of_ble_eq_true rfl) sh_69 rfl ff_69_0 rfl ?_
    refine Ex.iconst (M := mX7_set) (pc2 := 38) dX7_set_37 ki_4 rfl ?_
    refine Ex.iload_n (M := mX7_set) (pc2 := 39) dX7_set_38 rfl rfl rfl ?_
    refine Ex.iadd (M := mX7_set) (pc2 := 40) dX7_set_39 rfl ?_
    refine Ey.guard (fun hz2 => ?_)
    refine Ey.iaload (M := mX7_set) (pc2 := 41) dX7_set_40 sh_70 rfl hz2 rfl ?_
    refine Ey.istore_n (M := mX7_set) (pc2 := 42) dX7_set_41 rfl (Nat.le_of_ble_eq_true rfl) rfl rfl ?_
    refine Ex.iload_n (M := mX7_set) (pc2 := 43) dX7_set_42 rfl rfl rfl ?_
    refine Ex.iload_n (M := mX7_set) (pc2 := 44) dX7_set_43 rfl rfl rfl ?_
    refine Ey.icmp_ne (M := mX7_set) (tgt := 50) (pc2 := 47) dX7_set_44 rfl (fun _ => ?_) rfl (fun _ => ?_)
    · refine Ex.aload_n (M := mX7_set) (pc2 := 51) dX7_set_50 rfl rfl rfl ?_
      refine Ey.callVv (M := mX7_set) (pc2 := 54) (as := []) (rest := []) rfl dX7_set_51 isX7_looks lcX7_113 sh_69 rfl rfl ⟨(Nat.le_of_ble_eq_true rfl), (Nat.le_of_ble_eq_true rfl)⟩ rfl (Nat.le_of_ble_eq_true rfl) (Nat.le_of_ble_eq_true rfl) (t_X7_looks I1) rfl (fun I3 => ?_)
      refine Ex.aload_n (M := mX7_set) (pc2 := 55) dX7_set_54 rfl rfl rfl ?_
      refine Ey.callVv (M := mX7_set) (pc2 := 58) (as := []) (rest := []) rfl dX7_set_55 isX7_records lcX7_110 sh_69 rfl rfl ⟨(Nat.le_of_ble_eq_true rfl), (Nat.le_of_ble_eq_true rfl)⟩ rfl (Nat.le_of_ble_eq_true rfl) (Nat.le_of_ble_eq_true rfl) (t_X7_records I3) rfl (fun I4 => ?_)
      refine Ex.aload_n (M := mX7_set) (pc2 := 59) dX7_set_58 rfl rfl rfl ?_
      refine Ex.getR (M := mX7_set) (pc2 := 62) dX7_set_59 xck7 lfX7_7 (Nat.le_of_ble_eq_true rfl) sh_69 rfl ff_69_0 rfl ?_
      refine Ex.iconst (M := mX7_set) (pc2 := 63) dX7_set_62 ki_4 rfl ?_
      refine Ex.iload_n (M := mX7_set) (pc2 := 64) dX7_set_63 rfl rfl rfl ?_
      refine Ex.iadd (M := mX7_set) (pc2 := 65) dX7_set_64 rfl ?_
      refine Ex.iload_n (M := mX7_set) (pc2 := 66) dX7_set_65 rfl rfl rfl ?_
      refine Ey.guard (fun hz5 => ?_)
      refine Ey.iastore (M := mX7_set) (pc2 := 67) dX7_set_66 sh_70 rfl hz5 rfl ?_
      refine Ex.iload_n (M := mX7_set) (pc2 := 68) dX7_set_67 rfl rfl rfl ?_
      exact Ey.ireturn (M := mX7_set) dX7_set_68 rfl rfl
    · refine Ex.bipush (M := mX7_set) (pc2 := 49) dX7_set_47 kb_m5 rfl ?_
      exact Ey.ireturn (M := mX7_set) dX7_set_49 rfl rfl
  · refine Ex.bipush (M := mX7_set) (pc2 := 32) dX7_set_30 kb_m2 rfl ?_
    exact Ey.ireturn (M := mX7_set) dX7_set_32 rfl rfl
def f_X7_set (l1 : Int32) (l2 : Int32) (I : xI) : Option (Int32 × xI) :=
  xb (f_X7_in l1 (0 : Int32) (1 : Int32) I) (fun r6 I6 => if r6 ≠ 0 then if l1 ≠ 0 then f_X7_set_24 l1 l2 (48 : Int32) (1 : Int32) l2 I6 else f_X7_set_24 l1 l2 (9 : Int32) (1 : Int32) l2 I6 else some ((-1 : Int32), I6))
theorem t_X7_set (l1 : Int32) (l2 : Int32) (I : xI) : Ey none mX7_set 0 [some (.inr (some 69)), some (.inl l1), some (.inl l2), none] [] I (f_X7_set l1 l2 I) := by
  unfold f_X7_set
  refine Ex.iload_n (M := mX7_set) (pc2 := 1) dX7_set_0 rfl rfl rfl ?_
  refine Ex.iconst (M := mX7_set) (pc2 := 2) dX7_set_1 ki_0 rfl ?_
  refine Ex.iconst (M := mX7_set) (pc2 := 3) dX7_set_2 ki_1 rfl ?_
  refine Ey.callSi (M := mX7_set) (pc2 := 6) (as := [.inl l1, .inl (0 : Int32), .inl (1 : Int32)]) (rest := []) rfl dX7_set_3 isX7_in lcX7_39  rfl ⟨(Nat.le_of_ble_eq_true rfl), (Nat.le_of_ble_eq_true rfl)⟩ rfl (Nat.le_of_ble_eq_true rfl) (Nat.le_of_ble_eq_true rfl) (t_X7_in l1 (0 : Int32) (1 : Int32) I) rfl (fun r6 I6 => ?_)
  refine Ey.if_ne (M := mX7_set) (tgt := 11) (pc2 := 9) dX7_set_6 rfl (fun _ => ?_) rfl (fun _ => ?_)
  · refine Ex.iload_n (M := mX7_set) (pc2 := 12) dX7_set_11 rfl rfl rfl ?_
    refine Ex.iconst (M := mX7_set) (pc2 := 13) dX7_set_12 ki_1 rfl ?_
    refine Ex.iload_n (M := mX7_set) (pc2 := 14) dX7_set_13 rfl rfl rfl ?_
    refine Ey.if_ne (M := mX7_set) (tgt := 22) (pc2 := 17) dX7_set_14 rfl (fun _ => ?_) rfl (fun _ => ?_)
    · refine Ex.bipush (M := mX7_set) (pc2 := 24) dX7_set_22 kb_48 rfl ?_
      exact t_X7_set_24 _ _ _ _ _ _ _
    · refine Ex.bipush (M := mX7_set) (pc2 := 19) dX7_set_17 kb_9 rfl ?_
      refine Ex.goto (M := mX7_set) (tgt := 24) dX7_set_19 rfl ?_
      exact t_X7_set_24 _ _ _ _ _ _ _
  · refine Ex.iconst (M := mX7_set) (pc2 := 10) dX7_set_9 ki_m1 rfl ?_
    exact Ey.ireturn (M := mX7_set) dX7_set_10 rfl rfl
/-! FenceDuelModel.type(C)I -/
def f_X7_type (l1 : Int32) (I : xI) : Option (Int32 × xI) :=
  if (I 69 8) ≠ (60 : Int32) then if xin (I 69 8) 60 then some (((xup (xup I 75 ((I 69 8).toNatClampNeg) l1) 69 8 (((xup I 75 ((I 69 8).toNatClampNeg) l1) 69 8) + (1 : Int32))) 69 8), (xup (xup I 75 ((I 69 8).toNatClampNeg) l1) 69 8 (((xup I 75 ((I 69 8).toNatClampNeg) l1) 69 8) + (1 : Int32)))) else none else some ((-3 : Int32), I)
theorem t_X7_type (l1 : Int32) (I : xI) : Ey none mX7_type 0 [some (.inr (some 69)), some (.inl l1)] [] I (f_X7_type l1 I) := by
  unfold f_X7_type
  refine Ex.aload_n (M := mX7_type) (pc2 := 1) dX7_type_0 rfl rfl rfl ?_
  refine Ex.getI (M := mX7_type) (pc2 := 4) dX7_type_1 xck7 lfX7_129 (Nat.le_of_ble_eq_true rfl) sh_69 rfl rfl ?_
  refine Ex.bipush (M := mX7_type) (pc2 := 6) dX7_type_4 kb_60 rfl ?_
  refine Ey.icmp_ne (M := mX7_type) (tgt := 12) (pc2 := 9) dX7_type_6 rfl (fun _ => ?_) rfl (fun _ => ?_)
  · refine Ex.aload_n (M := mX7_type) (pc2 := 13) dX7_type_12 rfl rfl rfl ?_
    refine Ex.getR (M := mX7_type) (pc2 := 16) dX7_type_13 xck7 lfX7_25 (Nat.le_of_ble_eq_true rfl) sh_69 rfl ff_69_7 rfl ?_
    refine Ex.aload_n (M := mX7_type) (pc2 := 17) dX7_type_16 rfl rfl rfl ?_
    refine Ex.getI (M := mX7_type) (pc2 := 20) dX7_type_17 xck7 lfX7_129 (Nat.le_of_ble_eq_true rfl) sh_69 rfl rfl ?_
    refine Ex.iload_n (M := mX7_type) (pc2 := 21) dX7_type_20 rfl rfl rfl ?_
    refine Ey.guard (fun hz1 => ?_)
    refine Ey.iastore (M := mX7_type) (pc2 := 22) dX7_type_21 sh_75 rfl hz1 rfl ?_
    refine Ex.aload_n (M := mX7_type) (pc2 := 23) dX7_type_22 rfl rfl rfl ?_
    refine Ex.dup (M := mX7_type) (pc2 := 24) dX7_type_23 rfl ?_
    refine Ex.getI (M := mX7_type) (pc2 := 27) dX7_type_24 xck7 lfX7_129 (Nat.le_of_ble_eq_true rfl) sh_69 rfl rfl ?_
    refine Ex.iconst (M := mX7_type) (pc2 := 28) dX7_type_27 ki_1 rfl ?_
    refine Ex.iadd (M := mX7_type) (pc2 := 29) dX7_type_28 rfl ?_
    refine Ex.putI (M := mX7_type) (pc2 := 32) dX7_type_29 xck7 lfX7_129 (Nat.le_of_ble_eq_true rfl) sh_69 rfl rfl ⟨rfl, rfl⟩ rfl ?_
    refine Ex.aload_n (M := mX7_type) (pc2 := 33) dX7_type_32 rfl rfl rfl ?_
    refine Ex.getI (M := mX7_type) (pc2 := 36) dX7_type_33 xck7 lfX7_129 (Nat.le_of_ble_eq_true rfl) sh_69 rfl rfl ?_
    exact Ey.ireturn (M := mX7_type) dX7_type_36 rfl rfl
  · refine Ex.bipush (M := mX7_type) (pc2 := 11) dX7_type_9 kb_m3 rfl ?_
    exact Ey.ireturn (M := mX7_type) dX7_type_11 rfl rfl
/-! FenceDuelModel.clearText()I -/
def f_X7_clearText (I : xI) : Option (Int32 × xI) :=
  some ((I 69 8), (xup I 69 8 (0 : Int32)))
theorem t_X7_clearText (I : xI) : Ey none mX7_clearText 0 [some (.inr (some 69)), none] [] I (f_X7_clearText I) := by
  unfold f_X7_clearText
  refine Ex.aload_n (M := mX7_clearText) (pc2 := 1) dX7_clearText_0 rfl rfl rfl ?_
  refine Ex.getI (M := mX7_clearText) (pc2 := 4) dX7_clearText_1 xck7 lfX7_129 (Nat.le_of_ble_eq_true rfl) sh_69 rfl rfl ?_
  refine Ey.istore_n (M := mX7_clearText) (pc2 := 5) dX7_clearText_4 rfl (Nat.le_of_ble_eq_true rfl) rfl rfl ?_
  refine Ex.aload_n (M := mX7_clearText) (pc2 := 6) dX7_clearText_5 rfl rfl rfl ?_
  refine Ex.iconst (M := mX7_clearText) (pc2 := 7) dX7_clearText_6 ki_0 rfl ?_
  refine Ex.putI (M := mX7_clearText) (pc2 := 10) dX7_clearText_7 xck7 lfX7_129 (Nat.le_of_ble_eq_true rfl) sh_69 rfl rfl ⟨rfl, rfl⟩ rfl ?_
  refine Ex.iload_n (M := mX7_clearText) (pc2 := 11) dX7_clearText_10 rfl rfl rfl ?_
  exact Ey.ireturn (M := mX7_clearText) dX7_clearText_11 rfl rfl
/-! FenceDuelModel.isNext(II)Z -/
def f_X7_isNext (l1 : Int32) (l2 : Int32) (I : xI) : Option (Int32 × xI) :=
  if (I 69 13) ≠ 0 then some ((0 : Int32), I) else if (I 69 12) ≥ (I 69 8) then some ((0 : Int32), I) else if xin (I 69 12) 60 then xb (f_X7_in (I 75 ((I 69 12).toNatClampNeg)) l1 l2 I) (fun r2 I2 => if r2 = 0 then some ((0 : Int32), I2) else some ((1 : Int32), I2)) else none
theorem t_X7_isNext (l1 : Int32) (l2 : Int32) (I : xI) : Ey none mX7_isNext 0 [some (.inr (some 69)), some (.inl l1), some (.inl l2)] [] I (f_X7_isNext l1 l2 I) := by
  unfold f_X7_isNext
  refine Ex.aload_n (M := mX7_isNext) (pc2 := 1) dX7_isNext_0 rfl rfl rfl ?_
  refine Ex.getI (M := mX7_isNext) (pc2 := 4) dX7_isNext_1 xck7 lfX7_132 (Nat.le_of_ble_eq_true rfl) sh_69 rfl rfl ?_
  refine Ey.if_ne (M := mX7_isNext) (tgt := 39) (pc2 := 7) dX7_isNext_4 rfl (fun _ => ?_) rfl (fun _ => ?_)
  · refine Ex.iconst (M := mX7_isNext) (pc2 := 40) dX7_isNext_39 ki_0 rfl ?_
    exact Ey.ireturn (M := mX7_isNext) dX7_isNext_40 rfl (by decide)
  · refine Ex.aload_n (M := mX7_isNext) (pc2 := 8) dX7_isNext_7 rfl rfl rfl ?_
    refine Ex.getI (M := mX7_isNext) (pc2 := 11) dX7_isNext_8 xck7 lfX7_136 (Nat.le_of_ble_eq_true rfl) sh_69 rfl rfl ?_
    refine Ex.aload_n (M := mX7_isNext) (pc2 := 12) dX7_isNext_11 rfl rfl rfl ?_
    refine Ex.getI (M := mX7_isNext) (pc2 := 15) dX7_isNext_12 xck7 lfX7_129 (Nat.le_of_ble_eq_true rfl) sh_69 rfl rfl ?_
    refine Ey.icmp_ge (M := mX7_isNext) (tgt := 39) (pc2 := 18) dX7_isNext_15 rfl (fun _ => ?_) rfl (fun _ => ?_)
    · refine Ex.iconst (M := mX7_isNext) (pc2 := 40) dX7_isNext_39 ki_0 rfl ?_
      exact Ey.ireturn (M := mX7_isNext) dX7_isNext_40 rfl (by decide)
    · refine Ex.aload_n (M := mX7_isNext) (pc2 := 19) dX7_isNext_18 rfl rfl rfl ?_
      refine Ex.getR (M := mX7_isNext) (pc2 := 22) dX7_isNext_19 xck7 lfX7_25 (Nat.le_of_ble_eq_true rfl) sh_69 rfl ff_69_7 rfl ?_
      refine Ex.aload_n (M := mX7_isNext) (pc2 := 23) dX7_isNext_22 rfl rfl rfl ?_
      refine Ex.getI (M := mX7_isNext) (pc2 := 26) dX7_isNext_23 xck7 lfX7_136 (Nat.le_of_ble_eq_true rfl) sh_69 rfl rfl ?_
      refine Ey.guard (fun hz1 => ?_)
      refine Ey.iaload (M := mX7_isNext) (pc2 := 27) dX7_isNext_26 sh_75 rfl hz1 rfl ?_
      refine Ex.iload_n (M := mX7_isNext) (pc2 := 28) dX7_isNext_27 rfl rfl rfl ?_
      refine Ex.iload_n (M := mX7_isNext) (pc2 := 29) dX7_isNext_28 rfl rfl rfl ?_
      refine Ey.callSi (M := mX7_isNext) (pc2 := 32) (as := [.inl (I 75 ((I 69 12).toNatClampNeg)), .inl l1, .inl l2]) (rest := []) rfl dX7_isNext_29 isX7_in lcX7_39  rfl ⟨(Nat.le_of_ble_eq_true rfl), (Nat.le_of_ble_eq_true rfl)⟩ rfl (Nat.le_of_ble_eq_true rfl) (Nat.le_of_ble_eq_true rfl) (t_X7_in (I 75 ((I 69 12).toNatClampNeg)) l1 l2 I) rfl (fun r2 I2 => ?_)
      refine Ey.if_eq (M := mX7_isNext) (tgt := 39) (pc2 := 35) dX7_isNext_32 rfl (fun _ => ?_) rfl (fun _ => ?_)
      · refine Ex.iconst (M := mX7_isNext) (pc2 := 40) dX7_isNext_39 ki_0 rfl ?_
        exact Ey.ireturn (M := mX7_isNext) dX7_isNext_40 rfl (by decide)
      · refine Ex.iconst (M := mX7_isNext) (pc2 := 36) dX7_isNext_35 ki_1 rfl ?_
        refine Ex.goto (M := mX7_isNext) (tgt := 40) dX7_isNext_36 rfl ?_
        exact Ey.ireturn (M := mX7_isNext) dX7_isNext_40 rfl (by decide)
/-! FenceDuelModel.takes(II)I -/
def f_X7_takes_47 (l1 : Int32) (l3 : Int32) (s0 : Int32) (I : xI) : Option (Int32 × xI) :=
  if s0 = 0 ∨ s0 = 1 then if ((xup I 69 13 s0) 69 13) = 0 then some ((l3 - l1), (xup (xup I 69 13 s0) 69 12 (((xup I 69 13 s0) 69 12) + (1 : Int32)))) else some ((l3 - l1), (xup (xup I 69 13 s0) 69 12 (((xup I 69 13 s0) 69 12) + (0 : Int32)))) else none
theorem t_X7_takes_47 (l1 : Int32) (d2 : Option xV) (l3 : Int32) (s0 : Int32) (I : xI) : Ey none mX7_takes 47 [some (.inr (some 69)), some (.inl l1), d2, some (.inl l3)] [.inl s0, .inr (some 69)] I (f_X7_takes_47 l1 l3 s0 I) := by
  unfold f_X7_takes_47
  refine Ey.guard (fun hz1 => ?_)
  refine Ex.putI (M := mX7_takes) (pc2 := 50) dX7_takes_47 xck7 lfX7_132 (Nat.le_of_ble_eq_true rfl) sh_69 rfl rfl (xbool hz1) rfl ?_
  refine Ex.aload_n (M := mX7_takes) (pc2 := 51) dX7_takes_50 rfl rfl rfl ?_
  refine Ex.dup (M := mX7_takes) (pc2 := 52) dX7_takes_51 rfl ?_
  refine Ex.getI (M := mX7_takes) (pc2 := 55) dX7_takes_52 xck7 lfX7_136 (Nat.le_of_ble_eq_true rfl) sh_69 rfl rfl ?_
  refine Ex.aload_n (M := mX7_takes) (pc2 := 56) dX7_takes_55 rfl rfl rfl ?_
  refine Ex.getI (M := mX7_takes) (pc2 := 59) dX7_takes_56 xck7 lfX7_132 (Nat.le_of_ble_eq_true rfl) sh_69 rfl rfl ?_
  refine Ey.if_eq (M := mX7_takes) (tgt := 66) (pc2 := 62) dX7_takes_59 rfl (fun _ => ?_) rfl (fun _ => ?_)
  · refine Ex.iconst (M := mX7_takes) (pc2 := 67) dX7_takes_66 ki_1 rfl ?_
    refine Ex.iadd (M := mX7_takes) (pc2 := 68) dX7_takes_67 rfl ?_
    refine Ex.putI (M := mX7_takes) (pc2 := 71) dX7_takes_68 xck7 lfX7_136 (Nat.le_of_ble_eq_true rfl) sh_69 rfl rfl ⟨rfl, rfl⟩ rfl ?_
    refine Ex.iload_n (M := mX7_takes) (pc2 := 72) dX7_takes_71 rfl rfl rfl ?_
    refine Ex.iload_n (M := mX7_takes) (pc2 := 73) dX7_takes_72 rfl rfl rfl ?_
    refine Ex.isub (M := mX7_takes) (pc2 := 74) dX7_takes_73 rfl ?_
    exact Ey.ireturn (M := mX7_takes) dX7_takes_74 rfl rfl
  · refine Ex.iconst (M := mX7_takes) (pc2 := 63) dX7_takes_62 ki_0 rfl ?_
    refine Ex.goto (M := mX7_takes) (tgt := 67) dX7_takes_63 rfl ?_
    refine Ex.iadd (M := mX7_takes) (pc2 := 68) dX7_takes_67 rfl ?_
    refine Ex.putI (M := mX7_takes) (pc2 := 71) dX7_takes_68 xck7 lfX7_136 (Nat.le_of_ble_eq_true rfl) sh_69 rfl rfl ⟨rfl, rfl⟩ rfl ?_
    refine Ex.iload_n (M := mX7_takes) (pc2 := 72) dX7_takes_71 rfl rfl rfl ?_
    refine Ex.iload_n (M := mX7_takes) (pc2 := 73) dX7_takes_72 rfl rfl rfl ?_
    refine Ex.isub (M := mX7_takes) (pc2 := 74) dX7_takes_73 rfl ?_
    exact Ey.ireturn (M := mX7_takes) dX7_takes_74 rfl rfl
def f_X7_takes_24 (l1 : Int32) (l2 : Int32) (s0 : Int32) (I : xI) : Option (Int32 × xI) :=
  if (I 69 13) ≠ 0 then f_X7_takes_47 l1 s0 (1 : Int32) I else xb (f_X7_in s0 l1 l2 I) (fun r2 I2 => if r2 ≠ 0 then f_X7_takes_47 l1 s0 (0 : Int32) I2 else f_X7_takes_47 l1 s0 (1 : Int32) I2)
theorem t_X7_takes_24 (l1 : Int32) (l2 : Int32) (d3 : Option xV) (s0 : Int32) (I : xI) : Ey none mX7_takes 24 [some (.inr (some 69)), some (.inl l1), some (.inl l2), d3] [.inl s0] I (f_X7_takes_24 l1 l2 s0 I) := by
  unfold f_X7_takes_24
  refine Ey.istore_n (M := mX7_takes) (pc2 := 25) dX7_takes_24 rfl (Nat.le_of_ble_eq_true rfl) rfl rfl ?_
  refine Ex.aload_n (M := mX7_takes) (pc2 := 26) dX7_takes_25 rfl rfl rfl ?_
  refine Ex.aload_n (M := mX7_takes) (pc2 := 27) dX7_takes_26 rfl rfl rfl ?_
  refine Ex.getI (M := mX7_takes) (pc2 := 30) dX7_takes_27 xck7 lfX7_132 (Nat.le_of_ble_eq_true rfl) sh_69 rfl rfl ?_
  refine Ey.if_ne (M := mX7_takes) (tgt := 42) (pc2 := 33) dX7_takes_30 rfl (fun _ => ?_) rfl (fun _ => ?_)
  · refine Ex.iconst (M := mX7_takes) (pc2 := 43) dX7_takes_42 ki_1 rfl ?_
    refine Ex.goto (M := mX7_takes) (tgt := 47) dX7_takes_43 rfl ?_
    exact t_X7_takes_47 _ _ _ _ _
  · refine Ex.iload_n (M := mX7_takes) (pc2 := 34) dX7_takes_33 rfl rfl rfl ?_
    refine Ex.iload_n (M := mX7_takes) (pc2 := 35) dX7_takes_34 rfl rfl rfl ?_
    refine Ex.iload_n (M := mX7_takes) (pc2 := 36) dX7_takes_35 rfl rfl rfl ?_
    refine Ey.callSi (M := mX7_takes) (pc2 := 39) (as := [.inl s0, .inl l1, .inl l2]) (rest := [.inr (some 69)]) rfl dX7_takes_36 isX7_in lcX7_39  rfl ⟨(Nat.le_of_ble_eq_true rfl), (Nat.le_of_ble_eq_true rfl)⟩ rfl (Nat.le_of_ble_eq_true rfl) (Nat.le_of_ble_eq_true rfl) (t_X7_in s0 l1 l2 I) rfl (fun r2 I2 => ?_)
    refine Ey.if_ne (M := mX7_takes) (tgt := 46) (pc2 := 42) dX7_takes_39 rfl (fun _ => ?_) rfl (fun _ => ?_)
    · refine Ex.iconst (M := mX7_takes) (pc2 := 47) dX7_takes_46 ki_0 rfl ?_
      exact t_X7_takes_47 _ _ _ _ _
    · refine Ex.iconst (M := mX7_takes) (pc2 := 43) dX7_takes_42 ki_1 rfl ?_
      refine Ex.goto (M := mX7_takes) (tgt := 47) dX7_takes_43 rfl ?_
      exact t_X7_takes_47 _ _ _ _ _
def f_X7_takes (l1 : Int32) (l2 : Int32) (I : xI) : Option (Int32 × xI) :=
  if (I 69 12) ≥ (I 69 8) then f_X7_takes_24 l1 l2 (0 : Int32) I else if xin (I 69 12) 60 then f_X7_takes_24 l1 l2 (I 75 ((I 69 12).toNatClampNeg)) I else none
theorem t_X7_takes (l1 : Int32) (l2 : Int32) (I : xI) : Ey none mX7_takes 0 [some (.inr (some 69)), some (.inl l1), some (.inl l2), none] [] I (f_X7_takes l1 l2 I) := by
  unfold f_X7_takes
  refine Ex.aload_n (M := mX7_takes) (pc2 := 1) dX7_takes_0 rfl rfl rfl ?_
  refine Ex.getI (M := mX7_takes) (pc2 := 4) dX7_takes_1 xck7 lfX7_136 (Nat.le_of_ble_eq_true rfl) sh_69 rfl rfl ?_
  refine Ex.aload_n (M := mX7_takes) (pc2 := 5) dX7_takes_4 rfl rfl rfl ?_
  refine Ex.getI (M := mX7_takes) (pc2 := 8) dX7_takes_5 xck7 lfX7_129 (Nat.le_of_ble_eq_true rfl) sh_69 rfl rfl ?_
  refine Ey.icmp_ge (M := mX7_takes) (tgt := 23) (pc2 := 11) dX7_takes_8 rfl (fun _ => ?_) rfl (fun _ => ?_)
  · refine Ex.iconst (M := mX7_takes) (pc2 := 24) dX7_takes_23 ki_0 rfl ?_
    exact t_X7_takes_24 _ _ _ _ _
  · refine Ex.aload_n (M := mX7_takes) (pc2 := 12) dX7_takes_11 rfl rfl rfl ?_
    refine Ex.getR (M := mX7_takes) (pc2 := 15) dX7_takes_12 xck7 lfX7_25 (Nat.le_of_ble_eq_true rfl) sh_69 rfl ff_69_7 rfl ?_
    refine Ex.aload_n (M := mX7_takes) (pc2 := 16) dX7_takes_15 rfl rfl rfl ?_
    refine Ex.getI (M := mX7_takes) (pc2 := 19) dX7_takes_16 xck7 lfX7_136 (Nat.le_of_ble_eq_true rfl) sh_69 rfl rfl ?_
    refine Ey.guard (fun hz3 => ?_)
    refine Ey.iaload (M := mX7_takes) (pc2 := 20) dX7_takes_19 sh_75 rfl hz3 rfl ?_
    refine Ex.goto (M := mX7_takes) (tgt := 24) dX7_takes_20 rfl ?_
    exact t_X7_takes_24 _ _ _ _ _
/-! FenceDuelModel.takesNumber(II)I -/
def f_X7_takesNumber_66 (k24 : Int32 → Int32 → Int32 → xI → Option (Int32 × xI)) (l2 : Int32) (l3 : Int32) (s0 : Int32) (I : xI) : Option (Int32 × xI) :=
  if s0 = 0 then k24 l2 l3 s0 I else xb (f_X7_takes (48 : Int32) (57 : Int32) I) (fun r1 I1 => k24 l2 (((10 : Int32) * l3) + r1) s0 I1)
theorem t_X7_takesNumber_66 (k24 : Int32 → Int32 → Int32 → xI → Option (Int32 × xI)) (hk24 : ∀ (l2 : Int32) (l3 : Int32) (l4 : Int32) (d1 : Option xV) (I : xI), Ey none mX7_takesNumber 24 [some (.inr (some 69)), d1, some (.inl l2), some (.inl l3), some (.inl l4)] [] I (k24 l2 l3 l4 I)) (d1 : Option xV) (l2 : Int32) (l3 : Int32) (d4 : Option xV) (s0 : Int32) (I : xI) : Ey none mX7_takesNumber 66 [some (.inr (some 69)), d1, some (.inl l2), some (.inl l3), d4] [.inl s0] I (f_X7_takesNumber_66 k24 l2 l3 s0 I) := by
  unfold f_X7_takesNumber_66
  refine Ey.istore (M := mX7_takesNumber) (pc2 := 68) dX7_takesNumber_66 (Nat.le_of_ble_eq_true rfl) rfl rfl ?_
  refine Ex.iload (M := mX7_takesNumber) (pc2 := 70) dX7_takesNumber_68 rfl rfl ?_
  refine Ey.if_eq (M := mX7_takesNumber) (tgt := 89) (pc2 := 73) dX7_takesNumber_70 rfl (fun _ => ?_) rfl (fun _ => ?_)
  · refine Ex.iload_n (M := mX7_takesNumber) (pc2 := 90) dX7_takesNumber_89 rfl rfl rfl ?_
    refine Ey.istore_n (M := mX7_takesNumber) (pc2 := 91) dX7_takesNumber_90 rfl (Nat.le_of_ble_eq_true rfl) rfl rfl ?_
    refine Ex.goto (M := mX7_takesNumber) (tgt := 24) dX7_takesNumber_91 rfl ?_
    exact hk24 _ _ _ _ _
  · refine Ex.bipush (M := mX7_takesNumber) (pc2 := 75) dX7_takesNumber_73 kb_10 rfl ?_
    refine Ex.iload_n (M := mX7_takesNumber) (pc2 := 76) dX7_takesNumber_75 rfl rfl rfl ?_
    refine Ex.imul (M := mX7_takesNumber) (pc2 := 77) dX7_takesNumber_76 rfl ?_
    refine Ex.aload_n (M := mX7_takesNumber) (pc2 := 78) dX7_takesNumber_77 rfl rfl rfl ?_
    refine Ex.bipush (M := mX7_takesNumber) (pc2 := 80) dX7_takesNumber_78 kb_48 rfl ?_
    refine Ex.bipush (M := mX7_takesNumber) (pc2 := 82) dX7_takesNumber_80 kb_57 rfl ?_
    refine Ey.callVi (M := mX7_takesNumber) (pc2 := 85) (as := [.inl (48 : Int32), .inl (57 : Int32)]) (rest := [.inl ((10 : Int32) * l3)]) rfl dX7_takesNumber_82 isX7_takes lcX7_139 sh_69 rfl rfl ⟨(Nat.le_of_ble_eq_true rfl), (Nat.le_of_ble_eq_true rfl)⟩ rfl (Nat.le_of_ble_eq_true rfl) (Nat.le_of_ble_eq_true rfl) (t_X7_takes (48 : Int32) (57 : Int32) I) rfl (fun r1 I1 => ?_)
    refine Ex.iadd (M := mX7_takesNumber) (pc2 := 86) dX7_takesNumber_85 rfl ?_
    refine Ex.goto (M := mX7_takesNumber) (tgt := 90) dX7_takesNumber_86 rfl ?_
    refine Ey.istore_n (M := mX7_takesNumber) (pc2 := 91) dX7_takesNumber_90 rfl (Nat.le_of_ble_eq_true rfl) rfl rfl ?_
    refine Ex.goto (M := mX7_takesNumber) (tgt := 24) dX7_takesNumber_91 rfl ?_
    exact hk24 _ _ _ _ _
def f_X7_takesNumber_24b (k24 : Int32 → Int32 → Int32 → xI → Option (Int32 × xI)) (l2 : Int32) (l3 : Int32) (l4 : Int32) (I : xI) : Option (Int32 × xI) :=
  if l4 = 0 then some (l3, I) else xb (f_X7_isNext (48 : Int32) (57 : Int32) I) (fun r2 I2 => if r2 = 0 then f_X7_takesNumber_66 k24 l2 l3 (0 : Int32) I2 else if xin (I2 69 12) 60 then if ((((10 : Int32) * l3) + (I2 75 ((I2 69 12).toNatClampNeg))) - (48 : Int32)) > l2 then f_X7_takesNumber_66 k24 l2 l3 (0 : Int32) I2 else f_X7_takesNumber_66 k24 l2 l3 (1 : Int32) I2 else none)
theorem t_X7_takesNumber_24b (k24 : Int32 → Int32 → Int32 → xI → Option (Int32 × xI)) (hk24 : ∀ (l2 : Int32) (l3 : Int32) (l4 : Int32) (d1 : Option xV) (I : xI), Ey none mX7_takesNumber 24 [some (.inr (some 69)), d1, some (.inl l2), some (.inl l3), some (.inl l4)] [] I (k24 l2 l3 l4 I)) (d1 : Option xV) (l2 : Int32) (l3 : Int32) (l4 : Int32) (I : xI) : Ey none mX7_takesNumber 24 [some (.inr (some 69)), d1, some (.inl l2), some (.inl l3), some (.inl l4)] [] I (f_X7_takesNumber_24b k24 l2 l3 l4 I) := by
  unfold f_X7_takesNumber_24b
  refine Ex.iload (M := mX7_takesNumber) (pc2 := 26) dX7_takesNumber_24 rfl rfl ?_
  refine Ey.if_eq (M := mX7_takesNumber) (tgt := 94) (pc2 := 29) dX7_takesNumber_26 rfl (fun _ => ?_) rfl (fun _ => ?_)
  · refine Ex.iload_n (M := mX7_takesNumber) (pc2 := 95) dX7_takesNumber_94 rfl rfl rfl ?_
    exact Ey.ireturn (M := mX7_takesNumber) dX7_takesNumber_95 rfl rfl
  · refine Ex.aload_n (M := mX7_takesNumber) (pc2 := 30) dX7_takesNumber_29 rfl rfl rfl ?_
    refine Ex.bipush (M := mX7_takesNumber) (pc2 := 32) dX7_takesNumber_30 kb_48 rfl ?_
    refine Ex.bipush (M := mX7_takesNumber) (pc2 := 34) dX7_takesNumber_32 kb_57 rfl ?_
    refine Ey.callVi (M := mX7_takesNumber) (pc2 := 37) (as := [.inl (48 : Int32), .inl (57 : Int32)]) (rest := []) rfl dX7_takesNumber_34 isX7_isNext lcX7_142 sh_69 rfl rfl ⟨(Nat.le_of_ble_eq_true rfl), (Nat.le_of_ble_eq_true rfl)⟩ rfl (Nat.le_of_ble_eq_true rfl) (Nat.le_of_ble_eq_true rfl) (t_X7_isNext (48 : Int32) (57 : Int32) I) rfl (fun r2 I2 => ?_)
    refine Ey.if_eq (M := mX7_takesNumber) (tgt := 65) (pc2 := 40) dX7_takesNumber_37 rfl (fun _ => ?_) rfl (fun _ => ?_)
    · refine Ex.iconst (M := mX7_takesNumber) (pc2 := 66) dX7_takesNumber_65 ki_0 rfl ?_
      exact t_X7_takesNumber_66 k24 hk24 _ _ _ _ _ _
    · refine Ex.bipush (M := mX7_takesNumber) (pc2 := 42) dX7_takesNumber_40 kb_10 rfl ?_
      refine Ex.iload_n (M := mX7_takesNumber) (pc2 := 43) dX7_takesNumber_42 rfl rfl rfl ?_
      refine Ex.imul (M := mX7_takesNumber) (pc2 := 44) dX7_takesNumber_43 rfl ?_
      refine Ex.aload_n (M := mX7_takesNumber) (pc2 := 45) dX7_takesNumber_44 rfl rfl rfl ?_
      refine Ex.getR (M := mX7_takesNumber) (pc2 := 48) dX7_takesNumber_45 xck7 lfX7_25 (Nat.le_of_ble_eq_true rfl) sh_69 rfl ff_69_7 rfl ?_
      refine Ex.aload_n (M := mX7_takesNumber) (pc2 := 49) dX7_takesNumber_48 rfl rfl rfl ?_
      refine Ex.getI (M := mX7_takesNumber) (pc2 := 52) dX7_takesNumber_49 xck7 lfX7_136 (Nat.le_of_ble_eq_true rfl) sh_69 rfl rfl ?_
      refine Ey.guard (fun hz3 => ?_)
      refine Ey.iaload (M := mX7_takesNumber) (pc2 := 53) dX7_takesNumber_52 sh_75 rfl hz3 rfl ?_
      refine Ex.iadd (M := mX7_takesNumber) (pc2 := 54) dX7_takesNumber_53 rfl ?_
      refine Ex.bipush (M := mX7_takesNumber) (pc2 := 56) dX7_takesNumber_54 kb_48 rfl ?_
      refine Ex.isub (M := mX7_takesNumber) (pc2 := 57) dX7_takesNumber_56 rfl ?_
      refine Ex.iload_n (M := mX7_takesNumber) (pc2 := 58) dX7_takesNumber_57 rfl rfl rfl ?_
      refine Ey.icmp_gt (M := mX7_takesNumber) (tgt := 65) (pc2 := 61) dX7_takesNumber_58 rfl (fun _ => ?_) rfl (fun _ => ?_)
      · refine Ex.iconst (M := mX7_takesNumber) (pc2 := 66) dX7_takesNumber_65 ki_0 rfl ?_
        exact t_X7_takesNumber_66 k24 hk24 _ _ _ _ _ _
      · refine Ex.iconst (M := mX7_takesNumber) (pc2 := 62) dX7_takesNumber_61 ki_1 rfl ?_
        refine Ex.goto (M := mX7_takesNumber) (tgt := 66) dX7_takesNumber_62 rfl ?_
        exact t_X7_takesNumber_66 k24 hk24 _ _ _ _ _ _
def f_X7_takesNumber_24 : Nat → Int32 → Int32 → Int32 → xI → Option (Int32 × xI)
  | 0, _, _, _, _ => none
  | n + 1, l2, l3, l4, I => f_X7_takesNumber_24b (fun l2 l3 l4 I => f_X7_takesNumber_24 n l2 l3 l4 I) l2 l3 l4 I
theorem t_X7_takesNumber_24 : ∀ (n : Nat) (d1 : Option xV) (l2 : Int32) (l3 : Int32) (l4 : Int32) (I : xI), Ey none mX7_takesNumber 24 [some (.inr (some 69)), d1, some (.inl l2), some (.inl l3), some (.inl l4)] [] I (f_X7_takesNumber_24 n l2 l3 l4 I)
  | 0, d1, l2, l3, l4, I => Ey.nil
  | n + 1, d1, l2, l3, l4, I => t_X7_takesNumber_24b (fun l2 l3 l4 I => f_X7_takesNumber_24 n l2 l3 l4 I) (fun l2 l3 l4 d1 I => t_X7_takesNumber_24 n d1 l2 l3 l4 I) d1 l2 l3 l4 I
def f_X7_takesNumber (l1 : Int32) (l2 : Int32) (I : xI) : Option (Int32 × xI) :=
  xb (f_X7_takes ((48 : Int32) + l1) (57 : Int32) I) (fun r4 I4 => if (l1 + r4) ≤ 0 then f_X7_takesNumber_24 xZ l2 (l1 + r4) (0 : Int32) I4 else f_X7_takesNumber_24 xZ l2 (l1 + r4) (1 : Int32) I4)
theorem t_X7_takesNumber (l1 : Int32) (l2 : Int32) (I : xI) : Ey none mX7_takesNumber 0 [some (.inr (some 69)), some (.inl l1), some (.inl l2), none, none] [] I (f_X7_takesNumber l1 l2 I) := by
  unfold f_X7_takesNumber
  refine Ex.iload_n (M := mX7_takesNumber) (pc2 := 1) dX7_takesNumber_0 rfl rfl rfl ?_
  refine Ex.aload_n (M := mX7_takesNumber) (pc2 := 2) dX7_takesNumber_1 rfl rfl rfl ?_
  refine Ex.bipush (M := mX7_takesNumber) (pc2 := 4) dX7_takesNumber_2 kb_48 rfl ?_
  refine Ex.iload_n (M := mX7_takesNumber) (pc2 := 5) dX7_takesNumber_4 rfl rfl rfl ?_
  refine Ex.iadd (M := mX7_takesNumber) (pc2 := 6) dX7_takesNumber_5 rfl ?_
  refine Ex.bipush (M := mX7_takesNumber) (pc2 := 8) dX7_takesNumber_6 kb_57 rfl ?_
  refine Ey.callVi (M := mX7_takesNumber) (pc2 := 11) (as := [.inl ((48 : Int32) + l1), .inl (57 : Int32)]) (rest := [.inl l1]) rfl dX7_takesNumber_8 isX7_takes lcX7_139 sh_69 rfl rfl ⟨(Nat.le_of_ble_eq_true rfl), (Nat.le_of_ble_eq_true rfl)⟩ rfl (Nat.le_of_ble_eq_true rfl) (Nat.le_of_ble_eq_true rfl) (t_X7_takes ((48 : Int32) + l1) (57 : Int32) I) rfl (fun r4 I4 => ?_)
  refine Ex.iadd (M := mX7_takesNumber) (pc2 := 12) dX7_takesNumber_11 rfl ?_
  refine Ey.istore_n (M := mX7_takesNumber) (pc2 := 13) dX7_takesNumber_12 rfl (Nat.le_of_ble_eq_true rfl) rfl rfl ?_
  refine Ex.iload_n (M := mX7_takesNumber) (pc2 := 14) dX7_takesNumber_13 rfl rfl rfl ?_
  refine Ey.if_le (M := mX7_takesNumber) (tgt := 21) (pc2 := 17) dX7_takesNumber_14 rfl (fun _ => ?_) rfl (fun _ => ?_)
  · refine Ex.iconst (M := mX7_takesNumber) (pc2 := 22) dX7_takesNumber_21 ki_0 rfl ?_
    refine Ey.istore (M := mX7_takesNumber) (pc2 := 24) dX7_takesNumber_22 (Nat.le_of_ble_eq_true rfl) rfl rfl ?_
    exact t_X7_takesNumber_24 xZ _ _ _ _ _
  · refine Ex.iconst (M := mX7_takesNumber) (pc2 := 18) dX7_takesNumber_17 ki_1 rfl ?_
    refine Ex.goto (M := mX7_takesNumber) (tgt := 22) dX7_takesNumber_18 rfl ?_
    refine Ey.istore (M := mX7_takesNumber) (pc2 := 24) dX7_takesNumber_22 (Nat.le_of_ble_eq_true rfl) rfl rfl ?_
    exact t_X7_takesNumber_24 xZ _ _ _ _ _
/-! FenceDuelModel.takesSign(II)I -/
def f_X7_takesSign_88 (l4 : Int32) (s0 : Int32) (I : xI) : Option (Int32 × xI) :=
  if s0 = 0 ∨ s0 = 1 then if ((xup I 69 13 s0) 69 13) = 0 then some (l4, (xup (xup I 69 13 s0) 69 12 (((xup I 69 13 s0) 69 12) + (1 : Int32)))) else some (l4, (xup (xup I 69 13 s0) 69 12 (((xup I 69 13 s0) 69 12) + (0 : Int32)))) else none
theorem t_X7_takesSign_88 (d1 : Option xV) (d2 : Option xV) (d3 : Option xV) (l4 : Int32) (d5 : Option xV) (s0 : Int32) (I : xI) : Ey none mX7_takesSign 88 [some (.inr (some 69)), d1, d2, d3, some (.inl l4), d5] [.inl s0, .inr (some 69)] I (f_X7_takesSign_88 l4 s0 I) := by
  unfold f_X7_takesSign_88
  refine Ey.guard (fun hz1 => ?_)
  refine Ex.putI (M := mX7_takesSign) (pc2 := 91) dX7_takesSign_88 xck7 lfX7_132 (Nat.le_of_ble_eq_true rfl) sh_69 rfl rfl (xbool hz1) rfl ?_
  refine Ex.aload_n (M := mX7_takesSign) (pc2 := 92) dX7_takesSign_91 rfl rfl rfl ?_
  refine Ex.dup (M := mX7_takesSign) (pc2 := 93) dX7_takesSign_92 rfl ?_
  refine Ex.getI (M := mX7_takesSign) (pc2 := 96) dX7_takesSign_93 xck7 lfX7_136 (Nat.le_of_ble_eq_true rfl) sh_69 rfl rfl ?_
  refine Ex.aload_n (M := mX7_takesSign) (pc2 := 97) dX7_takesSign_96 rfl rfl rfl ?_
  refine Ex.getI (M := mX7_takesSign) (pc2 := 100) dX7_takesSign_97 xck7 lfX7_132 (Nat.le_of_ble_eq_true rfl) sh_69 rfl rfl ?_
  refine Ey.if_eq (M := mX7_takesSign) (tgt := 107) (pc2 := 103) dX7_takesSign_100 rfl (fun _ => ?_) rfl (fun _ => ?_)
  · refine Ex.iconst (M := mX7_takesSign) (pc2 := 108) dX7_takesSign_107 ki_1 rfl ?_
    refine Ex.iadd (M := mX7_takesSign) (pc2 := 109) dX7_takesSign_108 rfl ?_
    refine Ex.putI (M := mX7_takesSign) (pc2 := 112) dX7_takesSign_109 xck7 lfX7_136 (Nat.le_of_ble_eq_true rfl) sh_69 rfl rfl ⟨rfl, rfl⟩ rfl ?_
    refine Ex.iload (M := mX7_takesSign) (pc2 := 114) dX7_takesSign_112 rfl rfl ?_
    exact Ey.ireturn (M := mX7_takesSign) dX7_takesSign_114 rfl rfl
  · refine Ex.iconst (M := mX7_takesSign) (pc2 := 104) dX7_takesSign_103 ki_0 rfl ?_
    refine Ex.goto (M := mX7_takesSign) (tgt := 108) dX7_takesSign_104 rfl ?_
    refine Ex.iadd (M := mX7_takesSign) (pc2 := 109) dX7_takesSign_108 rfl ?_
    refine Ex.putI (M := mX7_takesSign) (pc2 := 112) dX7_takesSign_109 xck7 lfX7_136 (Nat.le_of_ble_eq_true rfl) sh_69 rfl rfl ⟨rfl, rfl⟩ rfl ?_
    refine Ex.iload (M := mX7_takesSign) (pc2 := 114) dX7_takesSign_112 rfl rfl ?_
    exact Ey.ireturn (M := mX7_takesSign) dX7_takesSign_114 rfl rfl
def f_X7_takesSign_32b (k32 : Int32 → Int32 → Int32 → Int32 → Int32 → xI → Option (Int32 × xI)) (l1 : Int32) (l2 : Int32) (l3 : Int32) (l4 : Int32) (l5 : Int32) (I : xI) : Option (Int32 × xI) :=
  if l5 ≥ l2 then if (I 69 13) ≠ 0 then f_X7_takesSign_88 l4 (1 : Int32) I else if l4 ≠ (-5 : Int32) then f_X7_takesSign_88 l4 (0 : Int32) I else f_X7_takesSign_88 l4 (1 : Int32) I else if ((l1 >>> (((8 : Int32) * l5) &&& 31)) &&& (255 : Int32)) ≠ l3 then k32 l1 l2 l3 l4 (l5 + 1) I else k32 l1 l2 l3 l5 (l5 + 1) I
theorem t_X7_takesSign_32b (k32 : Int32 → Int32 → Int32 → Int32 → Int32 → xI → Option (Int32 × xI)) (hk32 : ∀ (l1 : Int32) (l2 : Int32) (l3 : Int32) (l4 : Int32) (l5 : Int32) (I : xI), Ey none mX7_takesSign 32 [some (.inr (some 69)), some (.inl l1), some (.inl l2), some (.inl l3), some (.inl l4), some (.inl l5)] [] I (k32 l1 l2 l3 l4 l5 I)) (l1 : Int32) (l2 : Int32) (l3 : Int32) (l4 : Int32) (l5 : Int32) (I : xI) : Ey none mX7_takesSign 32 [some (.inr (some 69)), some (.inl l1), some (.inl l2), some (.inl l3), some (.inl l4), some (.inl l5)] [] I (f_X7_takesSign_32b k32 l1 l2 l3 l4 l5 I) := by
  unfold f_X7_takesSign_32b
  refine Ex.iload (M := mX7_takesSign) (pc2 := 34) dX7_takesSign_32 rfl rfl ?_
  refine Ex.iload_n (M := mX7_takesSign) (pc2 := 35) dX7_takesSign_34 rfl rfl rfl ?_
  refine Ey.icmp_ge (M := mX7_takesSign) (tgt := 68) (pc2 := 38) dX7_takesSign_35 rfl (fun _ => ?_) rfl (fun _ => ?_)
  · refine Ex.aload_n (M := mX7_takesSign) (pc2 := 69) dX7_takesSign_68 rfl rfl rfl ?_
    refine Ex.aload_n (M := mX7_takesSign) (pc2 := 70) dX7_takesSign_69 rfl rfl rfl ?_
    refine Ex.getI (M := mX7_takesSign) (pc2 := 73) dX7_takesSign_70 xck7 lfX7_132 (Nat.le_of_ble_eq_true rfl) sh_69 rfl rfl ?_
    refine Ey.if_ne (M := mX7_takesSign) (tgt := 83) (pc2 := 76) dX7_takesSign_73 rfl (fun _ => ?_) rfl (fun _ => ?_)
    · refine Ex.iconst (M := mX7_takesSign) (pc2 := 84) dX7_takesSign_83 ki_1 rfl ?_
      refine Ex.goto (M := mX7_takesSign) (tgt := 88) dX7_takesSign_84 rfl ?_
      exact t_X7_takesSign_88 _ _ _ _ _ _ _
    · refine Ex.iload (M := mX7_takesSign) (pc2 := 78) dX7_takesSign_76 rfl rfl ?_
      refine Ex.bipush (M := mX7_takesSign) (pc2 := 80) dX7_takesSign_78 kb_m5 rfl ?_
      refine Ey.icmp_ne (M := mX7_takesSign) (tgt := 87) (pc2 := 83) dX7_takesSign_80 rfl (fun _ => ?_) rfl (fun _ => ?_)
      · refine Ex.iconst (M := mX7_takesSign) (pc2 := 88) dX7_takesSign_87 ki_0 rfl ?_
        exact t_X7_takesSign_88 _ _ _ _ _ _ _
      · refine Ex.iconst (M := mX7_takesSign) (pc2 := 84) dX7_takesSign_83 ki_1 rfl ?_
        refine Ex.goto (M := mX7_takesSign) (tgt := 88) dX7_takesSign_84 rfl ?_
        exact t_X7_takesSign_88 _ _ _ _ _ _ _
  · refine Ex.iload_n (M := mX7_takesSign) (pc2 := 39) dX7_takesSign_38 rfl rfl rfl ?_
    refine Ex.bipush (M := mX7_takesSign) (pc2 := 41) dX7_takesSign_39 kb_8 rfl ?_
    refine Ex.iload (M := mX7_takesSign) (pc2 := 43) dX7_takesSign_41 rfl rfl ?_
    refine Ex.imul (M := mX7_takesSign) (pc2 := 44) dX7_takesSign_43 rfl ?_
    refine Ex.ishr (M := mX7_takesSign) (pc2 := 45) dX7_takesSign_44 rfl ?_
    refine Ex.sipush (M := mX7_takesSign) (pc2 := 48) dX7_takesSign_45 ks_255 rfl ?_
    refine Ex.iand (M := mX7_takesSign) (pc2 := 49) dX7_takesSign_48 rfl ?_
    refine Ex.iload_n (M := mX7_takesSign) (pc2 := 50) dX7_takesSign_49 rfl rfl rfl ?_
    refine Ey.icmp_ne (M := mX7_takesSign) (tgt := 58) (pc2 := 53) dX7_takesSign_50 rfl (fun _ => ?_) rfl (fun _ => ?_)
    · refine Ex.iload (M := mX7_takesSign) (pc2 := 60) dX7_takesSign_58 rfl rfl ?_
      refine Ey.istore (M := mX7_takesSign) (pc2 := 62) dX7_takesSign_60 (Nat.le_of_ble_eq_true rfl) rfl rfl ?_
      refine Ey.iinc (M := mX7_takesSign) (pc2 := 65) dX7_takesSign_62 rfl ki_1 (Nat.le_of_ble_eq_true rfl) rfl rfl ?_
      refine Ex.goto (M := mX7_takesSign) (tgt := 32) dX7_takesSign_65 rfl ?_
      exact hk32 _ _ _ _ _ _
    · refine Ex.iload (M := mX7_takesSign) (pc2 := 55) dX7_takesSign_53 rfl rfl ?_
      refine Ex.goto (M := mX7_takesSign) (tgt := 60) dX7_takesSign_55 rfl ?_
      refine Ey.istore (M := mX7_takesSign) (pc2 := 62) dX7_takesSign_60 (Nat.le_of_ble_eq_true rfl) rfl rfl ?_
      refine Ey.iinc (M := mX7_takesSign) (pc2 := 65) dX7_takesSign_62 rfl ki_1 (Nat.le_of_ble_eq_true rfl) rfl rfl ?_
      refine Ex.goto (M := mX7_takesSign) (tgt := 32) dX7_takesSign_65 rfl ?_
      exact hk32 _ _ _ _ _ _
def f_X7_takesSign_32 : Nat → Int32 → Int32 → Int32 → Int32 → Int32 → xI → Option (Int32 × xI)
  | 0, _, _, _, _, _, _ => none
  | n + 1, l1, l2, l3, l4, l5, I => f_X7_takesSign_32b (fun l1 l2 l3 l4 l5 I => f_X7_takesSign_32 n l1 l2 l3 l4 l5 I) l1 l2 l3 l4 l5 I
theorem t_X7_takesSign_32 : ∀ (n : Nat) (l1 : Int32) (l2 : Int32) (l3 : Int32) (l4 : Int32) (l5 : Int32) (I : xI), Ey none mX7_takesSign 32 [some (.inr (some 69)), some (.inl l1), some (.inl l2), some (.inl l3), some (.inl l4), some (.inl l5)] [] I (f_X7_takesSign_32 n l1 l2 l3 l4 l5 I)
  | 0, l1, l2, l3, l4, l5, I => Ey.nil
  | n + 1, l1, l2, l3, l4, l5, I => t_X7_takesSign_32b (fun l1 l2 l3 l4 l5 I => f_X7_takesSign_32 n l1 l2 l3 l4 l5 I) (fun l1 l2 l3 l4 l5 I => t_X7_takesSign_32 n l1 l2 l3 l4 l5 I) l1 l2 l3 l4 l5 I
def f_X7_takesSign (l1 : Int32) (l2 : Int32) (I : xI) : Option (Int32 × xI) :=
  if (I 69 12) ≥ (I 69 8) then f_X7_takesSign_32 xZ l1 l2 (0 : Int32) (-5 : Int32) (0 : Int32) I else if xin (I 69 12) 60 then f_X7_takesSign_32 xZ l1 l2 (I 75 ((I 69 12).toNatClampNeg)) (-5 : Int32) (0 : Int32) I else none
theorem t_X7_takesSign (l1 : Int32) (l2 : Int32) (I : xI) : Ey none mX7_takesSign 0 [some (.inr (some 69)), some (.inl l1), some (.inl l2), none, none, none] [] I (f_X7_takesSign l1 l2 I) := by
  unfold f_X7_takesSign
  refine Ex.aload_n (M := mX7_takesSign) (pc2 := 1) dX7_takesSign_0 rfl rfl rfl ?_
  refine Ex.getI (M := mX7_takesSign) (pc2 := 4) dX7_takesSign_1 xck7 lfX7_136 (Nat.le_of_ble_eq_true rfl) sh_69 rfl rfl ?_
  refine Ex.aload_n (M := mX7_takesSign) (pc2 := 5) dX7_takesSign_4 rfl rfl rfl ?_
  refine Ex.getI (M := mX7_takesSign) (pc2 := 8) dX7_takesSign_5 xck7 lfX7_129 (Nat.le_of_ble_eq_true rfl) sh_69 rfl rfl ?_
  refine Ey.icmp_ge (M := mX7_takesSign) (tgt := 23) (pc2 := 11) dX7_takesSign_8 rfl (fun _ => ?_) rfl (fun _ => ?_)
  · refine Ex.iconst (M := mX7_takesSign) (pc2 := 24) dX7_takesSign_23 ki_0 rfl ?_
    refine Ey.istore_n (M := mX7_takesSign) (pc2 := 25) dX7_takesSign_24 rfl (Nat.le_of_ble_eq_true rfl) rfl rfl ?_
    refine Ex.bipush (M := mX7_takesSign) (pc2 := 27) dX7_takesSign_25 kb_m5 rfl ?_
    refine Ey.istore (M := mX7_takesSign) (pc2 := 29) dX7_takesSign_27 (Nat.le_of_ble_eq_true rfl) rfl rfl ?_
    refine Ex.iconst (M := mX7_takesSign) (pc2 := 30) dX7_takesSign_29 ki_0 rfl ?_
    refine Ey.istore (M := mX7_takesSign) (pc2 := 32) dX7_takesSign_30 (Nat.le_of_ble_eq_true rfl) rfl rfl ?_
    exact t_X7_takesSign_32 xZ _ _ _ _ _ _
  · refine Ex.aload_n (M := mX7_takesSign) (pc2 := 12) dX7_takesSign_11 rfl rfl rfl ?_
    refine Ex.getR (M := mX7_takesSign) (pc2 := 15) dX7_takesSign_12 xck7 lfX7_25 (Nat.le_of_ble_eq_true rfl) sh_69 rfl ff_69_7 rfl ?_
    refine Ex.aload_n (M := mX7_takesSign) (pc2 := 16) dX7_takesSign_15 rfl rfl rfl ?_
    refine Ex.getI (M := mX7_takesSign) (pc2 := 19) dX7_takesSign_16 xck7 lfX7_136 (Nat.le_of_ble_eq_true rfl) sh_69 rfl rfl ?_
    refine Ey.guard (fun hz2 => ?_)
    refine Ey.iaload (M := mX7_takesSign) (pc2 := 20) dX7_takesSign_19 sh_75 rfl hz2 rfl ?_
    refine Ex.goto (M := mX7_takesSign) (tgt := 24) dX7_takesSign_20 rfl ?_
    refine Ey.istore_n (M := mX7_takesSign) (pc2 := 25) dX7_takesSign_24 rfl (Nat.le_of_ble_eq_true rfl) rfl rfl ?_
    refine Ex.bipush (M := mX7_takesSign) (pc2 := 27) dX7_takesSign_25 kb_m5 rfl ?_
    refine Ey.istore (M := mX7_takesSign) (pc2 := 29) dX7_takesSign_27 (Nat.le_of_ble_eq_true rfl) rfl rfl ?_
    refine Ex.iconst (M := mX7_takesSign) (pc2 := 30) dX7_takesSign_29 ki_0 rfl ?_
    refine Ey.istore (M := mX7_takesSign) (pc2 := 32) dX7_takesSign_30 (Nat.le_of_ble_eq_true rfl) rfl rfl ?_
    exact t_X7_takesSign_32 xZ _ _ _ _ _ _
/-! FenceDuelModel.readThing()V -/
def f_X7_readThing_70 (s0 : Int32) (I : xI) : Option (Int32 × xI) :=
  if ((xup (xup (xup I 69 15 s0) 69 16 (-5 : Int32)) 69 17 (-5 : Int32)) 69 15) ≠ (3 : Int32) then if ((xup (xup (xup I 69 15 s0) 69 16 (-5 : Int32)) 69 17 (-5 : Int32)) 69 15) = (-5 : Int32) then some (0, (xup (xup (xup I 69 15 s0) 69 16 (-5 : Int32)) 69 17 (-5 : Int32))) else xb (f_X7_takesNumber (0 : Int32) (47 : Int32) (xup (xup (xup I 69 15 s0) 69 16 (-5 : Int32)) 69 17 (-5 : Int32))) (fun r1 I1 => if ((xup I1 69 16 r1) 69 15) ≠ (2 : Int32) then xb (f_X7_takesSign (2004051310 : Int32) (4 : Int32) (xup I1 69 16 r1)) (fun r2 I2 => some (0, (xup I2 69 17 r2))) else some (0, (xup (xup I1 69 16 r1) 69 17 (-5 : Int32)))) else xb (f_X7_takesNumber (1 : Int32) (99 : Int32) (xup (xup (xup I 69 15 s0) 69 16 (-5 : Int32)) 69 17 (-5 : Int32))) (fun r3 I3 => some (0, (xup I3 69 17 r3)))
theorem t_X7_readThing_70 (d1 : Option xV) (s0 : Int32) (I : xI) : Ey none mX7_readThing 70 [some (.inr (some 69)), d1] [.inl s0, .inr (some 69)] I (f_X7_readThing_70 s0 I) := by
  unfold f_X7_readThing_70
  refine Ex.putI (M := mX7_readThing) (pc2 := 73) dX7_readThing_70 xck7 lfX7_159 (Nat.le_of_ble_eq_true rfl) sh_69 rfl rfl ⟨rfl, rfl⟩ rfl ?_
  refine Ex.aload_n (M := mX7_readThing) (pc2 := 74) dX7_readThing_73 rfl rfl rfl ?_
  refine Ex.bipush (M := mX7_readThing) (pc2 := 76) dX7_readThing_74 kb_m5 rfl ?_
  refine Ex.putI (M := mX7_readThing) (pc2 := 79) dX7_readThing_76 xck7 lfX7_162 (Nat.le_of_ble_eq_true rfl) sh_69 rfl rfl ⟨rfl, rfl⟩ rfl ?_
  refine Ex.aload_n (M := mX7_readThing) (pc2 := 80) dX7_readThing_79 rfl rfl rfl ?_
  refine Ex.bipush (M := mX7_readThing) (pc2 := 82) dX7_readThing_80 kb_m5 rfl ?_
  refine Ex.putI (M := mX7_readThing) (pc2 := 85) dX7_readThing_82 xck7 lfX7_152 (Nat.le_of_ble_eq_true rfl) sh_69 rfl rfl ⟨rfl, rfl⟩ rfl ?_
  refine Ex.aload_n (M := mX7_readThing) (pc2 := 86) dX7_readThing_85 rfl rfl rfl ?_
  refine Ex.getI (M := mX7_readThing) (pc2 := 89) dX7_readThing_86 xck7 lfX7_159 (Nat.le_of_ble_eq_true rfl) sh_69 rfl rfl ?_
  refine Ex.iconst (M := mX7_readThing) (pc2 := 90) dX7_readThing_89 ki_3 rfl ?_
  refine Ey.icmp_ne (M := mX7_readThing) (tgt := 107) (pc2 := 93) dX7_readThing_90 rfl (fun _ => ?_) rfl (fun _ => ?_)
  · refine Ex.aload_n (M := mX7_readThing) (pc2 := 108) dX7_readThing_107 rfl rfl rfl ?_
    refine Ex.getI (M := mX7_readThing) (pc2 := 111) dX7_readThing_108 xck7 lfX7_159 (Nat.le_of_ble_eq_true rfl) sh_69 rfl rfl ?_
    refine Ex.bipush (M := mX7_readThing) (pc2 := 113) dX7_readThing_111 kb_m5 rfl ?_
    refine Ey.icmp_eq (M := mX7_readThing) (tgt := 151) (pc2 := 116) dX7_readThing_113 rfl (fun _ => ?_) rfl (fun _ => ?_)
    · exact Ey.ret (M := mX7_readThing) dX7_readThing_151 rfl
    · refine Ex.aload_n (M := mX7_readThing) (pc2 := 117) dX7_readThing_116 rfl rfl rfl ?_
      refine Ex.aload_n (M := mX7_readThing) (pc2 := 118) dX7_readThing_117 rfl rfl rfl ?_
      refine Ex.iconst (M := mX7_readThing) (pc2 := 119) dX7_readThing_118 ki_0 rfl ?_
      refine Ex.bipush (M := mX7_readThing) (pc2 := 121) dX7_readThing_119 kb_47 rfl ?_
      refine Ey.callVi (M := mX7_readThing) (pc2 := 124) (as := [.inl (0 : Int32), .inl (47 : Int32)]) (rest := [.inr (some 69)]) rfl dX7_readThing_121 isX7_takesNumber lcX7_149 sh_69 rfl rfl ⟨(Nat.le_of_ble_eq_true rfl), (Nat.le_of_ble_eq_true rfl)⟩ rfl (Nat.le_of_ble_eq_true rfl) (Nat.le_of_ble_eq_true rfl) (t_X7_takesNumber (0 : Int32) (47 : Int32) (xup (xup (xup I 69 15 s0) 69 16 (-5 : Int32)) 69 17 (-5 : Int32))) rfl (fun r1 I1 => ?_)
      refine Ex.putI (M := mX7_readThing) (pc2 := 127) dX7_readThing_124 xck7 lfX7_162 (Nat.le_of_ble_eq_true rfl) sh_69 rfl rfl ⟨rfl, rfl⟩ rfl ?_
      refine Ex.aload_n (M := mX7_readThing) (pc2 := 128) dX7_readThing_127 rfl rfl rfl ?_
      refine Ex.aload_n (M := mX7_readThing) (pc2 := 129) dX7_readThing_128 rfl rfl rfl ?_
      refine Ex.getI (M := mX7_readThing) (pc2 := 132) dX7_readThing_129 xck7 lfX7_159 (Nat.le_of_ble_eq_true rfl) sh_69 rfl rfl ?_
      refine Ex.iconst (M := mX7_readThing) (pc2 := 133) dX7_readThing_132 ki_2 rfl ?_
      refine Ey.icmp_ne (M := mX7_readThing) (tgt := 141) (pc2 := 136) dX7_readThing_133 rfl (fun _ => ?_) rfl (fun _ => ?_)
      · refine Ex.aload_n (M := mX7_readThing) (pc2 := 142) dX7_readThing_141 rfl rfl rfl ?_
        refine Ex.ldc (M := mX7_readThing) (pc2 := 144) dX7_readThing_142 ldX7_165 rfl ?_
        refine Ex.iconst (M := mX7_readThing) (pc2 := 145) dX7_readThing_144 ki_4 rfl ?_
        refine Ey.callVi (M := mX7_readThing) (pc2 := 148) (as := [.inl (2004051310 : Int32), .inl (4 : Int32)]) (rest := [.inr (some 69)]) rfl dX7_readThing_145 isX7_takesSign lcX7_156 sh_69 rfl rfl ⟨(Nat.le_of_ble_eq_true rfl), (Nat.le_of_ble_eq_true rfl)⟩ rfl (Nat.le_of_ble_eq_true rfl) (Nat.le_of_ble_eq_true rfl) (t_X7_takesSign (2004051310 : Int32) (4 : Int32) (xup I1 69 16 r1)) rfl (fun r2 I2 => ?_)
        refine Ex.putI (M := mX7_readThing) (pc2 := 151) dX7_readThing_148 xck7 lfX7_152 (Nat.le_of_ble_eq_true rfl) sh_69 rfl rfl ⟨rfl, rfl⟩ rfl ?_
        exact Ey.ret (M := mX7_readThing) dX7_readThing_151 rfl
      · refine Ex.bipush (M := mX7_readThing) (pc2 := 138) dX7_readThing_136 kb_m5 rfl ?_
        refine Ex.goto (M := mX7_readThing) (tgt := 148) dX7_readThing_138 rfl ?_
        refine Ex.putI (M := mX7_readThing) (pc2 := 151) dX7_readThing_148 xck7 lfX7_152 (Nat.le_of_ble_eq_true rfl) sh_69 rfl rfl ⟨rfl, rfl⟩ rfl ?_
        exact Ey.ret (M := mX7_readThing) dX7_readThing_151 rfl
  · refine Ex.aload_n (M := mX7_readThing) (pc2 := 94) dX7_readThing_93 rfl rfl rfl ?_
    refine Ex.aload_n (M := mX7_readThing) (pc2 := 95) dX7_readThing_94 rfl rfl rfl ?_
    refine Ex.iconst (M := mX7_readThing) (pc2 := 96) dX7_readThing_95 ki_1 rfl ?_
    refine Ex.bipush (M := mX7_readThing) (pc2 := 98) dX7_readThing_96 kb_99 rfl ?_
    refine Ey.callVi (M := mX7_readThing) (pc2 := 101) (as := [.inl (1 : Int32), .inl (99 : Int32)]) (rest := [.inr (some 69)]) rfl dX7_readThing_98 isX7_takesNumber lcX7_149 sh_69 rfl rfl ⟨(Nat.le_of_ble_eq_true rfl), (Nat.le_of_ble_eq_true rfl)⟩ rfl (Nat.le_of_ble_eq_true rfl) (Nat.le_of_ble_eq_true rfl) (t_X7_takesNumber (1 : Int32) (99 : Int32) (xup (xup (xup I 69 15 s0) 69 16 (-5 : Int32)) 69 17 (-5 : Int32))) rfl (fun r3 I3 => ?_)
    refine Ex.putI (M := mX7_readThing) (pc2 := 104) dX7_readThing_101 xck7 lfX7_152 (Nat.le_of_ble_eq_true rfl) sh_69 rfl rfl ⟨rfl, rfl⟩ rfl ?_
    refine Ex.goto (M := mX7_readThing) (tgt := 151) dX7_readThing_104 rfl ?_
    exact Ey.ret (M := mX7_readThing) dX7_readThing_151 rfl
def f_X7_readThing (I : xI) : Option (Int32 × xI) :=
  xb (f_X7_isNext (46 : Int32) (46 : Int32) (xup I 69 14 (-5 : Int32))) (fun r4 I4 => if r4 = 0 then xb (f_X7_takes (48 : Int32) (49 : Int32) I4) (fun r5 I5 => if ((xup I5 69 14 r5) 69 13) = 0 then xb (f_X7_takesSign (1952671590 : Int32) (4 : Int32) (xup I5 69 14 r5)) (fun r6 I6 => f_X7_readThing_70 r6 I6) else f_X7_readThing_70 (-5 : Int32) (xup I5 69 14 r5)) else xb (f_X7_takes (46 : Int32) (46 : Int32) I4) (fun r7 I7 => xb (f_X7_takesNumber (1 : Int32) (99 : Int32) I7) (fun r8 I8 => some (0, (xup I8 69 17 r8)))))
theorem t_X7_readThing (I : xI) : Ey none mX7_readThing 0 [some (.inr (some 69)), none] [] I (f_X7_readThing I) := by
  unfold f_X7_readThing
  refine Ex.aload_n (M := mX7_readThing) (pc2 := 1) dX7_readThing_0 rfl rfl rfl ?_
  refine Ex.bipush (M := mX7_readThing) (pc2 := 3) dX7_readThing_1 kb_m5 rfl ?_
  refine Ex.putI (M := mX7_readThing) (pc2 := 6) dX7_readThing_3 xck7 lfX7_146 (Nat.le_of_ble_eq_true rfl) sh_69 rfl rfl ⟨rfl, rfl⟩ rfl ?_
  refine Ex.aload_n (M := mX7_readThing) (pc2 := 7) dX7_readThing_6 rfl rfl rfl ?_
  refine Ex.bipush (M := mX7_readThing) (pc2 := 9) dX7_readThing_7 kb_46 rfl ?_
  refine Ex.bipush (M := mX7_readThing) (pc2 := 11) dX7_readThing_9 kb_46 rfl ?_
  refine Ey.callVi (M := mX7_readThing) (pc2 := 14) (as := [.inl (46 : Int32), .inl (46 : Int32)]) (rest := []) rfl dX7_readThing_11 isX7_isNext lcX7_142 sh_69 rfl rfl ⟨(Nat.le_of_ble_eq_true rfl), (Nat.le_of_ble_eq_true rfl)⟩ rfl (Nat.le_of_ble_eq_true rfl) (Nat.le_of_ble_eq_true rfl) (t_X7_isNext (46 : Int32) (46 : Int32) (xup I 69 14 (-5 : Int32))) rfl (fun r4 I4 => ?_)
  refine Ey.if_eq (M := mX7_readThing) (tgt := 38) (pc2 := 17) dX7_readThing_14 rfl (fun _ => ?_) rfl (fun _ => ?_)
  · refine Ex.aload_n (M := mX7_readThing) (pc2 := 39) dX7_readThing_38 rfl rfl rfl ?_
    refine Ex.aload_n (M := mX7_readThing) (pc2 := 40) dX7_readThing_39 rfl rfl rfl ?_
    refine Ex.bipush (M := mX7_readThing) (pc2 := 42) dX7_readThing_40 kb_48 rfl ?_
    refine Ex.bipush (M := mX7_readThing) (pc2 := 44) dX7_readThing_42 kb_49 rfl ?_
    refine Ey.callVi (M := mX7_readThing) (pc2 := 47) (as := [.inl (48 : Int32), .inl (49 : Int32)]) (rest := [.inr (some 69)]) rfl dX7_readThing_44 isX7_takes lcX7_139 sh_69 rfl rfl ⟨(Nat.le_of_ble_eq_true rfl), (Nat.le_of_ble_eq_true rfl)⟩ rfl (Nat.le_of_ble_eq_true rfl) (Nat.le_of_ble_eq_true rfl) (t_X7_takes (48 : Int32) (49 : Int32) I4) rfl (fun r5 I5 => ?_)
    refine Ex.putI (M := mX7_readThing) (pc2 := 50) dX7_readThing_47 xck7 lfX7_146 (Nat.le_of_ble_eq_true rfl) sh_69 rfl rfl ⟨rfl, rfl⟩ rfl ?_
    refine Ex.aload_n (M := mX7_readThing) (pc2 := 51) dX7_readThing_50 rfl rfl rfl ?_
    refine Ex.aload_n (M := mX7_readThing) (pc2 := 52) dX7_readThing_51 rfl rfl rfl ?_
    refine Ex.getI (M := mX7_readThing) (pc2 := 55) dX7_readThing_52 xck7 lfX7_132 (Nat.le_of_ble_eq_true rfl) sh_69 rfl rfl ?_
    refine Ey.if_eq (M := mX7_readThing) (tgt := 63) (pc2 := 58) dX7_readThing_55 rfl (fun _ => ?_) rfl (fun _ => ?_)
    · refine Ex.aload_n (M := mX7_readThing) (pc2 := 64) dX7_readThing_63 rfl rfl rfl ?_
      refine Ex.ldc (M := mX7_readThing) (pc2 := 66) dX7_readThing_64 ldX7_155 rfl ?_
      refine Ex.iconst (M := mX7_readThing) (pc2 := 67) dX7_readThing_66 ki_4 rfl ?_
      refine Ey.callVi (M := mX7_readThing) (pc2 := 70) (as := [.inl (1952671590 : Int32), .inl (4 : Int32)]) (rest := [.inr (some 69)]) rfl dX7_readThing_67 isX7_takesSign lcX7_156 sh_69 rfl rfl ⟨(Nat.le_of_ble_eq_true rfl), (Nat.le_of_ble_eq_true rfl)⟩ rfl (Nat.le_of_ble_eq_true rfl) (Nat.le_of_ble_eq_true rfl) (t_X7_takesSign (1952671590 : Int32) (4 : Int32) (xup I5 69 14 r5)) rfl (fun r6 I6 => ?_)
      exact t_X7_readThing_70 _ _ _
    · refine Ex.bipush (M := mX7_readThing) (pc2 := 60) dX7_readThing_58 kb_m5 rfl ?_
      refine Ex.goto (M := mX7_readThing) (tgt := 70) dX7_readThing_60 rfl ?_
      exact t_X7_readThing_70 _ _ _
  · refine Ex.aload_n (M := mX7_readThing) (pc2 := 18) dX7_readThing_17 rfl rfl rfl ?_
    refine Ex.bipush (M := mX7_readThing) (pc2 := 20) dX7_readThing_18 kb_46 rfl ?_
    refine Ex.bipush (M := mX7_readThing) (pc2 := 22) dX7_readThing_20 kb_46 rfl ?_
    refine Ey.callVi (M := mX7_readThing) (pc2 := 25) (as := [.inl (46 : Int32), .inl (46 : Int32)]) (rest := []) rfl dX7_readThing_22 isX7_takes lcX7_139 sh_69 rfl rfl ⟨(Nat.le_of_ble_eq_true rfl), (Nat.le_of_ble_eq_true rfl)⟩ rfl (Nat.le_of_ble_eq_true rfl) (Nat.le_of_ble_eq_true rfl) (t_X7_takes (46 : Int32) (46 : Int32) I4) rfl (fun r7 I7 => ?_)
    refine Ey.istore_n (M := mX7_readThing) (pc2 := 26) dX7_readThing_25 rfl (Nat.le_of_ble_eq_true rfl) rfl rfl ?_
    refine Ex.aload_n (M := mX7_readThing) (pc2 := 27) dX7_readThing_26 rfl rfl rfl ?_
    refine Ex.aload_n (M := mX7_readThing) (pc2 := 28) dX7_readThing_27 rfl rfl rfl ?_
    refine Ex.iconst (M := mX7_readThing) (pc2 := 29) dX7_readThing_28 ki_1 rfl ?_
    refine Ex.bipush (M := mX7_readThing) (pc2 := 31) dX7_readThing_29 kb_99 rfl ?_
    refine Ey.callVi (M := mX7_readThing) (pc2 := 34) (as := [.inl (1 : Int32), .inl (99 : Int32)]) (rest := [.inr (some 69)]) rfl dX7_readThing_31 isX7_takesNumber lcX7_149 sh_69 rfl rfl ⟨(Nat.le_of_ble_eq_true rfl), (Nat.le_of_ble_eq_true rfl)⟩ rfl (Nat.le_of_ble_eq_true rfl) (Nat.le_of_ble_eq_true rfl) (t_X7_takesNumber (1 : Int32) (99 : Int32) I7) rfl (fun r8 I8 => ?_)
    refine Ex.putI (M := mX7_readThing) (pc2 := 37) dX7_readThing_34 xck7 lfX7_152 (Nat.le_of_ble_eq_true rfl) sh_69 rfl rfl ⟨rfl, rfl⟩ rfl ?_
    exact Ey.ret (M := mX7_readThing) dX7_readThing_37 rfl
/-! FenceDuelModel.runs(Z)I -/
def f_X7_runs_137 (k19 : Int32 → Int32 → Int32 → xI → Option (Int32 × xI)) (l1 : Int32) (l2 : Int32) (s0 : Int32) (I : xI) : Option (Int32 × xI) :=
  if s0 = 0 then k19 l1 l2 s0 I else xb (f_X7_takes (59 : Int32) (59 : Int32) I) (fun r1 I1 => if (I1 69 13) ≠ 0 then k19 l1 l2 (0 : Int32) I1 else k19 l1 l2 (1 : Int32) I1)
theorem t_X7_runs_137 (k19 : Int32 → Int32 → Int32 → xI → Option (Int32 × xI)) (hk19 : ∀ (l1 : Int32) (l2 : Int32) (l3 : Int32) (d4 : Option xV) (d5 : Option xV) (I : xI), Ey none mX7_runs 19 [some (.inr (some 69)), some (.inl l1), some (.inl l2), some (.inl l3), d4, d5] [] I (k19 l1 l2 l3 I)) (l1 : Int32) (l2 : Int32) (d3 : Option xV) (d4 : Option xV) (d5 : Option xV) (s0 : Int32) (I : xI) : Ey none mX7_runs 137 [some (.inr (some 69)), some (.inl l1), some (.inl l2), d3, d4, d5] [.inl s0] I (f_X7_runs_137 k19 l1 l2 s0 I) := by
  unfold f_X7_runs_137
  refine Ey.istore_n (M := mX7_runs) (pc2 := 138) dX7_runs_137 rfl (Nat.le_of_ble_eq_true rfl) rfl rfl ?_
  refine Ex.iload_n (M := mX7_runs) (pc2 := 139) dX7_runs_138 rfl rfl rfl ?_
  refine Ey.if_eq (M := mX7_runs) (tgt := 165) (pc2 := 142) dX7_runs_139 rfl (fun _ => ?_) rfl (fun _ => ?_)
  · refine Ex.goto (M := mX7_runs) (tgt := 19) dX7_runs_165 rfl ?_
    exact hk19 _ _ _ _ _ _
  · refine Ex.aload_n (M := mX7_runs) (pc2 := 143) dX7_runs_142 rfl rfl rfl ?_
    refine Ex.bipush (M := mX7_runs) (pc2 := 145) dX7_runs_143 kb_59 rfl ?_
    refine Ex.bipush (M := mX7_runs) (pc2 := 147) dX7_runs_145 kb_59 rfl ?_
    refine Ey.callVi (M := mX7_runs) (pc2 := 150) (as := [.inl (59 : Int32), .inl (59 : Int32)]) (rest := []) rfl dX7_runs_147 isX7_takes lcX7_139 sh_69 rfl rfl ⟨(Nat.le_of_ble_eq_true rfl), (Nat.le_of_ble_eq_true rfl)⟩ rfl (Nat.le_of_ble_eq_true rfl) (Nat.le_of_ble_eq_true rfl) (t_X7_takes (59 : Int32) (59 : Int32) I) rfl (fun r1 I1 => ?_)
    refine Ey.istore (M := mX7_runs) (pc2 := 152) dX7_runs_150 (Nat.le_of_ble_eq_true rfl) rfl rfl ?_
    refine Ex.aload_n (M := mX7_runs) (pc2 := 153) dX7_runs_152 rfl rfl rfl ?_
    refine Ex.getI (M := mX7_runs) (pc2 := 156) dX7_runs_153 xck7 lfX7_132 (Nat.le_of_ble_eq_true rfl) sh_69 rfl rfl ?_
    refine Ey.if_ne (M := mX7_runs) (tgt := 163) (pc2 := 159) dX7_runs_156 rfl (fun _ => ?_) rfl (fun _ => ?_)
    · refine Ex.iconst (M := mX7_runs) (pc2 := 164) dX7_runs_163 ki_0 rfl ?_
      refine Ey.istore_n (M := mX7_runs) (pc2 := 165) dX7_runs_164 rfl (Nat.le_of_ble_eq_true rfl) rfl rfl ?_
      refine Ex.goto (M := mX7_runs) (tgt := 19) dX7_runs_165 rfl ?_
      exact hk19 _ _ _ _ _ _
    · refine Ex.iconst (M := mX7_runs) (pc2 := 160) dX7_runs_159 ki_1 rfl ?_
      refine Ex.goto (M := mX7_runs) (tgt := 164) dX7_runs_160 rfl ?_
      refine Ey.istore_n (M := mX7_runs) (pc2 := 165) dX7_runs_164 rfl (Nat.le_of_ble_eq_true rfl) rfl rfl ?_
      refine Ex.goto (M := mX7_runs) (tgt := 19) dX7_runs_165 rfl ?_
      exact hk19 _ _ _ _ _ _
def f_X7_runs_105 (k19 : Int32 → Int32 → Int32 → xI → Option (Int32 × xI)) (l1 : Int32) (s0 : Int32) (s1 : Int32) (I : xI) : Option (Int32 × xI) :=
  if (I 69 18) ≠ 0 then f_X7_runs_137 k19 l1 (s1 + s0) (0 : Int32) I else if (I 69 13) ≠ 0 then f_X7_runs_137 k19 l1 (s1 + s0) (0 : Int32) I else if (I 69 12) ≥ (I 69 8) then f_X7_runs_137 k19 l1 (s1 + s0) (0 : Int32) I else f_X7_runs_137 k19 l1 (s1 + s0) (1 : Int32) I
theorem t_X7_runs_105 (k19 : Int32 → Int32 → Int32 → xI → Option (Int32 × xI)) (hk19 : ∀ (l1 : Int32) (l2 : Int32) (l3 : Int32) (d4 : Option xV) (d5 : Option xV) (I : xI), Ey none mX7_runs 19 [some (.inr (some 69)), some (.inl l1), some (.inl l2), some (.inl l3), d4, d5] [] I (k19 l1 l2 l3 I)) (l1 : Int32) (d2 : Option xV) (d3 : Option xV) (d4 : Option xV) (d5 : Option xV) (s0 : Int32) (s1 : Int32) (I : xI) : Ey none mX7_runs 105 [some (.inr (some 69)), some (.inl l1), d2, d3, d4, d5] [.inl s0, .inl s1] I (f_X7_runs_105 k19 l1 s0 s1 I) := by
  unfold f_X7_runs_105
  refine Ex.iadd (M := mX7_runs) (pc2 := 106) dX7_runs_105 rfl ?_
  refine Ey.istore_n (M := mX7_runs) (pc2 := 107) dX7_runs_106 rfl (Nat.le_of_ble_eq_true rfl) rfl rfl ?_
  refine Ex.aload_n (M := mX7_runs) (pc2 := 108) dX7_runs_107 rfl rfl rfl ?_
  refine Ex.getI (M := mX7_runs) (pc2 := 111) dX7_runs_108 xck7 lfX7_166 (Nat.le_of_ble_eq_true rfl) sh_69 rfl rfl ?_
  refine Ey.if_ne (M := mX7_runs) (tgt := 136) (pc2 := 114) dX7_runs_111 rfl (fun _ => ?_) rfl (fun _ => ?_)
  · refine Ex.iconst (M := mX7_runs) (pc2 := 137) dX7_runs_136 ki_0 rfl ?_
    exact t_X7_runs_137 k19 hk19 _ _ _ _ _ _ _
  · refine Ex.aload_n (M := mX7_runs) (pc2 := 115) dX7_runs_114 rfl rfl rfl ?_
    refine Ex.getI (M := mX7_runs) (pc2 := 118) dX7_runs_115 xck7 lfX7_132 (Nat.le_of_ble_eq_true rfl) sh_69 rfl rfl ?_
    refine Ey.if_ne (M := mX7_runs) (tgt := 136) (pc2 := 121) dX7_runs_118 rfl (fun _ => ?_) rfl (fun _ => ?_)
    · refine Ex.iconst (M := mX7_runs) (pc2 := 137) dX7_runs_136 ki_0 rfl ?_
      exact t_X7_runs_137 k19 hk19 _ _ _ _ _ _ _
    · refine Ex.aload_n (M := mX7_runs) (pc2 := 122) dX7_runs_121 rfl rfl rfl ?_
      refine Ex.getI (M := mX7_runs) (pc2 := 125) dX7_runs_122 xck7 lfX7_136 (Nat.le_of_ble_eq_true rfl) sh_69 rfl rfl ?_
      refine Ex.aload_n (M := mX7_runs) (pc2 := 126) dX7_runs_125 rfl rfl rfl ?_
      refine Ex.getI (M := mX7_runs) (pc2 := 129) dX7_runs_126 xck7 lfX7_129 (Nat.le_of_ble_eq_true rfl) sh_69 rfl rfl ?_
      refine Ey.icmp_ge (M := mX7_runs) (tgt := 136) (pc2 := 132) dX7_runs_129 rfl (fun _ => ?_) rfl (fun _ => ?_)
      · refine Ex.iconst (M := mX7_runs) (pc2 := 137) dX7_runs_136 ki_0 rfl ?_
        exact t_X7_runs_137 k19 hk19 _ _ _ _ _ _ _
      · refine Ex.iconst (M := mX7_runs) (pc2 := 133) dX7_runs_132 ki_1 rfl ?_
        refine Ex.goto (M := mX7_runs) (tgt := 137) dX7_runs_133 rfl ?_
        exact t_X7_runs_137 k19 hk19 _ _ _ _ _ _ _
def f_X7_runs_89 (k19 : Int32 → Int32 → Int32 → xI → Option (Int32 × xI)) (l1 : Int32) (l2 : Int32) (s0 : Int32) (I : xI) : Option (Int32 × xI) :=
  if ((xup I 69 18 s0) 69 18) ≥ 0 then f_X7_runs_105 k19 l1 (1 : Int32) l2 (xup I 69 18 s0) else f_X7_runs_105 k19 l1 (0 : Int32) l2 (xup I 69 18 s0)
theorem t_X7_runs_89 (k19 : Int32 → Int32 → Int32 → xI → Option (Int32 × xI)) (hk19 : ∀ (l1 : Int32) (l2 : Int32) (l3 : Int32) (d4 : Option xV) (d5 : Option xV) (I : xI), Ey none mX7_runs 19 [some (.inr (some 69)), some (.inl l1), some (.inl l2), some (.inl l3), d4, d5] [] I (k19 l1 l2 l3 I)) (l1 : Int32) (l2 : Int32) (d3 : Option xV) (d4 : Option xV) (d5 : Option xV) (s0 : Int32) (I : xI) : Ey none mX7_runs 89 [some (.inr (some 69)), some (.inl l1), some (.inl l2), d3, d4, d5] [.inl s0, .inr (some 69)] I (f_X7_runs_89 k19 l1 l2 s0 I) := by
  unfold f_X7_runs_89
  refine Ex.putI (M := mX7_runs) (pc2 := 92) dX7_runs_89 xck7 lfX7_166 (Nat.le_of_ble_eq_true rfl) sh_69 rfl rfl ⟨rfl, rfl⟩ rfl ?_
  refine Ex.iload_n (M := mX7_runs) (pc2 := 93) dX7_runs_92 rfl rfl rfl ?_
  refine Ex.aload_n (M := mX7_runs) (pc2 := 94) dX7_runs_93 rfl rfl rfl ?_
  refine Ex.getI (M := mX7_runs) (pc2 := 97) dX7_runs_94 xck7 lfX7_166 (Nat.le_of_ble_eq_true rfl) sh_69 rfl rfl ?_
  refine Ey.if_ge (M := mX7_runs) (tgt := 104) (pc2 := 100) dX7_runs_97 rfl (fun _ => ?_) rfl (fun _ => ?_)
  · refine Ex.iconst (M := mX7_runs) (pc2 := 105) dX7_runs_104 ki_1 rfl ?_
    exact t_X7_runs_105 k19 hk19 _ _ _ _ _ _ _ _
  · refine Ex.iconst (M := mX7_runs) (pc2 := 101) dX7_runs_100 ki_0 rfl ?_
    refine Ex.goto (M := mX7_runs) (tgt := 105) dX7_runs_101 rfl ?_
    exact t_X7_runs_105 k19 hk19 _ _ _ _ _ _ _ _
def f_X7_runs_75 (k19 : Int32 → Int32 → Int32 → xI → Option (Int32 × xI)) (l1 : Int32) (l2 : Int32) (s0 : Int32) (I : xI) : Option (Int32 × xI) :=
  if s0 ≥ 0 then f_X7_runs_89 k19 l1 l2 (0 : Int32) I else f_X7_runs_89 k19 l1 l2 s0 I
theorem t_X7_runs_75 (k19 : Int32 → Int32 → Int32 → xI → Option (Int32 × xI)) (hk19 : ∀ (l1 : Int32) (l2 : Int32) (l3 : Int32) (d4 : Option xV) (d5 : Option xV) (I : xI), Ey none mX7_runs 19 [some (.inr (some 69)), some (.inl l1), some (.inl l2), some (.inl l3), d4, d5] [] I (k19 l1 l2 l3 I)) (l1 : Int32) (l2 : Int32) (d3 : Option xV) (d4 : Option xV) (d5 : Option xV) (s0 : Int32) (I : xI) : Ey none mX7_runs 75 [some (.inr (some 69)), some (.inl l1), some (.inl l2), d3, d4, d5] [.inl s0] I (f_X7_runs_75 k19 l1 l2 s0 I) := by
  unfold f_X7_runs_75
  refine Ey.istore (M := mX7_runs) (pc2 := 77) dX7_runs_75 (Nat.le_of_ble_eq_true rfl) rfl rfl ?_
  refine Ex.aload_n (M := mX7_runs) (pc2 := 78) dX7_runs_77 rfl rfl rfl ?_
  refine Ex.iload (M := mX7_runs) (pc2 := 80) dX7_runs_78 rfl rfl ?_
  refine Ey.if_ge (M := mX7_runs) (tgt := 88) (pc2 := 83) dX7_runs_80 rfl (fun _ => ?_) rfl (fun _ => ?_)
  · refine Ex.iconst (M := mX7_runs) (pc2 := 89) dX7_runs_88 ki_0 rfl ?_
    exact t_X7_runs_89 k19 hk19 _ _ _ _ _ _ _
  · refine Ex.iload (M := mX7_runs) (pc2 := 85) dX7_runs_83 rfl rfl ?_
    refine Ex.goto (M := mX7_runs) (tgt := 89) dX7_runs_85 rfl ?_
    exact t_X7_runs_89 k19 hk19 _ _ _ _ _ _ _
def f_X7_runs_19b (k19 : Int32 → Int32 → Int32 → xI → Option (Int32 × xI)) (l1 : Int32) (l2 : Int32) (l3 : Int32) (I : xI) : Option (Int32 × xI) :=
  if l3 = 0 then some (l2, I) else xb (f_X7_readThing I) (fun _ I2 => if l1 ≠ 0 then if (I2 69 14) ≠ (-5 : Int32) then xb (f_X7_writes (I2 69 14) (I2 69 15) (I2 69 16) (I2 69 17) I2) (fun r3 I3 => f_X7_runs_75 k19 l1 l2 r3 I3) else xb (f_X7_passes (I2 69 17) I2) (fun r4 I4 => f_X7_runs_75 k19 l1 l2 r4 I4) else f_X7_runs_75 k19 l1 l2 (0 : Int32) I2)
theorem t_X7_runs_19b (k19 : Int32 → Int32 → Int32 → xI → Option (Int32 × xI)) (hk19 : ∀ (l1 : Int32) (l2 : Int32) (l3 : Int32) (d4 : Option xV) (d5 : Option xV) (I : xI), Ey none mX7_runs 19 [some (.inr (some 69)), some (.inl l1), some (.inl l2), some (.inl l3), d4, d5] [] I (k19 l1 l2 l3 I)) (l1 : Int32) (l2 : Int32) (l3 : Int32) (d4 : Option xV) (d5 : Option xV) (I : xI) : Ey none mX7_runs 19 [some (.inr (some 69)), some (.inl l1), some (.inl l2), some (.inl l3), d4, d5] [] I (f_X7_runs_19b k19 l1 l2 l3 I) := by
  unfold f_X7_runs_19b
  refine Ex.iload_n (M := mX7_runs) (pc2 := 20) dX7_runs_19 rfl rfl rfl ?_
  refine Ey.if_eq (M := mX7_runs) (tgt := 168) (pc2 := 23) dX7_runs_20 rfl (fun _ => ?_) rfl (fun _ => ?_)
  · refine Ex.iload_n (M := mX7_runs) (pc2 := 169) dX7_runs_168 rfl rfl rfl ?_
    exact Ey.ireturn (M := mX7_runs) dX7_runs_169 rfl rfl
  · refine Ex.aload_n (M := mX7_runs) (pc2 := 24) dX7_runs_23 rfl rfl rfl ?_
    refine Ey.callVv (M := mX7_runs) (pc2 := 27) (as := []) (rest := []) rfl dX7_runs_24 isX7_readThing lcX7_169 sh_69 rfl rfl ⟨(Nat.le_of_ble_eq_true rfl), (Nat.le_of_ble_eq_true rfl)⟩ rfl (Nat.le_of_ble_eq_true rfl) (Nat.le_of_ble_eq_true rfl) (t_X7_readThing I) rfl (fun I2 => ?_)
    refine Ex.iload_n (M := mX7_runs) (pc2 := 28) dX7_runs_27 rfl rfl rfl ?_
    refine Ey.if_ne (M := mX7_runs) (tgt := 35) (pc2 := 31) dX7_runs_28 rfl (fun _ => ?_) rfl (fun _ => ?_)
    · refine Ex.aload_n (M := mX7_runs) (pc2 := 36) dX7_runs_35 rfl rfl rfl ?_
      refine Ex.getI (M := mX7_runs) (pc2 := 39) dX7_runs_36 xck7 lfX7_146 (Nat.le_of_ble_eq_true rfl) sh_69 rfl rfl ?_
      refine Ex.bipush (M := mX7_runs) (pc2 := 41) dX7_runs_39 kb_m5 rfl ?_
      refine Ey.icmp_ne (M := mX7_runs) (tgt := 55) (pc2 := 44) dX7_runs_41 rfl (fun _ => ?_) rfl (fun _ => ?_)
      · refine Ex.aload_n (M := mX7_runs) (pc2 := 56) dX7_runs_55 rfl rfl rfl ?_
        refine Ex.aload_n (M := mX7_runs) (pc2 := 57) dX7_runs_56 rfl rfl rfl ?_
        refine Ex.getI (M := mX7_runs) (pc2 := 60) dX7_runs_57 xck7 lfX7_146 (Nat.le_of_ble_eq_true rfl) sh_69 rfl rfl ?_
        refine Ex.aload_n (M := mX7_runs) (pc2 := 61) dX7_runs_60 rfl rfl rfl ?_
        refine Ex.getI (M := mX7_runs) (pc2 := 64) dX7_runs_61 xck7 lfX7_159 (Nat.le_of_ble_eq_true rfl) sh_69 rfl rfl ?_
        refine Ex.aload_n (M := mX7_runs) (pc2 := 65) dX7_runs_64 rfl rfl rfl ?_
        refine Ex.getI (M := mX7_runs) (pc2 := 68) dX7_runs_65 xck7 lfX7_162 (Nat.le_of_ble_eq_true rfl) sh_69 rfl rfl ?_
        refine Ex.aload_n (M := mX7_runs) (pc2 := 69) dX7_runs_68 rfl rfl rfl ?_
        refine Ex.getI (M := mX7_runs) (pc2 := 72) dX7_runs_69 xck7 lfX7_152 (Nat.le_of_ble_eq_true rfl) sh_69 rfl rfl ?_
        refine Ey.callVi (M := mX7_runs) (pc2 := 75) (as := [.inl (I2 69 14), .inl (I2 69 15), .inl (I2 69 16), .inl (I2 69 17)]) (rest := []) rfl dX7_runs_72 isX7_writes lcX7_116 sh_69 rfl rfl ⟨(Nat.le_of_ble_eq_true rfl), (Nat.le_of_ble_eq_true rfl)⟩ rfl (Nat.le_of_ble_eq_true rfl) (Nat.le_of_ble_eq_true rfl) (t_X7_writes (I2 69 14) (I2 69 15) (I2 69 16) (I2 69 17) I2) rfl (fun r3 I3 => ?_)
        exact t_X7_runs_75 k19 hk19 _ _ _ _ _ _ _
      · refine Ex.aload_n (M := mX7_runs) (pc2 := 45) dX7_runs_44 rfl rfl rfl ?_
        refine Ex.aload_n (M := mX7_runs) (pc2 := 46) dX7_runs_45 rfl rfl rfl ?_
        refine Ex.getI (M := mX7_runs) (pc2 := 49) dX7_runs_46 xck7 lfX7_152 (Nat.le_of_ble_eq_true rfl) sh_69 rfl rfl ?_
        refine Ey.callVi (M := mX7_runs) (pc2 := 52) (as := [.inl (I2 69 17)]) (rest := []) rfl dX7_runs_49 isX7_passes lcX7_126 sh_69 rfl rfl ⟨(Nat.le_of_ble_eq_true rfl), (Nat.le_of_ble_eq_true rfl)⟩ rfl (Nat.le_of_ble_eq_true rfl) (Nat.le_of_ble_eq_true rfl) (t_X7_passes (I2 69 17) I2) rfl (fun r4 I4 => ?_)
        refine Ex.goto (M := mX7_runs) (tgt := 75) dX7_runs_52 rfl ?_
        exact t_X7_runs_75 k19 hk19 _ _ _ _ _ _ _
    · refine Ex.iconst (M := mX7_runs) (pc2 := 32) dX7_runs_31 ki_0 rfl ?_
      refine Ex.goto (M := mX7_runs) (tgt := 75) dX7_runs_32 rfl ?_
      exact t_X7_runs_75 k19 hk19 _ _ _ _ _ _ _
def f_X7_runs_19 : Nat → Int32 → Int32 → Int32 → xI → Option (Int32 × xI)
  | 0, _, _, _, _ => none
  | n + 1, l1, l2, l3, I => f_X7_runs_19b (fun l1 l2 l3 I => f_X7_runs_19 n l1 l2 l3 I) l1 l2 l3 I
theorem t_X7_runs_19 : ∀ (n : Nat) (l1 : Int32) (l2 : Int32) (l3 : Int32) (d4 : Option xV) (d5 : Option xV) (I : xI), Ey none mX7_runs 19 [some (.inr (some 69)), some (.inl l1), some (.inl l2), some (.inl l3), d4, d5] [] I (f_X7_runs_19 n l1 l2 l3 I)
  | 0, l1, l2, l3, d4, d5, I => Ey.nil
  | n + 1, l1, l2, l3, d4, d5, I => t_X7_runs_19b (fun l1 l2 l3 I => f_X7_runs_19 n l1 l2 l3 I) (fun l1 l2 l3 d4 d5 I => t_X7_runs_19 n l1 l2 l3 d4 d5 I) l1 l2 l3 d4 d5 I
def f_X7_runs (l1 : Int32) (I : xI) : Option (Int32 × xI) :=
  f_X7_runs_19 xZ l1 (0 : Int32) (1 : Int32) (xup (xup (xup I 69 12 (0 : Int32)) 69 13 (0 : Int32)) 69 18 (0 : Int32))
theorem t_X7_runs (l1 : Int32) (I : xI) : Ey none mX7_runs 0 [some (.inr (some 69)), some (.inl l1), none, none, none, none] [] I (f_X7_runs l1 I) := by
  unfold f_X7_runs
  refine Ex.aload_n (M := mX7_runs) (pc2 := 1) dX7_runs_0 rfl rfl rfl ?_
  refine Ex.iconst (M := mX7_runs) (pc2 := 2) dX7_runs_1 ki_0 rfl ?_
  refine Ex.putI (M := mX7_runs) (pc2 := 5) dX7_runs_2 xck7 lfX7_136 (Nat.le_of_ble_eq_true rfl) sh_69 rfl rfl ⟨rfl, rfl⟩ rfl ?_
  refine Ex.aload_n (M := mX7_runs) (pc2 := 6) dX7_runs_5 rfl rfl rfl ?_
  refine Ex.iconst (M := mX7_runs) (pc2 := 7) dX7_runs_6 ki_0 rfl ?_
  refine Ex.putI (M := mX7_runs) (pc2 := 10) dX7_runs_7 xck7 lfX7_132 (Nat.le_of_ble_eq_true rfl) sh_69 rfl rfl ⟨by decide, by decide⟩ rfl ?_
  refine Ex.aload_n (M := mX7_runs) (pc2 := 11) dX7_runs_10 rfl rfl rfl ?_
  refine Ex.iconst (M := mX7_runs) (pc2 := 12) dX7_runs_11 ki_0 rfl ?_
  refine Ex.putI (M := mX7_runs) (pc2 := 15) dX7_runs_12 xck7 lfX7_166 (Nat.le_of_ble_eq_true rfl) sh_69 rfl rfl ⟨rfl, rfl⟩ rfl ?_
  refine Ex.iconst (M := mX7_runs) (pc2 := 16) dX7_runs_15 ki_0 rfl ?_
  refine Ey.istore_n (M := mX7_runs) (pc2 := 17) dX7_runs_16 rfl (Nat.le_of_ble_eq_true rfl) rfl rfl ?_
  refine Ex.iconst (M := mX7_runs) (pc2 := 18) dX7_runs_17 ki_1 rfl ?_
  refine Ey.istore_n (M := mX7_runs) (pc2 := 19) dX7_runs_18 rfl (Nat.le_of_ble_eq_true rfl) rfl rfl ?_
  exact t_X7_runs_19 xZ _ _ _ _ _ _
/-! FenceDuelModel.perform()I -/
def f_X7_perform_53b (k53 : Int32 → xI → Option (Int32 × xI)) (l3 : Int32) (I : xI) : Option (Int32 × xI) :=
  if l3 ≥ (742 : Int32) then some ((-4 : Int32), I) else if xin l3 742 then if xin l3 742 then k53 (l3 + 1) (xup I 70 l3.toNatClampNeg (I 72 l3.toNatClampNeg)) else none else none
theorem t_X7_perform_53b (k53 : Int32 → xI → Option (Int32 × xI)) (hk53 : ∀ (l3 : Int32) (d1 : Option xV) (d2 : Option xV) (I : xI), Ey none mX7_perform 53 [some (.inr (some 69)), d1, d2, some (.inl l3)] [] I (k53 l3 I)) (d1 : Option xV) (d2 : Option xV) (l3 : Int32) (I : xI) : Ey none mX7_perform 53 [some (.inr (some 69)), d1, d2, some (.inl l3)] [] I (f_X7_perform_53b k53 l3 I) := by
  unfold f_X7_perform_53b
  refine Ex.iload_n (M := mX7_perform) (pc2 := 54) dX7_perform_53 rfl rfl rfl ?_
  refine Ex.sipush (M := mX7_perform) (pc2 := 57) dX7_perform_54 ks_742 rfl ?_
  refine Ey.icmp_ge (M := mX7_perform) (tgt := 78) (pc2 := 60) dX7_perform_57 rfl (fun _ => ?_) rfl (fun _ => ?_)
  · refine Ex.bipush (M := mX7_perform) (pc2 := 80) dX7_perform_78 kb_m4 rfl ?_
    exact Ey.ireturn (M := mX7_perform) dX7_perform_80 rfl rfl
  · refine Ex.aload_n (M := mX7_perform) (pc2 := 61) dX7_perform_60 rfl rfl rfl ?_
    refine Ex.getR (M := mX7_perform) (pc2 := 64) dX7_perform_61 xck7 lfX7_7 (Nat.le_of_ble_eq_true rfl) sh_69 rfl ff_69_0 rfl ?_
    refine Ex.iload_n (M := mX7_perform) (pc2 := 65) dX7_perform_64 rfl rfl rfl ?_
    refine Ex.aload_n (M := mX7_perform) (pc2 := 66) dX7_perform_65 rfl rfl rfl ?_
    refine Ex.getR (M := mX7_perform) (pc2 := 69) dX7_perform_66 xck7 lfX7_16 (Nat.le_of_ble_eq_true rfl) sh_69 rfl ff_69_2 rfl ?_
    refine Ex.iload_n (M := mX7_perform) (pc2 := 70) dX7_perform_69 rfl rfl rfl ?_
    refine Ey.guard (fun hz1 => ?_)
    refine Ey.iaload (M := mX7_perform) (pc2 := 71) dX7_perform_70 sh_72 rfl hz1 rfl ?_
    refine Ey.guard (fun hz2 => ?_)
    refine Ey.iastore (M := mX7_perform) (pc2 := 72) dX7_perform_71 sh_70 rfl hz2 rfl ?_
    refine Ey.iinc (M := mX7_perform) (pc2 := 75) dX7_perform_72 rfl ki_1 (Nat.le_of_ble_eq_true rfl) rfl rfl ?_
    refine Ex.goto (M := mX7_perform) (tgt := 53) dX7_perform_75 rfl ?_
    exact hk53 _ _ _ _
def f_X7_perform_53 : Nat → Int32 → xI → Option (Int32 × xI)
  | 0, _, _ => none
  | n + 1, l3, I => f_X7_perform_53b (fun l3 I => f_X7_perform_53 n l3 I) l3 I
theorem t_X7_perform_53 : ∀ (n : Nat) (d1 : Option xV) (d2 : Option xV) (l3 : Int32) (I : xI), Ey none mX7_perform 53 [some (.inr (some 69)), d1, d2, some (.inl l3)] [] I (f_X7_perform_53 n l3 I)
  | 0, d1, d2, l3, I => Ey.nil
  | n + 1, d1, d2, l3, I => t_X7_perform_53b (fun l3 I => f_X7_perform_53 n l3 I) (fun l3 d1 d2 I => t_X7_perform_53 n d1 d2 l3 I) d1 d2 l3 I
def f_X7_perform (I : xI) : Option (Int32 × xI) :=
  xb (f_X7_runs (0 : Int32) I) (fun r3 I3 => if (I3 69 13) = 0 then xb (f_X7_looks I3) (fun _ I4 => xb (f_X7_runs (1 : Int32) I4) (fun r5 I5 => if (I5 69 18) ≥ 0 then xb (f_X7_records I5) (fun _ I6 => some (r5, I6)) else f_X7_perform_53 xZ (0 : Int32) (xup (xup I5 69 9 r5) 69 10 ((xup I5 69 9 r5) 69 18)))) else some (((-100 : Int32) - (I3 69 12)), I3))
theorem t_X7_perform (I : xI) : Ey none mX7_perform 0 [some (.inr (some 69)), none, none, none] [] I (f_X7_perform I) := by
  unfold f_X7_perform
  refine Ex.aload_n (M := mX7_perform) (pc2 := 1) dX7_perform_0 rfl rfl rfl ?_
  refine Ex.iconst (M := mX7_perform) (pc2 := 2) dX7_perform_1 ki_0 rfl ?_
  refine Ey.callVi (M := mX7_perform) (pc2 := 5) (as := [.inl (0 : Int32)]) (rest := []) rfl dX7_perform_2 isX7_runs lcX7_172 sh_69 rfl rfl ⟨(Nat.le_of_ble_eq_true rfl), (Nat.le_of_ble_eq_true rfl)⟩ rfl (Nat.le_of_ble_eq_true rfl) (Nat.le_of_ble_eq_true rfl) (t_X7_runs (0 : Int32) I) rfl (fun r3 I3 => ?_)
  refine Ey.istore_n (M := mX7_perform) (pc2 := 6) dX7_perform_5 rfl (Nat.le_of_ble_eq_true rfl) rfl rfl ?_
  refine Ex.aload_n (M := mX7_perform) (pc2 := 7) dX7_perform_6 rfl rfl rfl ?_
  refine Ex.getI (M := mX7_perform) (pc2 := 10) dX7_perform_7 xck7 lfX7_132 (Nat.le_of_ble_eq_true rfl) sh_69 rfl rfl ?_
  refine Ey.if_eq (M := mX7_perform) (tgt := 21) (pc2 := 13) dX7_perform_10 rfl (fun _ => ?_) rfl (fun _ => ?_)
  · refine Ex.aload_n (M := mX7_perform) (pc2 := 22) dX7_perform_21 rfl rfl rfl ?_
    refine Ey.callVv (M := mX7_perform) (pc2 := 25) (as := []) (rest := []) rfl dX7_perform_22 isX7_looks lcX7_113 sh_69 rfl rfl ⟨(Nat.le_of_ble_eq_true rfl), (Nat.le_of_ble_eq_true rfl)⟩ rfl (Nat.le_of_ble_eq_true rfl) (Nat.le_of_ble_eq_true rfl) (t_X7_looks I3) rfl (fun I4 => ?_)
    refine Ex.aload_n (M := mX7_perform) (pc2 := 26) dX7_perform_25 rfl rfl rfl ?_
    refine Ex.iconst (M := mX7_perform) (pc2 := 27) dX7_perform_26 ki_1 rfl ?_
    refine Ey.callVi (M := mX7_perform) (pc2 := 30) (as := [.inl (1 : Int32)]) (rest := []) rfl dX7_perform_27 isX7_runs lcX7_172 sh_69 rfl rfl ⟨(Nat.le_of_ble_eq_true rfl), (Nat.le_of_ble_eq_true rfl)⟩ rfl (Nat.le_of_ble_eq_true rfl) (Nat.le_of_ble_eq_true rfl) (t_X7_runs (1 : Int32) I4) rfl (fun r5 I5 => ?_)
    refine Ey.istore_n (M := mX7_perform) (pc2 := 31) dX7_perform_30 rfl (Nat.le_of_ble_eq_true rfl) rfl rfl ?_
    refine Ex.aload_n (M := mX7_perform) (pc2 := 32) dX7_perform_31 rfl rfl rfl ?_
    refine Ex.getI (M := mX7_perform) (pc2 := 35) dX7_perform_32 xck7 lfX7_166 (Nat.le_of_ble_eq_true rfl) sh_69 rfl rfl ?_
    refine Ey.if_ge (M := mX7_perform) (tgt := 81) (pc2 := 38) dX7_perform_35 rfl (fun _ => ?_) rfl (fun _ => ?_)
    · refine Ex.aload_n (M := mX7_perform) (pc2 := 82) dX7_perform_81 rfl rfl rfl ?_
      refine Ey.callVv (M := mX7_perform) (pc2 := 85) (as := []) (rest := []) rfl dX7_perform_82 isX7_records lcX7_110 sh_69 rfl rfl ⟨(Nat.le_of_ble_eq_true rfl), (Nat.le_of_ble_eq_true rfl)⟩ rfl (Nat.le_of_ble_eq_true rfl) (Nat.le_of_ble_eq_true rfl) (t_X7_records I5) rfl (fun I6 => ?_)
      refine Ex.iload_n (M := mX7_perform) (pc2 := 86) dX7_perform_85 rfl rfl rfl ?_
      exact Ey.ireturn (M := mX7_perform) dX7_perform_86 rfl rfl
    · refine Ex.aload_n (M := mX7_perform) (pc2 := 39) dX7_perform_38 rfl rfl rfl ?_
      refine Ex.iload_n (M := mX7_perform) (pc2 := 40) dX7_perform_39 rfl rfl rfl ?_
      refine Ex.putI (M := mX7_perform) (pc2 := 43) dX7_perform_40 xck7 lfX7_28 (Nat.le_of_ble_eq_true rfl) sh_69 rfl rfl ⟨rfl, rfl⟩ rfl ?_
      refine Ex.aload_n (M := mX7_perform) (pc2 := 44) dX7_perform_43 rfl rfl rfl ?_
      refine Ex.aload_n (M := mX7_perform) (pc2 := 45) dX7_perform_44 rfl rfl rfl ?_
      refine Ex.getI (M := mX7_perform) (pc2 := 48) dX7_perform_45 xck7 lfX7_166 (Nat.le_of_ble_eq_true rfl) sh_69 rfl rfl ?_
      refine Ex.putI (M := mX7_perform) (pc2 := 51) dX7_perform_48 xck7 lfX7_32 (Nat.le_of_ble_eq_true rfl) sh_69 rfl rfl ⟨rfl, rfl⟩ rfl ?_
      refine Ex.iconst (M := mX7_perform) (pc2 := 52) dX7_perform_51 ki_0 rfl ?_
      refine Ey.istore_n (M := mX7_perform) (pc2 := 53) dX7_perform_52 rfl (Nat.le_of_ble_eq_true rfl) rfl rfl ?_
      exact t_X7_perform_53 xZ _ _ _ _
  · refine Ex.bipush (M := mX7_perform) (pc2 := 15) dX7_perform_13 kb_m100 rfl ?_
    refine Ex.aload_n (M := mX7_perform) (pc2 := 16) dX7_perform_15 rfl rfl rfl ?_
    refine Ex.getI (M := mX7_perform) (pc2 := 19) dX7_perform_16 xck7 lfX7_136 (Nat.le_of_ble_eq_true rfl) sh_69 rfl rfl ?_
    refine Ex.isub (M := mX7_perform) (pc2 := 20) dX7_perform_19 rfl ?_
    exact Ey.ireturn (M := mX7_perform) dX7_perform_20 rfl rfl
/-! FenceDuelModel.stopped(I)I -/
def f_X7_stopped (l1 : Int32) (I : xI) : Option (Int32 × xI) :=
  if l1 ≠ 0 then if l1 ≠ (1 : Int32) then some ((-2 : Int32), I) else some ((I 69 10), I) else some ((I 69 9), I)
theorem t_X7_stopped (l1 : Int32) (I : xI) : Ey none mX7_stopped 0 [some (.inr (some 69)), some (.inl l1)] [] I (f_X7_stopped l1 I) := by
  unfold f_X7_stopped
  refine Ex.iload_n (M := mX7_stopped) (pc2 := 1) dX7_stopped_0 rfl rfl rfl ?_
  refine Ey.if_ne (M := mX7_stopped) (tgt := 11) (pc2 := 4) dX7_stopped_1 rfl (fun _ => ?_) rfl (fun _ => ?_)
  · refine Ex.iload_n (M := mX7_stopped) (pc2 := 12) dX7_stopped_11 rfl rfl rfl ?_
    refine Ex.iconst (M := mX7_stopped) (pc2 := 13) dX7_stopped_12 ki_1 rfl ?_
    refine Ey.icmp_ne (M := mX7_stopped) (tgt := 23) (pc2 := 16) dX7_stopped_13 rfl (fun _ => ?_) rfl (fun _ => ?_)
    · refine Ex.bipush (M := mX7_stopped) (pc2 := 25) dX7_stopped_23 kb_m2 rfl ?_
      exact Ey.ireturn (M := mX7_stopped) dX7_stopped_25 rfl rfl
    · refine Ex.aload_n (M := mX7_stopped) (pc2 := 17) dX7_stopped_16 rfl rfl rfl ?_
      refine Ex.getI (M := mX7_stopped) (pc2 := 20) dX7_stopped_17 xck7 lfX7_32 (Nat.le_of_ble_eq_true rfl) sh_69 rfl rfl ?_
      refine Ex.goto (M := mX7_stopped) (tgt := 25) dX7_stopped_20 rfl ?_
      exact Ey.ireturn (M := mX7_stopped) dX7_stopped_25 rfl rfl
  · refine Ex.aload_n (M := mX7_stopped) (pc2 := 5) dX7_stopped_4 rfl rfl rfl ?_
    refine Ex.getI (M := mX7_stopped) (pc2 := 8) dX7_stopped_5 xck7 lfX7_28 (Nat.le_of_ble_eq_true rfl) sh_69 rfl rfl ?_
    refine Ex.goto (M := mX7_stopped) (tgt := 25) dX7_stopped_8 rfl ?_
    exact Ey.ireturn (M := mX7_stopped) dX7_stopped_25 rfl rfl
/-! FenceDuelModel.undo()I -/
def f_X7_undo_22b (k22 : Int32 → xI → Option (Int32 × xI)) (l1 : Int32) (I : xI) : Option (Int32 × xI) :=
  if l1 ≥ (742 : Int32) then some ((I 69 6), I) else if xin (((742 : Int32) * (I 69 6)) + l1) 2968 then if xin l1 742 then k22 (l1 + 1) (xup I 70 l1.toNatClampNeg (I 74 ((((742 : Int32) * (I 69 6)) + l1).toNatClampNeg))) else none else none
theorem t_X7_undo_22b (k22 : Int32 → xI → Option (Int32 × xI)) (hk22 : ∀ (l1 : Int32) (I : xI), Ey none mX7_undo 22 [some (.inr (some 69)), some (.inl l1)] [] I (k22 l1 I)) (l1 : Int32) (I : xI) : Ey none mX7_undo 22 [some (.inr (some 69)), some (.inl l1)] [] I (f_X7_undo_22b k22 l1 I) := by
  unfold f_X7_undo_22b
  refine Ex.iload_n (M := mX7_undo) (pc2 := 23) dX7_undo_22 rfl rfl rfl ?_
  refine Ex.sipush (M := mX7_undo) (pc2 := 26) dX7_undo_23 ks_742 rfl ?_
  refine Ey.icmp_ge (M := mX7_undo) (tgt := 56) (pc2 := 29) dX7_undo_26 rfl (fun _ => ?_) rfl (fun _ => ?_)
  · refine Ex.aload_n (M := mX7_undo) (pc2 := 57) dX7_undo_56 rfl rfl rfl ?_
    refine Ex.getI (M := mX7_undo) (pc2 := 60) dX7_undo_57 xck7 lfX7_47 (Nat.le_of_ble_eq_true rfl) sh_69 rfl rfl ?_
    exact Ey.ireturn (M := mX7_undo) dX7_undo_60 rfl rfl
  · refine Ex.aload_n (M := mX7_undo) (pc2 := 30) dX7_undo_29 rfl rfl rfl ?_
    refine Ex.getR (M := mX7_undo) (pc2 := 33) dX7_undo_30 xck7 lfX7_7 (Nat.le_of_ble_eq_true rfl) sh_69 rfl ff_69_0 rfl ?_
    refine Ex.iload_n (M := mX7_undo) (pc2 := 34) dX7_undo_33 rfl rfl rfl ?_
    refine Ex.aload_n (M := mX7_undo) (pc2 := 35) dX7_undo_34 rfl rfl rfl ?_
    refine Ex.getR (M := mX7_undo) (pc2 := 38) dX7_undo_35 xck7 lfX7_22 (Nat.le_of_ble_eq_true rfl) sh_69 rfl ff_69_5 rfl ?_
    refine Ex.sipush (M := mX7_undo) (pc2 := 41) dX7_undo_38 ks_742 rfl ?_
    refine Ex.aload_n (M := mX7_undo) (pc2 := 42) dX7_undo_41 rfl rfl rfl ?_
    refine Ex.getI (M := mX7_undo) (pc2 := 45) dX7_undo_42 xck7 lfX7_47 (Nat.le_of_ble_eq_true rfl) sh_69 rfl rfl ?_
    refine Ex.imul (M := mX7_undo) (pc2 := 46) dX7_undo_45 rfl ?_
    refine Ex.iload_n (M := mX7_undo) (pc2 := 47) dX7_undo_46 rfl rfl rfl ?_
    refine Ex.iadd (M := mX7_undo) (pc2 := 48) dX7_undo_47 rfl ?_
    refine Ey.guard (fun hz1 => ?_)
    refine Ey.iaload (M := mX7_undo) (pc2 := 49) dX7_undo_48 sh_74 rfl hz1 rfl ?_
    refine Ey.guard (fun hz2 => ?_)
    refine Ey.iastore (M := mX7_undo) (pc2 := 50) dX7_undo_49 sh_70 rfl hz2 rfl ?_
    refine Ey.iinc (M := mX7_undo) (pc2 := 53) dX7_undo_50 rfl ki_1 (Nat.le_of_ble_eq_true rfl) rfl rfl ?_
    refine Ex.goto (M := mX7_undo) (tgt := 22) dX7_undo_53 rfl ?_
    exact hk22 _ _
def f_X7_undo_22 : Nat → Int32 → xI → Option (Int32 × xI)
  | 0, _, _ => none
  | n + 1, l1, I => f_X7_undo_22b (fun l1 I => f_X7_undo_22 n l1 I) l1 I
theorem t_X7_undo_22 : ∀ (n : Nat) (l1 : Int32) (I : xI), Ey none mX7_undo 22 [some (.inr (some 69)), some (.inl l1)] [] I (f_X7_undo_22 n l1 I)
  | 0, l1, I => Ey.nil
  | n + 1, l1, I => t_X7_undo_22b (fun l1 I => f_X7_undo_22 n l1 I) (fun l1 I => t_X7_undo_22 n l1 I) l1 I
def f_X7_undo (I : xI) : Option (Int32 × xI) :=
  if (I 69 6) ≠ 0 then f_X7_undo_22 xZ (0 : Int32) (xup I 69 6 ((I 69 6) - (1 : Int32))) else some ((-5 : Int32), I)
theorem t_X7_undo (I : xI) : Ey none mX7_undo 0 [some (.inr (some 69)), none] [] I (f_X7_undo I) := by
  unfold f_X7_undo
  refine Ex.aload_n (M := mX7_undo) (pc2 := 1) dX7_undo_0 rfl rfl rfl ?_
  refine Ex.getI (M := mX7_undo) (pc2 := 4) dX7_undo_1 xck7 lfX7_47 (Nat.le_of_ble_eq_true rfl) sh_69 rfl rfl ?_
  refine Ey.if_ne (M := mX7_undo) (tgt := 10) (pc2 := 7) dX7_undo_4 rfl (fun _ => ?_) rfl (fun _ => ?_)
  · refine Ex.aload_n (M := mX7_undo) (pc2 := 11) dX7_undo_10 rfl rfl rfl ?_
    refine Ex.dup (M := mX7_undo) (pc2 := 12) dX7_undo_11 rfl ?_
    refine Ex.getI (M := mX7_undo) (pc2 := 15) dX7_undo_12 xck7 lfX7_47 (Nat.le_of_ble_eq_true rfl) sh_69 rfl rfl ?_
    refine Ex.iconst (M := mX7_undo) (pc2 := 16) dX7_undo_15 ki_1 rfl ?_
    refine Ex.isub (M := mX7_undo) (pc2 := 17) dX7_undo_16 rfl ?_
    refine Ex.putI (M := mX7_undo) (pc2 := 20) dX7_undo_17 xck7 lfX7_47 (Nat.le_of_ble_eq_true rfl) sh_69 rfl rfl ⟨rfl, rfl⟩ rfl ?_
    refine Ex.iconst (M := mX7_undo) (pc2 := 21) dX7_undo_20 ki_0 rfl ?_
    refine Ey.istore_n (M := mX7_undo) (pc2 := 22) dX7_undo_21 rfl (Nat.le_of_ble_eq_true rfl) rfl rfl ?_
    exact t_X7_undo_22 xZ _ _
  · refine Ex.bipush (M := mX7_undo) (pc2 := 9) dX7_undo_7 kb_m5 rfl ?_
    exact Ey.ireturn (M := mX7_undo) dX7_undo_9 rfl rfl
/-! FenceDuelModel.keep()I -/
def f_X7_keep_2b (k2 : Int32 → xI → Option (Int32 × xI)) (l1 : Int32) (I : xI) : Option (Int32 × xI) :=
  if l1 ≥ (742 : Int32) then some (((xup I 69 4 (1 : Int32)) 70 0), (xup I 69 4 (1 : Int32))) else if xin l1 742 then if xin l1 742 then k2 (l1 + 1) (xup I 73 l1.toNatClampNeg (I 70 l1.toNatClampNeg)) else none else none
theorem t_X7_keep_2b (k2 : Int32 → xI → Option (Int32 × xI)) (hk2 : ∀ (l1 : Int32) (I : xI), Ey none mX7_keep 2 [some (.inr (some 69)), some (.inl l1)] [] I (k2 l1 I)) (l1 : Int32) (I : xI) : Ey none mX7_keep 2 [some (.inr (some 69)), some (.inl l1)] [] I (f_X7_keep_2b k2 l1 I) := by
  unfold f_X7_keep_2b
  refine Ex.iload_n (M := mX7_keep) (pc2 := 3) dX7_keep_2 rfl rfl rfl ?_
  refine Ex.sipush (M := mX7_keep) (pc2 := 6) dX7_keep_3 ks_742 rfl ?_
  refine Ey.icmp_ge (M := mX7_keep) (tgt := 27) (pc2 := 9) dX7_keep_6 rfl (fun _ => ?_) rfl (fun _ => ?_)
  · refine Ex.aload_n (M := mX7_keep) (pc2 := 28) dX7_keep_27 rfl rfl rfl ?_
    refine Ex.iconst (M := mX7_keep) (pc2 := 29) dX7_keep_28 ki_1 rfl ?_
    refine Ex.putI (M := mX7_keep) (pc2 := 32) dX7_keep_29 xck7 lfX7_176 (Nat.le_of_ble_eq_true rfl) sh_69 rfl rfl ⟨by decide, by decide⟩ rfl ?_
    refine Ex.aload_n (M := mX7_keep) (pc2 := 33) dX7_keep_32 rfl rfl rfl ?_
    refine Ex.getR (M := mX7_keep) (pc2 := 36) dX7_keep_33 xck7 lfX7_7 (Nat.le_of_ble_eq_true rfl) sh_69 rfl ff_69_0 rfl ?_
    refine Ex.iconst (M := mX7_keep) (pc2 := 37) dX7_keep_36 ki_0 rfl ?_
    refine Ey.iaload (M := mX7_keep) (pc2 := 38) dX7_keep_37 sh_70 kn_0 (by decide) rfl ?_
    exact Ey.ireturn (M := mX7_keep) dX7_keep_38 rfl rfl
  · refine Ex.aload_n (M := mX7_keep) (pc2 := 10) dX7_keep_9 rfl rfl rfl ?_
    refine Ex.getR (M := mX7_keep) (pc2 := 13) dX7_keep_10 xck7 lfX7_19 (Nat.le_of_ble_eq_true rfl) sh_69 rfl ff_69_3 rfl ?_
    refine Ex.iload_n (M := mX7_keep) (pc2 := 14) dX7_keep_13 rfl rfl rfl ?_
    refine Ex.aload_n (M := mX7_keep) (pc2 := 15) dX7_keep_14 rfl rfl rfl ?_
    refine Ex.getR (M := mX7_keep) (pc2 := 18) dX7_keep_15 xck7 lfX7_7 (Nat.le_of_ble_eq_true rfl) sh_69 rfl ff_69_0 rfl ?_
    refine Ex.iload_n (M := mX7_keep) (pc2 := 19) dX7_keep_18 rfl rfl rfl ?_
    refine Ey.guard (fun hz1 => ?_)
    refine Ey.iaload (M := mX7_keep) (pc2 := 20) dX7_keep_19 sh_70 rfl hz1 rfl ?_
    refine Ey.guard (fun hz2 => ?_)
    refine Ey.iastore (M := mX7_keep) (pc2 := 21) dX7_keep_20 sh_73 rfl hz2 rfl ?_
    refine Ey.iinc (M := mX7_keep) (pc2 := 24) dX7_keep_21 rfl ki_1 (Nat.le_of_ble_eq_true rfl) rfl rfl ?_
    refine Ex.goto (M := mX7_keep) (tgt := 2) dX7_keep_24 rfl ?_
    exact hk2 _ _
def f_X7_keep_2 : Nat → Int32 → xI → Option (Int32 × xI)
  | 0, _, _ => none
  | n + 1, l1, I => f_X7_keep_2b (fun l1 I => f_X7_keep_2 n l1 I) l1 I
theorem t_X7_keep_2 : ∀ (n : Nat) (l1 : Int32) (I : xI), Ey none mX7_keep 2 [some (.inr (some 69)), some (.inl l1)] [] I (f_X7_keep_2 n l1 I)
  | 0, l1, I => Ey.nil
  | n + 1, l1, I => t_X7_keep_2b (fun l1 I => f_X7_keep_2 n l1 I) (fun l1 I => t_X7_keep_2 n l1 I) l1 I
def f_X7_keep (I : xI) : Option (Int32 × xI) :=
  f_X7_keep_2 xZ (0 : Int32) I
theorem t_X7_keep (I : xI) : Ey none mX7_keep 0 [some (.inr (some 69)), none] [] I (f_X7_keep I) := by
  unfold f_X7_keep
  refine Ex.iconst (M := mX7_keep) (pc2 := 1) dX7_keep_0 ki_0 rfl ?_
  refine Ey.istore_n (M := mX7_keep) (pc2 := 2) dX7_keep_1 rfl (Nat.le_of_ble_eq_true rfl) rfl rfl ?_
  exact t_X7_keep_2 xZ _ _
/-! FenceDuelModel.restore()I -/
def f_X7_restore_20b (k20 : Int32 → xI → Option (Int32 × xI)) (l1 : Int32) (I : xI) : Option (Int32 × xI) :=
  if l1 ≥ (742 : Int32) then some ((I 70 0), I) else if xin l1 742 then if xin l1 742 then k20 (l1 + 1) (xup I 70 l1.toNatClampNeg (I 73 l1.toNatClampNeg)) else none else none
theorem t_X7_restore_20b (k20 : Int32 → xI → Option (Int32 × xI)) (hk20 : ∀ (l1 : Int32) (I : xI), Ey none mX7_restore 20 [some (.inr (some 69)), some (.inl l1)] [] I (k20 l1 I)) (l1 : Int32) (I : xI) : Ey none mX7_restore 20 [some (.inr (some 69)), some (.inl l1)] [] I (f_X7_restore_20b k20 l1 I) := by
  unfold f_X7_restore_20b
  refine Ex.iload_n (M := mX7_restore) (pc2 := 21) dX7_restore_20 rfl rfl rfl ?_
  refine Ex.sipush (M := mX7_restore) (pc2 := 24) dX7_restore_21 ks_742 rfl ?_
  refine Ey.icmp_ge (M := mX7_restore) (tgt := 45) (pc2 := 27) dX7_restore_24 rfl (fun _ => ?_) rfl (fun _ => ?_)
  · refine Ex.aload_n (M := mX7_restore) (pc2 := 46) dX7_restore_45 rfl rfl rfl ?_
    refine Ex.getR (M := mX7_restore) (pc2 := 49) dX7_restore_46 xck7 lfX7_7 (Nat.le_of_ble_eq_true rfl) sh_69 rfl ff_69_0 rfl ?_
    refine Ex.iconst (M := mX7_restore) (pc2 := 50) dX7_restore_49 ki_0 rfl ?_
    refine Ey.iaload (M := mX7_restore) (pc2 := 51) dX7_restore_50 sh_70 kn_0 (by decide) rfl ?_
    exact Ey.ireturn (M := mX7_restore) dX7_restore_51 rfl rfl
  · refine Ex.aload_n (M := mX7_restore) (pc2 := 28) dX7_restore_27 rfl rfl rfl ?_
    refine Ex.getR (M := mX7_restore) (pc2 := 31) dX7_restore_28 xck7 lfX7_7 (Nat.le_of_ble_eq_true rfl) sh_69 rfl ff_69_0 rfl ?_
    refine Ex.iload_n (M := mX7_restore) (pc2 := 32) dX7_restore_31 rfl rfl rfl ?_
    refine Ex.aload_n (M := mX7_restore) (pc2 := 33) dX7_restore_32 rfl rfl rfl ?_
    refine Ex.getR (M := mX7_restore) (pc2 := 36) dX7_restore_33 xck7 lfX7_19 (Nat.le_of_ble_eq_true rfl) sh_69 rfl ff_69_3 rfl ?_
    refine Ex.iload_n (M := mX7_restore) (pc2 := 37) dX7_restore_36 rfl rfl rfl ?_
    refine Ey.guard (fun hz1 => ?_)
    refine Ey.iaload (M := mX7_restore) (pc2 := 38) dX7_restore_37 sh_73 rfl hz1 rfl ?_
    refine Ey.guard (fun hz2 => ?_)
    refine Ey.iastore (M := mX7_restore) (pc2 := 39) dX7_restore_38 sh_70 rfl hz2 rfl ?_
    refine Ey.iinc (M := mX7_restore) (pc2 := 42) dX7_restore_39 rfl ki_1 (Nat.le_of_ble_eq_true rfl) rfl rfl ?_
    refine Ex.goto (M := mX7_restore) (tgt := 20) dX7_restore_42 rfl ?_
    exact hk20 _ _
def f_X7_restore_20 : Nat → Int32 → xI → Option (Int32 × xI)
  | 0, _, _ => none
  | n + 1, l1, I => f_X7_restore_20b (fun l1 I => f_X7_restore_20 n l1 I) l1 I
theorem t_X7_restore_20 : ∀ (n : Nat) (l1 : Int32) (I : xI), Ey none mX7_restore 20 [some (.inr (some 69)), some (.inl l1)] [] I (f_X7_restore_20 n l1 I)
  | 0, l1, I => Ey.nil
  | n + 1, l1, I => t_X7_restore_20b (fun l1 I => f_X7_restore_20 n l1 I) (fun l1 I => t_X7_restore_20 n l1 I) l1 I
def f_X7_restore (I : xI) : Option (Int32 × xI) :=
  if (I 69 4) ≠ 0 then xb (f_X7_looks I) (fun _ I3 => xb (f_X7_records I3) (fun _ I4 => f_X7_restore_20 xZ (0 : Int32) I4)) else some ((-5 : Int32), I)
theorem t_X7_restore (I : xI) : Ey none mX7_restore 0 [some (.inr (some 69)), none] [] I (f_X7_restore I) := by
  unfold f_X7_restore
  refine Ex.aload_n (M := mX7_restore) (pc2 := 1) dX7_restore_0 rfl rfl rfl ?_
  refine Ex.getI (M := mX7_restore) (pc2 := 4) dX7_restore_1 xck7 lfX7_176 (Nat.le_of_ble_eq_true rfl) sh_69 rfl rfl ?_
  refine Ey.if_ne (M := mX7_restore) (tgt := 10) (pc2 := 7) dX7_restore_4 rfl (fun _ => ?_) rfl (fun _ => ?_)
  · refine Ex.aload_n (M := mX7_restore) (pc2 := 11) dX7_restore_10 rfl rfl rfl ?_
    refine Ey.callVv (M := mX7_restore) (pc2 := 14) (as := []) (rest := []) rfl dX7_restore_11 isX7_looks lcX7_113 sh_69 rfl rfl ⟨(Nat.le_of_ble_eq_true rfl), (Nat.le_of_ble_eq_true rfl)⟩ rfl (Nat.le_of_ble_eq_true rfl) (Nat.le_of_ble_eq_true rfl) (t_X7_looks I) rfl (fun I3 => ?_)
    refine Ex.aload_n (M := mX7_restore) (pc2 := 15) dX7_restore_14 rfl rfl rfl ?_
    refine Ey.callVv (M := mX7_restore) (pc2 := 18) (as := []) (rest := []) rfl dX7_restore_15 isX7_records lcX7_110 sh_69 rfl rfl ⟨(Nat.le_of_ble_eq_true rfl), (Nat.le_of_ble_eq_true rfl)⟩ rfl (Nat.le_of_ble_eq_true rfl) (Nat.le_of_ble_eq_true rfl) (t_X7_records I3) rfl (fun I4 => ?_)
    refine Ex.iconst (M := mX7_restore) (pc2 := 19) dX7_restore_18 ki_0 rfl ?_
    refine Ey.istore_n (M := mX7_restore) (pc2 := 20) dX7_restore_19 rfl (Nat.le_of_ble_eq_true rfl) rfl rfl ?_
    exact t_X7_restore_20 xZ _ _
  · refine Ex.bipush (M := mX7_restore) (pc2 := 9) dX7_restore_7 kb_m5 rfl ?_
    exact Ey.ireturn (M := mX7_restore) dX7_restore_9 rfl rfl
/-! FenceDuelModel.edge(II)I -/
def f_X7_edge (l1 : Int32) (l2 : Int32) (I : xI) : Option (Int32 × xI) :=
  xb (f_X7_edgeAt l1 l2 I) (fun r1 I1 => if r1 ≠ (-5 : Int32) then if xin ((12 : Int32) + r1) 742 then some ((I1 70 (((12 : Int32) + r1).toNatClampNeg)), I1) else none else some ((-1 : Int32), I1))
theorem t_X7_edge (l1 : Int32) (l2 : Int32) (I : xI) : Ey none mX7_edge 0 [some (.inr (some 69)), some (.inl l1), some (.inl l2), none] [] I (f_X7_edge l1 l2 I) := by
  unfold f_X7_edge
  refine Ex.iload_n (M := mX7_edge) (pc2 := 1) dX7_edge_0 rfl rfl rfl ?_
  refine Ex.iload_n (M := mX7_edge) (pc2 := 2) dX7_edge_1 rfl rfl rfl ?_
  refine Ey.callSi (M := mX7_edge) (pc2 := 5) (as := [.inl l1, .inl l2]) (rest := []) rfl dX7_edge_2 isX7_edgeAt lcX7_71  rfl ⟨(Nat.le_of_ble_eq_true rfl), (Nat.le_of_ble_eq_true rfl)⟩ rfl (Nat.le_of_ble_eq_true rfl) (Nat.le_of_ble_eq_true rfl) (t_X7_edgeAt l1 l2 I) rfl (fun r1 I1 => ?_)
  refine Ey.istore_n (M := mX7_edge) (pc2 := 6) dX7_edge_5 rfl (Nat.le_of_ble_eq_true rfl) rfl rfl ?_
  refine Ex.iload_n (M := mX7_edge) (pc2 := 7) dX7_edge_6 rfl rfl rfl ?_
  refine Ex.bipush (M := mX7_edge) (pc2 := 9) dX7_edge_7 kb_m5 rfl ?_
  refine Ey.icmp_ne (M := mX7_edge) (tgt := 16) (pc2 := 12) dX7_edge_9 rfl (fun _ => ?_) rfl (fun _ => ?_)
  · refine Ex.aload_n (M := mX7_edge) (pc2 := 17) dX7_edge_16 rfl rfl rfl ?_
    refine Ex.getR (M := mX7_edge) (pc2 := 20) dX7_edge_17 xck7 lfX7_7 (Nat.le_of_ble_eq_true rfl) sh_69 rfl ff_69_0 rfl ?_
    refine Ex.bipush (M := mX7_edge) (pc2 := 22) dX7_edge_20 kb_12 rfl ?_
    refine Ex.iload_n (M := mX7_edge) (pc2 := 23) dX7_edge_22 rfl rfl rfl ?_
    refine Ex.iadd (M := mX7_edge) (pc2 := 24) dX7_edge_23 rfl ?_
    refine Ey.guard (fun hz2 => ?_)
    refine Ey.iaload (M := mX7_edge) (pc2 := 25) dX7_edge_24 sh_70 rfl hz2 rfl ?_
    exact Ey.ireturn (M := mX7_edge) dX7_edge_25 rfl rfl
  · refine Ex.iconst (M := mX7_edge) (pc2 := 13) dX7_edge_12 ki_m1 rfl ?_
    refine Ex.goto (M := mX7_edge) (tgt := 25) dX7_edge_13 rfl ?_
    exact Ey.ireturn (M := mX7_edge) dX7_edge_25 rfl rfl
/-! FenceDuelModel.edgesOf(I)I -/
def f_X7_edgesOf_4b (k4 : Int32 → Int32 → Int32 → xI → Option (Int32 × xI)) (l1 : Int32) (l2 : Int32) (l3 : Int32) (I : xI) : Option (Int32 × xI) :=
  if l3 ≥ (4 : Int32) then some (l2, I) else xb (f_X7_edgeAt l1 l3 I) (fun r1 I1 => if r1 = (-5 : Int32) then k4 l1 (l2 + (0 : Int32)) (l3 + 1) I1 else if xin ((12 : Int32) + r1) 742 then if (I1 70 (((12 : Int32) + r1).toNatClampNeg)) ≤ 0 then k4 l1 (l2 + (0 : Int32)) (l3 + 1) I1 else k4 l1 (l2 + (1 : Int32)) (l3 + 1) I1 else none)
theorem t_X7_edgesOf_4b (k4 : Int32 → Int32 → Int32 → xI → Option (Int32 × xI)) (hk4 : ∀ (l1 : Int32) (l2 : Int32) (l3 : Int32) (d4 : Option xV) (I : xI), Ey none mX7_edgesOf 4 [some (.inr (some 69)), some (.inl l1), some (.inl l2), some (.inl l3), d4] [] I (k4 l1 l2 l3 I)) (l1 : Int32) (l2 : Int32) (l3 : Int32) (d4 : Option xV) (I : xI) : Ey none mX7_edgesOf 4 [some (.inr (some 69)), some (.inl l1), some (.inl l2), some (.inl l3), d4] [] I (f_X7_edgesOf_4b k4 l1 l2 l3 I) := by
  unfold f_X7_edgesOf_4b
  refine Ex.iload_n (M := mX7_edgesOf) (pc2 := 5) dX7_edgesOf_4 rfl rfl rfl ?_
  refine Ex.iconst (M := mX7_edgesOf) (pc2 := 6) dX7_edgesOf_5 ki_4 rfl ?_
  refine Ey.icmp_ge (M := mX7_edgesOf) (tgt := 50) (pc2 := 9) dX7_edgesOf_6 rfl (fun _ => ?_) rfl (fun _ => ?_)
  · refine Ex.iload_n (M := mX7_edgesOf) (pc2 := 51) dX7_edgesOf_50 rfl rfl rfl ?_
    exact Ey.ireturn (M := mX7_edgesOf) dX7_edgesOf_51 rfl rfl
  · refine Ex.iload_n (M := mX7_edgesOf) (pc2 := 10) dX7_edgesOf_9 rfl rfl rfl ?_
    refine Ex.iload_n (M := mX7_edgesOf) (pc2 := 11) dX7_edgesOf_10 rfl rfl rfl ?_
    refine Ey.callSi (M := mX7_edgesOf) (pc2 := 14) (as := [.inl l1, .inl l3]) (rest := []) rfl dX7_edgesOf_11 isX7_edgeAt lcX7_71  rfl ⟨(Nat.le_of_ble_eq_true rfl), (Nat.le_of_ble_eq_true rfl)⟩ rfl (Nat.le_of_ble_eq_true rfl) (Nat.le_of_ble_eq_true rfl) (t_X7_edgeAt l1 l3 I) rfl (fun r1 I1 => ?_)
    refine Ey.istore (M := mX7_edgesOf) (pc2 := 16) dX7_edgesOf_14 (Nat.le_of_ble_eq_true rfl) rfl rfl ?_
    refine Ex.iload_n (M := mX7_edgesOf) (pc2 := 17) dX7_edgesOf_16 rfl rfl rfl ?_
    refine Ex.iload (M := mX7_edgesOf) (pc2 := 19) dX7_edgesOf_17 rfl rfl ?_
    refine Ex.bipush (M := mX7_edgesOf) (pc2 := 21) dX7_edgesOf_19 kb_m5 rfl ?_
    refine Ey.icmp_eq (M := mX7_edgesOf) (tgt := 41) (pc2 := 24) dX7_edgesOf_21 rfl (fun _ => ?_) rfl (fun _ => ?_)
    · refine Ex.iconst (M := mX7_edgesOf) (pc2 := 42) dX7_edgesOf_41 ki_0 rfl ?_
      refine Ex.iadd (M := mX7_edgesOf) (pc2 := 43) dX7_edgesOf_42 rfl ?_
      refine Ey.istore_n (M := mX7_edgesOf) (pc2 := 44) dX7_edgesOf_43 rfl (Nat.le_of_ble_eq_true rfl) rfl rfl ?_
      refine Ey.iinc (M := mX7_edgesOf) (pc2 := 47) dX7_edgesOf_44 rfl ki_1 (Nat.le_of_ble_eq_true rfl) rfl rfl ?_
      refine Ex.goto (M := mX7_edgesOf) (tgt := 4) dX7_edgesOf_47 rfl ?_
      exact hk4 _ _ _ _ _
    · refine Ex.aload_n (M := mX7_edgesOf) (pc2 := 25) dX7_edgesOf_24 rfl rfl rfl ?_
      refine Ex.getR (M := mX7_edgesOf) (pc2 := 28) dX7_edgesOf_25 xck7 lfX7_7 (Nat.le_of_ble_eq_true rfl) sh_69 rfl ff_69_0 rfl ?_
      refine Ex.bipush (M := mX7_edgesOf) (pc2 := 30) dX7_edgesOf_28 kb_12 rfl ?_
      refine Ex.iload (M := mX7_edgesOf) (pc2 := 32) dX7_edgesOf_30 rfl rfl ?_
      refine Ex.iadd (M := mX7_edgesOf) (pc2 := 33) dX7_edgesOf_32 rfl ?_
      refine Ey.guard (fun hz2 => ?_)
      refine Ey.iaload (M := mX7_edgesOf) (pc2 := 34) dX7_edgesOf_33 sh_70 rfl hz2 rfl ?_
      refine Ey.if_le (M := mX7_edgesOf) (tgt := 41) (pc2 := 37) dX7_edgesOf_34 rfl (fun _ => ?_) rfl (fun _ => ?_)
      · refine Ex.iconst (M := mX7_edgesOf) (pc2 := 42) dX7_edgesOf_41 ki_0 rfl ?_
        refine Ex.iadd (M := mX7_edgesOf) (pc2 := 43) dX7_edgesOf_42 rfl ?_
        refine Ey.istore_n (M := mX7_edgesOf) (pc2 := 44) dX7_edgesOf_43 rfl (Nat.le_of_ble_eq_true rfl) rfl rfl ?_
        refine Ey.iinc (M := mX7_edgesOf) (pc2 := 47) dX7_edgesOf_44 rfl ki_1 (Nat.le_of_ble_eq_true rfl) rfl rfl ?_
        refine Ex.goto (M := mX7_edgesOf) (tgt := 4) dX7_edgesOf_47 rfl ?_
        exact hk4 _ _ _ _ _
      · refine Ex.iconst (M := mX7_edgesOf) (pc2 := 38) dX7_edgesOf_37 ki_1 rfl ?_
        refine Ex.goto (M := mX7_edgesOf) (tgt := 42) dX7_edgesOf_38 rfl ?_
        refine Ex.iadd (M := mX7_edgesOf) (pc2 := 43) dX7_edgesOf_42 rfl ?_
        refine Ey.istore_n (M := mX7_edgesOf) (pc2 := 44) dX7_edgesOf_43 rfl (Nat.le_of_ble_eq_true rfl) rfl rfl ?_
        refine Ey.iinc (M := mX7_edgesOf) (pc2 := 47) dX7_edgesOf_44 rfl ki_1 (Nat.le_of_ble_eq_true rfl) rfl rfl ?_
        refine Ex.goto (M := mX7_edgesOf) (tgt := 4) dX7_edgesOf_47 rfl ?_
        exact hk4 _ _ _ _ _
def f_X7_edgesOf_4 : Nat → Int32 → Int32 → Int32 → xI → Option (Int32 × xI)
  | 0, _, _, _, _ => none
  | n + 1, l1, l2, l3, I => f_X7_edgesOf_4b (fun l1 l2 l3 I => f_X7_edgesOf_4 n l1 l2 l3 I) l1 l2 l3 I
theorem t_X7_edgesOf_4 : ∀ (n : Nat) (l1 : Int32) (l2 : Int32) (l3 : Int32) (d4 : Option xV) (I : xI), Ey none mX7_edgesOf 4 [some (.inr (some 69)), some (.inl l1), some (.inl l2), some (.inl l3), d4] [] I (f_X7_edgesOf_4 n l1 l2 l3 I)
  | 0, l1, l2, l3, d4, I => Ey.nil
  | n + 1, l1, l2, l3, d4, I => t_X7_edgesOf_4b (fun l1 l2 l3 I => f_X7_edgesOf_4 n l1 l2 l3 I) (fun l1 l2 l3 d4 I => t_X7_edgesOf_4 n l1 l2 l3 d4 I) l1 l2 l3 d4 I
def f_X7_edgesOf (l1 : Int32) (I : xI) : Option (Int32 × xI) :=
  f_X7_edgesOf_4 xZ l1 (0 : Int32) (0 : Int32) I
theorem t_X7_edgesOf (l1 : Int32) (I : xI) : Ey none mX7_edgesOf 0 [some (.inr (some 69)), some (.inl l1), none, none, none] [] I (f_X7_edgesOf l1 I) := by
  unfold f_X7_edgesOf
  refine Ex.iconst (M := mX7_edgesOf) (pc2 := 1) dX7_edgesOf_0 ki_0 rfl ?_
  refine Ey.istore_n (M := mX7_edgesOf) (pc2 := 2) dX7_edgesOf_1 rfl (Nat.le_of_ble_eq_true rfl) rfl rfl ?_
  refine Ex.iconst (M := mX7_edgesOf) (pc2 := 3) dX7_edgesOf_2 ki_0 rfl ?_
  refine Ey.istore_n (M := mX7_edgesOf) (pc2 := 4) dX7_edgesOf_3 rfl (Nat.le_of_ble_eq_true rfl) rfl rfl ?_
  exact t_X7_edgesOf_4 xZ _ _ _ _ _
/-! FenceDuelModel.field(II)I -/
def f_X7_field (l1 : Int32) (l2 : Int32) (I : xI) : Option (Int32 × xI) :=
  xb (f_X7_isField l1 I) (fun r1 I1 => if r1 ≠ 0 then if l2 = 0 then if xin ((94 : Int32) + l1) 742 then some ((I1 70 (((94 : Int32) + l1).toNatClampNeg)), I1) else none else if l2 = 1 then xb (f_X7_mark l1 I1) (fun r4 I4 => some (r4, I4)) else if l2 = 2 then xb (f_X7_freeIn l1 I1) (fun r5 I5 => some (r5, I5)) else if l2 = 3 then xb (f_X7_lowestIn l1 I1) (fun r6 I6 => some (r6, I6)) else if l2 = 4 then xb (f_X7_edgesOf l1 I1) (fun r7 I7 => some (r7, I7)) else some ((-2 : Int32), I1) else some ((-1 : Int32), I1))
theorem t_X7_field (l1 : Int32) (l2 : Int32) (I : xI) : Ey none mX7_field 0 [some (.inr (some 69)), some (.inl l1), some (.inl l2)] [] I (f_X7_field l1 l2 I) := by
  unfold f_X7_field
  refine Ex.iload_n (M := mX7_field) (pc2 := 1) dX7_field_0 rfl rfl rfl ?_
  refine Ey.callSi (M := mX7_field) (pc2 := 4) (as := [.inl l1]) (rest := []) rfl dX7_field_1 isX7_isField lcX7_50  rfl ⟨(Nat.le_of_ble_eq_true rfl), (Nat.le_of_ble_eq_true rfl)⟩ rfl (Nat.le_of_ble_eq_true rfl) (Nat.le_of_ble_eq_true rfl) (t_X7_isField l1 I) rfl (fun r1 I1 => ?_)
  refine Ey.if_ne (M := mX7_field) (tgt := 9) (pc2 := 7) dX7_field_4 rfl (fun _ => ?_) rfl (fun _ => ?_)
  · refine Ex.iload_n (M := mX7_field) (pc2 := 10) dX7_field_9 rfl rfl rfl ?_
    refine Ey.ite (fun hc2_0 => ?_) (fun hc2_0 => ?_)
    · refine Ey.tcase (M := mX7_field) (c := 0) (off := 34) (tgt := 44) hc2_0 dX7_field_10 (by decide) (by decide) (by decide) rfl ?_
      refine Ex.aload_n (M := mX7_field) (pc2 := 45) dX7_field_44 rfl rfl rfl ?_
      refine Ex.getR (M := mX7_field) (pc2 := 48) dX7_field_45 xck7 lfX7_7 (Nat.le_of_ble_eq_true rfl) sh_69 rfl ff_69_0 rfl ?_
      refine Ex.bipush (M := mX7_field) (pc2 := 50) dX7_field_48 kb_94 rfl ?_
      refine Ex.iload_n (M := mX7_field) (pc2 := 51) dX7_field_50 rfl rfl rfl ?_
      refine Ex.iadd (M := mX7_field) (pc2 := 52) dX7_field_51 rfl ?_
      refine Ey.guard (fun hz3 => ?_)
      refine Ey.iaload (M := mX7_field) (pc2 := 53) dX7_field_52 sh_70 rfl hz3 rfl ?_
      exact Ey.ireturn (M := mX7_field) dX7_field_53 rfl rfl
    · refine Ey.ite (fun hc2_1 => ?_) (fun hc2_1 => ?_)
      · refine Ey.tcase (M := mX7_field) (c := 1) (off := 44) (tgt := 54) hc2_1 dX7_field_10 (by decide) (by decide) (by decide) rfl ?_
        refine Ex.aload_n (M := mX7_field) (pc2 := 55) dX7_field_54 rfl rfl rfl ?_
        refine Ex.iload_n (M := mX7_field) (pc2 := 56) dX7_field_55 rfl rfl rfl ?_
        refine Ey.callVi (M := mX7_field) (pc2 := 59) (as := [.inl l1]) (rest := []) rfl dX7_field_56 isX7_mark lcX7_61 sh_69 rfl rfl ⟨(Nat.le_of_ble_eq_true rfl), (Nat.le_of_ble_eq_true rfl)⟩ rfl (Nat.le_of_ble_eq_true rfl) (Nat.le_of_ble_eq_true rfl) (t_X7_mark l1 I1) rfl (fun r4 I4 => ?_)
        exact Ey.ireturn (M := mX7_field) dX7_field_59 rfl rfl
      · refine Ey.ite (fun hc2_2 => ?_) (fun hc2_2 => ?_)
        · refine Ey.tcase (M := mX7_field) (c := 2) (off := 50) (tgt := 60) hc2_2 dX7_field_10 (by decide) (by decide) (by decide) rfl ?_
          refine Ex.aload_n (M := mX7_field) (pc2 := 61) dX7_field_60 rfl rfl rfl ?_
          refine Ex.iload_n (M := mX7_field) (pc2 := 62) dX7_field_61 rfl rfl rfl ?_
          refine Ey.callVi (M := mX7_field) (pc2 := 65) (as := [.inl l1]) (rest := []) rfl dX7_field_62 isX7_freeIn lcX7_179 sh_69 rfl rfl ⟨(Nat.le_of_ble_eq_true rfl), (Nat.le_of_ble_eq_true rfl)⟩ rfl (Nat.le_of_ble_eq_true rfl) (Nat.le_of_ble_eq_true rfl) (t_X7_freeIn l1 I1) rfl (fun r5 I5 => ?_)
          exact Ey.ireturn (M := mX7_field) dX7_field_65 rfl rfl
        · refine Ey.ite (fun hc2_3 => ?_) (fun hc2_3 => ?_)
          · refine Ey.tcase (M := mX7_field) (c := 3) (off := 56) (tgt := 66) hc2_3 dX7_field_10 (by decide) (by decide) (by decide) rfl ?_
            refine Ex.aload_n (M := mX7_field) (pc2 := 67) dX7_field_66 rfl rfl rfl ?_
            refine Ex.iload_n (M := mX7_field) (pc2 := 68) dX7_field_67 rfl rfl rfl ?_
            refine Ey.callVi (M := mX7_field) (pc2 := 71) (as := [.inl l1]) (rest := []) rfl dX7_field_68 isX7_lowestIn lcX7_182 sh_69 rfl rfl ⟨(Nat.le_of_ble_eq_true rfl), (Nat.le_of_ble_eq_true rfl)⟩ rfl (Nat.le_of_ble_eq_true rfl) (Nat.le_of_ble_eq_true rfl) (t_X7_lowestIn l1 I1) rfl (fun r6 I6 => ?_)
            exact Ey.ireturn (M := mX7_field) dX7_field_71 rfl rfl
          · refine Ey.ite (fun hc2_4 => ?_) (fun hc2_4 => ?_)
            · refine Ey.tcase (M := mX7_field) (c := 4) (off := 62) (tgt := 72) hc2_4 dX7_field_10 (by decide) (by decide) (by decide) rfl ?_
              refine Ex.aload_n (M := mX7_field) (pc2 := 73) dX7_field_72 rfl rfl rfl ?_
              refine Ex.iload_n (M := mX7_field) (pc2 := 74) dX7_field_73 rfl rfl rfl ?_
              refine Ey.callVi (M := mX7_field) (pc2 := 77) (as := [.inl l1]) (rest := []) rfl dX7_field_74 isX7_edgesOf lcX7_185 sh_69 rfl rfl ⟨(Nat.le_of_ble_eq_true rfl), (Nat.le_of_ble_eq_true rfl)⟩ rfl (Nat.le_of_ble_eq_true rfl) (Nat.le_of_ble_eq_true rfl) (t_X7_edgesOf l1 I1) rfl (fun r7 I7 => ?_)
              exact Ey.ireturn (M := mX7_field) dX7_field_77 rfl rfl
            · refine Ex.tableOut (M := mX7_field) (tgt := 78) dX7_field_10 (xOut (n := 5) (by decide) (fun j hj => match j, hj with | 0, _ => xNe hc2_0 (by decide) | 1, _ => xNe hc2_1 (by decide) | 2, _ => xNe hc2_2 (by decide) | 3, _ => xNe hc2_3 (by decide) | 4, _ => xNe hc2_4 (by decide) | j + 5, hj => absurd hj (by omega))) rfl ?_
              refine Ex.bipush (M := mX7_field) (pc2 := 80) dX7_field_78 kb_m2 rfl ?_
              exact Ey.ireturn (M := mX7_field) dX7_field_80 rfl rfl
  · refine Ex.iconst (M := mX7_field) (pc2 := 8) dX7_field_7 ki_m1 rfl ?_
    exact Ey.ireturn (M := mX7_field) dX7_field_8 rfl rfl
/-! FenceDuelModel.joined(I)I -/
def f_X7_joined (l1 : Int32) (I : xI) : Option (Int32 × xI) :=
  xb (f_X7_isField l1 I) (fun r1 I1 => if r1 = 0 then some ((-1 : Int32), I1) else xb (f_X7_mark l1 I1) (fun r2 I2 => some (r2, I2)))
theorem t_X7_joined (l1 : Int32) (I : xI) : Ey none mX7_joined 0 [some (.inr (some 69)), some (.inl l1)] [] I (f_X7_joined l1 I) := by
  unfold f_X7_joined
  refine Ex.iload_n (M := mX7_joined) (pc2 := 1) dX7_joined_0 rfl rfl rfl ?_
  refine Ey.callSi (M := mX7_joined) (pc2 := 4) (as := [.inl l1]) (rest := []) rfl dX7_joined_1 isX7_isField lcX7_50  rfl ⟨(Nat.le_of_ble_eq_true rfl), (Nat.le_of_ble_eq_true rfl)⟩ rfl (Nat.le_of_ble_eq_true rfl) (Nat.le_of_ble_eq_true rfl) (t_X7_isField l1 I) rfl (fun r1 I1 => ?_)
  refine Ey.if_eq (M := mX7_joined) (tgt := 15) (pc2 := 7) dX7_joined_4 rfl (fun _ => ?_) rfl (fun _ => ?_)
  · refine Ex.iconst (M := mX7_joined) (pc2 := 16) dX7_joined_15 ki_m1 rfl ?_
    exact Ey.ireturn (M := mX7_joined) dX7_joined_16 rfl rfl
  · refine Ex.aload_n (M := mX7_joined) (pc2 := 8) dX7_joined_7 rfl rfl rfl ?_
    refine Ex.iload_n (M := mX7_joined) (pc2 := 9) dX7_joined_8 rfl rfl rfl ?_
    refine Ey.callVi (M := mX7_joined) (pc2 := 12) (as := [.inl l1]) (rest := []) rfl dX7_joined_9 isX7_mark lcX7_61 sh_69 rfl rfl ⟨(Nat.le_of_ble_eq_true rfl), (Nat.le_of_ble_eq_true rfl)⟩ rfl (Nat.le_of_ble_eq_true rfl) (Nat.le_of_ble_eq_true rfl) (t_X7_mark l1 I1) rfl (fun r2 I2 => ?_)
    refine Ex.goto (M := mX7_joined) (tgt := 16) dX7_joined_12 rfl ?_
    exact Ey.ireturn (M := mX7_joined) dX7_joined_16 rfl rfl
/-! FenceDuelModel.letter(II)I -/
def f_X7_letter (l1 : Int32) (l2 : Int32) (I : xI) : Option (Int32 × xI) :=
  xb (f_X7_isLetter l1 I) (fun r1 I1 => if r1 ≠ 0 then xb (f_X7_in l2 (0 : Int32) (9 : Int32) I1) (fun r2 I2 => if r2 = 0 then some ((-2 : Int32), I2) else xb (f_X7_of l1 l2 I2) (fun r3 I3 => some (r3, I3))) else some ((-1 : Int32), I1))
theorem t_X7_letter (l1 : Int32) (l2 : Int32) (I : xI) : Ey none mX7_letter 0 [some (.inr (some 69)), some (.inl l1), some (.inl l2)] [] I (f_X7_letter l1 l2 I) := by
  unfold f_X7_letter
  refine Ex.aload_n (M := mX7_letter) (pc2 := 1) dX7_letter_0 rfl rfl rfl ?_
  refine Ex.iload_n (M := mX7_letter) (pc2 := 2) dX7_letter_1 rfl rfl rfl ?_
  refine Ey.callVi (M := mX7_letter) (pc2 := 5) (as := [.inl l1]) (rest := []) rfl dX7_letter_2 isX7_isLetter lcX7_123 sh_69 rfl rfl ⟨(Nat.le_of_ble_eq_true rfl), (Nat.le_of_ble_eq_true rfl)⟩ rfl (Nat.le_of_ble_eq_true rfl) (Nat.le_of_ble_eq_true rfl) (t_X7_isLetter l1 I) rfl (fun r1 I1 => ?_)
  refine Ey.if_ne (M := mX7_letter) (tgt := 12) (pc2 := 8) dX7_letter_5 rfl (fun _ => ?_) rfl (fun _ => ?_)
  · refine Ex.iload_n (M := mX7_letter) (pc2 := 13) dX7_letter_12 rfl rfl rfl ?_
    refine Ex.iconst (M := mX7_letter) (pc2 := 14) dX7_letter_13 ki_0 rfl ?_
    refine Ex.bipush (M := mX7_letter) (pc2 := 16) dX7_letter_14 kb_9 rfl ?_
    refine Ey.callSi (M := mX7_letter) (pc2 := 19) (as := [.inl l2, .inl (0 : Int32), .inl (9 : Int32)]) (rest := []) rfl dX7_letter_16 isX7_in lcX7_39  rfl ⟨(Nat.le_of_ble_eq_true rfl), (Nat.le_of_ble_eq_true rfl)⟩ rfl (Nat.le_of_ble_eq_true rfl) (Nat.le_of_ble_eq_true rfl) (t_X7_in l2 (0 : Int32) (9 : Int32) I1) rfl (fun r2 I2 => ?_)
    refine Ey.if_eq (M := mX7_letter) (tgt := 31) (pc2 := 22) dX7_letter_19 rfl (fun _ => ?_) rfl (fun _ => ?_)
    · refine Ex.bipush (M := mX7_letter) (pc2 := 33) dX7_letter_31 kb_m2 rfl ?_
      exact Ey.ireturn (M := mX7_letter) dX7_letter_33 rfl rfl
    · refine Ex.aload_n (M := mX7_letter) (pc2 := 23) dX7_letter_22 rfl rfl rfl ?_
      refine Ex.iload_n (M := mX7_letter) (pc2 := 24) dX7_letter_23 rfl rfl rfl ?_
      refine Ex.iload_n (M := mX7_letter) (pc2 := 25) dX7_letter_24 rfl rfl rfl ?_
      refine Ey.callVi (M := mX7_letter) (pc2 := 28) (as := [.inl l1, .inl l2]) (rest := []) rfl dX7_letter_25 isX7_of lcX7_68 sh_69 rfl rfl ⟨(Nat.le_of_ble_eq_true rfl), (Nat.le_of_ble_eq_true rfl)⟩ rfl (Nat.le_of_ble_eq_true rfl) (Nat.le_of_ble_eq_true rfl) (t_X7_of l1 l2 I2) rfl (fun r3 I3 => ?_)
      refine Ex.goto (M := mX7_letter) (tgt := 33) dX7_letter_28 rfl ?_
      exact Ey.ireturn (M := mX7_letter) dX7_letter_33 rfl rfl
  · refine Ex.iconst (M := mX7_letter) (pc2 := 9) dX7_letter_8 ki_m1 rfl ?_
    refine Ex.goto (M := mX7_letter) (tgt := 33) dX7_letter_9 rfl ?_
    exact Ey.ireturn (M := mX7_letter) dX7_letter_33 rfl rfl
/-! FenceDuelModel.cross(II)Z -/
def f_X7_cross_27 (l1 : Int32) (l2 : Int32) (s0 : Int32) (I : xI) : Option (Int32 × xI) :=
  if s0 ≠ 0 then some ((0 : Int32), I) else xb (f_X7_of l1 (0 : Int32) I) (fun r1 I1 => xb (f_X7_of l2 (0 : Int32) I1) (fun r2 I2 => if r1 = r2 then some ((0 : Int32), I2) else xb (f_X7_of l1 (4 : Int32) I2) (fun r3 I3 => xb (f_X7_of l2 (5 : Int32) I3) (fun r4 I4 => if r3 ≥ r4 then some ((0 : Int32), I4) else xb (f_X7_of l2 (4 : Int32) I4) (fun r5 I5 => xb (f_X7_of l1 (5 : Int32) I5) (fun r6 I6 => if r5 ≥ r6 then some ((0 : Int32), I6) else some ((1 : Int32), I6)))))))
theorem t_X7_cross_27 (l1 : Int32) (l2 : Int32) (d3 : Option xV) (s0 : Int32) (I : xI) : Ey none mX7_cross 27 [some (.inr (some 69)), some (.inl l1), some (.inl l2), d3] [.inl s0] I (f_X7_cross_27 l1 l2 s0 I) := by
  unfold f_X7_cross_27
  refine Ey.istore_n (M := mX7_cross) (pc2 := 28) dX7_cross_27 rfl (Nat.le_of_ble_eq_true rfl) rfl rfl ?_
  refine Ex.iload_n (M := mX7_cross) (pc2 := 29) dX7_cross_28 rfl rfl rfl ?_
  refine Ey.if_ne (M := mX7_cross) (tgt := 81) (pc2 := 32) dX7_cross_29 rfl (fun _ => ?_) rfl (fun _ => ?_)
  · refine Ex.iconst (M := mX7_cross) (pc2 := 82) dX7_cross_81 ki_0 rfl ?_
    exact Ey.ireturn (M := mX7_cross) dX7_cross_82 rfl (by decide)
  · refine Ex.aload_n (M := mX7_cross) (pc2 := 33) dX7_cross_32 rfl rfl rfl ?_
    refine Ex.iload_n (M := mX7_cross) (pc2 := 34) dX7_cross_33 rfl rfl rfl ?_
    refine Ex.iconst (M := mX7_cross) (pc2 := 35) dX7_cross_34 ki_0 rfl ?_
    refine Ey.callVi (M := mX7_cross) (pc2 := 38) (as := [.inl l1, .inl (0 : Int32)]) (rest := []) rfl dX7_cross_35 isX7_of lcX7_68 sh_69 rfl rfl ⟨(Nat.le_of_ble_eq_true rfl), (Nat.le_of_ble_eq_true rfl)⟩ rfl (Nat.le_of_ble_eq_true rfl) (Nat.le_of_ble_eq_true rfl) (t_X7_of l1 (0 : Int32) I) rfl (fun r1 I1 => ?_)
    refine Ex.aload_n (M := mX7_cross) (pc2 := 39) dX7_cross_38 rfl rfl rfl ?_
    refine Ex.iload_n (M := mX7_cross) (pc2 := 40) dX7_cross_39 rfl rfl rfl ?_
    refine Ex.iconst (M := mX7_cross) (pc2 := 41) dX7_cross_40 ki_0 rfl ?_
    refine Ey.callVi (M := mX7_cross) (pc2 := 44) (as := [.inl l2, .inl (0 : Int32)]) (rest := [.inl r1]) rfl dX7_cross_41 isX7_of lcX7_68 sh_69 rfl rfl ⟨(Nat.le_of_ble_eq_true rfl), (Nat.le_of_ble_eq_true rfl)⟩ rfl (Nat.le_of_ble_eq_true rfl) (Nat.le_of_ble_eq_true rfl) (t_X7_of l2 (0 : Int32) I1) rfl (fun r2 I2 => ?_)
    refine Ey.icmp_eq (M := mX7_cross) (tgt := 81) (pc2 := 47) dX7_cross_44 rfl (fun _ => ?_) rfl (fun _ => ?_)
    · refine Ex.iconst (M := mX7_cross) (pc2 := 82) dX7_cross_81 ki_0 rfl ?_
      exact Ey.ireturn (M := mX7_cross) dX7_cross_82 rfl (by decide)
    · refine Ex.aload_n (M := mX7_cross) (pc2 := 48) dX7_cross_47 rfl rfl rfl ?_
      refine Ex.iload_n (M := mX7_cross) (pc2 := 49) dX7_cross_48 rfl rfl rfl ?_
      refine Ex.iconst (M := mX7_cross) (pc2 := 50) dX7_cross_49 ki_4 rfl ?_
      refine Ey.callVi (M := mX7_cross) (pc2 := 53) (as := [.inl l1, .inl (4 : Int32)]) (rest := []) rfl dX7_cross_50 isX7_of lcX7_68 sh_69 rfl rfl ⟨(Nat.le_of_ble_eq_true rfl), (Nat.le_of_ble_eq_true rfl)⟩ rfl (Nat.le_of_ble_eq_true rfl) (Nat.le_of_ble_eq_true rfl) (t_X7_of l1 (4 : Int32) I2) rfl (fun r3 I3 => ?_)
      refine Ex.aload_n (M := mX7_cross) (pc2 := 54) dX7_cross_53 rfl rfl rfl ?_
      refine Ex.iload_n (M := mX7_cross) (pc2 := 55) dX7_cross_54 rfl rfl rfl ?_
      refine Ex.iconst (M := mX7_cross) (pc2 := 56) dX7_cross_55 ki_5 rfl ?_
      refine Ey.callVi (M := mX7_cross) (pc2 := 59) (as := [.inl l2, .inl (5 : Int32)]) (rest := [.inl r3]) rfl dX7_cross_56 isX7_of lcX7_68 sh_69 rfl rfl ⟨(Nat.le_of_ble_eq_true rfl), (Nat.le_of_ble_eq_true rfl)⟩ rfl (Nat.le_of_ble_eq_true rfl) (Nat.le_of_ble_eq_true rfl) (t_X7_of l2 (5 : Int32) I3) rfl (fun r4 I4 => ?_)
      refine Ey.icmp_ge (M := mX7_cross) (tgt := 81) (pc2 := 62) dX7_cross_59 rfl (fun _ => ?_) rfl (fun _ => ?_)
      · refine Ex.iconst (M := mX7_cross) (pc2 := 82) dX7_cross_81 ki_0 rfl ?_
        exact Ey.ireturn (M := mX7_cross) dX7_cross_82 rfl (by decide)
      · refine Ex.aload_n (M := mX7_cross) (pc2 := 63) dX7_cross_62 rfl rfl rfl ?_
        refine Ex.iload_n (M := mX7_cross) (pc2 := 64) dX7_cross_63 rfl rfl rfl ?_
        refine Ex.iconst (M := mX7_cross) (pc2 := 65) dX7_cross_64 ki_4 rfl ?_
        refine Ey.callVi (M := mX7_cross) (pc2 := 68) (as := [.inl l2, .inl (4 : Int32)]) (rest := []) rfl dX7_cross_65 isX7_of lcX7_68 sh_69 rfl rfl ⟨(Nat.le_of_ble_eq_true rfl), (Nat.le_of_ble_eq_true rfl)⟩ rfl (Nat.le_of_ble_eq_true rfl) (Nat.le_of_ble_eq_true rfl) (t_X7_of l2 (4 : Int32) I4) rfl (fun r5 I5 => ?_)
        refine Ex.aload_n (M := mX7_cross) (pc2 := 69) dX7_cross_68 rfl rfl rfl ?_
        refine Ex.iload_n (M := mX7_cross) (pc2 := 70) dX7_cross_69 rfl rfl rfl ?_
        refine Ex.iconst (M := mX7_cross) (pc2 := 71) dX7_cross_70 ki_5 rfl ?_
        refine Ey.callVi (M := mX7_cross) (pc2 := 74) (as := [.inl l1, .inl (5 : Int32)]) (rest := [.inl r5]) rfl dX7_cross_71 isX7_of lcX7_68 sh_69 rfl rfl ⟨(Nat.le_of_ble_eq_true rfl), (Nat.le_of_ble_eq_true rfl)⟩ rfl (Nat.le_of_ble_eq_true rfl) (Nat.le_of_ble_eq_true rfl) (t_X7_of l1 (5 : Int32) I5) rfl (fun r6 I6 => ?_)
        refine Ey.icmp_ge (M := mX7_cross) (tgt := 81) (pc2 := 77) dX7_cross_74 rfl (fun _ => ?_) rfl (fun _ => ?_)
        · refine Ex.iconst (M := mX7_cross) (pc2 := 82) dX7_cross_81 ki_0 rfl ?_
          exact Ey.ireturn (M := mX7_cross) dX7_cross_82 rfl (by decide)
        · refine Ex.iconst (M := mX7_cross) (pc2 := 78) dX7_cross_77 ki_1 rfl ?_
          refine Ex.goto (M := mX7_cross) (tgt := 82) dX7_cross_78 rfl ?_
          exact Ey.ireturn (M := mX7_cross) dX7_cross_82 rfl (by decide)
def f_X7_cross (l1 : Int32) (l2 : Int32) (I : xI) : Option (Int32 × xI) :=
  xb (f_X7_of l1 (6 : Int32) I) (fun r7 I7 => if r7 = (3 : Int32) then f_X7_cross_27 l1 l2 (1 : Int32) I7 else xb (f_X7_of l2 (6 : Int32) I7) (fun r8 I8 => if r8 ≠ (3 : Int32) then f_X7_cross_27 l1 l2 (0 : Int32) I8 else f_X7_cross_27 l1 l2 (1 : Int32) I8))
theorem t_X7_cross (l1 : Int32) (l2 : Int32) (I : xI) : Ey none mX7_cross 0 [some (.inr (some 69)), some (.inl l1), some (.inl l2), none] [] I (f_X7_cross l1 l2 I) := by
  unfold f_X7_cross
  refine Ex.aload_n (M := mX7_cross) (pc2 := 1) dX7_cross_0 rfl rfl rfl ?_
  refine Ex.iload_n (M := mX7_cross) (pc2 := 2) dX7_cross_1 rfl rfl rfl ?_
  refine Ex.bipush (M := mX7_cross) (pc2 := 4) dX7_cross_2 kb_6 rfl ?_
  refine Ey.callVi (M := mX7_cross) (pc2 := 7) (as := [.inl l1, .inl (6 : Int32)]) (rest := []) rfl dX7_cross_4 isX7_of lcX7_68 sh_69 rfl rfl ⟨(Nat.le_of_ble_eq_true rfl), (Nat.le_of_ble_eq_true rfl)⟩ rfl (Nat.le_of_ble_eq_true rfl) (Nat.le_of_ble_eq_true rfl) (t_X7_of l1 (6 : Int32) I) rfl (fun r7 I7 => ?_)
  refine Ex.iconst (M := mX7_cross) (pc2 := 8) dX7_cross_7 ki_3 rfl ?_
  refine Ey.icmp_eq (M := mX7_cross) (tgt := 22) (pc2 := 11) dX7_cross_8 rfl (fun _ => ?_) rfl (fun _ => ?_)
  · refine Ex.iconst (M := mX7_cross) (pc2 := 23) dX7_cross_22 ki_1 rfl ?_
    refine Ex.goto (M := mX7_cross) (tgt := 27) dX7_cross_23 rfl ?_
    exact t_X7_cross_27 _ _ _ _ _
  · refine Ex.aload_n (M := mX7_cross) (pc2 := 12) dX7_cross_11 rfl rfl rfl ?_
    refine Ex.iload_n (M := mX7_cross) (pc2 := 13) dX7_cross_12 rfl rfl rfl ?_
    refine Ex.bipush (M := mX7_cross) (pc2 := 15) dX7_cross_13 kb_6 rfl ?_
    refine Ey.callVi (M := mX7_cross) (pc2 := 18) (as := [.inl l2, .inl (6 : Int32)]) (rest := []) rfl dX7_cross_15 isX7_of lcX7_68 sh_69 rfl rfl ⟨(Nat.le_of_ble_eq_true rfl), (Nat.le_of_ble_eq_true rfl)⟩ rfl (Nat.le_of_ble_eq_true rfl) (Nat.le_of_ble_eq_true rfl) (t_X7_of l2 (6 : Int32) I7) rfl (fun r8 I8 => ?_)
    refine Ex.iconst (M := mX7_cross) (pc2 := 19) dX7_cross_18 ki_3 rfl ?_
    refine Ey.icmp_ne (M := mX7_cross) (tgt := 26) (pc2 := 22) dX7_cross_19 rfl (fun _ => ?_) rfl (fun _ => ?_)
    · refine Ex.iconst (M := mX7_cross) (pc2 := 27) dX7_cross_26 ki_0 rfl ?_
      exact t_X7_cross_27 _ _ _ _ _
    · refine Ex.iconst (M := mX7_cross) (pc2 := 23) dX7_cross_22 ki_1 rfl ?_
      refine Ex.goto (M := mX7_cross) (tgt := 27) dX7_cross_23 rfl ?_
      exact t_X7_cross_27 _ _ _ _ _
/-! FenceDuelModel.crossed(II)I -/
def f_X7_crossed (l1 : Int32) (l2 : Int32) (I : xI) : Option (Int32 × xI) :=
  xb (f_X7_isLetter l1 I) (fun r1 I1 => if r1 = 0 then some ((-1 : Int32), I1) else xb (f_X7_isLetter l2 I1) (fun r2 I2 => if r2 ≠ 0 then if l1 ≠ l2 then xb (f_X7_cross l1 l2 I2) (fun r3 I3 => if r3 = 0 then some ((0 : Int32), I3) else some ((1 : Int32), I3)) else some ((-2 : Int32), I2) else some ((-1 : Int32), I2)))
theorem t_X7_crossed (l1 : Int32) (l2 : Int32) (I : xI) : Ey none mX7_crossed 0 [some (.inr (some 69)), some (.inl l1), some (.inl l2)] [] I (f_X7_crossed l1 l2 I) := by
  unfold f_X7_crossed
  refine Ex.aload_n (M := mX7_crossed) (pc2 := 1) dX7_crossed_0 rfl rfl rfl ?_
  refine Ex.iload_n (M := mX7_crossed) (pc2 := 2) dX7_crossed_1 rfl rfl rfl ?_
  refine Ey.callVi (M := mX7_crossed) (pc2 := 5) (as := [.inl l1]) (rest := []) rfl dX7_crossed_2 isX7_isLetter lcX7_123 sh_69 rfl rfl ⟨(Nat.le_of_ble_eq_true rfl), (Nat.le_of_ble_eq_true rfl)⟩ rfl (Nat.le_of_ble_eq_true rfl) (Nat.le_of_ble_eq_true rfl) (t_X7_isLetter l1 I) rfl (fun r1 I1 => ?_)
  refine Ey.if_eq (M := mX7_crossed) (tgt := 16) (pc2 := 8) dX7_crossed_5 rfl (fun _ => ?_) rfl (fun _ => ?_)
  · refine Ex.iconst (M := mX7_crossed) (pc2 := 17) dX7_crossed_16 ki_m1 rfl ?_
    exact Ey.ireturn (M := mX7_crossed) dX7_crossed_17 rfl rfl
  · refine Ex.aload_n (M := mX7_crossed) (pc2 := 9) dX7_crossed_8 rfl rfl rfl ?_
    refine Ex.iload_n (M := mX7_crossed) (pc2 := 10) dX7_crossed_9 rfl rfl rfl ?_
    refine Ey.callVi (M := mX7_crossed) (pc2 := 13) (as := [.inl l2]) (rest := []) rfl dX7_crossed_10 isX7_isLetter lcX7_123 sh_69 rfl rfl ⟨(Nat.le_of_ble_eq_true rfl), (Nat.le_of_ble_eq_true rfl)⟩ rfl (Nat.le_of_ble_eq_true rfl) (Nat.le_of_ble_eq_true rfl) (t_X7_isLetter l2 I1) rfl (fun r2 I2 => ?_)
    refine Ey.if_ne (M := mX7_crossed) (tgt := 18) (pc2 := 16) dX7_crossed_13 rfl (fun _ => ?_) rfl (fun _ => ?_)
    · refine Ex.iload_n (M := mX7_crossed) (pc2 := 19) dX7_crossed_18 rfl rfl rfl ?_
      refine Ex.iload_n (M := mX7_crossed) (pc2 := 20) dX7_crossed_19 rfl rfl rfl ?_
      refine Ey.icmp_ne (M := mX7_crossed) (tgt := 28) (pc2 := 23) dX7_crossed_20 rfl (fun _ => ?_) rfl (fun _ => ?_)
      · refine Ex.aload_n (M := mX7_crossed) (pc2 := 29) dX7_crossed_28 rfl rfl rfl ?_
        refine Ex.iload_n (M := mX7_crossed) (pc2 := 30) dX7_crossed_29 rfl rfl rfl ?_
        refine Ex.iload_n (M := mX7_crossed) (pc2 := 31) dX7_crossed_30 rfl rfl rfl ?_
        refine Ey.callVi (M := mX7_crossed) (pc2 := 34) (as := [.inl l1, .inl l2]) (rest := []) rfl dX7_crossed_31 isX7_cross lcX7_188 sh_69 rfl rfl ⟨(Nat.le_of_ble_eq_true rfl), (Nat.le_of_ble_eq_true rfl)⟩ rfl (Nat.le_of_ble_eq_true rfl) (Nat.le_of_ble_eq_true rfl) (t_X7_cross l1 l2 I2) rfl (fun r3 I3 => ?_)
        refine Ey.if_eq (M := mX7_crossed) (tgt := 41) (pc2 := 37) dX7_crossed_34 rfl (fun _ => ?_) rfl (fun _ => ?_)
        · refine Ex.iconst (M := mX7_crossed) (pc2 := 42) dX7_crossed_41 ki_0 rfl ?_
          exact Ey.ireturn (M := mX7_crossed) dX7_crossed_42 rfl rfl
        · refine Ex.iconst (M := mX7_crossed) (pc2 := 38) dX7_crossed_37 ki_1 rfl ?_
          refine Ex.goto (M := mX7_crossed) (tgt := 42) dX7_crossed_38 rfl ?_
          exact Ey.ireturn (M := mX7_crossed) dX7_crossed_42 rfl rfl
      · refine Ex.bipush (M := mX7_crossed) (pc2 := 25) dX7_crossed_23 kb_m2 rfl ?_
        refine Ex.goto (M := mX7_crossed) (tgt := 42) dX7_crossed_25 rfl ?_
        exact Ey.ireturn (M := mX7_crossed) dX7_crossed_42 rfl rfl
    · refine Ex.iconst (M := mX7_crossed) (pc2 := 17) dX7_crossed_16 ki_m1 rfl ?_
      exact Ey.ireturn (M := mX7_crossed) dX7_crossed_17 rfl rfl
/-! FenceDuelModel.reasonEdge(ZII)I -/
def f_X7_reasonEdge (l1 : Int32) (l2 : Int32) (l3 : Int32) (I : xI) : Option (Int32 × xI) :=
  xb (f_X7_edgeAt l2 l3 I) (fun r1 I1 => if r1 ≠ (-5 : Int32) then xb (f_X7_whyEdge l1 r1 I1) (fun r2 I2 => some (r2, I2)) else some ((-1 : Int32), I1))
theorem t_X7_reasonEdge (l1 : Int32) (l2 : Int32) (l3 : Int32) (I : xI) : Ey none mX7_reasonEdge 0 [some (.inr (some 69)), some (.inl l1), some (.inl l2), some (.inl l3), none] [] I (f_X7_reasonEdge l1 l2 l3 I) := by
  unfold f_X7_reasonEdge
  refine Ex.iload_n (M := mX7_reasonEdge) (pc2 := 1) dX7_reasonEdge_0 rfl rfl rfl ?_
  refine Ex.iload_n (M := mX7_reasonEdge) (pc2 := 2) dX7_reasonEdge_1 rfl rfl rfl ?_
  refine Ey.callSi (M := mX7_reasonEdge) (pc2 := 5) (as := [.inl l2, .inl l3]) (rest := []) rfl dX7_reasonEdge_2 isX7_edgeAt lcX7_71  rfl ⟨(Nat.le_of_ble_eq_true rfl), (Nat.le_of_ble_eq_true rfl)⟩ rfl (Nat.le_of_ble_eq_true rfl) (Nat.le_of_ble_eq_true rfl) (t_X7_edgeAt l2 l3 I) rfl (fun r1 I1 => ?_)
  refine Ey.istore (M := mX7_reasonEdge) (pc2 := 7) dX7_reasonEdge_5 (Nat.le_of_ble_eq_true rfl) rfl rfl ?_
  refine Ex.iload (M := mX7_reasonEdge) (pc2 := 9) dX7_reasonEdge_7 rfl rfl ?_
  refine Ex.bipush (M := mX7_reasonEdge) (pc2 := 11) dX7_reasonEdge_9 kb_m5 rfl ?_
  refine Ey.icmp_ne (M := mX7_reasonEdge) (tgt := 18) (pc2 := 14) dX7_reasonEdge_11 rfl (fun _ => ?_) rfl (fun _ => ?_)
  · refine Ex.aload_n (M := mX7_reasonEdge) (pc2 := 19) dX7_reasonEdge_18 rfl rfl rfl ?_
    refine Ex.iload_n (M := mX7_reasonEdge) (pc2 := 20) dX7_reasonEdge_19 rfl rfl rfl ?_
    refine Ex.iload (M := mX7_reasonEdge) (pc2 := 22) dX7_reasonEdge_20 rfl rfl ?_
    refine Ey.callVi (M := mX7_reasonEdge) (pc2 := 25) (as := [.inl l1, .inl r1]) (rest := []) rfl dX7_reasonEdge_22 isX7_whyEdge lcX7_77 sh_69 rfl rfl ⟨(Nat.le_of_ble_eq_true rfl), (Nat.le_of_ble_eq_true rfl)⟩ rfl (Nat.le_of_ble_eq_true rfl) (Nat.le_of_ble_eq_true rfl) (t_X7_whyEdge l1 r1 I1) rfl (fun r2 I2 => ?_)
    exact Ey.ireturn (M := mX7_reasonEdge) dX7_reasonEdge_25 rfl rfl
  · refine Ex.iconst (M := mX7_reasonEdge) (pc2 := 15) dX7_reasonEdge_14 ki_m1 rfl ?_
    refine Ex.goto (M := mX7_reasonEdge) (tgt := 25) dX7_reasonEdge_15 rfl ?_
    exact Ey.ireturn (M := mX7_reasonEdge) dX7_reasonEdge_25 rfl rfl
/-! FenceDuelModel.reasonClaim(I)I -/
def f_X7_reasonClaim (l1 : Int32) (I : xI) : Option (Int32 × xI) :=
  xb (f_X7_isField l1 I) (fun r1 I1 => if r1 = 0 then some ((-1 : Int32), I1) else xb (f_X7_whyClaim l1 I1) (fun r2 I2 => some (r2, I2)))
theorem t_X7_reasonClaim (l1 : Int32) (I : xI) : Ey none mX7_reasonClaim 0 [some (.inr (some 69)), some (.inl l1)] [] I (f_X7_reasonClaim l1 I) := by
  unfold f_X7_reasonClaim
  refine Ex.iload_n (M := mX7_reasonClaim) (pc2 := 1) dX7_reasonClaim_0 rfl rfl rfl ?_
  refine Ey.callSi (M := mX7_reasonClaim) (pc2 := 4) (as := [.inl l1]) (rest := []) rfl dX7_reasonClaim_1 isX7_isField lcX7_50  rfl ⟨(Nat.le_of_ble_eq_true rfl), (Nat.le_of_ble_eq_true rfl)⟩ rfl (Nat.le_of_ble_eq_true rfl) (Nat.le_of_ble_eq_true rfl) (t_X7_isField l1 I) rfl (fun r1 I1 => ?_)
  refine Ey.if_eq (M := mX7_reasonClaim) (tgt := 15) (pc2 := 7) dX7_reasonClaim_4 rfl (fun _ => ?_) rfl (fun _ => ?_)
  · refine Ex.iconst (M := mX7_reasonClaim) (pc2 := 16) dX7_reasonClaim_15 ki_m1 rfl ?_
    exact Ey.ireturn (M := mX7_reasonClaim) dX7_reasonClaim_16 rfl rfl
  · refine Ex.aload_n (M := mX7_reasonClaim) (pc2 := 8) dX7_reasonClaim_7 rfl rfl rfl ?_
    refine Ex.iload_n (M := mX7_reasonClaim) (pc2 := 9) dX7_reasonClaim_8 rfl rfl rfl ?_
    refine Ey.callVi (M := mX7_reasonClaim) (pc2 := 12) (as := [.inl l1]) (rest := []) rfl dX7_reasonClaim_9 isX7_whyClaim lcX7_81 sh_69 rfl rfl ⟨(Nat.le_of_ble_eq_true rfl), (Nat.le_of_ble_eq_true rfl)⟩ rfl (Nat.le_of_ble_eq_true rfl) (Nat.le_of_ble_eq_true rfl) (t_X7_whyClaim l1 I1) rfl (fun r2 I2 => ?_)
    refine Ex.goto (M := mX7_reasonClaim) (tgt := 16) dX7_reasonClaim_12 rfl ?_
    exact Ey.ireturn (M := mX7_reasonClaim) dX7_reasonClaim_16 rfl rfl
/-! FenceDuelModel.nextLetter()I -/
def f_X7_nextLetter_12b (k12 : Int32 → Int32 → xI → Option (Int32 × xI)) (l1 : Int32) (l2 : Int32) (I : xI) : Option (Int32 × xI) :=
  if l2 < 0 then some (l1, I) else xb (f_X7_of l2 (6 : Int32) I) (fun r1 I1 => if r1 ≠ 0 then k12 l1 (l2 + (-1)) I1 else if l1 = (-5 : Int32) then k12 l2 (l2 + (-1)) I1 else xb (f_X7_of l2 (5 : Int32) I1) (fun r2 I2 => xb (f_X7_of l1 (5 : Int32) I2) (fun r3 I3 => if r2 > r3 then k12 l1 (l2 + (-1)) I3 else k12 l2 (l2 + (-1)) I3)))
theorem t_X7_nextLetter_12b (k12 : Int32 → Int32 → xI → Option (Int32 × xI)) (hk12 : ∀ (l1 : Int32) (l2 : Int32) (I : xI), Ey none mX7_nextLetter 12 [some (.inr (some 69)), some (.inl l1), some (.inl l2)] [] I (k12 l1 l2 I)) (l1 : Int32) (l2 : Int32) (I : xI) : Ey none mX7_nextLetter 12 [some (.inr (some 69)), some (.inl l1), some (.inl l2)] [] I (f_X7_nextLetter_12b k12 l1 l2 I) := by
  unfold f_X7_nextLetter_12b
  refine Ex.iload_n (M := mX7_nextLetter) (pc2 := 13) dX7_nextLetter_12 rfl rfl rfl ?_
  refine Ey.if_lt (M := mX7_nextLetter) (tgt := 59) (pc2 := 16) dX7_nextLetter_13 rfl (fun _ => ?_) rfl (fun _ => ?_)
  · refine Ex.iload_n (M := mX7_nextLetter) (pc2 := 60) dX7_nextLetter_59 rfl rfl rfl ?_
    exact Ey.ireturn (M := mX7_nextLetter) dX7_nextLetter_60 rfl rfl
  · refine Ex.aload_n (M := mX7_nextLetter) (pc2 := 17) dX7_nextLetter_16 rfl rfl rfl ?_
    refine Ex.iload_n (M := mX7_nextLetter) (pc2 := 18) dX7_nextLetter_17 rfl rfl rfl ?_
    refine Ex.bipush (M := mX7_nextLetter) (pc2 := 20) dX7_nextLetter_18 kb_6 rfl ?_
    refine Ey.callVi (M := mX7_nextLetter) (pc2 := 23) (as := [.inl l2, .inl (6 : Int32)]) (rest := []) rfl dX7_nextLetter_20 isX7_of lcX7_68 sh_69 rfl rfl ⟨(Nat.le_of_ble_eq_true rfl), (Nat.le_of_ble_eq_true rfl)⟩ rfl (Nat.le_of_ble_eq_true rfl) (Nat.le_of_ble_eq_true rfl) (t_X7_of l2 (6 : Int32) I) rfl (fun r1 I1 => ?_)
    refine Ey.if_ne (M := mX7_nextLetter) (tgt := 51) (pc2 := 26) dX7_nextLetter_23 rfl (fun _ => ?_) rfl (fun _ => ?_)
    · refine Ex.iload_n (M := mX7_nextLetter) (pc2 := 52) dX7_nextLetter_51 rfl rfl rfl ?_
      refine Ey.istore_n (M := mX7_nextLetter) (pc2 := 53) dX7_nextLetter_52 rfl (Nat.le_of_ble_eq_true rfl) rfl rfl ?_
      refine Ey.iinc (M := mX7_nextLetter) (pc2 := 56) dX7_nextLetter_53 rfl ki_m1 (Nat.le_of_ble_eq_true rfl) rfl rfl ?_
      refine Ex.goto (M := mX7_nextLetter) (tgt := 12) dX7_nextLetter_56 rfl ?_
      exact hk12 _ _ _
    · refine Ex.iload_n (M := mX7_nextLetter) (pc2 := 27) dX7_nextLetter_26 rfl rfl rfl ?_
      refine Ex.bipush (M := mX7_nextLetter) (pc2 := 29) dX7_nextLetter_27 kb_m5 rfl ?_
      refine Ey.icmp_eq (M := mX7_nextLetter) (tgt := 47) (pc2 := 32) dX7_nextLetter_29 rfl (fun _ => ?_) rfl (fun _ => ?_)
      · refine Ex.iload_n (M := mX7_nextLetter) (pc2 := 48) dX7_nextLetter_47 rfl rfl rfl ?_
        refine Ex.goto (M := mX7_nextLetter) (tgt := 52) dX7_nextLetter_48 rfl ?_
        refine Ey.istore_n (M := mX7_nextLetter) (pc2 := 53) dX7_nextLetter_52 rfl (Nat.le_of_ble_eq_true rfl) rfl rfl ?_
        refine Ey.iinc (M := mX7_nextLetter) (pc2 := 56) dX7_nextLetter_53 rfl ki_m1 (Nat.le_of_ble_eq_true rfl) rfl rfl ?_
        refine Ex.goto (M := mX7_nextLetter) (tgt := 12) dX7_nextLetter_56 rfl ?_
        exact hk12 _ _ _
      · refine Ex.aload_n (M := mX7_nextLetter) (pc2 := 33) dX7_nextLetter_32 rfl rfl rfl ?_
        refine Ex.iload_n (M := mX7_nextLetter) (pc2 := 34) dX7_nextLetter_33 rfl rfl rfl ?_
        refine Ex.iconst (M := mX7_nextLetter) (pc2 := 35) dX7_nextLetter_34 ki_5 rfl ?_
        refine Ey.callVi (M := mX7_nextLetter) (pc2 := 38) (as := [.inl l2, .inl (5 : Int32)]) (rest := []) rfl dX7_nextLetter_35 isX7_of lcX7_68 sh_69 rfl rfl ⟨(Nat.le_of_ble_eq_true rfl), (Nat.le_of_ble_eq_true rfl)⟩ rfl (Nat.le_of_ble_eq_true rfl) (Nat.le_of_ble_eq_true rfl) (t_X7_of l2 (5 : Int32) I1) rfl (fun r2 I2 => ?_)
        refine Ex.aload_n (M := mX7_nextLetter) (pc2 := 39) dX7_nextLetter_38 rfl rfl rfl ?_
        refine Ex.iload_n (M := mX7_nextLetter) (pc2 := 40) dX7_nextLetter_39 rfl rfl rfl ?_
        refine Ex.iconst (M := mX7_nextLetter) (pc2 := 41) dX7_nextLetter_40 ki_5 rfl ?_
        refine Ey.callVi (M := mX7_nextLetter) (pc2 := 44) (as := [.inl l1, .inl (5 : Int32)]) (rest := [.inl r2]) rfl dX7_nextLetter_41 isX7_of lcX7_68 sh_69 rfl rfl ⟨(Nat.le_of_ble_eq_true rfl), (Nat.le_of_ble_eq_true rfl)⟩ rfl (Nat.le_of_ble_eq_true rfl) (Nat.le_of_ble_eq_true rfl) (t_X7_of l1 (5 : Int32) I2) rfl (fun r3 I3 => ?_)
        refine Ey.icmp_gt (M := mX7_nextLetter) (tgt := 51) (pc2 := 47) dX7_nextLetter_44 rfl (fun _ => ?_) rfl (fun _ => ?_)
        · refine Ex.iload_n (M := mX7_nextLetter) (pc2 := 52) dX7_nextLetter_51 rfl rfl rfl ?_
          refine Ey.istore_n (M := mX7_nextLetter) (pc2 := 53) dX7_nextLetter_52 rfl (Nat.le_of_ble_eq_true rfl) rfl rfl ?_
          refine Ey.iinc (M := mX7_nextLetter) (pc2 := 56) dX7_nextLetter_53 rfl ki_m1 (Nat.le_of_ble_eq_true rfl) rfl rfl ?_
          refine Ex.goto (M := mX7_nextLetter) (tgt := 12) dX7_nextLetter_56 rfl ?_
          exact hk12 _ _ _
        · refine Ex.iload_n (M := mX7_nextLetter) (pc2 := 48) dX7_nextLetter_47 rfl rfl rfl ?_
          refine Ex.goto (M := mX7_nextLetter) (tgt := 52) dX7_nextLetter_48 rfl ?_
          refine Ey.istore_n (M := mX7_nextLetter) (pc2 := 53) dX7_nextLetter_52 rfl (Nat.le_of_ble_eq_true rfl) rfl rfl ?_
          refine Ey.iinc (M := mX7_nextLetter) (pc2 := 56) dX7_nextLetter_53 rfl ki_m1 (Nat.le_of_ble_eq_true rfl) rfl rfl ?_
          refine Ex.goto (M := mX7_nextLetter) (tgt := 12) dX7_nextLetter_56 rfl ?_
          exact hk12 _ _ _
def f_X7_nextLetter_12 : Nat → Int32 → Int32 → xI → Option (Int32 × xI)
  | 0, _, _, _ => none
  | n + 1, l1, l2, I => f_X7_nextLetter_12b (fun l1 l2 I => f_X7_nextLetter_12 n l1 l2 I) l1 l2 I
theorem t_X7_nextLetter_12 : ∀ (n : Nat) (l1 : Int32) (l2 : Int32) (I : xI), Ey none mX7_nextLetter 12 [some (.inr (some 69)), some (.inl l1), some (.inl l2)] [] I (f_X7_nextLetter_12 n l1 l2 I)
  | 0, l1, l2, I => Ey.nil
  | n + 1, l1, l2, I => t_X7_nextLetter_12b (fun l1 l2 I => f_X7_nextLetter_12 n l1 l2 I) (fun l1 l2 I => t_X7_nextLetter_12 n l1 l2 I) l1 l2 I
def f_X7_nextLetter (I : xI) : Option (Int32 × xI) :=
  f_X7_nextLetter_12 xZ (-5 : Int32) ((I 70 1) - (1 : Int32)) I
theorem t_X7_nextLetter (I : xI) : Ey none mX7_nextLetter 0 [some (.inr (some 69)), none, none] [] I (f_X7_nextLetter I) := by
  unfold f_X7_nextLetter
  refine Ex.bipush (M := mX7_nextLetter) (pc2 := 2) dX7_nextLetter_0 kb_m5 rfl ?_
  refine Ey.istore_n (M := mX7_nextLetter) (pc2 := 3) dX7_nextLetter_2 rfl (Nat.le_of_ble_eq_true rfl) rfl rfl ?_
  refine Ex.aload_n (M := mX7_nextLetter) (pc2 := 4) dX7_nextLetter_3 rfl rfl rfl ?_
  refine Ex.getR (M := mX7_nextLetter) (pc2 := 7) dX7_nextLetter_4 xck7 lfX7_7 (Nat.le_of_ble_eq_true rfl) sh_69 rfl ff_69_0 rfl ?_
  refine Ex.iconst (M := mX7_nextLetter) (pc2 := 8) dX7_nextLetter_7 ki_1 rfl ?_
  refine Ey.iaload (M := mX7_nextLetter) (pc2 := 9) dX7_nextLetter_8 sh_70 kn_1 (by decide) rfl ?_
  refine Ex.iconst (M := mX7_nextLetter) (pc2 := 10) dX7_nextLetter_9 ki_1 rfl ?_
  refine Ex.isub (M := mX7_nextLetter) (pc2 := 11) dX7_nextLetter_10 rfl ?_
  refine Ey.istore_n (M := mX7_nextLetter) (pc2 := 12) dX7_nextLetter_11 rfl (Nat.le_of_ble_eq_true rfl) rfl rfl ?_
  exact t_X7_nextLetter_12 xZ _ _ _
/-! FenceDuelModel.next(I)I -/
def f_X7_next (l1 : Int32) (I : xI) : Option (Int32 × xI) :=
  xb (f_X7_in l1 (0 : Int32) (1 : Int32) I) (fun r1 I1 => if r1 ≠ 0 then xb (f_X7_nextLetter I1) (fun r2 I2 => if r2 = (-5 : Int32) then some (r2, I2) else if l1 ≠ 0 then xb (f_X7_of r2 (5 : Int32) I2) (fun r3 I3 => some ((r3 - (I3 70 0)), I3)) else some (r2, I2)) else some ((-2 : Int32), I1))
theorem t_X7_next (l1 : Int32) (I : xI) : Ey none mX7_next 0 [some (.inr (some 69)), some (.inl l1), none] [] I (f_X7_next l1 I) := by
  unfold f_X7_next
  refine Ex.iload_n (M := mX7_next) (pc2 := 1) dX7_next_0 rfl rfl rfl ?_
  refine Ex.iconst (M := mX7_next) (pc2 := 2) dX7_next_1 ki_0 rfl ?_
  refine Ex.iconst (M := mX7_next) (pc2 := 3) dX7_next_2 ki_1 rfl ?_
  refine Ey.callSi (M := mX7_next) (pc2 := 6) (as := [.inl l1, .inl (0 : Int32), .inl (1 : Int32)]) (rest := []) rfl dX7_next_3 isX7_in lcX7_39  rfl ⟨(Nat.le_of_ble_eq_true rfl), (Nat.le_of_ble_eq_true rfl)⟩ rfl (Nat.le_of_ble_eq_true rfl) (Nat.le_of_ble_eq_true rfl) (t_X7_in l1 (0 : Int32) (1 : Int32) I) rfl (fun r1 I1 => ?_)
  refine Ey.if_ne (M := mX7_next) (tgt := 12) (pc2 := 9) dX7_next_6 rfl (fun _ => ?_) rfl (fun _ => ?_)
  · refine Ex.aload_n (M := mX7_next) (pc2 := 13) dX7_next_12 rfl rfl rfl ?_
    refine Ey.callVi (M := mX7_next) (pc2 := 16) (as := []) (rest := []) rfl dX7_next_13 isX7_nextLetter lcX7_191 sh_69 rfl rfl ⟨(Nat.le_of_ble_eq_true rfl), (Nat.le_of_ble_eq_true rfl)⟩ rfl (Nat.le_of_ble_eq_true rfl) (Nat.le_of_ble_eq_true rfl) (t_X7_nextLetter I1) rfl (fun r2 I2 => ?_)
    refine Ey.istore_n (M := mX7_next) (pc2 := 17) dX7_next_16 rfl (Nat.le_of_ble_eq_true rfl) rfl rfl ?_
    refine Ex.iload_n (M := mX7_next) (pc2 := 18) dX7_next_17 rfl rfl rfl ?_
    refine Ex.bipush (M := mX7_next) (pc2 := 20) dX7_next_18 kb_m5 rfl ?_
    refine Ey.icmp_eq (M := mX7_next) (tgt := 27) (pc2 := 23) dX7_next_20 rfl (fun _ => ?_) rfl (fun _ => ?_)
    · refine Ex.iload_n (M := mX7_next) (pc2 := 28) dX7_next_27 rfl rfl rfl ?_
      refine Ex.goto (M := mX7_next) (tgt := 44) dX7_next_28 rfl ?_
      exact Ey.ireturn (M := mX7_next) dX7_next_44 rfl rfl
    · refine Ex.iload_n (M := mX7_next) (pc2 := 24) dX7_next_23 rfl rfl rfl ?_
      refine Ey.if_ne (M := mX7_next) (tgt := 31) (pc2 := 27) dX7_next_24 rfl (fun _ => ?_) rfl (fun _ => ?_)
      · refine Ex.aload_n (M := mX7_next) (pc2 := 32) dX7_next_31 rfl rfl rfl ?_
        refine Ex.iload_n (M := mX7_next) (pc2 := 33) dX7_next_32 rfl rfl rfl ?_
        refine Ex.iconst (M := mX7_next) (pc2 := 34) dX7_next_33 ki_5 rfl ?_
        refine Ey.callVi (M := mX7_next) (pc2 := 37) (as := [.inl r2, .inl (5 : Int32)]) (rest := []) rfl dX7_next_34 isX7_of lcX7_68 sh_69 rfl rfl ⟨(Nat.le_of_ble_eq_true rfl), (Nat.le_of_ble_eq_true rfl)⟩ rfl (Nat.le_of_ble_eq_true rfl) (Nat.le_of_ble_eq_true rfl) (t_X7_of r2 (5 : Int32) I2) rfl (fun r3 I3 => ?_)
        refine Ex.aload_n (M := mX7_next) (pc2 := 38) dX7_next_37 rfl rfl rfl ?_
        refine Ex.getR (M := mX7_next) (pc2 := 41) dX7_next_38 xck7 lfX7_7 (Nat.le_of_ble_eq_true rfl) sh_69 rfl ff_69_0 rfl ?_
        refine Ex.iconst (M := mX7_next) (pc2 := 42) dX7_next_41 ki_0 rfl ?_
        refine Ey.iaload (M := mX7_next) (pc2 := 43) dX7_next_42 sh_70 kn_0 (by decide) rfl ?_
        refine Ex.isub (M := mX7_next) (pc2 := 44) dX7_next_43 rfl ?_
        exact Ey.ireturn (M := mX7_next) dX7_next_44 rfl rfl
      · refine Ex.iload_n (M := mX7_next) (pc2 := 28) dX7_next_27 rfl rfl rfl ?_
        refine Ex.goto (M := mX7_next) (tgt := 44) dX7_next_28 rfl ?_
        exact Ey.ireturn (M := mX7_next) dX7_next_44 rfl rfl
  · refine Ex.bipush (M := mX7_next) (pc2 := 11) dX7_next_9 kb_m2 rfl ?_
    exact Ey.ireturn (M := mX7_next) dX7_next_11 rfl rfl
/-! FenceDuelModel.lettersThat(I)I -/
def f_X7_lettersThat_4b (k4 : Int32 → Int32 → Int32 → xI → Option (Int32 × xI)) (l1 : Int32) (l2 : Int32) (l3 : Int32) (I : xI) : Option (Int32 × xI) :=
  if l3 ≥ (I 70 1) then some (l2, I) else xb (f_X7_of l3 (6 : Int32) I) (fun r1 I1 => if r1 ≠ l1 then k4 l1 (l2 + (0 : Int32)) (l3 + 1) I1 else k4 l1 (l2 + (1 : Int32)) (l3 + 1) I1)
theorem t_X7_lettersThat_4b (k4 : Int32 → Int32 → Int32 → xI → Option (Int32 × xI)) (hk4 : ∀ (l1 : Int32) (l2 : Int32) (l3 : Int32) (I : xI), Ey none mX7_lettersThat 4 [some (.inr (some 69)), some (.inl l1), some (.inl l2), some (.inl l3)] [] I (k4 l1 l2 l3 I)) (l1 : Int32) (l2 : Int32) (l3 : Int32) (I : xI) : Ey none mX7_lettersThat 4 [some (.inr (some 69)), some (.inl l1), some (.inl l2), some (.inl l3)] [] I (f_X7_lettersThat_4b k4 l1 l2 l3 I) := by
  unfold f_X7_lettersThat_4b
  refine Ex.iload_n (M := mX7_lettersThat) (pc2 := 5) dX7_lettersThat_4 rfl rfl rfl ?_
  refine Ex.aload_n (M := mX7_lettersThat) (pc2 := 6) dX7_lettersThat_5 rfl rfl rfl ?_
  refine Ex.getR (M := mX7_lettersThat) (pc2 := 9) dX7_lettersThat_6 xck7 lfX7_7 (Nat.le_of_ble_eq_true rfl) sh_69 rfl ff_69_0 rfl ?_
  refine Ex.iconst (M := mX7_lettersThat) (pc2 := 10) dX7_lettersThat_9 ki_1 rfl ?_
  refine Ey.iaload (M := mX7_lettersThat) (pc2 := 11) dX7_lettersThat_10 sh_70 kn_1 (by decide) rfl ?_
  refine Ey.icmp_ge (M := mX7_lettersThat) (tgt := 39) (pc2 := 14) dX7_lettersThat_11 rfl (fun _ => ?_) rfl (fun _ => ?_)
  · refine Ex.iload_n (M := mX7_lettersThat) (pc2 := 40) dX7_lettersThat_39 rfl rfl rfl ?_
    exact Ey.ireturn (M := mX7_lettersThat) dX7_lettersThat_40 rfl rfl
  · refine Ex.iload_n (M := mX7_lettersThat) (pc2 := 15) dX7_lettersThat_14 rfl rfl rfl ?_
    refine Ex.aload_n (M := mX7_lettersThat) (pc2 := 16) dX7_lettersThat_15 rfl rfl rfl ?_
    refine Ex.iload_n (M := mX7_lettersThat) (pc2 := 17) dX7_lettersThat_16 rfl rfl rfl ?_
    refine Ex.bipush (M := mX7_lettersThat) (pc2 := 19) dX7_lettersThat_17 kb_6 rfl ?_
    refine Ey.callVi (M := mX7_lettersThat) (pc2 := 22) (as := [.inl l3, .inl (6 : Int32)]) (rest := [.inl l2]) rfl dX7_lettersThat_19 isX7_of lcX7_68 sh_69 rfl rfl ⟨(Nat.le_of_ble_eq_true rfl), (Nat.le_of_ble_eq_true rfl)⟩ rfl (Nat.le_of_ble_eq_true rfl) (Nat.le_of_ble_eq_true rfl) (t_X7_of l3 (6 : Int32) I) rfl (fun r1 I1 => ?_)
    refine Ex.iload_n (M := mX7_lettersThat) (pc2 := 23) dX7_lettersThat_22 rfl rfl rfl ?_
    refine Ey.icmp_ne (M := mX7_lettersThat) (tgt := 30) (pc2 := 26) dX7_lettersThat_23 rfl (fun _ => ?_) rfl (fun _ => ?_)
    · refine Ex.iconst (M := mX7_lettersThat) (pc2 := 31) dX7_lettersThat_30 ki_0 rfl ?_
      refine Ex.iadd (M := mX7_lettersThat) (pc2 := 32) dX7_lettersThat_31 rfl ?_
      refine Ey.istore_n (M := mX7_lettersThat) (pc2 := 33) dX7_lettersThat_32 rfl (Nat.le_of_ble_eq_true rfl) rfl rfl ?_
      refine Ey.iinc (M := mX7_lettersThat) (pc2 := 36) dX7_lettersThat_33 rfl ki_1 (Nat.le_of_ble_eq_true rfl) rfl rfl ?_
      refine Ex.goto (M := mX7_lettersThat) (tgt := 4) dX7_lettersThat_36 rfl ?_
      exact hk4 _ _ _ _
    · refine Ex.iconst (M := mX7_lettersThat) (pc2 := 27) dX7_lettersThat_26 ki_1 rfl ?_
      refine Ex.goto (M := mX7_lettersThat) (tgt := 31) dX7_lettersThat_27 rfl ?_
      refine Ex.iadd (M := mX7_lettersThat) (pc2 := 32) dX7_lettersThat_31 rfl ?_
      refine Ey.istore_n (M := mX7_lettersThat) (pc2 := 33) dX7_lettersThat_32 rfl (Nat.le_of_ble_eq_true rfl) rfl rfl ?_
      refine Ey.iinc (M := mX7_lettersThat) (pc2 := 36) dX7_lettersThat_33 rfl ki_1 (Nat.le_of_ble_eq_true rfl) rfl rfl ?_
      refine Ex.goto (M := mX7_lettersThat) (tgt := 4) dX7_lettersThat_36 rfl ?_
      exact hk4 _ _ _ _
def f_X7_lettersThat_4 : Nat → Int32 → Int32 → Int32 → xI → Option (Int32 × xI)
  | 0, _, _, _, _ => none
  | n + 1, l1, l2, l3, I => f_X7_lettersThat_4b (fun l1 l2 l3 I => f_X7_lettersThat_4 n l1 l2 l3 I) l1 l2 l3 I
theorem t_X7_lettersThat_4 : ∀ (n : Nat) (l1 : Int32) (l2 : Int32) (l3 : Int32) (I : xI), Ey none mX7_lettersThat 4 [some (.inr (some 69)), some (.inl l1), some (.inl l2), some (.inl l3)] [] I (f_X7_lettersThat_4 n l1 l2 l3 I)
  | 0, l1, l2, l3, I => Ey.nil
  | n + 1, l1, l2, l3, I => t_X7_lettersThat_4b (fun l1 l2 l3 I => f_X7_lettersThat_4 n l1 l2 l3 I) (fun l1 l2 l3 I => t_X7_lettersThat_4 n l1 l2 l3 I) l1 l2 l3 I
def f_X7_lettersThat (l1 : Int32) (I : xI) : Option (Int32 × xI) :=
  f_X7_lettersThat_4 xZ l1 (0 : Int32) (0 : Int32) I
theorem t_X7_lettersThat (l1 : Int32) (I : xI) : Ey none mX7_lettersThat 0 [some (.inr (some 69)), some (.inl l1), none, none] [] I (f_X7_lettersThat l1 I) := by
  unfold f_X7_lettersThat
  refine Ex.iconst (M := mX7_lettersThat) (pc2 := 1) dX7_lettersThat_0 ki_0 rfl ?_
  refine Ey.istore_n (M := mX7_lettersThat) (pc2 := 2) dX7_lettersThat_1 rfl (Nat.le_of_ble_eq_true rfl) rfl rfl ?_
  refine Ex.iconst (M := mX7_lettersThat) (pc2 := 3) dX7_lettersThat_2 ki_0 rfl ?_
  refine Ey.istore_n (M := mX7_lettersThat) (pc2 := 4) dX7_lettersThat_3 rfl (Nat.le_of_ble_eq_true rfl) rfl rfl ?_
  exact t_X7_lettersThat_4 xZ _ _ _ _
/-! FenceDuelModel.edgesThat(I)I -/
def f_X7_edgesThat_4b (k4 : Int32 → Int32 → Int32 → xI → Option (Int32 × xI)) (l1 : Int32) (l2 : Int32) (l3 : Int32) (I : xI) : Option (Int32 × xI) :=
  if l3 ≥ (82 : Int32) then some (l2, I) else if xin ((12 : Int32) + l3) 742 then if (I 70 (((12 : Int32) + l3).toNatClampNeg)) ≠ l1 then k4 l1 (l2 + (0 : Int32)) (l3 + 1) I else k4 l1 (l2 + (1 : Int32)) (l3 + 1) I else none
theorem t_X7_edgesThat_4b (k4 : Int32 → Int32 → Int32 → xI → Option (Int32 × xI)) (hk4 : ∀ (l1 : Int32) (l2 : Int32) (l3 : Int32) (I : xI), Ey none mX7_edgesThat 4 [some (.inr (some 69)), some (.inl l1), some (.inl l2), some (.inl l3)] [] I (k4 l1 l2 l3 I)) (l1 : Int32) (l2 : Int32) (l3 : Int32) (I : xI) : Ey none mX7_edgesThat 4 [some (.inr (some 69)), some (.inl l1), some (.inl l2), some (.inl l3)] [] I (f_X7_edgesThat_4b k4 l1 l2 l3 I) := by
  unfold f_X7_edgesThat_4b
  refine Ex.iload_n (M := mX7_edgesThat) (pc2 := 5) dX7_edgesThat_4 rfl rfl rfl ?_
  refine Ex.bipush (M := mX7_edgesThat) (pc2 := 7) dX7_edgesThat_5 kb_82 rfl ?_
  refine Ey.icmp_ge (M := mX7_edgesThat) (tgt := 37) (pc2 := 10) dX7_edgesThat_7 rfl (fun _ => ?_) rfl (fun _ => ?_)
  · refine Ex.iload_n (M := mX7_edgesThat) (pc2 := 38) dX7_edgesThat_37 rfl rfl rfl ?_
    exact Ey.ireturn (M := mX7_edgesThat) dX7_edgesThat_38 rfl rfl
  · refine Ex.iload_n (M := mX7_edgesThat) (pc2 := 11) dX7_edgesThat_10 rfl rfl rfl ?_
    refine Ex.aload_n (M := mX7_edgesThat) (pc2 := 12) dX7_edgesThat_11 rfl rfl rfl ?_
    refine Ex.getR (M := mX7_edgesThat) (pc2 := 15) dX7_edgesThat_12 xck7 lfX7_7 (Nat.le_of_ble_eq_true rfl) sh_69 rfl ff_69_0 rfl ?_
    refine Ex.bipush (M := mX7_edgesThat) (pc2 := 17) dX7_edgesThat_15 kb_12 rfl ?_
    refine Ex.iload_n (M := mX7_edgesThat) (pc2 := 18) dX7_edgesThat_17 rfl rfl rfl ?_
    refine Ex.iadd (M := mX7_edgesThat) (pc2 := 19) dX7_edgesThat_18 rfl ?_
    refine Ey.guard (fun hz1 => ?_)
    refine Ey.iaload (M := mX7_edgesThat) (pc2 := 20) dX7_edgesThat_19 sh_70 rfl hz1 rfl ?_
    refine Ex.iload_n (M := mX7_edgesThat) (pc2 := 21) dX7_edgesThat_20 rfl rfl rfl ?_
    refine Ey.icmp_ne (M := mX7_edgesThat) (tgt := 28) (pc2 := 24) dX7_edgesThat_21 rfl (fun _ => ?_) rfl (fun _ => ?_)
    · refine Ex.iconst (M := mX7_edgesThat) (pc2 := 29) dX7_edgesThat_28 ki_0 rfl ?_
      refine Ex.iadd (M := mX7_edgesThat) (pc2 := 30) dX7_edgesThat_29 rfl ?_
      refine Ey.istore_n (M := mX7_edgesThat) (pc2 := 31) dX7_edgesThat_30 rfl (Nat.le_of_ble_eq_true rfl) rfl rfl ?_
      refine Ey.iinc (M := mX7_edgesThat) (pc2 := 34) dX7_edgesThat_31 rfl ki_1 (Nat.le_of_ble_eq_true rfl) rfl rfl ?_
      refine Ex.goto (M := mX7_edgesThat) (tgt := 4) dX7_edgesThat_34 rfl ?_
      exact hk4 _ _ _ _
    · refine Ex.iconst (M := mX7_edgesThat) (pc2 := 25) dX7_edgesThat_24 ki_1 rfl ?_
      refine Ex.goto (M := mX7_edgesThat) (tgt := 29) dX7_edgesThat_25 rfl ?_
      refine Ex.iadd (M := mX7_edgesThat) (pc2 := 30) dX7_edgesThat_29 rfl ?_
      refine Ey.istore_n (M := mX7_edgesThat) (pc2 := 31) dX7_edgesThat_30 rfl (Nat.le_of_ble_eq_true rfl) rfl rfl ?_
      refine Ey.iinc (M := mX7_edgesThat) (pc2 := 34) dX7_edgesThat_31 rfl ki_1 (Nat.le_of_ble_eq_true rfl) rfl rfl ?_
      refine Ex.goto (M := mX7_edgesThat) (tgt := 4) dX7_edgesThat_34 rfl ?_
      exact hk4 _ _ _ _
def f_X7_edgesThat_4 : Nat → Int32 → Int32 → Int32 → xI → Option (Int32 × xI)
  | 0, _, _, _, _ => none
  | n + 1, l1, l2, l3, I => f_X7_edgesThat_4b (fun l1 l2 l3 I => f_X7_edgesThat_4 n l1 l2 l3 I) l1 l2 l3 I
theorem t_X7_edgesThat_4 : ∀ (n : Nat) (l1 : Int32) (l2 : Int32) (l3 : Int32) (I : xI), Ey none mX7_edgesThat 4 [some (.inr (some 69)), some (.inl l1), some (.inl l2), some (.inl l3)] [] I (f_X7_edgesThat_4 n l1 l2 l3 I)
  | 0, l1, l2, l3, I => Ey.nil
  | n + 1, l1, l2, l3, I => t_X7_edgesThat_4b (fun l1 l2 l3 I => f_X7_edgesThat_4 n l1 l2 l3 I) (fun l1 l2 l3 I => t_X7_edgesThat_4 n l1 l2 l3 I) l1 l2 l3 I
def f_X7_edgesThat (l1 : Int32) (I : xI) : Option (Int32 × xI) :=
  f_X7_edgesThat_4 xZ l1 (0 : Int32) (0 : Int32) I
theorem t_X7_edgesThat (l1 : Int32) (I : xI) : Ey none mX7_edgesThat 0 [some (.inr (some 69)), some (.inl l1), none, none] [] I (f_X7_edgesThat l1 I) := by
  unfold f_X7_edgesThat
  refine Ex.iconst (M := mX7_edgesThat) (pc2 := 1) dX7_edgesThat_0 ki_0 rfl ?_
  refine Ey.istore_n (M := mX7_edgesThat) (pc2 := 2) dX7_edgesThat_1 rfl (Nat.le_of_ble_eq_true rfl) rfl rfl ?_
  refine Ex.iconst (M := mX7_edgesThat) (pc2 := 3) dX7_edgesThat_2 ki_0 rfl ?_
  refine Ey.istore_n (M := mX7_edgesThat) (pc2 := 4) dX7_edgesThat_3 rfl (Nat.le_of_ble_eq_true rfl) rfl rfl ?_
  exact t_X7_edgesThat_4 xZ _ _ _ _
/-! FenceDuelModel.fieldsOf(I)I -/
def f_X7_fieldsOf_4b (k4 : Int32 → Int32 → Int32 → xI → Option (Int32 × xI)) (l1 : Int32) (l2 : Int32) (l3 : Int32) (I : xI) : Option (Int32 × xI) :=
  if l3 ≥ (48 : Int32) then some (l2, I) else if xin ((94 : Int32) + l3) 742 then if (I 70 (((94 : Int32) + l3).toNatClampNeg)) ≠ l1 then k4 l1 (l2 + (0 : Int32)) (l3 + 1) I else k4 l1 (l2 + (1 : Int32)) (l3 + 1) I else none
theorem t_X7_fieldsOf_4b (k4 : Int32 → Int32 → Int32 → xI → Option (Int32 × xI)) (hk4 : ∀ (l1 : Int32) (l2 : Int32) (l3 : Int32) (I : xI), Ey none mX7_fieldsOf 4 [some (.inr (some 69)), some (.inl l1), some (.inl l2), some (.inl l3)] [] I (k4 l1 l2 l3 I)) (l1 : Int32) (l2 : Int32) (l3 : Int32) (I : xI) : Ey none mX7_fieldsOf 4 [some (.inr (some 69)), some (.inl l1), some (.inl l2), some (.inl l3)] [] I (f_X7_fieldsOf_4b k4 l1 l2 l3 I) := by
  unfold f_X7_fieldsOf_4b
  refine Ex.iload_n (M := mX7_fieldsOf) (pc2 := 5) dX7_fieldsOf_4 rfl rfl rfl ?_
  refine Ex.bipush (M := mX7_fieldsOf) (pc2 := 7) dX7_fieldsOf_5 kb_48 rfl ?_
  refine Ey.icmp_ge (M := mX7_fieldsOf) (tgt := 37) (pc2 := 10) dX7_fieldsOf_7 rfl (fun _ => ?_) rfl (fun _ => ?_)
  · refine Ex.iload_n (M := mX7_fieldsOf) (pc2 := 38) dX7_fieldsOf_37 rfl rfl rfl ?_
    exact Ey.ireturn (M := mX7_fieldsOf) dX7_fieldsOf_38 rfl rfl
  · refine Ex.iload_n (M := mX7_fieldsOf) (pc2 := 11) dX7_fieldsOf_10 rfl rfl rfl ?_
    refine Ex.aload_n (M := mX7_fieldsOf) (pc2 := 12) dX7_fieldsOf_11 rfl rfl rfl ?_
    refine Ex.getR (M := mX7_fieldsOf) (pc2 := 15) dX7_fieldsOf_12 xck7 lfX7_7 (Nat.le_of_ble_eq_true rfl) sh_69 rfl ff_69_0 rfl ?_
    refine Ex.bipush (M := mX7_fieldsOf) (pc2 := 17) dX7_fieldsOf_15 kb_94 rfl ?_
    refine Ex.iload_n (M := mX7_fieldsOf) (pc2 := 18) dX7_fieldsOf_17 rfl rfl rfl ?_
    refine Ex.iadd (M := mX7_fieldsOf) (pc2 := 19) dX7_fieldsOf_18 rfl ?_
    refine Ey.guard (fun hz1 => ?_)
    refine Ey.iaload (M := mX7_fieldsOf) (pc2 := 20) dX7_fieldsOf_19 sh_70 rfl hz1 rfl ?_
    refine Ex.iload_n (M := mX7_fieldsOf) (pc2 := 21) dX7_fieldsOf_20 rfl rfl rfl ?_
    refine Ey.icmp_ne (M := mX7_fieldsOf) (tgt := 28) (pc2 := 24) dX7_fieldsOf_21 rfl (fun _ => ?_) rfl (fun _ => ?_)
    · refine Ex.iconst (M := mX7_fieldsOf) (pc2 := 29) dX7_fieldsOf_28 ki_0 rfl ?_
      refine Ex.iadd (M := mX7_fieldsOf) (pc2 := 30) dX7_fieldsOf_29 rfl ?_
      refine Ey.istore_n (M := mX7_fieldsOf) (pc2 := 31) dX7_fieldsOf_30 rfl (Nat.le_of_ble_eq_true rfl) rfl rfl ?_
      refine Ey.iinc (M := mX7_fieldsOf) (pc2 := 34) dX7_fieldsOf_31 rfl ki_1 (Nat.le_of_ble_eq_true rfl) rfl rfl ?_
      refine Ex.goto (M := mX7_fieldsOf) (tgt := 4) dX7_fieldsOf_34 rfl ?_
      exact hk4 _ _ _ _
    · refine Ex.iconst (M := mX7_fieldsOf) (pc2 := 25) dX7_fieldsOf_24 ki_1 rfl ?_
      refine Ex.goto (M := mX7_fieldsOf) (tgt := 29) dX7_fieldsOf_25 rfl ?_
      refine Ex.iadd (M := mX7_fieldsOf) (pc2 := 30) dX7_fieldsOf_29 rfl ?_
      refine Ey.istore_n (M := mX7_fieldsOf) (pc2 := 31) dX7_fieldsOf_30 rfl (Nat.le_of_ble_eq_true rfl) rfl rfl ?_
      refine Ey.iinc (M := mX7_fieldsOf) (pc2 := 34) dX7_fieldsOf_31 rfl ki_1 (Nat.le_of_ble_eq_true rfl) rfl rfl ?_
      refine Ex.goto (M := mX7_fieldsOf) (tgt := 4) dX7_fieldsOf_34 rfl ?_
      exact hk4 _ _ _ _
def f_X7_fieldsOf_4 : Nat → Int32 → Int32 → Int32 → xI → Option (Int32 × xI)
  | 0, _, _, _, _ => none
  | n + 1, l1, l2, l3, I => f_X7_fieldsOf_4b (fun l1 l2 l3 I => f_X7_fieldsOf_4 n l1 l2 l3 I) l1 l2 l3 I
theorem t_X7_fieldsOf_4 : ∀ (n : Nat) (l1 : Int32) (l2 : Int32) (l3 : Int32) (I : xI), Ey none mX7_fieldsOf 4 [some (.inr (some 69)), some (.inl l1), some (.inl l2), some (.inl l3)] [] I (f_X7_fieldsOf_4 n l1 l2 l3 I)
  | 0, l1, l2, l3, I => Ey.nil
  | n + 1, l1, l2, l3, I => t_X7_fieldsOf_4b (fun l1 l2 l3 I => f_X7_fieldsOf_4 n l1 l2 l3 I) (fun l1 l2 l3 I => t_X7_fieldsOf_4 n l1 l2 l3 I) l1 l2 l3 I
def f_X7_fieldsOf (l1 : Int32) (I : xI) : Option (Int32 × xI) :=
  f_X7_fieldsOf_4 xZ l1 (0 : Int32) (0 : Int32) I
theorem t_X7_fieldsOf (l1 : Int32) (I : xI) : Ey none mX7_fieldsOf 0 [some (.inr (some 69)), some (.inl l1), none, none] [] I (f_X7_fieldsOf l1 I) := by
  unfold f_X7_fieldsOf
  refine Ex.iconst (M := mX7_fieldsOf) (pc2 := 1) dX7_fieldsOf_0 ki_0 rfl ?_
  refine Ey.istore_n (M := mX7_fieldsOf) (pc2 := 2) dX7_fieldsOf_1 rfl (Nat.le_of_ble_eq_true rfl) rfl rfl ?_
  refine Ex.iconst (M := mX7_fieldsOf) (pc2 := 3) dX7_fieldsOf_2 ki_0 rfl ?_
  refine Ey.istore_n (M := mX7_fieldsOf) (pc2 := 4) dX7_fieldsOf_3 rfl (Nat.le_of_ble_eq_true rfl) rfl rfl ?_
  exact t_X7_fieldsOf_4 xZ _ _ _ _
/-! FenceDuelModel.ifAllCome(I)I -/
def f_X7_ifAllCome_16b (k16 : Int32 → xI → Option (Int32 × xI)) (l1 : Int32) (I : xI) : Option (Int32 × xI) :=
  xb (f_X7_nextLetter I) (fun r1 I1 => if r1 = (-5 : Int32) then if l1 ≥ (2 : Int32) then if l1 ≠ (2 : Int32) then xb (f_X7_lettersThat (2 : Int32) I1) (fun r2 I2 => xb (f_X7_putBack I2) (fun _ I3 => some (r2, I3))) else xb (f_X7_edgesThat (3 : Int32) I1) (fun r4 I4 => xb (f_X7_putBack I4) (fun _ I5 => some (r4, I5))) else xb (f_X7_fieldsOf l1 I1) (fun r6 I6 => xb (f_X7_putBack I6) (fun _ I7 => some (r6, I7))) else xb (f_X7_day I1) (fun r8 I8 => k16 l1 I8))
theorem t_X7_ifAllCome_16b (k16 : Int32 → xI → Option (Int32 × xI)) (hk16 : ∀ (l1 : Int32) (d2 : Option xV) (I : xI), Ey none mX7_ifAllCome 16 [some (.inr (some 69)), some (.inl l1), d2] [] I (k16 l1 I)) (l1 : Int32) (d2 : Option xV) (I : xI) : Ey none mX7_ifAllCome 16 [some (.inr (some 69)), some (.inl l1), d2] [] I (f_X7_ifAllCome_16b k16 l1 I) := by
  unfold f_X7_ifAllCome_16b
  refine Ex.aload_n (M := mX7_ifAllCome) (pc2 := 17) dX7_ifAllCome_16 rfl rfl rfl ?_
  refine Ey.callVi (M := mX7_ifAllCome) (pc2 := 20) (as := []) (rest := []) rfl dX7_ifAllCome_17 isX7_nextLetter lcX7_191 sh_69 rfl rfl ⟨(Nat.le_of_ble_eq_true rfl), (Nat.le_of_ble_eq_true rfl)⟩ rfl (Nat.le_of_ble_eq_true rfl) (Nat.le_of_ble_eq_true rfl) (t_X7_nextLetter I) rfl (fun r1 I1 => ?_)
  refine Ex.bipush (M := mX7_ifAllCome) (pc2 := 22) dX7_ifAllCome_20 kb_m5 rfl ?_
  refine Ey.icmp_eq (M := mX7_ifAllCome) (tgt := 33) (pc2 := 25) dX7_ifAllCome_22 rfl (fun _ => ?_) rfl (fun _ => ?_)
  · refine Ex.iload_n (M := mX7_ifAllCome) (pc2 := 34) dX7_ifAllCome_33 rfl rfl rfl ?_
    refine Ex.iconst (M := mX7_ifAllCome) (pc2 := 35) dX7_ifAllCome_34 ki_2 rfl ?_
    refine Ey.icmp_ge (M := mX7_ifAllCome) (tgt := 46) (pc2 := 38) dX7_ifAllCome_35 rfl (fun _ => ?_) rfl (fun _ => ?_)
    · refine Ex.iload_n (M := mX7_ifAllCome) (pc2 := 47) dX7_ifAllCome_46 rfl rfl rfl ?_
      refine Ex.iconst (M := mX7_ifAllCome) (pc2 := 48) dX7_ifAllCome_47 ki_2 rfl ?_
      refine Ey.icmp_ne (M := mX7_ifAllCome) (tgt := 59) (pc2 := 51) dX7_ifAllCome_48 rfl (fun _ => ?_) rfl (fun _ => ?_)
      · refine Ex.aload_n (M := mX7_ifAllCome) (pc2 := 60) dX7_ifAllCome_59 rfl rfl rfl ?_
        refine Ex.iconst (M := mX7_ifAllCome) (pc2 := 61) dX7_ifAllCome_60 ki_2 rfl ?_
        refine Ey.callVi (M := mX7_ifAllCome) (pc2 := 64) (as := [.inl (2 : Int32)]) (rest := []) rfl dX7_ifAllCome_61 isX7_lettersThat lcX7_203 sh_69 rfl rfl ⟨(Nat.le_of_ble_eq_true rfl), (Nat.le_of_ble_eq_true rfl)⟩ rfl (Nat.le_of_ble_eq_true rfl) (Nat.le_of_ble_eq_true rfl) (t_X7_lettersThat (2 : Int32) I1) rfl (fun r2 I2 => ?_)
        refine Ey.istore_n (M := mX7_ifAllCome) (pc2 := 65) dX7_ifAllCome_64 rfl (Nat.le_of_ble_eq_true rfl) rfl rfl ?_
        refine Ex.aload_n (M := mX7_ifAllCome) (pc2 := 66) dX7_ifAllCome_65 rfl rfl rfl ?_
        refine Ey.callVv (M := mX7_ifAllCome) (pc2 := 69) (as := []) (rest := []) rfl dX7_ifAllCome_66 isX7_putBack lcX7_206 sh_69 rfl rfl ⟨(Nat.le_of_ble_eq_true rfl), (Nat.le_of_ble_eq_true rfl)⟩ rfl (Nat.le_of_ble_eq_true rfl) (Nat.le_of_ble_eq_true rfl) (t_X7_putBack I2) rfl (fun I3 => ?_)
        refine Ex.iload_n (M := mX7_ifAllCome) (pc2 := 70) dX7_ifAllCome_69 rfl rfl rfl ?_
        exact Ey.ireturn (M := mX7_ifAllCome) dX7_ifAllCome_70 rfl rfl
      · refine Ex.aload_n (M := mX7_ifAllCome) (pc2 := 52) dX7_ifAllCome_51 rfl rfl rfl ?_
        refine Ex.iconst (M := mX7_ifAllCome) (pc2 := 53) dX7_ifAllCome_52 ki_3 rfl ?_
        refine Ey.callVi (M := mX7_ifAllCome) (pc2 := 56) (as := [.inl (3 : Int32)]) (rest := []) rfl dX7_ifAllCome_53 isX7_edgesThat lcX7_200 sh_69 rfl rfl ⟨(Nat.le_of_ble_eq_true rfl), (Nat.le_of_ble_eq_true rfl)⟩ rfl (Nat.le_of_ble_eq_true rfl) (Nat.le_of_ble_eq_true rfl) (t_X7_edgesThat (3 : Int32) I1) rfl (fun r4 I4 => ?_)
        refine Ex.goto (M := mX7_ifAllCome) (tgt := 64) dX7_ifAllCome_56 rfl ?_
        refine Ey.istore_n (M := mX7_ifAllCome) (pc2 := 65) dX7_ifAllCome_64 rfl (Nat.le_of_ble_eq_true rfl) rfl rfl ?_
        refine Ex.aload_n (M := mX7_ifAllCome) (pc2 := 66) dX7_ifAllCome_65 rfl rfl rfl ?_
        refine Ey.callVv (M := mX7_ifAllCome) (pc2 := 69) (as := []) (rest := []) rfl dX7_ifAllCome_66 isX7_putBack lcX7_206 sh_69 rfl rfl ⟨(Nat.le_of_ble_eq_true rfl), (Nat.le_of_ble_eq_true rfl)⟩ rfl (Nat.le_of_ble_eq_true rfl) (Nat.le_of_ble_eq_true rfl) (t_X7_putBack I4) rfl (fun I5 => ?_)
        refine Ex.iload_n (M := mX7_ifAllCome) (pc2 := 70) dX7_ifAllCome_69 rfl rfl rfl ?_
        exact Ey.ireturn (M := mX7_ifAllCome) dX7_ifAllCome_70 rfl rfl
    · refine Ex.aload_n (M := mX7_ifAllCome) (pc2 := 39) dX7_ifAllCome_38 rfl rfl rfl ?_
      refine Ex.iload_n (M := mX7_ifAllCome) (pc2 := 40) dX7_ifAllCome_39 rfl rfl rfl ?_
      refine Ey.callVi (M := mX7_ifAllCome) (pc2 := 43) (as := [.inl l1]) (rest := []) rfl dX7_ifAllCome_40 isX7_fieldsOf lcX7_197 sh_69 rfl rfl ⟨(Nat.le_of_ble_eq_true rfl), (Nat.le_of_ble_eq_true rfl)⟩ rfl (Nat.le_of_ble_eq_true rfl) (Nat.le_of_ble_eq_true rfl) (t_X7_fieldsOf l1 I1) rfl (fun r6 I6 => ?_)
      refine Ex.goto (M := mX7_ifAllCome) (tgt := 64) dX7_ifAllCome_43 rfl ?_
      refine Ey.istore_n (M := mX7_ifAllCome) (pc2 := 65) dX7_ifAllCome_64 rfl (Nat.le_of_ble_eq_true rfl) rfl rfl ?_
      refine Ex.aload_n (M := mX7_ifAllCome) (pc2 := 66) dX7_ifAllCome_65 rfl rfl rfl ?_
      refine Ey.callVv (M := mX7_ifAllCome) (pc2 := 69) (as := []) (rest := []) rfl dX7_ifAllCome_66 isX7_putBack lcX7_206 sh_69 rfl rfl ⟨(Nat.le_of_ble_eq_true rfl), (Nat.le_of_ble_eq_true rfl)⟩ rfl (Nat.le_of_ble_eq_true rfl) (Nat.le_of_ble_eq_true rfl) (t_X7_putBack I6) rfl (fun I7 => ?_)
      refine Ex.iload_n (M := mX7_ifAllCome) (pc2 := 70) dX7_ifAllCome_69 rfl rfl rfl ?_
      exact Ey.ireturn (M := mX7_ifAllCome) dX7_ifAllCome_70 rfl rfl
  · refine Ex.aload_n (M := mX7_ifAllCome) (pc2 := 26) dX7_ifAllCome_25 rfl rfl rfl ?_
    refine Ey.callVi (M := mX7_ifAllCome) (pc2 := 29) (as := []) (rest := []) rfl dX7_ifAllCome_26 isX7_day lcX7_103 sh_69 rfl rfl ⟨(Nat.le_of_ble_eq_true rfl), (Nat.le_of_ble_eq_true rfl)⟩ rfl (Nat.le_of_ble_eq_true rfl) (Nat.le_of_ble_eq_true rfl) (t_X7_day I1) rfl (fun r8 I8 => ?_)
    refine Ey.istore_n (M := mX7_ifAllCome) (pc2 := 30) dX7_ifAllCome_29 rfl (Nat.le_of_ble_eq_true rfl) rfl rfl ?_
    refine Ex.goto (M := mX7_ifAllCome) (tgt := 16) dX7_ifAllCome_30 rfl ?_
    exact hk16 _ _ _
def f_X7_ifAllCome_16 : Nat → Int32 → xI → Option (Int32 × xI)
  | 0, _, _ => none
  | n + 1, l1, I => f_X7_ifAllCome_16b (fun l1 I => f_X7_ifAllCome_16 n l1 I) l1 I
theorem t_X7_ifAllCome_16 : ∀ (n : Nat) (l1 : Int32) (d2 : Option xV) (I : xI), Ey none mX7_ifAllCome 16 [some (.inr (some 69)), some (.inl l1), d2] [] I (f_X7_ifAllCome_16 n l1 I)
  | 0, l1, d2, I => Ey.nil
  | n + 1, l1, d2, I => t_X7_ifAllCome_16b (fun l1 I => f_X7_ifAllCome_16 n l1 I) (fun l1 d2 I => t_X7_ifAllCome_16 n l1 d2 I) l1 d2 I
def f_X7_ifAllCome (l1 : Int32) (I : xI) : Option (Int32 × xI) :=
  xb (f_X7_in l1 (0 : Int32) (3 : Int32) I) (fun r9 I9 => if r9 ≠ 0 then xb (f_X7_putAside I9) (fun _ I10 => f_X7_ifAllCome_16 xZ l1 I10) else some ((-2 : Int32), I9))
theorem t_X7_ifAllCome (l1 : Int32) (I : xI) : Ey none mX7_ifAllCome 0 [some (.inr (some 69)), some (.inl l1), none] [] I (f_X7_ifAllCome l1 I) := by
  unfold f_X7_ifAllCome
  refine Ex.iload_n (M := mX7_ifAllCome) (pc2 := 1) dX7_ifAllCome_0 rfl rfl rfl ?_
  refine Ex.iconst (M := mX7_ifAllCome) (pc2 := 2) dX7_ifAllCome_1 ki_0 rfl ?_
  refine Ex.iconst (M := mX7_ifAllCome) (pc2 := 3) dX7_ifAllCome_2 ki_3 rfl ?_
  refine Ey.callSi (M := mX7_ifAllCome) (pc2 := 6) (as := [.inl l1, .inl (0 : Int32), .inl (3 : Int32)]) (rest := []) rfl dX7_ifAllCome_3 isX7_in lcX7_39  rfl ⟨(Nat.le_of_ble_eq_true rfl), (Nat.le_of_ble_eq_true rfl)⟩ rfl (Nat.le_of_ble_eq_true rfl) (Nat.le_of_ble_eq_true rfl) (t_X7_in l1 (0 : Int32) (3 : Int32) I) rfl (fun r9 I9 => ?_)
  refine Ey.if_ne (M := mX7_ifAllCome) (tgt := 12) (pc2 := 9) dX7_ifAllCome_6 rfl (fun _ => ?_) rfl (fun _ => ?_)
  · refine Ex.aload_n (M := mX7_ifAllCome) (pc2 := 13) dX7_ifAllCome_12 rfl rfl rfl ?_
    refine Ey.callVv (M := mX7_ifAllCome) (pc2 := 16) (as := []) (rest := []) rfl dX7_ifAllCome_13 isX7_putAside lcX7_194 sh_69 rfl rfl ⟨(Nat.le_of_ble_eq_true rfl), (Nat.le_of_ble_eq_true rfl)⟩ rfl (Nat.le_of_ble_eq_true rfl) (Nat.le_of_ble_eq_true rfl) (t_X7_putAside I9) rfl (fun I10 => ?_)
    exact t_X7_ifAllCome_16 xZ _ _ _
  · refine Ex.bipush (M := mX7_ifAllCome) (pc2 := 11) dX7_ifAllCome_9 kb_m2 rfl ?_
    exact Ey.ireturn (M := mX7_ifAllCome) dX7_ifAllCome_11 rfl rfl
/-! FenceDuelModel.bestClaim(I)I -/
def f_X7_bestClaim_57 (k21 : Int32 → Int32 → Int32 → Int32 → xI → Option (Int32 × xI)) (l1 : Int32) (l3 : Int32) (l4 : Int32) (l5 : Int32) (s0 : Int32) (I : xI) : Option (Int32 × xI) :=
  if l5 ≤ l3 then k21 l1 s0 l3 (l4 + 1) I else k21 l1 s0 l5 (l4 + 1) I
theorem t_X7_bestClaim_57 (k21 : Int32 → Int32 → Int32 → Int32 → xI → Option (Int32 × xI)) (hk21 : ∀ (l1 : Int32) (l2 : Int32) (l3 : Int32) (l4 : Int32) (d5 : Option xV) (I : xI), Ey none mX7_bestClaim 21 [some (.inr (some 69)), some (.inl l1), some (.inl l2), some (.inl l3), some (.inl l4), d5] [] I (k21 l1 l2 l3 l4 I)) (l1 : Int32) (d2 : Option xV) (l3 : Int32) (l4 : Int32) (l5 : Int32) (s0 : Int32) (I : xI) : Ey none mX7_bestClaim 57 [some (.inr (some 69)), some (.inl l1), d2, some (.inl l3), some (.inl l4), some (.inl l5)] [.inl s0] I (f_X7_bestClaim_57 k21 l1 l3 l4 l5 s0 I) := by
  unfold f_X7_bestClaim_57
  refine Ey.istore_n (M := mX7_bestClaim) (pc2 := 58) dX7_bestClaim_57 rfl (Nat.le_of_ble_eq_true rfl) rfl rfl ?_
  refine Ex.iload (M := mX7_bestClaim) (pc2 := 60) dX7_bestClaim_58 rfl rfl ?_
  refine Ex.iload_n (M := mX7_bestClaim) (pc2 := 61) dX7_bestClaim_60 rfl rfl rfl ?_
  refine Ey.icmp_le (M := mX7_bestClaim) (tgt := 69) (pc2 := 64) dX7_bestClaim_61 rfl (fun _ => ?_) rfl (fun _ => ?_)
  · refine Ex.iload_n (M := mX7_bestClaim) (pc2 := 70) dX7_bestClaim_69 rfl rfl rfl ?_
    refine Ey.istore_n (M := mX7_bestClaim) (pc2 := 71) dX7_bestClaim_70 rfl (Nat.le_of_ble_eq_true rfl) rfl rfl ?_
    refine Ey.iinc (M := mX7_bestClaim) (pc2 := 74) dX7_bestClaim_71 rfl ki_1 (Nat.le_of_ble_eq_true rfl) rfl rfl ?_
    refine Ex.goto (M := mX7_bestClaim) (tgt := 21) dX7_bestClaim_74 rfl ?_
    exact hk21 _ _ _ _ _ _
  · refine Ex.iload (M := mX7_bestClaim) (pc2 := 66) dX7_bestClaim_64 rfl rfl ?_
    refine Ex.goto (M := mX7_bestClaim) (tgt := 70) dX7_bestClaim_66 rfl ?_
    refine Ey.istore_n (M := mX7_bestClaim) (pc2 := 71) dX7_bestClaim_70 rfl (Nat.le_of_ble_eq_true rfl) rfl rfl ?_
    refine Ey.iinc (M := mX7_bestClaim) (pc2 := 74) dX7_bestClaim_71 rfl ki_1 (Nat.le_of_ble_eq_true rfl) rfl rfl ?_
    refine Ex.goto (M := mX7_bestClaim) (tgt := 21) dX7_bestClaim_74 rfl ?_
    exact hk21 _ _ _ _ _ _
def f_X7_bestClaim_21b (k21 : Int32 → Int32 → Int32 → Int32 → xI → Option (Int32 × xI)) (l1 : Int32) (l2 : Int32) (l3 : Int32) (l4 : Int32) (I : xI) : Option (Int32 × xI) :=
  if l4 ≥ (48 : Int32) then if l1 ≠ 0 then some (l3, I) else some (l2, I) else xb (f_X7_whyClaim l4 I) (fun r1 I1 => if r1 ≠ 0 then k21 l1 l2 l3 (l4 + 1) I1 else xb (f_X7_freeIn l4 I1) (fun r2 I2 => if r2 ≤ l3 then f_X7_bestClaim_57 k21 l1 l3 l4 r2 l2 I2 else f_X7_bestClaim_57 k21 l1 l3 l4 r2 l4 I2))
theorem t_X7_bestClaim_21b (k21 : Int32 → Int32 → Int32 → Int32 → xI → Option (Int32 × xI)) (hk21 : ∀ (l1 : Int32) (l2 : Int32) (l3 : Int32) (l4 : Int32) (d5 : Option xV) (I : xI), Ey none mX7_bestClaim 21 [some (.inr (some 69)), some (.inl l1), some (.inl l2), some (.inl l3), some (.inl l4), d5] [] I (k21 l1 l2 l3 l4 I)) (l1 : Int32) (l2 : Int32) (l3 : Int32) (l4 : Int32) (d5 : Option xV) (I : xI) : Ey none mX7_bestClaim 21 [some (.inr (some 69)), some (.inl l1), some (.inl l2), some (.inl l3), some (.inl l4), d5] [] I (f_X7_bestClaim_21b k21 l1 l2 l3 l4 I) := by
  unfold f_X7_bestClaim_21b
  refine Ex.iload (M := mX7_bestClaim) (pc2 := 23) dX7_bestClaim_21 rfl rfl ?_
  refine Ex.bipush (M := mX7_bestClaim) (pc2 := 25) dX7_bestClaim_23 kb_48 rfl ?_
  refine Ey.icmp_ge (M := mX7_bestClaim) (tgt := 77) (pc2 := 28) dX7_bestClaim_25 rfl (fun _ => ?_) rfl (fun _ => ?_)
  · refine Ex.iload_n (M := mX7_bestClaim) (pc2 := 78) dX7_bestClaim_77 rfl rfl rfl ?_
    refine Ey.if_ne (M := mX7_bestClaim) (tgt := 85) (pc2 := 81) dX7_bestClaim_78 rfl (fun _ => ?_) rfl (fun _ => ?_)
    · refine Ex.iload_n (M := mX7_bestClaim) (pc2 := 86) dX7_bestClaim_85 rfl rfl rfl ?_
      exact Ey.ireturn (M := mX7_bestClaim) dX7_bestClaim_86 rfl rfl
    · refine Ex.iload_n (M := mX7_bestClaim) (pc2 := 82) dX7_bestClaim_81 rfl rfl rfl ?_
      refine Ex.goto (M := mX7_bestClaim) (tgt := 86) dX7_bestClaim_82 rfl ?_
      exact Ey.ireturn (M := mX7_bestClaim) dX7_bestClaim_86 rfl rfl
  · refine Ex.aload_n (M := mX7_bestClaim) (pc2 := 29) dX7_bestClaim_28 rfl rfl rfl ?_
    refine Ex.iload (M := mX7_bestClaim) (pc2 := 31) dX7_bestClaim_29 rfl rfl ?_
    refine Ey.callVi (M := mX7_bestClaim) (pc2 := 34) (as := [.inl l4]) (rest := []) rfl dX7_bestClaim_31 isX7_whyClaim lcX7_81 sh_69 rfl rfl ⟨(Nat.le_of_ble_eq_true rfl), (Nat.le_of_ble_eq_true rfl)⟩ rfl (Nat.le_of_ble_eq_true rfl) (Nat.le_of_ble_eq_true rfl) (t_X7_whyClaim l4 I) rfl (fun r1 I1 => ?_)
    refine Ey.if_ne (M := mX7_bestClaim) (tgt := 71) (pc2 := 37) dX7_bestClaim_34 rfl (fun _ => ?_) rfl (fun _ => ?_)
    · refine Ey.iinc (M := mX7_bestClaim) (pc2 := 74) dX7_bestClaim_71 rfl ki_1 (Nat.le_of_ble_eq_true rfl) rfl rfl ?_
      refine Ex.goto (M := mX7_bestClaim) (tgt := 21) dX7_bestClaim_74 rfl ?_
      exact hk21 _ _ _ _ _ _
    · refine Ex.aload_n (M := mX7_bestClaim) (pc2 := 38) dX7_bestClaim_37 rfl rfl rfl ?_
      refine Ex.iload (M := mX7_bestClaim) (pc2 := 40) dX7_bestClaim_38 rfl rfl ?_
      refine Ey.callVi (M := mX7_bestClaim) (pc2 := 43) (as := [.inl l4]) (rest := []) rfl dX7_bestClaim_40 isX7_freeIn lcX7_179 sh_69 rfl rfl ⟨(Nat.le_of_ble_eq_true rfl), (Nat.le_of_ble_eq_true rfl)⟩ rfl (Nat.le_of_ble_eq_true rfl) (Nat.le_of_ble_eq_true rfl) (t_X7_freeIn l4 I1) rfl (fun r2 I2 => ?_)
      refine Ey.istore (M := mX7_bestClaim) (pc2 := 45) dX7_bestClaim_43 (Nat.le_of_ble_eq_true rfl) rfl rfl ?_
      refine Ex.iload (M := mX7_bestClaim) (pc2 := 47) dX7_bestClaim_45 rfl rfl ?_
      refine Ex.iload_n (M := mX7_bestClaim) (pc2 := 48) dX7_bestClaim_47 rfl rfl rfl ?_
      refine Ey.icmp_le (M := mX7_bestClaim) (tgt := 56) (pc2 := 51) dX7_bestClaim_48 rfl (fun _ => ?_) rfl (fun _ => ?_)
      · refine Ex.iload_n (M := mX7_bestClaim) (pc2 := 57) dX7_bestClaim_56 rfl rfl rfl ?_
        exact t_X7_bestClaim_57 k21 hk21 _ _ _ _ _ _ _
      · refine Ex.iload (M := mX7_bestClaim) (pc2 := 53) dX7_bestClaim_51 rfl rfl ?_
        refine Ex.goto (M := mX7_bestClaim) (tgt := 57) dX7_bestClaim_53 rfl ?_
        exact t_X7_bestClaim_57 k21 hk21 _ _ _ _ _ _ _
def f_X7_bestClaim_21 : Nat → Int32 → Int32 → Int32 → Int32 → xI → Option (Int32 × xI)
  | 0, _, _, _, _, _ => none
  | n + 1, l1, l2, l3, l4, I => f_X7_bestClaim_21b (fun l1 l2 l3 l4 I => f_X7_bestClaim_21 n l1 l2 l3 l4 I) l1 l2 l3 l4 I
theorem t_X7_bestClaim_21 : ∀ (n : Nat) (l1 : Int32) (l2 : Int32) (l3 : Int32) (l4 : Int32) (d5 : Option xV) (I : xI), Ey none mX7_bestClaim 21 [some (.inr (some 69)), some (.inl l1), some (.inl l2), some (.inl l3), some (.inl l4), d5] [] I (f_X7_bestClaim_21 n l1 l2 l3 l4 I)
  | 0, l1, l2, l3, l4, d5, I => Ey.nil
  | n + 1, l1, l2, l3, l4, d5, I => t_X7_bestClaim_21b (fun l1 l2 l3 l4 I => f_X7_bestClaim_21 n l1 l2 l3 l4 I) (fun l1 l2 l3 l4 d5 I => t_X7_bestClaim_21 n l1 l2 l3 l4 d5 I) l1 l2 l3 l4 d5 I
def f_X7_bestClaim (l1 : Int32) (I : xI) : Option (Int32 × xI) :=
  xb (f_X7_in l1 (0 : Int32) (1 : Int32) I) (fun r3 I3 => if r3 ≠ 0 then f_X7_bestClaim_21 xZ l1 (-5 : Int32) (-5 : Int32) (0 : Int32) I3 else some ((-2 : Int32), I3))
theorem t_X7_bestClaim (l1 : Int32) (I : xI) : Ey none mX7_bestClaim 0 [some (.inr (some 69)), some (.inl l1), none, none, none, none] [] I (f_X7_bestClaim l1 I) := by
  unfold f_X7_bestClaim
  refine Ex.iload_n (M := mX7_bestClaim) (pc2 := 1) dX7_bestClaim_0 rfl rfl rfl ?_
  refine Ex.iconst (M := mX7_bestClaim) (pc2 := 2) dX7_bestClaim_1 ki_0 rfl ?_
  refine Ex.iconst (M := mX7_bestClaim) (pc2 := 3) dX7_bestClaim_2 ki_1 rfl ?_
  refine Ey.callSi (M := mX7_bestClaim) (pc2 := 6) (as := [.inl l1, .inl (0 : Int32), .inl (1 : Int32)]) (rest := []) rfl dX7_bestClaim_3 isX7_in lcX7_39  rfl ⟨(Nat.le_of_ble_eq_true rfl), (Nat.le_of_ble_eq_true rfl)⟩ rfl (Nat.le_of_ble_eq_true rfl) (Nat.le_of_ble_eq_true rfl) (t_X7_in l1 (0 : Int32) (1 : Int32) I) rfl (fun r3 I3 => ?_)
  refine Ey.if_ne (M := mX7_bestClaim) (tgt := 12) (pc2 := 9) dX7_bestClaim_6 rfl (fun _ => ?_) rfl (fun _ => ?_)
  · refine Ex.bipush (M := mX7_bestClaim) (pc2 := 14) dX7_bestClaim_12 kb_m5 rfl ?_
    refine Ey.istore_n (M := mX7_bestClaim) (pc2 := 15) dX7_bestClaim_14 rfl (Nat.le_of_ble_eq_true rfl) rfl rfl ?_
    refine Ex.bipush (M := mX7_bestClaim) (pc2 := 17) dX7_bestClaim_15 kb_m5 rfl ?_
    refine Ey.istore_n (M := mX7_bestClaim) (pc2 := 18) dX7_bestClaim_17 rfl (Nat.le_of_ble_eq_true rfl) rfl rfl ?_
    refine Ex.iconst (M := mX7_bestClaim) (pc2 := 19) dX7_bestClaim_18 ki_0 rfl ?_
    refine Ey.istore (M := mX7_bestClaim) (pc2 := 21) dX7_bestClaim_19 (Nat.le_of_ble_eq_true rfl) rfl rfl ?_
    exact t_X7_bestClaim_21 xZ _ _ _ _ _ _
  · refine Ex.bipush (M := mX7_bestClaim) (pc2 := 11) dX7_bestClaim_9 kb_m2 rfl ?_
    exact Ey.ireturn (M := mX7_bestClaim) dX7_bestClaim_11 rfl rfl
/-! FenceDuelModel.regions()I -/
def f_X7_regions_4b (k4 : Int32 → Int32 → xI → Option (Int32 × xI)) (l1 : Int32) (l2 : Int32) (I : xI) : Option (Int32 × xI) :=
  if l2 ≥ (48 : Int32) then some (l1, I) else xb (f_X7_lowestIn l2 I) (fun r1 I1 => if r1 ≠ l2 then k4 (l1 + (0 : Int32)) (l2 + 1) I1 else k4 (l1 + (1 : Int32)) (l2 + 1) I1)
theorem t_X7_regions_4b (k4 : Int32 → Int32 → xI → Option (Int32 × xI)) (hk4 : ∀ (l1 : Int32) (l2 : Int32) (I : xI), Ey none mX7_regions 4 [some (.inr (some 69)), some (.inl l1), some (.inl l2)] [] I (k4 l1 l2 I)) (l1 : Int32) (l2 : Int32) (I : xI) : Ey none mX7_regions 4 [some (.inr (some 69)), some (.inl l1), some (.inl l2)] [] I (f_X7_regions_4b k4 l1 l2 I) := by
  unfold f_X7_regions_4b
  refine Ex.iload_n (M := mX7_regions) (pc2 := 5) dX7_regions_4 rfl rfl rfl ?_
  refine Ex.bipush (M := mX7_regions) (pc2 := 7) dX7_regions_5 kb_48 rfl ?_
  refine Ey.icmp_ge (M := mX7_regions) (tgt := 33) (pc2 := 10) dX7_regions_7 rfl (fun _ => ?_) rfl (fun _ => ?_)
  · refine Ex.iload_n (M := mX7_regions) (pc2 := 34) dX7_regions_33 rfl rfl rfl ?_
    exact Ey.ireturn (M := mX7_regions) dX7_regions_34 rfl rfl
  · refine Ex.iload_n (M := mX7_regions) (pc2 := 11) dX7_regions_10 rfl rfl rfl ?_
    refine Ex.aload_n (M := mX7_regions) (pc2 := 12) dX7_regions_11 rfl rfl rfl ?_
    refine Ex.iload_n (M := mX7_regions) (pc2 := 13) dX7_regions_12 rfl rfl rfl ?_
    refine Ey.callVi (M := mX7_regions) (pc2 := 16) (as := [.inl l2]) (rest := [.inl l1]) rfl dX7_regions_13 isX7_lowestIn lcX7_182 sh_69 rfl rfl ⟨(Nat.le_of_ble_eq_true rfl), (Nat.le_of_ble_eq_true rfl)⟩ rfl (Nat.le_of_ble_eq_true rfl) (Nat.le_of_ble_eq_true rfl) (t_X7_lowestIn l2 I) rfl (fun r1 I1 => ?_)
    refine Ex.iload_n (M := mX7_regions) (pc2 := 17) dX7_regions_16 rfl rfl rfl ?_
    refine Ey.icmp_ne (M := mX7_regions) (tgt := 24) (pc2 := 20) dX7_regions_17 rfl (fun _ => ?_) rfl (fun _ => ?_)
    · refine Ex.iconst (M := mX7_regions) (pc2 := 25) dX7_regions_24 ki_0 rfl ?_
      refine Ex.iadd (M := mX7_regions) (pc2 := 26) dX7_regions_25 rfl ?_
      refine Ey.istore_n (M := mX7_regions) (pc2 := 27) dX7_regions_26 rfl (Nat.le_of_ble_eq_true rfl) rfl rfl ?_
      refine Ey.iinc (M := mX7_regions) (pc2 := 30) dX7_regions_27 rfl ki_1 (Nat.le_of_ble_eq_true rfl) rfl rfl ?_
      refine Ex.goto (M := mX7_regions) (tgt := 4) dX7_regions_30 rfl ?_
      exact hk4 _ _ _
    · refine Ex.iconst (M := mX7_regions) (pc2 := 21) dX7_regions_20 ki_1 rfl ?_
      refine Ex.goto (M := mX7_regions) (tgt := 25) dX7_regions_21 rfl ?_
      refine Ex.iadd (M := mX7_regions) (pc2 := 26) dX7_regions_25 rfl ?_
      refine Ey.istore_n (M := mX7_regions) (pc2 := 27) dX7_regions_26 rfl (Nat.le_of_ble_eq_true rfl) rfl rfl ?_
      refine Ey.iinc (M := mX7_regions) (pc2 := 30) dX7_regions_27 rfl ki_1 (Nat.le_of_ble_eq_true rfl) rfl rfl ?_
      refine Ex.goto (M := mX7_regions) (tgt := 4) dX7_regions_30 rfl ?_
      exact hk4 _ _ _
def f_X7_regions_4 : Nat → Int32 → Int32 → xI → Option (Int32 × xI)
  | 0, _, _, _ => none
  | n + 1, l1, l2, I => f_X7_regions_4b (fun l1 l2 I => f_X7_regions_4 n l1 l2 I) l1 l2 I
theorem t_X7_regions_4 : ∀ (n : Nat) (l1 : Int32) (l2 : Int32) (I : xI), Ey none mX7_regions 4 [some (.inr (some 69)), some (.inl l1), some (.inl l2)] [] I (f_X7_regions_4 n l1 l2 I)
  | 0, l1, l2, I => Ey.nil
  | n + 1, l1, l2, I => t_X7_regions_4b (fun l1 l2 I => f_X7_regions_4 n l1 l2 I) (fun l1 l2 I => t_X7_regions_4 n l1 l2 I) l1 l2 I
def f_X7_regions (I : xI) : Option (Int32 × xI) :=
  f_X7_regions_4 xZ (0 : Int32) (0 : Int32) I
theorem t_X7_regions (I : xI) : Ey none mX7_regions 0 [some (.inr (some 69)), none, none] [] I (f_X7_regions I) := by
  unfold f_X7_regions
  refine Ex.iconst (M := mX7_regions) (pc2 := 1) dX7_regions_0 ki_0 rfl ?_
  refine Ey.istore_n (M := mX7_regions) (pc2 := 2) dX7_regions_1 rfl (Nat.le_of_ble_eq_true rfl) rfl rfl ?_
  refine Ex.iconst (M := mX7_regions) (pc2 := 3) dX7_regions_2 ki_0 rfl ?_
  refine Ey.istore_n (M := mX7_regions) (pc2 := 4) dX7_regions_3 rfl (Nat.le_of_ble_eq_true rfl) rfl rfl ?_
  exact t_X7_regions_4 xZ _ _ _
/-! FenceDuelModel.count(I)I -/
def f_X7_count_117 (l1 : Int32) (I : xI) : Option (Int32 × xI) :=
  if xin (((2 : Int32) + l1) - (5 : Int32)) 742 then some ((I 70 ((((2 : Int32) + l1) - (5 : Int32)).toNatClampNeg)), I) else none
theorem t_X7_count_117 (l1 : Int32) (I : xI) : Ey none mX7_count 117 [some (.inr (some 69)), some (.inl l1)] [] I (f_X7_count_117 l1 I) := by
  unfold f_X7_count_117
  refine Ex.aload_n (M := mX7_count) (pc2 := 118) dX7_count_117 rfl rfl rfl ?_
  refine Ex.getR (M := mX7_count) (pc2 := 121) dX7_count_118 xck7 lfX7_7 (Nat.le_of_ble_eq_true rfl) sh_69 rfl ff_69_0 rfl ?_
  refine Ex.iconst (M := mX7_count) (pc2 := 122) dX7_count_121 ki_2 rfl ?_
  refine Ex.iload_n (M := mX7_count) (pc2 := 123) dX7_count_122 rfl rfl rfl ?_
  refine Ex.iadd (M := mX7_count) (pc2 := 124) dX7_count_123 rfl ?_
  refine Ex.iconst (M := mX7_count) (pc2 := 125) dX7_count_124 ki_5 rfl ?_
  refine Ex.isub (M := mX7_count) (pc2 := 126) dX7_count_125 rfl ?_
  refine Ey.guard (fun hz1 => ?_)
  refine Ey.iaload (M := mX7_count) (pc2 := 127) dX7_count_126 sh_70 rfl hz1 rfl ?_
  exact Ey.ireturn (M := mX7_count) dX7_count_127 rfl rfl
def f_X7_count_164 (l1 : Int32) (I : xI) : Option (Int32 × xI) :=
  if xin (((6 : Int32) + l1) - (14 : Int32)) 742 then some ((I 70 ((((6 : Int32) + l1) - (14 : Int32)).toNatClampNeg)), I) else none
theorem t_X7_count_164 (l1 : Int32) (I : xI) : Ey none mX7_count 164 [some (.inr (some 69)), some (.inl l1)] [] I (f_X7_count_164 l1 I) := by
  unfold f_X7_count_164
  refine Ex.aload_n (M := mX7_count) (pc2 := 165) dX7_count_164 rfl rfl rfl ?_
  refine Ex.getR (M := mX7_count) (pc2 := 168) dX7_count_165 xck7 lfX7_7 (Nat.le_of_ble_eq_true rfl) sh_69 rfl ff_69_0 rfl ?_
  refine Ex.bipush (M := mX7_count) (pc2 := 170) dX7_count_168 kb_6 rfl ?_
  refine Ex.iload_n (M := mX7_count) (pc2 := 171) dX7_count_170 rfl rfl rfl ?_
  refine Ex.iadd (M := mX7_count) (pc2 := 172) dX7_count_171 rfl ?_
  refine Ex.bipush (M := mX7_count) (pc2 := 174) dX7_count_172 kb_14 rfl ?_
  refine Ex.isub (M := mX7_count) (pc2 := 175) dX7_count_174 rfl ?_
  refine Ey.guard (fun hz2 => ?_)
  refine Ey.iaload (M := mX7_count) (pc2 := 176) dX7_count_175 sh_70 rfl hz2 rfl ?_
  exact Ey.ireturn (M := mX7_count) dX7_count_176 rfl rfl
def f_X7_count_177 (l1 : Int32) (I : xI) : Option (Int32 × xI) :=
  if xin (((4 : Int32) + l1) - (16 : Int32)) 742 then some ((I 70 ((((4 : Int32) + l1) - (16 : Int32)).toNatClampNeg)), I) else none
theorem t_X7_count_177 (l1 : Int32) (I : xI) : Ey none mX7_count 177 [some (.inr (some 69)), some (.inl l1)] [] I (f_X7_count_177 l1 I) := by
  unfold f_X7_count_177
  refine Ex.aload_n (M := mX7_count) (pc2 := 178) dX7_count_177 rfl rfl rfl ?_
  refine Ex.getR (M := mX7_count) (pc2 := 181) dX7_count_178 xck7 lfX7_7 (Nat.le_of_ble_eq_true rfl) sh_69 rfl ff_69_0 rfl ?_
  refine Ex.iconst (M := mX7_count) (pc2 := 182) dX7_count_181 ki_4 rfl ?_
  refine Ex.iload_n (M := mX7_count) (pc2 := 183) dX7_count_182 rfl rfl rfl ?_
  refine Ex.iadd (M := mX7_count) (pc2 := 184) dX7_count_183 rfl ?_
  refine Ex.bipush (M := mX7_count) (pc2 := 186) dX7_count_184 kb_16 rfl ?_
  refine Ex.isub (M := mX7_count) (pc2 := 187) dX7_count_186 rfl ?_
  refine Ey.guard (fun hz3 => ?_)
  refine Ey.iaload (M := mX7_count) (pc2 := 188) dX7_count_187 sh_70 rfl hz3 rfl ?_
  exact Ey.ireturn (M := mX7_count) dX7_count_188 rfl rfl
def f_X7_count (l1 : Int32) (I : xI) : Option (Int32 × xI) :=
  if l1 = 0 then if xin l1 742 then some ((I 70 l1.toNatClampNeg), I) else none else if l1 = 1 then if xin l1 742 then some ((I 70 l1.toNatClampNeg), I) else none else if l1 = 2 then xb (f_X7_lettersThat (0 : Int32) I) (fun r7 I7 => some (r7, I7)) else if l1 = 3 then xb (f_X7_lettersThat (l1 - (2 : Int32)) I) (fun r8 I8 => some (r8, I8)) else if l1 = 4 then xb (f_X7_lettersThat (l1 - (2 : Int32)) I) (fun r9 I9 => some (r9, I9)) else if l1 = 5 then f_X7_count_117 l1 I else if l1 = 6 then f_X7_count_117 l1 I else if l1 = 7 then xb (f_X7_fieldsOf (l1 - (7 : Int32)) I) (fun r10 I10 => some (r10, I10)) else if l1 = 8 then xb (f_X7_fieldsOf (l1 - (7 : Int32)) I) (fun r11 I11 => some (r11, I11)) else if l1 = 9 then xb (f_X7_edgesThat (l1 - (8 : Int32)) I) (fun r12 I12 => some (r12, I12)) else if l1 = 10 then xb (f_X7_edgesThat (l1 - (8 : Int32)) I) (fun r13 I13 => some (r13, I13)) else if l1 = 11 then xb (f_X7_edgesThat (l1 - (8 : Int32)) I) (fun r14 I14 => some (r14, I14)) else if l1 = 12 then xb (f_X7_regions I) (fun r15 I15 => some (r15, I15)) else if l1 = 13 then xb (f_X7_isTruce I) (fun r16 I16 => if r16 = 0 then some ((0 : Int32), I16) else some ((1 : Int32), I16)) else if l1 = 14 then f_X7_count_164 l1 I else if l1 = 15 then f_X7_count_164 l1 I else if l1 = 16 then f_X7_count_177 l1 I else if l1 = 17 then f_X7_count_177 l1 I else if l1 = 18 then some ((I 69 6), I) else if l1 = 19 then some ((I 69 8), I) else some ((-2 : Int32), I)
theorem t_X7_count (l1 : Int32) (I : xI) : Ey none mX7_count 0 [some (.inr (some 69)), some (.inl l1)] [] I (f_X7_count l1 I) := by
  unfold f_X7_count
  refine Ex.iload_n (M := mX7_count) (pc2 := 1) dX7_count_0 rfl rfl rfl ?_
  refine Ey.ite (fun hc4_0 => ?_) (fun hc4_0 => ?_)
  · refine Ey.tcase (M := mX7_count) (c := 0) (off := 95) (tgt := 96) hc4_0 dX7_count_1 (by decide) (by decide) (by decide) rfl ?_
    refine Ex.aload_n (M := mX7_count) (pc2 := 97) dX7_count_96 rfl rfl rfl ?_
    refine Ex.getR (M := mX7_count) (pc2 := 100) dX7_count_97 xck7 lfX7_7 (Nat.le_of_ble_eq_true rfl) sh_69 rfl ff_69_0 rfl ?_
    refine Ex.iload_n (M := mX7_count) (pc2 := 101) dX7_count_100 rfl rfl rfl ?_
    refine Ey.guard (fun hz5 => ?_)
    refine Ey.iaload (M := mX7_count) (pc2 := 102) dX7_count_101 sh_70 rfl hz5 rfl ?_
    exact Ey.ireturn (M := mX7_count) dX7_count_102 rfl rfl
  · refine Ey.ite (fun hc4_1 => ?_) (fun hc4_1 => ?_)
    · refine Ey.tcase (M := mX7_count) (c := 1) (off := 95) (tgt := 96) hc4_1 dX7_count_1 (by decide) (by decide) (by decide) rfl ?_
      refine Ex.aload_n (M := mX7_count) (pc2 := 97) dX7_count_96 rfl rfl rfl ?_
      refine Ex.getR (M := mX7_count) (pc2 := 100) dX7_count_97 xck7 lfX7_7 (Nat.le_of_ble_eq_true rfl) sh_69 rfl ff_69_0 rfl ?_
      refine Ex.iload_n (M := mX7_count) (pc2 := 101) dX7_count_100 rfl rfl rfl ?_
      refine Ey.guard (fun hz6 => ?_)
      refine Ey.iaload (M := mX7_count) (pc2 := 102) dX7_count_101 sh_70 rfl hz6 rfl ?_
      exact Ey.ireturn (M := mX7_count) dX7_count_102 rfl rfl
    · refine Ey.ite (fun hc4_2 => ?_) (fun hc4_2 => ?_)
      · refine Ey.tcase (M := mX7_count) (c := 2) (off := 102) (tgt := 103) hc4_2 dX7_count_1 (by decide) (by decide) (by decide) rfl ?_
        refine Ex.aload_n (M := mX7_count) (pc2 := 104) dX7_count_103 rfl rfl rfl ?_
        refine Ex.iconst (M := mX7_count) (pc2 := 105) dX7_count_104 ki_0 rfl ?_
        refine Ey.callVi (M := mX7_count) (pc2 := 108) (as := [.inl (0 : Int32)]) (rest := []) rfl dX7_count_105 isX7_lettersThat lcX7_203 sh_69 rfl rfl ⟨(Nat.le_of_ble_eq_true rfl), (Nat.le_of_ble_eq_true rfl)⟩ rfl (Nat.le_of_ble_eq_true rfl) (Nat.le_of_ble_eq_true rfl) (t_X7_lettersThat (0 : Int32) I) rfl (fun r7 I7 => ?_)
        exact Ey.ireturn (M := mX7_count) dX7_count_108 rfl rfl
      · refine Ey.ite (fun hc4_3 => ?_) (fun hc4_3 => ?_)
        · refine Ey.tcase (M := mX7_count) (c := 3) (off := 108) (tgt := 109) hc4_3 dX7_count_1 (by decide) (by decide) (by decide) rfl ?_
          refine Ex.aload_n (M := mX7_count) (pc2 := 110) dX7_count_109 rfl rfl rfl ?_
          refine Ex.iload_n (M := mX7_count) (pc2 := 111) dX7_count_110 rfl rfl rfl ?_
          refine Ex.iconst (M := mX7_count) (pc2 := 112) dX7_count_111 ki_2 rfl ?_
          refine Ex.isub (M := mX7_count) (pc2 := 113) dX7_count_112 rfl ?_
          refine Ey.callVi (M := mX7_count) (pc2 := 116) (as := [.inl (l1 - (2 : Int32))]) (rest := []) rfl dX7_count_113 isX7_lettersThat lcX7_203 sh_69 rfl rfl ⟨(Nat.le_of_ble_eq_true rfl), (Nat.le_of_ble_eq_true rfl)⟩ rfl (Nat.le_of_ble_eq_true rfl) (Nat.le_of_ble_eq_true rfl) (t_X7_lettersThat (l1 - (2 : Int32)) I) rfl (fun r8 I8 => ?_)
          exact Ey.ireturn (M := mX7_count) dX7_count_116 rfl rfl
        · refine Ey.ite (fun hc4_4 => ?_) (fun hc4_4 => ?_)
          · refine Ey.tcase (M := mX7_count) (c := 4) (off := 108) (tgt := 109) hc4_4 dX7_count_1 (by decide) (by decide) (by decide) rfl ?_
            refine Ex.aload_n (M := mX7_count) (pc2 := 110) dX7_count_109 rfl rfl rfl ?_
            refine Ex.iload_n (M := mX7_count) (pc2 := 111) dX7_count_110 rfl rfl rfl ?_
            refine Ex.iconst (M := mX7_count) (pc2 := 112) dX7_count_111 ki_2 rfl ?_
            refine Ex.isub (M := mX7_count) (pc2 := 113) dX7_count_112 rfl ?_
            refine Ey.callVi (M := mX7_count) (pc2 := 116) (as := [.inl (l1 - (2 : Int32))]) (rest := []) rfl dX7_count_113 isX7_lettersThat lcX7_203 sh_69 rfl rfl ⟨(Nat.le_of_ble_eq_true rfl), (Nat.le_of_ble_eq_true rfl)⟩ rfl (Nat.le_of_ble_eq_true rfl) (Nat.le_of_ble_eq_true rfl) (t_X7_lettersThat (l1 - (2 : Int32)) I) rfl (fun r9 I9 => ?_)
            exact Ey.ireturn (M := mX7_count) dX7_count_116 rfl rfl
          · refine Ey.ite (fun hc4_5 => ?_) (fun hc4_5 => ?_)
            · refine Ey.tcase (M := mX7_count) (c := 5) (off := 116) (tgt := 117) hc4_5 dX7_count_1 (by decide) (by decide) (by decide) rfl ?_
              exact t_X7_count_117 _ _
            · refine Ey.ite (fun hc4_6 => ?_) (fun hc4_6 => ?_)
              · refine Ey.tcase (M := mX7_count) (c := 6) (off := 116) (tgt := 117) hc4_6 dX7_count_1 (by decide) (by decide) (by decide) rfl ?_
                exact t_X7_count_117 _ _
              · refine Ey.ite (fun hc4_7 => ?_) (fun hc4_7 => ?_)
                · refine Ey.tcase (M := mX7_count) (c := 7) (off := 127) (tgt := 128) hc4_7 dX7_count_1 (by decide) (by decide) (by decide) rfl ?_
                  refine Ex.aload_n (M := mX7_count) (pc2 := 129) dX7_count_128 rfl rfl rfl ?_
                  refine Ex.iload_n (M := mX7_count) (pc2 := 130) dX7_count_129 rfl rfl rfl ?_
                  refine Ex.bipush (M := mX7_count) (pc2 := 132) dX7_count_130 kb_7 rfl ?_
                  refine Ex.isub (M := mX7_count) (pc2 := 133) dX7_count_132 rfl ?_
                  refine Ey.callVi (M := mX7_count) (pc2 := 136) (as := [.inl (l1 - (7 : Int32))]) (rest := []) rfl dX7_count_133 isX7_fieldsOf lcX7_197 sh_69 rfl rfl ⟨(Nat.le_of_ble_eq_true rfl), (Nat.le_of_ble_eq_true rfl)⟩ rfl (Nat.le_of_ble_eq_true rfl) (Nat.le_of_ble_eq_true rfl) (t_X7_fieldsOf (l1 - (7 : Int32)) I) rfl (fun r10 I10 => ?_)
                  exact Ey.ireturn (M := mX7_count) dX7_count_136 rfl rfl
                · refine Ey.ite (fun hc4_8 => ?_) (fun hc4_8 => ?_)
                  · refine Ey.tcase (M := mX7_count) (c := 8) (off := 127) (tgt := 128) hc4_8 dX7_count_1 (by decide) (by decide) (by decide) rfl ?_
                    refine Ex.aload_n (M := mX7_count) (pc2 := 129) dX7_count_128 rfl rfl rfl ?_
                    refine Ex.iload_n (M := mX7_count) (pc2 := 130) dX7_count_129 rfl rfl rfl ?_
                    refine Ex.bipush (M := mX7_count) (pc2 := 132) dX7_count_130 kb_7 rfl ?_
                    refine Ex.isub (M := mX7_count) (pc2 := 133) dX7_count_132 rfl ?_
                    refine Ey.callVi (M := mX7_count) (pc2 := 136) (as := [.inl (l1 - (7 : Int32))]) (rest := []) rfl dX7_count_133 isX7_fieldsOf lcX7_197 sh_69 rfl rfl ⟨(Nat.le_of_ble_eq_true rfl), (Nat.le_of_ble_eq_true rfl)⟩ rfl (Nat.le_of_ble_eq_true rfl) (Nat.le_of_ble_eq_true rfl) (t_X7_fieldsOf (l1 - (7 : Int32)) I) rfl (fun r11 I11 => ?_)
                    exact Ey.ireturn (M := mX7_count) dX7_count_136 rfl rfl
                  · refine Ey.ite (fun hc4_9 => ?_) (fun hc4_9 => ?_)
                    · refine Ey.tcase (M := mX7_count) (c := 9) (off := 136) (tgt := 137) hc4_9 dX7_count_1 (by decide) (by decide) (by decide) rfl ?_
                      refine Ex.aload_n (M := mX7_count) (pc2 := 138) dX7_count_137 rfl rfl rfl ?_
                      refine Ex.iload_n (M := mX7_count) (pc2 := 139) dX7_count_138 rfl rfl rfl ?_
                      refine Ex.bipush (M := mX7_count) (pc2 := 141) dX7_count_139 kb_8 rfl ?_
                      refine Ex.isub (M := mX7_count) (pc2 := 142) dX7_count_141 rfl ?_
                      refine Ey.callVi (M := mX7_count) (pc2 := 145) (as := [.inl (l1 - (8 : Int32))]) (rest := []) rfl dX7_count_142 isX7_edgesThat lcX7_200 sh_69 rfl rfl ⟨(Nat.le_of_ble_eq_true rfl), (Nat.le_of_ble_eq_true rfl)⟩ rfl (Nat.le_of_ble_eq_true rfl) (Nat.le_of_ble_eq_true rfl) (t_X7_edgesThat (l1 - (8 : Int32)) I) rfl (fun r12 I12 => ?_)
                      exact Ey.ireturn (M := mX7_count) dX7_count_145 rfl rfl
                    · refine Ey.ite (fun hc4_10 => ?_) (fun hc4_10 => ?_)
                      · refine Ey.tcase (M := mX7_count) (c := 10) (off := 136) (tgt := 137) hc4_10 dX7_count_1 (by decide) (by decide) (by decide) rfl ?_
                        refine Ex.aload_n (M := mX7_count) (pc2 := 138) dX7_count_137 rfl rfl rfl ?_
                        refine Ex.iload_n (M := mX7_count) (pc2 := 139) dX7_count_138 rfl rfl rfl ?_
                        refine Ex.bipush (M := mX7_count) (pc2 := 141) dX7_count_139 kb_8 rfl ?_
                        refine Ex.isub (M := mX7_count) (pc2 := 142) dX7_count_141 rfl ?_
                        refine Ey.callVi (M := mX7_count) (pc2 := 145) (as := [.inl (l1 - (8 : Int32))]) (rest := []) rfl dX7_count_142 isX7_edgesThat lcX7_200 sh_69 rfl rfl ⟨(Nat.le_of_ble_eq_true rfl), (Nat.le_of_ble_eq_true rfl)⟩ rfl (Nat.le_of_ble_eq_true rfl) (Nat.le_of_ble_eq_true rfl) (t_X7_edgesThat (l1 - (8 : Int32)) I) rfl (fun r13 I13 => ?_)
                        exact Ey.ireturn (M := mX7_count) dX7_count_145 rfl rfl
                      · refine Ey.ite (fun hc4_11 => ?_) (fun hc4_11 => ?_)
                        · refine Ey.tcase (M := mX7_count) (c := 11) (off := 136) (tgt := 137) hc4_11 dX7_count_1 (by decide) (by decide) (by decide) rfl ?_
                          refine Ex.aload_n (M := mX7_count) (pc2 := 138) dX7_count_137 rfl rfl rfl ?_
                          refine Ex.iload_n (M := mX7_count) (pc2 := 139) dX7_count_138 rfl rfl rfl ?_
                          refine Ex.bipush (M := mX7_count) (pc2 := 141) dX7_count_139 kb_8 rfl ?_
                          refine Ex.isub (M := mX7_count) (pc2 := 142) dX7_count_141 rfl ?_
                          refine Ey.callVi (M := mX7_count) (pc2 := 145) (as := [.inl (l1 - (8 : Int32))]) (rest := []) rfl dX7_count_142 isX7_edgesThat lcX7_200 sh_69 rfl rfl ⟨(Nat.le_of_ble_eq_true rfl), (Nat.le_of_ble_eq_true rfl)⟩ rfl (Nat.le_of_ble_eq_true rfl) (Nat.le_of_ble_eq_true rfl) (t_X7_edgesThat (l1 - (8 : Int32)) I) rfl (fun r14 I14 => ?_)
                          exact Ey.ireturn (M := mX7_count) dX7_count_145 rfl rfl
                        · refine Ey.ite (fun hc4_12 => ?_) (fun hc4_12 => ?_)
                          · refine Ey.tcase (M := mX7_count) (c := 12) (off := 145) (tgt := 146) hc4_12 dX7_count_1 (by decide) (by decide) (by decide) rfl ?_
                            refine Ex.aload_n (M := mX7_count) (pc2 := 147) dX7_count_146 rfl rfl rfl ?_
                            refine Ey.callVi (M := mX7_count) (pc2 := 150) (as := []) (rest := []) rfl dX7_count_147 isX7_regions lcX7_209 sh_69 rfl rfl ⟨(Nat.le_of_ble_eq_true rfl), (Nat.le_of_ble_eq_true rfl)⟩ rfl (Nat.le_of_ble_eq_true rfl) (Nat.le_of_ble_eq_true rfl) (t_X7_regions I) rfl (fun r15 I15 => ?_)
                            exact Ey.ireturn (M := mX7_count) dX7_count_150 rfl rfl
                          · refine Ey.ite (fun hc4_13 => ?_) (fun hc4_13 => ?_)
                            · refine Ey.tcase (M := mX7_count) (c := 13) (off := 150) (tgt := 151) hc4_13 dX7_count_1 (by decide) (by decide) (by decide) rfl ?_
                              refine Ex.aload_n (M := mX7_count) (pc2 := 152) dX7_count_151 rfl rfl rfl ?_
                              refine Ey.callVi (M := mX7_count) (pc2 := 155) (as := []) (rest := []) rfl dX7_count_152 isX7_isTruce lcX7_64 sh_69 rfl rfl ⟨(Nat.le_of_ble_eq_true rfl), (Nat.le_of_ble_eq_true rfl)⟩ rfl (Nat.le_of_ble_eq_true rfl) (Nat.le_of_ble_eq_true rfl) (t_X7_isTruce I) rfl (fun r16 I16 => ?_)
                              refine Ey.if_eq (M := mX7_count) (tgt := 162) (pc2 := 158) dX7_count_155 rfl (fun _ => ?_) rfl (fun _ => ?_)
                              · refine Ex.iconst (M := mX7_count) (pc2 := 163) dX7_count_162 ki_0 rfl ?_
                                exact Ey.ireturn (M := mX7_count) dX7_count_163 rfl rfl
                              · refine Ex.iconst (M := mX7_count) (pc2 := 159) dX7_count_158 ki_1 rfl ?_
                                refine Ex.goto (M := mX7_count) (tgt := 163) dX7_count_159 rfl ?_
                                exact Ey.ireturn (M := mX7_count) dX7_count_163 rfl rfl
                            · refine Ey.ite (fun hc4_14 => ?_) (fun hc4_14 => ?_)
                              · refine Ey.tcase (M := mX7_count) (c := 14) (off := 163) (tgt := 164) hc4_14 dX7_count_1 (by decide) (by decide) (by decide) rfl ?_
                                exact t_X7_count_164 _ _
                              · refine Ey.ite (fun hc4_15 => ?_) (fun hc4_15 => ?_)
                                · refine Ey.tcase (M := mX7_count) (c := 15) (off := 163) (tgt := 164) hc4_15 dX7_count_1 (by decide) (by decide) (by decide) rfl ?_
                                  exact t_X7_count_164 _ _
                                · refine Ey.ite (fun hc4_16 => ?_) (fun hc4_16 => ?_)
                                  · refine Ey.tcase (M := mX7_count) (c := 16) (off := 176) (tgt := 177) hc4_16 dX7_count_1 (by decide) (by decide) (by decide) rfl ?_
                                    exact t_X7_count_177 _ _
                                  · refine Ey.ite (fun hc4_17 => ?_) (fun hc4_17 => ?_)
                                    · refine Ey.tcase (M := mX7_count) (c := 17) (off := 176) (tgt := 177) hc4_17 dX7_count_1 (by decide) (by decide) (by decide) rfl ?_
                                      exact t_X7_count_177 _ _
                                    · refine Ey.ite (fun hc4_18 => ?_) (fun hc4_18 => ?_)
                                      · refine Ey.tcase (M := mX7_count) (c := 18) (off := 188) (tgt := 189) hc4_18 dX7_count_1 (by decide) (by decide) (by decide) rfl ?_
                                        refine Ex.aload_n (M := mX7_count) (pc2 := 190) dX7_count_189 rfl rfl rfl ?_
                                        refine Ex.getI (M := mX7_count) (pc2 := 193) dX7_count_190 xck7 lfX7_47 (Nat.le_of_ble_eq_true rfl) sh_69 rfl rfl ?_
                                        exact Ey.ireturn (M := mX7_count) dX7_count_193 rfl rfl
                                      · refine Ey.ite (fun hc4_19 => ?_) (fun hc4_19 => ?_)
                                        · refine Ey.tcase (M := mX7_count) (c := 19) (off := 193) (tgt := 194) hc4_19 dX7_count_1 (by decide) (by decide) (by decide) rfl ?_
                                          refine Ex.aload_n (M := mX7_count) (pc2 := 195) dX7_count_194 rfl rfl rfl ?_
                                          refine Ex.getI (M := mX7_count) (pc2 := 198) dX7_count_195 xck7 lfX7_129 (Nat.le_of_ble_eq_true rfl) sh_69 rfl rfl ?_
                                          exact Ey.ireturn (M := mX7_count) dX7_count_198 rfl rfl
                                        · refine Ex.tableOut (M := mX7_count) (tgt := 199) dX7_count_1 (xOut (n := 20) (by decide) (fun j hj => match j, hj with | 0, _ => xNe hc4_0 (by decide) | 1, _ => xNe hc4_1 (by decide) | 2, _ => xNe hc4_2 (by decide) | 3, _ => xNe hc4_3 (by decide) | 4, _ => xNe hc4_4 (by decide) | 5, _ => xNe hc4_5 (by decide) | 6, _ => xNe hc4_6 (by decide) | 7, _ => xNe hc4_7 (by decide) | 8, _ => xNe hc4_8 (by decide) | 9, _ => xNe hc4_9 (by decide) | 10, _ => xNe hc4_10 (by decide) | 11, _ => xNe hc4_11 (by decide) | 12, _ => xNe hc4_12 (by decide) | 13, _ => xNe hc4_13 (by decide) | 14, _ => xNe hc4_14 (by decide) | 15, _ => xNe hc4_15 (by decide) | 16, _ => xNe hc4_16 (by decide) | 17, _ => xNe hc4_17 (by decide) | 18, _ => xNe hc4_18 (by decide) | 19, _ => xNe hc4_19 (by decide) | j + 20, hj => absurd hj (by omega))) rfl ?_
                                          refine Ex.bipush (M := mX7_count) (pc2 := 201) dX7_count_199 kb_m2 rfl ?_
                                          exact Ey.ireturn (M := mX7_count) dX7_count_201 rfl rfl
