/-! FenceDuelLaw.law([I)Z -/
def f_L_law_195 (L : Nat) (xs : Nat → Int32) (k18 : Int32 → xI → Option (Int32 × xI)) (l3 : Int32) (s0 : Int32) (s1 : Int32) (s3 : Int32) (I : xI) : Option (Int32 × xI) :=
  if xin (l3 + (3 : Int32)) L then if xin (l3 + (4 : Int32)) L then xb (f_X7_writeEdge s1 s0 (xs (l3 + (3 : Int32)).toNatClampNeg) (xs (l3 + (4 : Int32)).toNatClampNeg) I) (fun r3 I3 => if s3 = r3 then k18 (l3 + 5) I3 else some ((0 : Int32), I3)) else none else none
theorem t_L_law_195 (L : Nat) (xs : Nat → Int32) (k18 : Int32 → xI → Option (Int32 × xI)) (hk18 : ∀ (l3 : Int32) (I : xI), Ey (some (L, xs)) mL_law 18 [some (.inr none), some (.inr (some 0)), some (.inr (some 69)), some (.inl l3)] [] I (k18 l3 I)) (l3 : Int32) (s0 : Int32) (s1 : Int32) (s3 : Int32) (I : xI) : Ey (some (L, xs)) mL_law 195 [some (.inr none), some (.inr (some 0)), some (.inr (some 69)), some (.inl l3)] [.inl s0, .inl s1, .inr (some 69), .inl s3] I (f_L_law_195 L xs k18 l3 s0 s1 s3 I) := by
  unfold f_L_law_195
  refine Ex.aload_n (M := mL_law) (pc2 := 196) dL_law_195 rfl rfl rfl ?_
  refine Ex.iload_n (M := mL_law) (pc2 := 197) dL_law_196 rfl rfl rfl ?_
  refine Ex.iconst (M := mL_law) (pc2 := 198) dL_law_197 ki_3 rfl ?_
  refine Ex.iadd (M := mL_law) (pc2 := 199) dL_law_198 rfl ?_
  refine Ey.guard (fun hz1 => ?_)
  refine Ex.sld (M := mL_law) (pc2 := 200) rfl dL_law_199 hz1 rfl ?_
  refine Ex.aload_n (M := mL_law) (pc2 := 201) dL_law_200 rfl rfl rfl ?_
  refine Ex.iload_n (M := mL_law) (pc2 := 202) dL_law_201 rfl rfl rfl ?_
  refine Ex.iconst (M := mL_law) (pc2 := 203) dL_law_202 ki_4 rfl ?_
  refine Ex.iadd (M := mL_law) (pc2 := 204) dL_law_203 rfl ?_
  refine Ey.guard (fun hz2 => ?_)
  refine Ex.sld (M := mL_law) (pc2 := 205) rfl dL_law_204 hz2 rfl ?_
  refine Ey.callVi (M := mL_law) (pc2 := 208) (as := [.inl s1, .inl s0, .inl (xs (l3 + (3 : Int32)).toNatClampNeg), .inl (xs (l3 + (4 : Int32)).toNatClampNeg)]) (rest := [.inl s3]) rfl dL_law_205 isX7_writeEdge lcL_17 sh_69 rfl rfl ⟨(Nat.le_of_ble_eq_true rfl), (Nat.le_of_ble_eq_true rfl)⟩ rfl (Nat.le_of_ble_eq_true rfl) (Nat.le_of_ble_eq_true rfl) (t_X7_writeEdge s1 s0 (xs (l3 + (3 : Int32)).toNatClampNeg) (xs (l3 + (4 : Int32)).toNatClampNeg) I) rfl (fun r3 I3 => ?_)
  refine Ey.icmp_eq (M := mL_law) (tgt := 800) (pc2 := 211) dL_law_208 rfl (fun _ => ?_) rfl (fun _ => ?_)
  · refine Ey.iinc (M := mL_law) (pc2 := 803) dL_law_800 rfl ki_5 (Nat.le_of_ble_eq_true rfl) rfl rfl ?_
    refine Ex.goto (M := mL_law) (tgt := 18) dL_law_803 rfl ?_
    exact hk18 _ _
  · refine Ex.iconst (M := mL_law) (pc2 := 212) dL_law_211 ki_0 rfl ?_
    exact Ey.ireturn (M := mL_law) dL_law_212 rfl (by decide)
def f_L_law_163 (L : Nat) (xs : Nat → Int32) (k18 : Int32 → xI → Option (Int32 × xI)) (l3 : Int32) (s0 : Int32) (s1 : Int32) (I : xI) : Option (Int32 × xI) :=
  if xin (l3 + (3 : Int32)) L then if xin (l3 + (4 : Int32)) L then xb (f_X6_writeEdge s1 s0 (xs (l3 + (3 : Int32)).toNatClampNeg) (xs (l3 + (4 : Int32)).toNatClampNeg) I) (fun r6 I6 => if xin (l3 + (1 : Int32)) L then if xin (l3 + (2 : Int32)) L then if (xs (l3 + (2 : Int32)).toNatClampNeg) = 0 then f_L_law_195 L xs k18 l3 (0 : Int32) (xs (l3 + (1 : Int32)).toNatClampNeg) r6 I6 else f_L_law_195 L xs k18 l3 (1 : Int32) (xs (l3 + (1 : Int32)).toNatClampNeg) r6 I6 else none else none) else none else none
theorem t_L_law_163 (L : Nat) (xs : Nat → Int32) (k18 : Int32 → xI → Option (Int32 × xI)) (hk18 : ∀ (l3 : Int32) (I : xI), Ey (some (L, xs)) mL_law 18 [some (.inr none), some (.inr (some 0)), some (.inr (some 69)), some (.inl l3)] [] I (k18 l3 I)) (l3 : Int32) (s0 : Int32) (s1 : Int32) (I : xI) : Ey (some (L, xs)) mL_law 163 [some (.inr none), some (.inr (some 0)), some (.inr (some 69)), some (.inl l3)] [.inl s0, .inl s1, .inr (some 0)] I (f_L_law_163 L xs k18 l3 s0 s1 I) := by
  unfold f_L_law_163
  refine Ex.aload_n (M := mL_law) (pc2 := 164) dL_law_163 rfl rfl rfl ?_
  refine Ex.iload_n (M := mL_law) (pc2 := 165) dL_law_164 rfl rfl rfl ?_
  refine Ex.iconst (M := mL_law) (pc2 := 166) dL_law_165 ki_3 rfl ?_
  refine Ex.iadd (M := mL_law) (pc2 := 167) dL_law_166 rfl ?_
  refine Ey.guard (fun hz4 => ?_)
  refine Ex.sld (M := mL_law) (pc2 := 168) rfl dL_law_167 hz4 rfl ?_
  refine Ex.aload_n (M := mL_law) (pc2 := 169) dL_law_168 rfl rfl rfl ?_
  refine Ex.iload_n (M := mL_law) (pc2 := 170) dL_law_169 rfl rfl rfl ?_
  refine Ex.iconst (M := mL_law) (pc2 := 171) dL_law_170 ki_4 rfl ?_
  refine Ex.iadd (M := mL_law) (pc2 := 172) dL_law_171 rfl ?_
  refine Ey.guard (fun hz5 => ?_)
  refine Ex.sld (M := mL_law) (pc2 := 173) rfl dL_law_172 hz5 rfl ?_
  refine Ey.callVi (M := mL_law) (pc2 := 176) (as := [.inl s1, .inl s0, .inl (xs (l3 + (3 : Int32)).toNatClampNeg), .inl (xs (l3 + (4 : Int32)).toNatClampNeg)]) (rest := []) rfl dL_law_173 isX6_writeEdge lcL_13 sh_0 rfl rfl ⟨(Nat.le_of_ble_eq_true rfl), (Nat.le_of_ble_eq_true rfl)⟩ rfl (Nat.le_of_ble_eq_true rfl) (Nat.le_of_ble_eq_true rfl) (t_X6_writeEdge s1 s0 (xs (l3 + (3 : Int32)).toNatClampNeg) (xs (l3 + (4 : Int32)).toNatClampNeg) I) rfl (fun r6 I6 => ?_)
  refine Ex.aload_n (M := mL_law) (pc2 := 177) dL_law_176 rfl rfl rfl ?_
  refine Ex.aload_n (M := mL_law) (pc2 := 178) dL_law_177 rfl rfl rfl ?_
  refine Ex.iload_n (M := mL_law) (pc2 := 179) dL_law_178 rfl rfl rfl ?_
  refine Ex.iconst (M := mL_law) (pc2 := 180) dL_law_179 ki_1 rfl ?_
  refine Ex.iadd (M := mL_law) (pc2 := 181) dL_law_180 rfl ?_
  refine Ey.guard (fun hz7 => ?_)
  refine Ex.sld (M := mL_law) (pc2 := 182) rfl dL_law_181 hz7 rfl ?_
  refine Ex.aload_n (M := mL_law) (pc2 := 183) dL_law_182 rfl rfl rfl ?_
  refine Ex.iload_n (M := mL_law) (pc2 := 184) dL_law_183 rfl rfl rfl ?_
  refine Ex.iconst (M := mL_law) (pc2 := 185) dL_law_184 ki_2 rfl ?_
  refine Ex.iadd (M := mL_law) (pc2 := 186) dL_law_185 rfl ?_
  refine Ey.guard (fun hz8 => ?_)
  refine Ex.sld (M := mL_law) (pc2 := 187) rfl dL_law_186 hz8 rfl ?_
  refine Ey.if_eq (M := mL_law) (tgt := 194) (pc2 := 190) dL_law_187 rfl (fun _ => ?_) rfl (fun _ => ?_)
  · refine Ex.iconst (M := mL_law) (pc2 := 195) dL_law_194 ki_0 rfl ?_
    exact t_L_law_195 L xs k18 hk18 _ _ _ _ _
  · refine Ex.iconst (M := mL_law) (pc2 := 191) dL_law_190 ki_1 rfl ?_
    refine Ex.goto (M := mL_law) (tgt := 195) dL_law_191 rfl ?_
    exact t_L_law_195 L xs k18 hk18 _ _ _ _ _
def f_L_law_667 (L : Nat) (xs : Nat → Int32) (k18 : Int32 → xI → Option (Int32 × xI)) (l3 : Int32) (s0 : Int32) (s2 : Int32) (I : xI) : Option (Int32 × xI) :=
  if xin (l3 + (2 : Int32)) L then if xin (l3 + (3 : Int32)) L then xb (f_X7_reasonEdge s0 (xs (l3 + (2 : Int32)).toNatClampNeg) (xs (l3 + (3 : Int32)).toNatClampNeg) I) (fun r11 I11 => if s2 = r11 then k18 (l3 + 5) I11 else some ((0 : Int32), I11)) else none else none
theorem t_L_law_667 (L : Nat) (xs : Nat → Int32) (k18 : Int32 → xI → Option (Int32 × xI)) (hk18 : ∀ (l3 : Int32) (I : xI), Ey (some (L, xs)) mL_law 18 [some (.inr none), some (.inr (some 0)), some (.inr (some 69)), some (.inl l3)] [] I (k18 l3 I)) (l3 : Int32) (s0 : Int32) (s2 : Int32) (I : xI) : Ey (some (L, xs)) mL_law 667 [some (.inr none), some (.inr (some 0)), some (.inr (some 69)), some (.inl l3)] [.inl s0, .inr (some 69), .inl s2] I (f_L_law_667 L xs k18 l3 s0 s2 I) := by
  unfold f_L_law_667
  refine Ex.aload_n (M := mL_law) (pc2 := 668) dL_law_667 rfl rfl rfl ?_
  refine Ex.iload_n (M := mL_law) (pc2 := 669) dL_law_668 rfl rfl rfl ?_
  refine Ex.iconst (M := mL_law) (pc2 := 670) dL_law_669 ki_2 rfl ?_
  refine Ex.iadd (M := mL_law) (pc2 := 671) dL_law_670 rfl ?_
  refine Ey.guard (fun hz9 => ?_)
  refine Ex.sld (M := mL_law) (pc2 := 672) rfl dL_law_671 hz9 rfl ?_
  refine Ex.aload_n (M := mL_law) (pc2 := 673) dL_law_672 rfl rfl rfl ?_
  refine Ex.iload_n (M := mL_law) (pc2 := 674) dL_law_673 rfl rfl rfl ?_
  refine Ex.iconst (M := mL_law) (pc2 := 675) dL_law_674 ki_3 rfl ?_
  refine Ex.iadd (M := mL_law) (pc2 := 676) dL_law_675 rfl ?_
  refine Ey.guard (fun hz10 => ?_)
  refine Ex.sld (M := mL_law) (pc2 := 677) rfl dL_law_676 hz10 rfl ?_
  refine Ey.callVi (M := mL_law) (pc2 := 680) (as := [.inl s0, .inl (xs (l3 + (2 : Int32)).toNatClampNeg), .inl (xs (l3 + (3 : Int32)).toNatClampNeg)]) (rest := [.inl s2]) rfl dL_law_677 isX7_reasonEdge lcL_94 sh_69 rfl rfl ⟨(Nat.le_of_ble_eq_true rfl), (Nat.le_of_ble_eq_true rfl)⟩ rfl (Nat.le_of_ble_eq_true rfl) (Nat.le_of_ble_eq_true rfl) (t_X7_reasonEdge s0 (xs (l3 + (2 : Int32)).toNatClampNeg) (xs (l3 + (3 : Int32)).toNatClampNeg) I) rfl (fun r11 I11 => ?_)
  refine Ey.icmp_eq (M := mL_law) (tgt := 800) (pc2 := 683) dL_law_680 rfl (fun _ => ?_) rfl (fun _ => ?_)
  · refine Ey.iinc (M := mL_law) (pc2 := 803) dL_law_800 rfl ki_5 (Nat.le_of_ble_eq_true rfl) rfl rfl ?_
    refine Ex.goto (M := mL_law) (tgt := 18) dL_law_803 rfl ?_
    exact hk18 _ _
  · refine Ex.iconst (M := mL_law) (pc2 := 684) dL_law_683 ki_0 rfl ?_
    exact Ey.ireturn (M := mL_law) dL_law_684 rfl (by decide)
def f_L_law_640 (L : Nat) (xs : Nat → Int32) (k18 : Int32 → xI → Option (Int32 × xI)) (l3 : Int32) (s0 : Int32) (I : xI) : Option (Int32 × xI) :=
  if xin (l3 + (2 : Int32)) L then if xin (l3 + (3 : Int32)) L then xb (f_X6_reasonEdge s0 (xs (l3 + (2 : Int32)).toNatClampNeg) (xs (l3 + (3 : Int32)).toNatClampNeg) I) (fun r14 I14 => if xin (l3 + (1 : Int32)) L then if (xs (l3 + (1 : Int32)).toNatClampNeg) = 0 then f_L_law_667 L xs k18 l3 (0 : Int32) r14 I14 else f_L_law_667 L xs k18 l3 (1 : Int32) r14 I14 else none) else none else none
theorem t_L_law_640 (L : Nat) (xs : Nat → Int32) (k18 : Int32 → xI → Option (Int32 × xI)) (hk18 : ∀ (l3 : Int32) (I : xI), Ey (some (L, xs)) mL_law 18 [some (.inr none), some (.inr (some 0)), some (.inr (some 69)), some (.inl l3)] [] I (k18 l3 I)) (l3 : Int32) (s0 : Int32) (I : xI) : Ey (some (L, xs)) mL_law 640 [some (.inr none), some (.inr (some 0)), some (.inr (some 69)), some (.inl l3)] [.inl s0, .inr (some 0)] I (f_L_law_640 L xs k18 l3 s0 I) := by
  unfold f_L_law_640
  refine Ex.aload_n (M := mL_law) (pc2 := 641) dL_law_640 rfl rfl rfl ?_
  refine Ex.iload_n (M := mL_law) (pc2 := 642) dL_law_641 rfl rfl rfl ?_
  refine Ex.iconst (M := mL_law) (pc2 := 643) dL_law_642 ki_2 rfl ?_
  refine Ex.iadd (M := mL_law) (pc2 := 644) dL_law_643 rfl ?_
  refine Ey.guard (fun hz12 => ?_)
  refine Ex.sld (M := mL_law) (pc2 := 645) rfl dL_law_644 hz12 rfl ?_
  refine Ex.aload_n (M := mL_law) (pc2 := 646) dL_law_645 rfl rfl rfl ?_
  refine Ex.iload_n (M := mL_law) (pc2 := 647) dL_law_646 rfl rfl rfl ?_
  refine Ex.iconst (M := mL_law) (pc2 := 648) dL_law_647 ki_3 rfl ?_
  refine Ex.iadd (M := mL_law) (pc2 := 649) dL_law_648 rfl ?_
  refine Ey.guard (fun hz13 => ?_)
  refine Ex.sld (M := mL_law) (pc2 := 650) rfl dL_law_649 hz13 rfl ?_
  refine Ey.callVi (M := mL_law) (pc2 := 653) (as := [.inl s0, .inl (xs (l3 + (2 : Int32)).toNatClampNeg), .inl (xs (l3 + (3 : Int32)).toNatClampNeg)]) (rest := []) rfl dL_law_650 isX6_reasonEdge lcL_90 sh_0 rfl rfl ⟨(Nat.le_of_ble_eq_true rfl), (Nat.le_of_ble_eq_true rfl)⟩ rfl (Nat.le_of_ble_eq_true rfl) (Nat.le_of_ble_eq_true rfl) (t_X6_reasonEdge s0 (xs (l3 + (2 : Int32)).toNatClampNeg) (xs (l3 + (3 : Int32)).toNatClampNeg) I) rfl (fun r14 I14 => ?_)
  refine Ex.aload_n (M := mL_law) (pc2 := 654) dL_law_653 rfl rfl rfl ?_
  refine Ex.aload_n (M := mL_law) (pc2 := 655) dL_law_654 rfl rfl rfl ?_
  refine Ex.iload_n (M := mL_law) (pc2 := 656) dL_law_655 rfl rfl rfl ?_
  refine Ex.iconst (M := mL_law) (pc2 := 657) dL_law_656 ki_1 rfl ?_
  refine Ex.iadd (M := mL_law) (pc2 := 658) dL_law_657 rfl ?_
  refine Ey.guard (fun hz15 => ?_)
  refine Ex.sld (M := mL_law) (pc2 := 659) rfl dL_law_658 hz15 rfl ?_
  refine Ey.if_eq (M := mL_law) (tgt := 666) (pc2 := 662) dL_law_659 rfl (fun _ => ?_) rfl (fun _ => ?_)
  · refine Ex.iconst (M := mL_law) (pc2 := 667) dL_law_666 ki_0 rfl ?_
    exact t_L_law_667 L xs k18 hk18 _ _ _ _
  · refine Ex.iconst (M := mL_law) (pc2 := 663) dL_law_662 ki_1 rfl ?_
    refine Ex.goto (M := mL_law) (tgt := 667) dL_law_663 rfl ?_
    exact t_L_law_667 L xs k18 hk18 _ _ _ _
def f_L_law_18b (L : Nat) (xs : Nat → Int32) (k18 : Int32 → xI → Option (Int32 × xI)) (l3 : Int32) (I : xI) : Option (Int32 × xI) :=
  if l3 > ((Int32.ofNat L) - (5 : Int32)) then some ((1 : Int32), I) else if xin l3 L then if ((xs l3.toNatClampNeg) &&& (31 : Int32)) = 0 then if xin (l3 + (1 : Int32)) L then if xin (l3 + (2 : Int32)) L then if (xs (l3 + (2 : Int32)).toNatClampNeg) = 0 then f_L_law_163 L xs k18 l3 (0 : Int32) (xs (l3 + (1 : Int32)).toNatClampNeg) I else f_L_law_163 L xs k18 l3 (1 : Int32) (xs (l3 + (1 : Int32)).toNatClampNeg) I else none else none else if ((xs l3.toNatClampNeg) &&& (31 : Int32)) = 1 then if xin (l3 + (1 : Int32)) L then if xin (l3 + (2 : Int32)) L then xb (f_X6_writeClaim (xs (l3 + (1 : Int32)).toNatClampNeg) (xs (l3 + (2 : Int32)).toNatClampNeg) I) (fun r22 I22 => if xin (l3 + (1 : Int32)) L then if xin (l3 + (2 : Int32)) L then xb (f_X7_writeClaim (xs (l3 + (1 : Int32)).toNatClampNeg) (xs (l3 + (2 : Int32)).toNatClampNeg) I22) (fun r25 I25 => if r22 = r25 then k18 (l3 + 5) I25 else some ((0 : Int32), I25)) else none else none) else none else none else if ((xs l3.toNatClampNeg) &&& (31 : Int32)) = 2 then if xin (l3 + (1 : Int32)) L then if xin (l3 + (2 : Int32)) L then xb (f_X6_writeTruce (xs (l3 + (1 : Int32)).toNatClampNeg) (xs (l3 + (2 : Int32)).toNatClampNeg) I) (fun r28 I28 => if xin (l3 + (1 : Int32)) L then if xin (l3 + (2 : Int32)) L then xb (f_X7_writeTruce (xs (l3 + (1 : Int32)).toNatClampNeg) (xs (l3 + (2 : Int32)).toNatClampNeg) I28) (fun r31 I31 => if r28 = r31 then k18 (l3 + 5) I31 else some ((0 : Int32), I31)) else none else none) else none else none else if ((xs l3.toNatClampNeg) &&& (31 : Int32)) = 3 then if xin (l3 + (1 : Int32)) L then xb (f_X6_callBack (xs (l3 + (1 : Int32)).toNatClampNeg) I) (fun r33 I33 => if xin (l3 + (1 : Int32)) L then xb (f_X7_callBack (xs (l3 + (1 : Int32)).toNatClampNeg) I33) (fun r35 I35 => if r33 = r35 then k18 (l3 + 5) I35 else some ((0 : Int32), I35)) else none) else none else if ((xs l3.toNatClampNeg) &&& (31 : Int32)) = 4 then if xin (l3 + (1 : Int32)) L then xb (f_X6_pass (xs (l3 + (1 : Int32)).toNatClampNeg) I) (fun r37 I37 => if xin (l3 + (1 : Int32)) L then xb (f_X7_pass (xs (l3 + (1 : Int32)).toNatClampNeg) I37) (fun r39 I39 => if r37 = r39 then k18 (l3 + 5) I39 else some ((0 : Int32), I39)) else none) else none else if ((xs l3.toNatClampNeg) &&& (31 : Int32)) = 5 then if xin (l3 + (1 : Int32)) L then if xin (l3 + (2 : Int32)) L then xb (f_X6_set (xs (l3 + (1 : Int32)).toNatClampNeg) (xs (l3 + (2 : Int32)).toNatClampNeg) I) (fun r42 I42 => if xin (l3 + (1 : Int32)) L then if xin (l3 + (2 : Int32)) L then xb (f_X7_set (xs (l3 + (1 : Int32)).toNatClampNeg) (xs (l3 + (2 : Int32)).toNatClampNeg) I42) (fun r45 I45 => if r42 = r45 then k18 (l3 + 5) I45 else some ((0 : Int32), I45)) else none else none) else none else none else if ((xs l3.toNatClampNeg) &&& (31 : Int32)) = 6 then if xin (l3 + (1 : Int32)) L then xb (f_X6_type ((((xs (l3 + (1 : Int32)).toNatClampNeg)).toUInt32 % 65536).toInt32) I) (fun r47 I47 => if xin (l3 + (1 : Int32)) L then xb (f_X7_type ((((xs (l3 + (1 : Int32)).toNatClampNeg)).toUInt32 % 65536).toInt32) I47) (fun r49 I49 => if r47 = r49 then k18 (l3 + 5) I49 else some ((0 : Int32), I49)) else none) else none else if ((xs l3.toNatClampNeg) &&& (31 : Int32)) = 7 then xb (f_X6_clearText I) (fun r50 I50 => xb (f_X7_clearText I50) (fun r51 I51 => if r50 = r51 then k18 (l3 + 5) I51 else some ((0 : Int32), I51))) else if ((xs l3.toNatClampNeg) &&& (31 : Int32)) = 8 then xb (f_X6_perform I) (fun r52 I52 => xb (f_X7_perform I52) (fun r53 I53 => if r52 = r53 then k18 (l3 + 5) I53 else some ((0 : Int32), I53))) else if ((xs l3.toNatClampNeg) &&& (31 : Int32)) = 9 then if xin (l3 + (1 : Int32)) L then xb (f_X6_stopped (xs (l3 + (1 : Int32)).toNatClampNeg) I) (fun r55 I55 => if xin (l3 + (1 : Int32)) L then xb (f_X7_stopped (xs (l3 + (1 : Int32)).toNatClampNeg) I55) (fun r57 I57 => if r55 = r57 then k18 (l3 + 5) I57 else some ((0 : Int32), I57)) else none) else none else if ((xs l3.toNatClampNeg) &&& (31 : Int32)) = 10 then xb (f_X6_undo I) (fun r58 I58 => xb (f_X7_undo I58) (fun r59 I59 => if r58 = r59 then k18 (l3 + 5) I59 else some ((0 : Int32), I59))) else if ((xs l3.toNatClampNeg) &&& (31 : Int32)) = 11 then xb (f_X6_keep I) (fun r60 I60 => xb (f_X7_keep I60) (fun r61 I61 => if r60 = r61 then k18 (l3 + 5) I61 else some ((0 : Int32), I61))) else if ((xs l3.toNatClampNeg) &&& (31 : Int32)) = 12 then xb (f_X6_restore I) (fun r62 I62 => xb (f_X7_restore I62) (fun r63 I63 => if r62 = r63 then k18 (l3 + 5) I63 else some ((0 : Int32), I63))) else if ((xs l3.toNatClampNeg) &&& (31 : Int32)) = 13 then if xin (l3 + (1 : Int32)) L then if xin (l3 + (2 : Int32)) L then xb (f_X6_edge (xs (l3 + (1 : Int32)).toNatClampNeg) (xs (l3 + (2 : Int32)).toNatClampNeg) I) (fun r66 I66 => if xin (l3 + (1 : Int32)) L then if xin (l3 + (2 : Int32)) L then xb (f_X7_edge (xs (l3 + (1 : Int32)).toNatClampNeg) (xs (l3 + (2 : Int32)).toNatClampNeg) I66) (fun r69 I69 => if r66 = r69 then k18 (l3 + 5) I69 else some ((0 : Int32), I69)) else none else none) else none else none else if ((xs l3.toNatClampNeg) &&& (31 : Int32)) = 14 then if xin (l3 + (1 : Int32)) L then if xin (l3 + (2 : Int32)) L then xb (f_X6_field (xs (l3 + (1 : Int32)).toNatClampNeg) (xs (l3 + (2 : Int32)).toNatClampNeg) I) (fun r72 I72 => if xin (l3 + (1 : Int32)) L then if xin (l3 + (2 : Int32)) L then xb (f_X7_field (xs (l3 + (1 : Int32)).toNatClampNeg) (xs (l3 + (2 : Int32)).toNatClampNeg) I72) (fun r75 I75 => if r72 = r75 then k18 (l3 + 5) I75 else some ((0 : Int32), I75)) else none else none) else none else none else if ((xs l3.toNatClampNeg) &&& (31 : Int32)) = 15 then if xin (l3 + (1 : Int32)) L then xb (f_X6_joined (xs (l3 + (1 : Int32)).toNatClampNeg) I) (fun r77 I77 => if xin (l3 + (1 : Int32)) L then xb (f_X7_joined (xs (l3 + (1 : Int32)).toNatClampNeg) I77) (fun r79 I79 => if r77 = r79 then k18 (l3 + 5) I79 else some ((0 : Int32), I79)) else none) else none else if ((xs l3.toNatClampNeg) &&& (31 : Int32)) = 16 then if xin (l3 + (1 : Int32)) L then if xin (l3 + (2 : Int32)) L then xb (f_X6_letter (xs (l3 + (1 : Int32)).toNatClampNeg) (xs (l3 + (2 : Int32)).toNatClampNeg) I) (fun r82 I82 => if xin (l3 + (1 : Int32)) L then if xin (l3 + (2 : Int32)) L then xb (f_X7_letter (xs (l3 + (1 : Int32)).toNatClampNeg) (xs (l3 + (2 : Int32)).toNatClampNeg) I82) (fun r85 I85 => if r82 = r85 then k18 (l3 + 5) I85 else some ((0 : Int32), I85)) else none else none) else none else none else if ((xs l3.toNatClampNeg) &&& (31 : Int32)) = 17 then if xin (l3 + (1 : Int32)) L then if xin (l3 + (2 : Int32)) L then xb (f_X6_crossed (xs (l3 + (1 : Int32)).toNatClampNeg) (xs (l3 + (2 : Int32)).toNatClampNeg) I) (fun r88 I88 => if xin (l3 + (1 : Int32)) L then if xin (l3 + (2 : Int32)) L then xb (f_X7_crossed (xs (l3 + (1 : Int32)).toNatClampNeg) (xs (l3 + (2 : Int32)).toNatClampNeg) I88) (fun r91 I91 => if r88 = r91 then k18 (l3 + 5) I91 else some ((0 : Int32), I91)) else none else none) else none else none else if ((xs l3.toNatClampNeg) &&& (31 : Int32)) = 18 then if xin (l3 + (1 : Int32)) L then if (xs (l3 + (1 : Int32)).toNatClampNeg) = 0 then f_L_law_640 L xs k18 l3 (0 : Int32) I else f_L_law_640 L xs k18 l3 (1 : Int32) I else none else if ((xs l3.toNatClampNeg) &&& (31 : Int32)) = 19 then if xin (l3 + (1 : Int32)) L then xb (f_X6_reasonClaim (xs (l3 + (1 : Int32)).toNatClampNeg) I) (fun r94 I94 => if xin (l3 + (1 : Int32)) L then xb (f_X7_reasonClaim (xs (l3 + (1 : Int32)).toNatClampNeg) I94) (fun r96 I96 => if r94 = r96 then k18 (l3 + 5) I96 else some ((0 : Int32), I96)) else none) else none else if ((xs l3.toNatClampNeg) &&& (31 : Int32)) = 20 then if xin (l3 + (1 : Int32)) L then xb (f_X6_next (xs (l3 + (1 : Int32)).toNatClampNeg) I) (fun r98 I98 => if xin (l3 + (1 : Int32)) L then xb (f_X7_next (xs (l3 + (1 : Int32)).toNatClampNeg) I98) (fun r100 I100 => if r98 = r100 then k18 (l3 + 5) I100 else some ((0 : Int32), I100)) else none) else none else if ((xs l3.toNatClampNeg) &&& (31 : Int32)) = 21 then if xin (l3 + (1 : Int32)) L then xb (f_X6_ifAllCome (xs (l3 + (1 : Int32)).toNatClampNeg) I) (fun r102 I102 => if xin (l3 + (1 : Int32)) L then xb (f_X7_ifAllCome (xs (l3 + (1 : Int32)).toNatClampNeg) I102) (fun r104 I104 => if r102 = r104 then k18 (l3 + 5) I104 else some ((0 : Int32), I104)) else none) else none else if ((xs l3.toNatClampNeg) &&& (31 : Int32)) = 22 then if xin (l3 + (1 : Int32)) L then xb (f_X6_bestClaim (xs (l3 + (1 : Int32)).toNatClampNeg) I) (fun r106 I106 => if xin (l3 + (1 : Int32)) L then xb (f_X7_bestClaim (xs (l3 + (1 : Int32)).toNatClampNeg) I106) (fun r108 I108 => if r106 = r108 then k18 (l3 + 5) I108 else some ((0 : Int32), I108)) else none) else none else if ((xs l3.toNatClampNeg) &&& (31 : Int32)) = 23 then if xin (l3 + (1 : Int32)) L then xb (f_X6_count (xs (l3 + (1 : Int32)).toNatClampNeg) I) (fun r110 I110 => if xin (l3 + (1 : Int32)) L then xb (f_X7_count (xs (l3 + (1 : Int32)).toNatClampNeg) I110) (fun r112 I112 => if r110 = r112 then k18 (l3 + 5) I112 else some ((0 : Int32), I112)) else none) else none else k18 (l3 + 5) I else none
theorem t_L_law_18b (L : Nat) (xs : Nat → Int32) (k18 : Int32 → xI → Option (Int32 × xI)) (hk18 : ∀ (l3 : Int32) (I : xI), Ey (some (L, xs)) mL_law 18 [some (.inr none), some (.inr (some 0)), some (.inr (some 69)), some (.inl l3)] [] I (k18 l3 I)) (l3 : Int32) (I : xI) : Ey (some (L, xs)) mL_law 18 [some (.inr none), some (.inr (some 0)), some (.inr (some 69)), some (.inl l3)] [] I (f_L_law_18b L xs k18 l3 I) := by
  unfold f_L_law_18b
  refine Ex.iload_n (M := mL_law) (pc2 := 19) dL_law_18 rfl rfl rfl ?_
  refine Ex.aload_n (M := mL_law) (pc2 := 20) dL_law_19 rfl rfl rfl ?_
  refine Ex.slen (M := mL_law) (pc2 := 21) rfl dL_law_20 rfl ?_
  refine Ex.iconst (M := mL_law) (pc2 := 22) dL_law_21 ki_5 rfl ?_
  refine Ex.isub (M := mL_law) (pc2 := 23) dL_law_22 rfl ?_
  refine Ey.icmp_gt (M := mL_law) (tgt := 806) (pc2 := 26) dL_law_23 rfl (fun _ => ?_) rfl (fun _ => ?_)
  · refine Ex.iconst (M := mL_law) (pc2 := 807) dL_law_806 ki_1 rfl ?_
    exact Ey.ireturn (M := mL_law) dL_law_807 rfl (by decide)
  · refine Ex.aload_n (M := mL_law) (pc2 := 27) dL_law_26 rfl rfl rfl ?_
    refine Ex.iload_n (M := mL_law) (pc2 := 28) dL_law_27 rfl rfl rfl ?_
    refine Ey.guard (fun hz16 => ?_)
    refine Ex.sld (M := mL_law) (pc2 := 29) rfl dL_law_28 hz16 rfl ?_
    refine Ex.bipush (M := mL_law) (pc2 := 31) dL_law_29 kb_31 rfl ?_
    refine Ex.iand (M := mL_law) (pc2 := 32) dL_law_31 rfl ?_
    refine Ey.ite (fun hc17_0 => ?_) (fun hc17_0 => ?_)
    · refine Ey.tcase (M := mL_law) (c := 0) (off := 112) (tgt := 144) hc17_0 dL_law_32 (by decide) (by decide) (by decide) rfl ?_
      refine Ex.aload_n (M := mL_law) (pc2 := 145) dL_law_144 rfl rfl rfl ?_
      refine Ex.aload_n (M := mL_law) (pc2 := 146) dL_law_145 rfl rfl rfl ?_
      refine Ex.iload_n (M := mL_law) (pc2 := 147) dL_law_146 rfl rfl rfl ?_
      refine Ex.iconst (M := mL_law) (pc2 := 148) dL_law_147 ki_1 rfl ?_
      refine Ex.iadd (M := mL_law) (pc2 := 149) dL_law_148 rfl ?_
      refine Ey.guard (fun hz18 => ?_)
      refine Ex.sld (M := mL_law) (pc2 := 150) rfl dL_law_149 hz18 rfl ?_
      refine Ex.aload_n (M := mL_law) (pc2 := 151) dL_law_150 rfl rfl rfl ?_
      refine Ex.iload_n (M := mL_law) (pc2 := 152) dL_law_151 rfl rfl rfl ?_
      refine Ex.iconst (M := mL_law) (pc2 := 153) dL_law_152 ki_2 rfl ?_
      refine Ex.iadd (M := mL_law) (pc2 := 154) dL_law_153 rfl ?_
      refine Ey.guard (fun hz19 => ?_)
      refine Ex.sld (M := mL_law) (pc2 := 155) rfl dL_law_154 hz19 rfl ?_
      refine Ey.if_eq (M := mL_law) (tgt := 162) (pc2 := 158) dL_law_155 rfl (fun _ => ?_) rfl (fun _ => ?_)
      · refine Ex.iconst (M := mL_law) (pc2 := 163) dL_law_162 ki_0 rfl ?_
        exact t_L_law_163 L xs k18 hk18 _ _ _ _
      · refine Ex.iconst (M := mL_law) (pc2 := 159) dL_law_158 ki_1 rfl ?_
        refine Ex.goto (M := mL_law) (tgt := 163) dL_law_159 rfl ?_
        exact t_L_law_163 L xs k18 hk18 _ _ _ _
    · refine Ey.ite (fun hc17_1 => ?_) (fun hc17_1 => ?_)
      · refine Ey.tcase (M := mL_law) (c := 1) (off := 181) (tgt := 213) hc17_1 dL_law_32 (by decide) (by decide) (by decide) rfl ?_
        refine Ex.aload_n (M := mL_law) (pc2 := 214) dL_law_213 rfl rfl rfl ?_
        refine Ex.aload_n (M := mL_law) (pc2 := 215) dL_law_214 rfl rfl rfl ?_
        refine Ex.iload_n (M := mL_law) (pc2 := 216) dL_law_215 rfl rfl rfl ?_
        refine Ex.iconst (M := mL_law) (pc2 := 217) dL_law_216 ki_1 rfl ?_
        refine Ex.iadd (M := mL_law) (pc2 := 218) dL_law_217 rfl ?_
        refine Ey.guard (fun hz20 => ?_)
        refine Ex.sld (M := mL_law) (pc2 := 219) rfl dL_law_218 hz20 rfl ?_
        refine Ex.aload_n (M := mL_law) (pc2 := 220) dL_law_219 rfl rfl rfl ?_
        refine Ex.iload_n (M := mL_law) (pc2 := 221) dL_law_220 rfl rfl rfl ?_
        refine Ex.iconst (M := mL_law) (pc2 := 222) dL_law_221 ki_2 rfl ?_
        refine Ex.iadd (M := mL_law) (pc2 := 223) dL_law_222 rfl ?_
        refine Ey.guard (fun hz21 => ?_)
        refine Ex.sld (M := mL_law) (pc2 := 224) rfl dL_law_223 hz21 rfl ?_
        refine Ey.callVi (M := mL_law) (pc2 := 227) (as := [.inl (xs (l3 + (1 : Int32)).toNatClampNeg), .inl (xs (l3 + (2 : Int32)).toNatClampNeg)]) (rest := []) rfl dL_law_224 isX6_writeClaim lcL_18 sh_0 rfl rfl ⟨(Nat.le_of_ble_eq_true rfl), (Nat.le_of_ble_eq_true rfl)⟩ rfl (Nat.le_of_ble_eq_true rfl) (Nat.le_of_ble_eq_true rfl) (t_X6_writeClaim (xs (l3 + (1 : Int32)).toNatClampNeg) (xs (l3 + (2 : Int32)).toNatClampNeg) I) rfl (fun r22 I22 => ?_)
        refine Ex.aload_n (M := mL_law) (pc2 := 228) dL_law_227 rfl rfl rfl ?_
        refine Ex.aload_n (M := mL_law) (pc2 := 229) dL_law_228 rfl rfl rfl ?_
        refine Ex.iload_n (M := mL_law) (pc2 := 230) dL_law_229 rfl rfl rfl ?_
        refine Ex.iconst (M := mL_law) (pc2 := 231) dL_law_230 ki_1 rfl ?_
        refine Ex.iadd (M := mL_law) (pc2 := 232) dL_law_231 rfl ?_
        refine Ey.guard (fun hz23 => ?_)
        refine Ex.sld (M := mL_law) (pc2 := 233) rfl dL_law_232 hz23 rfl ?_
        refine Ex.aload_n (M := mL_law) (pc2 := 234) dL_law_233 rfl rfl rfl ?_
        refine Ex.iload_n (M := mL_law) (pc2 := 235) dL_law_234 rfl rfl rfl ?_
        refine Ex.iconst (M := mL_law) (pc2 := 236) dL_law_235 ki_2 rfl ?_
        refine Ex.iadd (M := mL_law) (pc2 := 237) dL_law_236 rfl ?_
        refine Ey.guard (fun hz24 => ?_)
        refine Ex.sld (M := mL_law) (pc2 := 238) rfl dL_law_237 hz24 rfl ?_
        refine Ey.callVi (M := mL_law) (pc2 := 241) (as := [.inl (xs (l3 + (1 : Int32)).toNatClampNeg), .inl (xs (l3 + (2 : Int32)).toNatClampNeg)]) (rest := [.inl r22]) rfl dL_law_238 isX7_writeClaim lcL_22 sh_69 rfl rfl ⟨(Nat.le_of_ble_eq_true rfl), (Nat.le_of_ble_eq_true rfl)⟩ rfl (Nat.le_of_ble_eq_true rfl) (Nat.le_of_ble_eq_true rfl) (t_X7_writeClaim (xs (l3 + (1 : Int32)).toNatClampNeg) (xs (l3 + (2 : Int32)).toNatClampNeg) I22) rfl (fun r25 I25 => ?_)
        refine Ey.icmp_eq (M := mL_law) (tgt := 800) (pc2 := 244) dL_law_241 rfl (fun _ => ?_) rfl (fun _ => ?_)
        · refine Ey.iinc (M := mL_law) (pc2 := 803) dL_law_800 rfl ki_5 (Nat.le_of_ble_eq_true rfl) rfl rfl ?_
          refine Ex.goto (M := mL_law) (tgt := 18) dL_law_803 rfl ?_
          exact hk18 _ _
        · refine Ex.iconst (M := mL_law) (pc2 := 245) dL_law_244 ki_0 rfl ?_
          exact Ey.ireturn (M := mL_law) dL_law_245 rfl (by decide)
      · refine Ey.ite (fun hc17_2 => ?_) (fun hc17_2 => ?_)
        · refine Ey.tcase (M := mL_law) (c := 2) (off := 214) (tgt := 246) hc17_2 dL_law_32 (by decide) (by decide) (by decide) rfl ?_
          refine Ex.aload_n (M := mL_law) (pc2 := 247) dL_law_246 rfl rfl rfl ?_
          refine Ex.aload_n (M := mL_law) (pc2 := 248) dL_law_247 rfl rfl rfl ?_
          refine Ex.iload_n (M := mL_law) (pc2 := 249) dL_law_248 rfl rfl rfl ?_
          refine Ex.iconst (M := mL_law) (pc2 := 250) dL_law_249 ki_1 rfl ?_
          refine Ex.iadd (M := mL_law) (pc2 := 251) dL_law_250 rfl ?_
          refine Ey.guard (fun hz26 => ?_)
          refine Ex.sld (M := mL_law) (pc2 := 252) rfl dL_law_251 hz26 rfl ?_
          refine Ex.aload_n (M := mL_law) (pc2 := 253) dL_law_252 rfl rfl rfl ?_
          refine Ex.iload_n (M := mL_law) (pc2 := 254) dL_law_253 rfl rfl rfl ?_
          refine Ex.iconst (M := mL_law) (pc2 := 255) dL_law_254 ki_2 rfl ?_
          refine Ex.iadd (M := mL_law) (pc2 := 256) dL_law_255 rfl ?_
          refine Ey.guard (fun hz27 => ?_)
          refine Ex.sld (M := mL_law) (pc2 := 257) rfl dL_law_256 hz27 rfl ?_
          refine Ey.callVi (M := mL_law) (pc2 := 260) (as := [.inl (xs (l3 + (1 : Int32)).toNatClampNeg), .inl (xs (l3 + (2 : Int32)).toNatClampNeg)]) (rest := []) rfl dL_law_257 isX6_writeTruce lcL_23 sh_0 rfl rfl ⟨(Nat.le_of_ble_eq_true rfl), (Nat.le_of_ble_eq_true rfl)⟩ rfl (Nat.le_of_ble_eq_true rfl) (Nat.le_of_ble_eq_true rfl) (t_X6_writeTruce (xs (l3 + (1 : Int32)).toNatClampNeg) (xs (l3 + (2 : Int32)).toNatClampNeg) I) rfl (fun r28 I28 => ?_)
          refine Ex.aload_n (M := mL_law) (pc2 := 261) dL_law_260 rfl rfl rfl ?_
          refine Ex.aload_n (M := mL_law) (pc2 := 262) dL_law_261 rfl rfl rfl ?_
          refine Ex.iload_n (M := mL_law) (pc2 := 263) dL_law_262 rfl rfl rfl ?_
          refine Ex.iconst (M := mL_law) (pc2 := 264) dL_law_263 ki_1 rfl ?_
          refine Ex.iadd (M := mL_law) (pc2 := 265) dL_law_264 rfl ?_
          refine Ey.guard (fun hz29 => ?_)
          refine Ex.sld (M := mL_law) (pc2 := 266) rfl dL_law_265 hz29 rfl ?_
          refine Ex.aload_n (M := mL_law) (pc2 := 267) dL_law_266 rfl rfl rfl ?_
          refine Ex.iload_n (M := mL_law) (pc2 := 268) dL_law_267 rfl rfl rfl ?_
          refine Ex.iconst (M := mL_law) (pc2 := 269) dL_law_268 ki_2 rfl ?_
          refine Ex.iadd (M := mL_law) (pc2 := 270) dL_law_269 rfl ?_
          refine Ey.guard (fun hz30 => ?_)
          refine Ex.sld (M := mL_law) (pc2 := 271) rfl dL_law_270 hz30 rfl ?_
          refine Ey.callVi (M := mL_law) (pc2 := 274) (as := [.inl (xs (l3 + (1 : Int32)).toNatClampNeg), .inl (xs (l3 + (2 : Int32)).toNatClampNeg)]) (rest := [.inl r28]) rfl dL_law_271 isX7_writeTruce lcL_26 sh_69 rfl rfl ⟨(Nat.le_of_ble_eq_true rfl), (Nat.le_of_ble_eq_true rfl)⟩ rfl (Nat.le_of_ble_eq_true rfl) (Nat.le_of_ble_eq_true rfl) (t_X7_writeTruce (xs (l3 + (1 : Int32)).toNatClampNeg) (xs (l3 + (2 : Int32)).toNatClampNeg) I28) rfl (fun r31 I31 => ?_)
          refine Ey.icmp_eq (M := mL_law) (tgt := 800) (pc2 := 277) dL_law_274 rfl (fun _ => ?_) rfl (fun _ => ?_)
          · refine Ey.iinc (M := mL_law) (pc2 := 803) dL_law_800 rfl ki_5 (Nat.le_of_ble_eq_true rfl) rfl rfl ?_
            refine Ex.goto (M := mL_law) (tgt := 18) dL_law_803 rfl ?_
            exact hk18 _ _
          · refine Ex.iconst (M := mL_law) (pc2 := 278) dL_law_277 ki_0 rfl ?_
            exact Ey.ireturn (M := mL_law) dL_law_278 rfl (by decide)
        · refine Ey.ite (fun hc17_3 => ?_) (fun hc17_3 => ?_)
          · refine Ey.tcase (M := mL_law) (c := 3) (off := 247) (tgt := 279) hc17_3 dL_law_32 (by decide) (by decide) (by decide) rfl ?_
            refine Ex.aload_n (M := mL_law) (pc2 := 280) dL_law_279 rfl rfl rfl ?_
            refine Ex.aload_n (M := mL_law) (pc2 := 281) dL_law_280 rfl rfl rfl ?_
            refine Ex.iload_n (M := mL_law) (pc2 := 282) dL_law_281 rfl rfl rfl ?_
            refine Ex.iconst (M := mL_law) (pc2 := 283) dL_law_282 ki_1 rfl ?_
            refine Ex.iadd (M := mL_law) (pc2 := 284) dL_law_283 rfl ?_
            refine Ey.guard (fun hz32 => ?_)
            refine Ex.sld (M := mL_law) (pc2 := 285) rfl dL_law_284 hz32 rfl ?_
            refine Ey.callVi (M := mL_law) (pc2 := 288) (as := [.inl (xs (l3 + (1 : Int32)).toNatClampNeg)]) (rest := []) rfl dL_law_285 isX6_callBack lcL_27 sh_0 rfl rfl ⟨(Nat.le_of_ble_eq_true rfl), (Nat.le_of_ble_eq_true rfl)⟩ rfl (Nat.le_of_ble_eq_true rfl) (Nat.le_of_ble_eq_true rfl) (t_X6_callBack (xs (l3 + (1 : Int32)).toNatClampNeg) I) rfl (fun r33 I33 => ?_)
            refine Ex.aload_n (M := mL_law) (pc2 := 289) dL_law_288 rfl rfl rfl ?_
            refine Ex.aload_n (M := mL_law) (pc2 := 290) dL_law_289 rfl rfl rfl ?_
            refine Ex.iload_n (M := mL_law) (pc2 := 291) dL_law_290 rfl rfl rfl ?_
            refine Ex.iconst (M := mL_law) (pc2 := 292) dL_law_291 ki_1 rfl ?_
            refine Ex.iadd (M := mL_law) (pc2 := 293) dL_law_292 rfl ?_
            refine Ey.guard (fun hz34 => ?_)
            refine Ex.sld (M := mL_law) (pc2 := 294) rfl dL_law_293 hz34 rfl ?_
            refine Ey.callVi (M := mL_law) (pc2 := 297) (as := [.inl (xs (l3 + (1 : Int32)).toNatClampNeg)]) (rest := [.inl r33]) rfl dL_law_294 isX7_callBack lcL_31 sh_69 rfl rfl ⟨(Nat.le_of_ble_eq_true rfl), (Nat.le_of_ble_eq_true rfl)⟩ rfl (Nat.le_of_ble_eq_true rfl) (Nat.le_of_ble_eq_true rfl) (t_X7_callBack (xs (l3 + (1 : Int32)).toNatClampNeg) I33) rfl (fun r35 I35 => ?_)
            refine Ey.icmp_eq (M := mL_law) (tgt := 800) (pc2 := 300) dL_law_297 rfl (fun _ => ?_) rfl (fun _ => ?_)
            · refine Ey.iinc (M := mL_law) (pc2 := 803) dL_law_800 rfl ki_5 (Nat.le_of_ble_eq_true rfl) rfl rfl ?_
              refine Ex.goto (M := mL_law) (tgt := 18) dL_law_803 rfl ?_
              exact hk18 _ _
            · refine Ex.iconst (M := mL_law) (pc2 := 301) dL_law_300 ki_0 rfl ?_
              exact Ey.ireturn (M := mL_law) dL_law_301 rfl (by decide)
          · refine Ey.ite (fun hc17_4 => ?_) (fun hc17_4 => ?_)
            · refine Ey.tcase (M := mL_law) (c := 4) (off := 270) (tgt := 302) hc17_4 dL_law_32 (by decide) (by decide) (by decide) rfl ?_
              refine Ex.aload_n (M := mL_law) (pc2 := 303) dL_law_302 rfl rfl rfl ?_
              refine Ex.aload_n (M := mL_law) (pc2 := 304) dL_law_303 rfl rfl rfl ?_
              refine Ex.iload_n (M := mL_law) (pc2 := 305) dL_law_304 rfl rfl rfl ?_
              refine Ex.iconst (M := mL_law) (pc2 := 306) dL_law_305 ki_1 rfl ?_
              refine Ex.iadd (M := mL_law) (pc2 := 307) dL_law_306 rfl ?_
              refine Ey.guard (fun hz36 => ?_)
              refine Ex.sld (M := mL_law) (pc2 := 308) rfl dL_law_307 hz36 rfl ?_
              refine Ey.callVi (M := mL_law) (pc2 := 311) (as := [.inl (xs (l3 + (1 : Int32)).toNatClampNeg)]) (rest := []) rfl dL_law_308 isX6_pass lcL_32 sh_0 rfl rfl ⟨(Nat.le_of_ble_eq_true rfl), (Nat.le_of_ble_eq_true rfl)⟩ rfl (Nat.le_of_ble_eq_true rfl) (Nat.le_of_ble_eq_true rfl) (t_X6_pass (xs (l3 + (1 : Int32)).toNatClampNeg) I) rfl (fun r37 I37 => ?_)
              refine Ex.aload_n (M := mL_law) (pc2 := 312) dL_law_311 rfl rfl rfl ?_
              refine Ex.aload_n (M := mL_law) (pc2 := 313) dL_law_312 rfl rfl rfl ?_
              refine Ex.iload_n (M := mL_law) (pc2 := 314) dL_law_313 rfl rfl rfl ?_
              refine Ex.iconst (M := mL_law) (pc2 := 315) dL_law_314 ki_1 rfl ?_
              refine Ex.iadd (M := mL_law) (pc2 := 316) dL_law_315 rfl ?_
              refine Ey.guard (fun hz38 => ?_)
              refine Ex.sld (M := mL_law) (pc2 := 317) rfl dL_law_316 hz38 rfl ?_
              refine Ey.callVi (M := mL_law) (pc2 := 320) (as := [.inl (xs (l3 + (1 : Int32)).toNatClampNeg)]) (rest := [.inl r37]) rfl dL_law_317 isX7_pass lcL_35 sh_69 rfl rfl ⟨(Nat.le_of_ble_eq_true rfl), (Nat.le_of_ble_eq_true rfl)⟩ rfl (Nat.le_of_ble_eq_true rfl) (Nat.le_of_ble_eq_true rfl) (t_X7_pass (xs (l3 + (1 : Int32)).toNatClampNeg) I37) rfl (fun r39 I39 => ?_)
              refine Ey.icmp_eq (M := mL_law) (tgt := 800) (pc2 := 323) dL_law_320 rfl (fun _ => ?_) rfl (fun _ => ?_)
              · refine Ey.iinc (M := mL_law) (pc2 := 803) dL_law_800 rfl ki_5 (Nat.le_of_ble_eq_true rfl) rfl rfl ?_
                refine Ex.goto (M := mL_law) (tgt := 18) dL_law_803 rfl ?_
                exact hk18 _ _
              · refine Ex.iconst (M := mL_law) (pc2 := 324) dL_law_323 ki_0 rfl ?_
                exact Ey.ireturn (M := mL_law) dL_law_324 rfl (by decide)
            · refine Ey.ite (fun hc17_5 => ?_) (fun hc17_5 => ?_)
              · refine Ey.tcase (M := mL_law) (c := 5) (off := 293) (tgt := 325) hc17_5 dL_law_32 (by decide) (by decide) (by decide) rfl ?_
                refine Ex.aload_n (M := mL_law) (pc2 := 326) dL_law_325 rfl rfl rfl ?_
                refine Ex.aload_n (M := mL_law) (pc2 := 327) dL_law_326 rfl rfl rfl ?_
                refine Ex.iload_n (M := mL_law) (pc2 := 328) dL_law_327 rfl rfl rfl ?_
                refine Ex.iconst (M := mL_law) (pc2 := 329) dL_law_328 ki_1 rfl ?_
                refine Ex.iadd (M := mL_law) (pc2 := 330) dL_law_329 rfl ?_
                refine Ey.guard (fun hz40 => ?_)
                refine Ex.sld (M := mL_law) (pc2 := 331) rfl dL_law_330 hz40 rfl ?_
                refine Ex.aload_n (M := mL_law) (pc2 := 332) dL_law_331 rfl rfl rfl ?_
                refine Ex.iload_n (M := mL_law) (pc2 := 333) dL_law_332 rfl rfl rfl ?_
                refine Ex.iconst (M := mL_law) (pc2 := 334) dL_law_333 ki_2 rfl ?_
                refine Ex.iadd (M := mL_law) (pc2 := 335) dL_law_334 rfl ?_
                refine Ey.guard (fun hz41 => ?_)
                refine Ex.sld (M := mL_law) (pc2 := 336) rfl dL_law_335 hz41 rfl ?_
                refine Ey.callVi (M := mL_law) (pc2 := 339) (as := [.inl (xs (l3 + (1 : Int32)).toNatClampNeg), .inl (xs (l3 + (2 : Int32)).toNatClampNeg)]) (rest := []) rfl dL_law_336 isX6_set lcL_36 sh_0 rfl rfl ⟨(Nat.le_of_ble_eq_true rfl), (Nat.le_of_ble_eq_true rfl)⟩ rfl (Nat.le_of_ble_eq_true rfl) (Nat.le_of_ble_eq_true rfl) (t_X6_set (xs (l3 + (1 : Int32)).toNatClampNeg) (xs (l3 + (2 : Int32)).toNatClampNeg) I) rfl (fun r42 I42 => ?_)
                refine Ex.aload_n (M := mL_law) (pc2 := 340) dL_law_339 rfl rfl rfl ?_
                refine Ex.aload_n (M := mL_law) (pc2 := 341) dL_law_340 rfl rfl rfl ?_
                refine Ex.iload_n (M := mL_law) (pc2 := 342) dL_law_341 rfl rfl rfl ?_
                refine Ex.iconst (M := mL_law) (pc2 := 343) dL_law_342 ki_1 rfl ?_
                refine Ex.iadd (M := mL_law) (pc2 := 344) dL_law_343 rfl ?_
                refine Ey.guard (fun hz43 => ?_)
                refine Ex.sld (M := mL_law) (pc2 := 345) rfl dL_law_344 hz43 rfl ?_
                refine Ex.aload_n (M := mL_law) (pc2 := 346) dL_law_345 rfl rfl rfl ?_
                refine Ex.iload_n (M := mL_law) (pc2 := 347) dL_law_346 rfl rfl rfl ?_
                refine Ex.iconst (M := mL_law) (pc2 := 348) dL_law_347 ki_2 rfl ?_
                refine Ex.iadd (M := mL_law) (pc2 := 349) dL_law_348 rfl ?_
                refine Ey.guard (fun hz44 => ?_)
                refine Ex.sld (M := mL_law) (pc2 := 350) rfl dL_law_349 hz44 rfl ?_
                refine Ey.callVi (M := mL_law) (pc2 := 353) (as := [.inl (xs (l3 + (1 : Int32)).toNatClampNeg), .inl (xs (l3 + (2 : Int32)).toNatClampNeg)]) (rest := [.inl r42]) rfl dL_law_350 isX7_set lcL_39 sh_69 rfl rfl ⟨(Nat.le_of_ble_eq_true rfl), (Nat.le_of_ble_eq_true rfl)⟩ rfl (Nat.le_of_ble_eq_true rfl) (Nat.le_of_ble_eq_true rfl) (t_X7_set (xs (l3 + (1 : Int32)).toNatClampNeg) (xs (l3 + (2 : Int32)).toNatClampNeg) I42) rfl (fun r45 I45 => ?_)
                refine Ey.icmp_eq (M := mL_law) (tgt := 800) (pc2 := 356) dL_law_353 rfl (fun _ => ?_) rfl (fun _ => ?_)
                · refine Ey.iinc (M := mL_law) (pc2 := 803) dL_law_800 rfl ki_5 (Nat.le_of_ble_eq_true rfl) rfl rfl ?_
                  refine Ex.goto (M := mL_law) (tgt := 18) dL_law_803 rfl ?_
                  exact hk18 _ _
                · refine Ex.iconst (M := mL_law) (pc2 := 357) dL_law_356 ki_0 rfl ?_
                  exact Ey.ireturn (M := mL_law) dL_law_357 rfl (by decide)
              · refine Ey.ite (fun hc17_6 => ?_) (fun hc17_6 => ?_)
                · refine Ey.tcase (M := mL_law) (c := 6) (off := 326) (tgt := 358) hc17_6 dL_law_32 (by decide) (by decide) (by decide) rfl ?_
                  refine Ex.aload_n (M := mL_law) (pc2 := 359) dL_law_358 rfl rfl rfl ?_
                  refine Ex.aload_n (M := mL_law) (pc2 := 360) dL_law_359 rfl rfl rfl ?_
                  refine Ex.iload_n (M := mL_law) (pc2 := 361) dL_law_360 rfl rfl rfl ?_
                  refine Ex.iconst (M := mL_law) (pc2 := 362) dL_law_361 ki_1 rfl ?_
                  refine Ex.iadd (M := mL_law) (pc2 := 363) dL_law_362 rfl ?_
                  refine Ey.guard (fun hz46 => ?_)
                  refine Ex.sld (M := mL_law) (pc2 := 364) rfl dL_law_363 hz46 rfl ?_
                  refine Ex.i2c (M := mL_law) (pc2 := 365) dL_law_364 rfl ?_
                  refine Ey.callVi (M := mL_law) (pc2 := 368) (as := [.inl ((((xs (l3 + (1 : Int32)).toNatClampNeg)).toUInt32 % 65536).toInt32)]) (rest := []) rfl dL_law_365 isX6_type lcL_40 sh_0 rfl rfl ⟨(Nat.le_of_ble_eq_true rfl), (Nat.le_of_ble_eq_true rfl)⟩ rfl (Nat.le_of_ble_eq_true rfl) (Nat.le_of_ble_eq_true rfl) (t_X6_type ((((xs (l3 + (1 : Int32)).toNatClampNeg)).toUInt32 % 65536).toInt32) I) rfl (fun r47 I47 => ?_)
                  refine Ex.aload_n (M := mL_law) (pc2 := 369) dL_law_368 rfl rfl rfl ?_
                  refine Ex.aload_n (M := mL_law) (pc2 := 370) dL_law_369 rfl rfl rfl ?_
                  refine Ex.iload_n (M := mL_law) (pc2 := 371) dL_law_370 rfl rfl rfl ?_
                  refine Ex.iconst (M := mL_law) (pc2 := 372) dL_law_371 ki_1 rfl ?_
                  refine Ex.iadd (M := mL_law) (pc2 := 373) dL_law_372 rfl ?_
                  refine Ey.guard (fun hz48 => ?_)
                  refine Ex.sld (M := mL_law) (pc2 := 374) rfl dL_law_373 hz48 rfl ?_
                  refine Ex.i2c (M := mL_law) (pc2 := 375) dL_law_374 rfl ?_
                  refine Ey.callVi (M := mL_law) (pc2 := 378) (as := [.inl ((((xs (l3 + (1 : Int32)).toNatClampNeg)).toUInt32 % 65536).toInt32)]) (rest := [.inl r47]) rfl dL_law_375 isX7_type lcL_44 sh_69 rfl rfl ⟨(Nat.le_of_ble_eq_true rfl), (Nat.le_of_ble_eq_true rfl)⟩ rfl (Nat.le_of_ble_eq_true rfl) (Nat.le_of_ble_eq_true rfl) (t_X7_type ((((xs (l3 + (1 : Int32)).toNatClampNeg)).toUInt32 % 65536).toInt32) I47) rfl (fun r49 I49 => ?_)
                  refine Ey.icmp_eq (M := mL_law) (tgt := 800) (pc2 := 381) dL_law_378 rfl (fun _ => ?_) rfl (fun _ => ?_)
                  · refine Ey.iinc (M := mL_law) (pc2 := 803) dL_law_800 rfl ki_5 (Nat.le_of_ble_eq_true rfl) rfl rfl ?_
                    refine Ex.goto (M := mL_law) (tgt := 18) dL_law_803 rfl ?_
                    exact hk18 _ _
                  · refine Ex.iconst (M := mL_law) (pc2 := 382) dL_law_381 ki_0 rfl ?_
                    exact Ey.ireturn (M := mL_law) dL_law_382 rfl (by decide)
                · refine Ey.ite (fun hc17_7 => ?_) (fun hc17_7 => ?_)
                  · refine Ey.tcase (M := mL_law) (c := 7) (off := 351) (tgt := 383) hc17_7 dL_law_32 (by decide) (by decide) (by decide) rfl ?_
                    refine Ex.aload_n (M := mL_law) (pc2 := 384) dL_law_383 rfl rfl rfl ?_
                    refine Ey.callVi (M := mL_law) (pc2 := 387) (as := []) (rest := []) rfl dL_law_384 isX6_clearText lcL_45 sh_0 rfl rfl ⟨(Nat.le_of_ble_eq_true rfl), (Nat.le_of_ble_eq_true rfl)⟩ rfl (Nat.le_of_ble_eq_true rfl) (Nat.le_of_ble_eq_true rfl) (t_X6_clearText I) rfl (fun r50 I50 => ?_)
                    refine Ex.aload_n (M := mL_law) (pc2 := 388) dL_law_387 rfl rfl rfl ?_
                    refine Ey.callVi (M := mL_law) (pc2 := 391) (as := []) (rest := [.inl r50]) rfl dL_law_388 isX7_clearText lcL_49 sh_69 rfl rfl ⟨(Nat.le_of_ble_eq_true rfl), (Nat.le_of_ble_eq_true rfl)⟩ rfl (Nat.le_of_ble_eq_true rfl) (Nat.le_of_ble_eq_true rfl) (t_X7_clearText I50) rfl (fun r51 I51 => ?_)
                    refine Ey.icmp_eq (M := mL_law) (tgt := 800) (pc2 := 394) dL_law_391 rfl (fun _ => ?_) rfl (fun _ => ?_)
                    · refine Ey.iinc (M := mL_law) (pc2 := 803) dL_law_800 rfl ki_5 (Nat.le_of_ble_eq_true rfl) rfl rfl ?_
                      refine Ex.goto (M := mL_law) (tgt := 18) dL_law_803 rfl ?_
                      exact hk18 _ _
                    · refine Ex.iconst (M := mL_law) (pc2 := 395) dL_law_394 ki_0 rfl ?_
                      exact Ey.ireturn (M := mL_law) dL_law_395 rfl (by decide)
                  · refine Ey.ite (fun hc17_8 => ?_) (fun hc17_8 => ?_)
                    · refine Ey.tcase (M := mL_law) (c := 8) (off := 364) (tgt := 396) hc17_8 dL_law_32 (by decide) (by decide) (by decide) rfl ?_
                      refine Ex.aload_n (M := mL_law) (pc2 := 397) dL_law_396 rfl rfl rfl ?_
                      refine Ey.callVi (M := mL_law) (pc2 := 400) (as := []) (rest := []) rfl dL_law_397 isX6_perform lcL_50 sh_0 rfl rfl ⟨(Nat.le_of_ble_eq_true rfl), (Nat.le_of_ble_eq_true rfl)⟩ rfl (Nat.le_of_ble_eq_true rfl) (Nat.le_of_ble_eq_true rfl) (t_X6_perform I) rfl (fun r52 I52 => ?_)
                      refine Ex.aload_n (M := mL_law) (pc2 := 401) dL_law_400 rfl rfl rfl ?_
                      refine Ey.callVi (M := mL_law) (pc2 := 404) (as := []) (rest := [.inl r52]) rfl dL_law_401 isX7_perform lcL_53 sh_69 rfl rfl ⟨(Nat.le_of_ble_eq_true rfl), (Nat.le_of_ble_eq_true rfl)⟩ rfl (Nat.le_of_ble_eq_true rfl) (Nat.le_of_ble_eq_true rfl) (t_X7_perform I52) rfl (fun r53 I53 => ?_)
                      refine Ey.icmp_eq (M := mL_law) (tgt := 800) (pc2 := 407) dL_law_404 rfl (fun _ => ?_) rfl (fun _ => ?_)
                      · refine Ey.iinc (M := mL_law) (pc2 := 803) dL_law_800 rfl ki_5 (Nat.le_of_ble_eq_true rfl) rfl rfl ?_
                        refine Ex.goto (M := mL_law) (tgt := 18) dL_law_803 rfl ?_
                        exact hk18 _ _
                      · refine Ex.iconst (M := mL_law) (pc2 := 408) dL_law_407 ki_0 rfl ?_
                        exact Ey.ireturn (M := mL_law) dL_law_408 rfl (by decide)
                    · refine Ey.ite (fun hc17_9 => ?_) (fun hc17_9 => ?_)
                      · refine Ey.tcase (M := mL_law) (c := 9) (off := 377) (tgt := 409) hc17_9 dL_law_32 (by decide) (by decide) (by decide) rfl ?_
                        refine Ex.aload_n (M := mL_law) (pc2 := 410) dL_law_409 rfl rfl rfl ?_
                        refine Ex.aload_n (M := mL_law) (pc2 := 411) dL_law_410 rfl rfl rfl ?_
                        refine Ex.iload_n (M := mL_law) (pc2 := 412) dL_law_411 rfl rfl rfl ?_
                        refine Ex.iconst (M := mL_law) (pc2 := 413) dL_law_412 ki_1 rfl ?_
                        refine Ex.iadd (M := mL_law) (pc2 := 414) dL_law_413 rfl ?_
                        refine Ey.guard (fun hz54 => ?_)
                        refine Ex.sld (M := mL_law) (pc2 := 415) rfl dL_law_414 hz54 rfl ?_
                        refine Ey.callVi (M := mL_law) (pc2 := 418) (as := [.inl (xs (l3 + (1 : Int32)).toNatClampNeg)]) (rest := []) rfl dL_law_415 isX6_stopped lcL_54 sh_0 rfl rfl ⟨(Nat.le_of_ble_eq_true rfl), (Nat.le_of_ble_eq_true rfl)⟩ rfl (Nat.le_of_ble_eq_true rfl) (Nat.le_of_ble_eq_true rfl) (t_X6_stopped (xs (l3 + (1 : Int32)).toNatClampNeg) I) rfl (fun r55 I55 => ?_)
                        refine Ex.aload_n (M := mL_law) (pc2 := 419) dL_law_418 rfl rfl rfl ?_
                        refine Ex.aload_n (M := mL_law) (pc2 := 420) dL_law_419 rfl rfl rfl ?_
                        refine Ex.iload_n (M := mL_law) (pc2 := 421) dL_law_420 rfl rfl rfl ?_
                        refine Ex.iconst (M := mL_law) (pc2 := 422) dL_law_421 ki_1 rfl ?_
                        refine Ex.iadd (M := mL_law) (pc2 := 423) dL_law_422 rfl ?_
                        refine Ey.guard (fun hz56 => ?_)
                        refine Ex.sld (M := mL_law) (pc2 := 424) rfl dL_law_423 hz56 rfl ?_
                        refine Ey.callVi (M := mL_law) (pc2 := 427) (as := [.inl (xs (l3 + (1 : Int32)).toNatClampNeg)]) (rest := [.inl r55]) rfl dL_law_424 isX7_stopped lcL_57 sh_69 rfl rfl ⟨(Nat.le_of_ble_eq_true rfl), (Nat.le_of_ble_eq_true rfl)⟩ rfl (Nat.le_of_ble_eq_true rfl) (Nat.le_of_ble_eq_true rfl) (t_X7_stopped (xs (l3 + (1 : Int32)).toNatClampNeg) I55) rfl (fun r57 I57 => ?_)
                        refine Ey.icmp_eq (M := mL_law) (tgt := 800) (pc2 := 430) dL_law_427 rfl (fun _ => ?_) rfl (fun _ => ?_)
                        · refine Ey.iinc (M := mL_law) (pc2 := 803) dL_law_800 rfl ki_5 (Nat.le_of_ble_eq_true rfl) rfl rfl ?_
                          refine Ex.goto (M := mL_law) (tgt := 18) dL_law_803 rfl ?_
                          exact hk18 _ _
                        · refine Ex.iconst (M := mL_law) (pc2 := 431) dL_law_430 ki_0 rfl ?_
                          exact Ey.ireturn (M := mL_law) dL_law_431 rfl (by decide)
                      · refine Ey.ite (fun hc17_10 => ?_) (fun hc17_10 => ?_)
                        · refine Ey.tcase (M := mL_law) (c := 10) (off := 400) (tgt := 432) hc17_10 dL_law_32 (by decide) (by decide) (by decide) rfl ?_
                          refine Ex.aload_n (M := mL_law) (pc2 := 433) dL_law_432 rfl rfl rfl ?_
                          refine Ey.callVi (M := mL_law) (pc2 := 436) (as := []) (rest := []) rfl dL_law_433 isX6_undo lcL_58 sh_0 rfl rfl ⟨(Nat.le_of_ble_eq_true rfl), (Nat.le_of_ble_eq_true rfl)⟩ rfl (Nat.le_of_ble_eq_true rfl) (Nat.le_of_ble_eq_true rfl) (t_X6_undo I) rfl (fun r58 I58 => ?_)
                          refine Ex.aload_n (M := mL_law) (pc2 := 437) dL_law_436 rfl rfl rfl ?_
                          refine Ey.callVi (M := mL_law) (pc2 := 440) (as := []) (rest := [.inl r58]) rfl dL_law_437 isX7_undo lcL_61 sh_69 rfl rfl ⟨(Nat.le_of_ble_eq_true rfl), (Nat.le_of_ble_eq_true rfl)⟩ rfl (Nat.le_of_ble_eq_true rfl) (Nat.le_of_ble_eq_true rfl) (t_X7_undo I58) rfl (fun r59 I59 => ?_)
                          refine Ey.icmp_eq (M := mL_law) (tgt := 800) (pc2 := 443) dL_law_440 rfl (fun _ => ?_) rfl (fun _ => ?_)
                          · refine Ey.iinc (M := mL_law) (pc2 := 803) dL_law_800 rfl ki_5 (Nat.le_of_ble_eq_true rfl) rfl rfl ?_
                            refine Ex.goto (M := mL_law) (tgt := 18) dL_law_803 rfl ?_
                            exact hk18 _ _
                          · refine Ex.iconst (M := mL_law) (pc2 := 444) dL_law_443 ki_0 rfl ?_
                            exact Ey.ireturn (M := mL_law) dL_law_444 rfl (by decide)
                        · refine Ey.ite (fun hc17_11 => ?_) (fun hc17_11 => ?_)
                          · refine Ey.tcase (M := mL_law) (c := 11) (off := 413) (tgt := 445) hc17_11 dL_law_32 (by decide) (by decide) (by decide) rfl ?_
                            refine Ex.aload_n (M := mL_law) (pc2 := 446) dL_law_445 rfl rfl rfl ?_
                            refine Ey.callVi (M := mL_law) (pc2 := 449) (as := []) (rest := []) rfl dL_law_446 isX6_keep lcL_62 sh_0 rfl rfl ⟨(Nat.le_of_ble_eq_true rfl), (Nat.le_of_ble_eq_true rfl)⟩ rfl (Nat.le_of_ble_eq_true rfl) (Nat.le_of_ble_eq_true rfl) (t_X6_keep I) rfl (fun r60 I60 => ?_)
                            refine Ex.aload_n (M := mL_law) (pc2 := 450) dL_law_449 rfl rfl rfl ?_
                            refine Ey.callVi (M := mL_law) (pc2 := 453) (as := []) (rest := [.inl r60]) rfl dL_law_450 isX7_keep lcL_65 sh_69 rfl rfl ⟨(Nat.le_of_ble_eq_true rfl), (Nat.le_of_ble_eq_true rfl)⟩ rfl (Nat.le_of_ble_eq_true rfl) (Nat.le_of_ble_eq_true rfl) (t_X7_keep I60) rfl (fun r61 I61 => ?_)
                            refine Ey.icmp_eq (M := mL_law) (tgt := 800) (pc2 := 456) dL_law_453 rfl (fun _ => ?_) rfl (fun _ => ?_)
                            · refine Ey.iinc (M := mL_law) (pc2 := 803) dL_law_800 rfl ki_5 (Nat.le_of_ble_eq_true rfl) rfl rfl ?_
                              refine Ex.goto (M := mL_law) (tgt := 18) dL_law_803 rfl ?_
                              exact hk18 _ _
                            · refine Ex.iconst (M := mL_law) (pc2 := 457) dL_law_456 ki_0 rfl ?_
                              exact Ey.ireturn (M := mL_law) dL_law_457 rfl (by decide)
                          · refine Ey.ite (fun hc17_12 => ?_) (fun hc17_12 => ?_)
                            · refine Ey.tcase (M := mL_law) (c := 12) (off := 426) (tgt := 458) hc17_12 dL_law_32 (by decide) (by decide) (by decide) rfl ?_
                              refine Ex.aload_n (M := mL_law) (pc2 := 459) dL_law_458 rfl rfl rfl ?_
                              refine Ey.callVi (M := mL_law) (pc2 := 462) (as := []) (rest := []) rfl dL_law_459 isX6_restore lcL_66 sh_0 rfl rfl ⟨(Nat.le_of_ble_eq_true rfl), (Nat.le_of_ble_eq_true rfl)⟩ rfl (Nat.le_of_ble_eq_true rfl) (Nat.le_of_ble_eq_true rfl) (t_X6_restore I) rfl (fun r62 I62 => ?_)
                              refine Ex.aload_n (M := mL_law) (pc2 := 463) dL_law_462 rfl rfl rfl ?_
                              refine Ey.callVi (M := mL_law) (pc2 := 466) (as := []) (rest := [.inl r62]) rfl dL_law_463 isX7_restore lcL_69 sh_69 rfl rfl ⟨(Nat.le_of_ble_eq_true rfl), (Nat.le_of_ble_eq_true rfl)⟩ rfl (Nat.le_of_ble_eq_true rfl) (Nat.le_of_ble_eq_true rfl) (t_X7_restore I62) rfl (fun r63 I63 => ?_)
                              refine Ey.icmp_eq (M := mL_law) (tgt := 800) (pc2 := 469) dL_law_466 rfl (fun _ => ?_) rfl (fun _ => ?_)
                              · refine Ey.iinc (M := mL_law) (pc2 := 803) dL_law_800 rfl ki_5 (Nat.le_of_ble_eq_true rfl) rfl rfl ?_
                                refine Ex.goto (M := mL_law) (tgt := 18) dL_law_803 rfl ?_
                                exact hk18 _ _
                              · refine Ex.iconst (M := mL_law) (pc2 := 470) dL_law_469 ki_0 rfl ?_
                                exact Ey.ireturn (M := mL_law) dL_law_470 rfl (by decide)
                            · refine Ey.ite (fun hc17_13 => ?_) (fun hc17_13 => ?_)
                              · refine Ey.tcase (M := mL_law) (c := 13) (off := 439) (tgt := 471) hc17_13 dL_law_32 (by decide) (by decide) (by decide) rfl ?_
                                refine Ex.aload_n (M := mL_law) (pc2 := 472) dL_law_471 rfl rfl rfl ?_
                                refine Ex.aload_n (M := mL_law) (pc2 := 473) dL_law_472 rfl rfl rfl ?_
                                refine Ex.iload_n (M := mL_law) (pc2 := 474) dL_law_473 rfl rfl rfl ?_
                                refine Ex.iconst (M := mL_law) (pc2 := 475) dL_law_474 ki_1 rfl ?_
                                refine Ex.iadd (M := mL_law) (pc2 := 476) dL_law_475 rfl ?_
                                refine Ey.guard (fun hz64 => ?_)
                                refine Ex.sld (M := mL_law) (pc2 := 477) rfl dL_law_476 hz64 rfl ?_
                                refine Ex.aload_n (M := mL_law) (pc2 := 478) dL_law_477 rfl rfl rfl ?_
                                refine Ex.iload_n (M := mL_law) (pc2 := 479) dL_law_478 rfl rfl rfl ?_
                                refine Ex.iconst (M := mL_law) (pc2 := 480) dL_law_479 ki_2 rfl ?_
                                refine Ex.iadd (M := mL_law) (pc2 := 481) dL_law_480 rfl ?_
                                refine Ey.guard (fun hz65 => ?_)
                                refine Ex.sld (M := mL_law) (pc2 := 482) rfl dL_law_481 hz65 rfl ?_
                                refine Ey.callVi (M := mL_law) (pc2 := 485) (as := [.inl (xs (l3 + (1 : Int32)).toNatClampNeg), .inl (xs (l3 + (2 : Int32)).toNatClampNeg)]) (rest := []) rfl dL_law_482 isX6_edge lcL_70 sh_0 rfl rfl ⟨(Nat.le_of_ble_eq_true rfl), (Nat.le_of_ble_eq_true rfl)⟩ rfl (Nat.le_of_ble_eq_true rfl) (Nat.le_of_ble_eq_true rfl) (t_X6_edge (xs (l3 + (1 : Int32)).toNatClampNeg) (xs (l3 + (2 : Int32)).toNatClampNeg) I) rfl (fun r66 I66 => ?_)
                                refine Ex.aload_n (M := mL_law) (pc2 := 486) dL_law_485 rfl rfl rfl ?_
                                refine Ex.aload_n (M := mL_law) (pc2 := 487) dL_law_486 rfl rfl rfl ?_
                                refine Ex.iload_n (M := mL_law) (pc2 := 488) dL_law_487 rfl rfl rfl ?_
                                refine Ex.iconst (M := mL_law) (pc2 := 489) dL_law_488 ki_1 rfl ?_
                                refine Ex.iadd (M := mL_law) (pc2 := 490) dL_law_489 rfl ?_
                                refine Ey.guard (fun hz67 => ?_)
                                refine Ex.sld (M := mL_law) (pc2 := 491) rfl dL_law_490 hz67 rfl ?_
                                refine Ex.aload_n (M := mL_law) (pc2 := 492) dL_law_491 rfl rfl rfl ?_
                                refine Ex.iload_n (M := mL_law) (pc2 := 493) dL_law_492 rfl rfl rfl ?_
                                refine Ex.iconst (M := mL_law) (pc2 := 494) dL_law_493 ki_2 rfl ?_
                                refine Ex.iadd (M := mL_law) (pc2 := 495) dL_law_494 rfl ?_
                                refine Ey.guard (fun hz68 => ?_)
                                refine Ex.sld (M := mL_law) (pc2 := 496) rfl dL_law_495 hz68 rfl ?_
                                refine Ey.callVi (M := mL_law) (pc2 := 499) (as := [.inl (xs (l3 + (1 : Int32)).toNatClampNeg), .inl (xs (l3 + (2 : Int32)).toNatClampNeg)]) (rest := [.inl r66]) rfl dL_law_496 isX7_edge lcL_73 sh_69 rfl rfl ⟨(Nat.le_of_ble_eq_true rfl), (Nat.le_of_ble_eq_true rfl)⟩ rfl (Nat.le_of_ble_eq_true rfl) (Nat.le_of_ble_eq_true rfl) (t_X7_edge (xs (l3 + (1 : Int32)).toNatClampNeg) (xs (l3 + (2 : Int32)).toNatClampNeg) I66) rfl (fun r69 I69 => ?_)
                                refine Ey.icmp_eq (M := mL_law) (tgt := 800) (pc2 := 502) dL_law_499 rfl (fun _ => ?_) rfl (fun _ => ?_)
                                · refine Ey.iinc (M := mL_law) (pc2 := 803) dL_law_800 rfl ki_5 (Nat.le_of_ble_eq_true rfl) rfl rfl ?_
                                  refine Ex.goto (M := mL_law) (tgt := 18) dL_law_803 rfl ?_
                                  exact hk18 _ _
                                · refine Ex.iconst (M := mL_law) (pc2 := 503) dL_law_502 ki_0 rfl ?_
                                  exact Ey.ireturn (M := mL_law) dL_law_503 rfl (by decide)
                              · refine Ey.ite (fun hc17_14 => ?_) (fun hc17_14 => ?_)
                                · refine Ey.tcase (M := mL_law) (c := 14) (off := 472) (tgt := 504) hc17_14 dL_law_32 (by decide) (by decide) (by decide) rfl ?_
                                  refine Ex.aload_n (M := mL_law) (pc2 := 505) dL_law_504 rfl rfl rfl ?_
                                  refine Ex.aload_n (M := mL_law) (pc2 := 506) dL_law_505 rfl rfl rfl ?_
                                  refine Ex.iload_n (M := mL_law) (pc2 := 507) dL_law_506 rfl rfl rfl ?_
                                  refine Ex.iconst (M := mL_law) (pc2 := 508) dL_law_507 ki_1 rfl ?_
                                  refine Ex.iadd (M := mL_law) (pc2 := 509) dL_law_508 rfl ?_
                                  refine Ey.guard (fun hz70 => ?_)
                                  refine Ex.sld (M := mL_law) (pc2 := 510) rfl dL_law_509 hz70 rfl ?_
                                  refine Ex.aload_n (M := mL_law) (pc2 := 511) dL_law_510 rfl rfl rfl ?_
                                  refine Ex.iload_n (M := mL_law) (pc2 := 512) dL_law_511 rfl rfl rfl ?_
                                  refine Ex.iconst (M := mL_law) (pc2 := 513) dL_law_512 ki_2 rfl ?_
                                  refine Ex.iadd (M := mL_law) (pc2 := 514) dL_law_513 rfl ?_
                                  refine Ey.guard (fun hz71 => ?_)
                                  refine Ex.sld (M := mL_law) (pc2 := 515) rfl dL_law_514 hz71 rfl ?_
                                  refine Ey.callVi (M := mL_law) (pc2 := 518) (as := [.inl (xs (l3 + (1 : Int32)).toNatClampNeg), .inl (xs (l3 + (2 : Int32)).toNatClampNeg)]) (rest := []) rfl dL_law_515 isX6_field lcL_74 sh_0 rfl rfl ⟨(Nat.le_of_ble_eq_true rfl), (Nat.le_of_ble_eq_true rfl)⟩ rfl (Nat.le_of_ble_eq_true rfl) (Nat.le_of_ble_eq_true rfl) (t_X6_field (xs (l3 + (1 : Int32)).toNatClampNeg) (xs (l3 + (2 : Int32)).toNatClampNeg) I) rfl (fun r72 I72 => ?_)
                                  refine Ex.aload_n (M := mL_law) (pc2 := 519) dL_law_518 rfl rfl rfl ?_
                                  refine Ex.aload_n (M := mL_law) (pc2 := 520) dL_law_519 rfl rfl rfl ?_
                                  refine Ex.iload_n (M := mL_law) (pc2 := 521) dL_law_520 rfl rfl rfl ?_
                                  refine Ex.iconst (M := mL_law) (pc2 := 522) dL_law_521 ki_1 rfl ?_
                                  refine Ex.iadd (M := mL_law) (pc2 := 523) dL_law_522 rfl ?_
                                  refine Ey.guard (fun hz73 => ?_)
                                  refine Ex.sld (M := mL_law) (pc2 := 524) rfl dL_law_523 hz73 rfl ?_
                                  refine Ex.aload_n (M := mL_law) (pc2 := 525) dL_law_524 rfl rfl rfl ?_
                                  refine Ex.iload_n (M := mL_law) (pc2 := 526) dL_law_525 rfl rfl rfl ?_
                                  refine Ex.iconst (M := mL_law) (pc2 := 527) dL_law_526 ki_2 rfl ?_
                                  refine Ex.iadd (M := mL_law) (pc2 := 528) dL_law_527 rfl ?_
                                  refine Ey.guard (fun hz74 => ?_)
                                  refine Ex.sld (M := mL_law) (pc2 := 529) rfl dL_law_528 hz74 rfl ?_
                                  refine Ey.callVi (M := mL_law) (pc2 := 532) (as := [.inl (xs (l3 + (1 : Int32)).toNatClampNeg), .inl (xs (l3 + (2 : Int32)).toNatClampNeg)]) (rest := [.inl r72]) rfl dL_law_529 isX7_field lcL_77 sh_69 rfl rfl ⟨(Nat.le_of_ble_eq_true rfl), (Nat.le_of_ble_eq_true rfl)⟩ rfl (Nat.le_of_ble_eq_true rfl) (Nat.le_of_ble_eq_true rfl) (t_X7_field (xs (l3 + (1 : Int32)).toNatClampNeg) (xs (l3 + (2 : Int32)).toNatClampNeg) I72) rfl (fun r75 I75 => ?_)
                                  refine Ey.icmp_eq (M := mL_law) (tgt := 800) (pc2 := 535) dL_law_532 rfl (fun _ => ?_) rfl (fun _ => ?_)
                                  · refine Ey.iinc (M := mL_law) (pc2 := 803) dL_law_800 rfl ki_5 (Nat.le_of_ble_eq_true rfl) rfl rfl ?_
                                    refine Ex.goto (M := mL_law) (tgt := 18) dL_law_803 rfl ?_
                                    exact hk18 _ _
                                  · refine Ex.iconst (M := mL_law) (pc2 := 536) dL_law_535 ki_0 rfl ?_
                                    exact Ey.ireturn (M := mL_law) dL_law_536 rfl (by decide)
                                · refine Ey.ite (fun hc17_15 => ?_) (fun hc17_15 => ?_)
                                  · refine Ey.tcase (M := mL_law) (c := 15) (off := 505) (tgt := 537) hc17_15 dL_law_32 (by decide) (by decide) (by decide) rfl ?_
                                    refine Ex.aload_n (M := mL_law) (pc2 := 538) dL_law_537 rfl rfl rfl ?_
                                    refine Ex.aload_n (M := mL_law) (pc2 := 539) dL_law_538 rfl rfl rfl ?_
                                    refine Ex.iload_n (M := mL_law) (pc2 := 540) dL_law_539 rfl rfl rfl ?_
                                    refine Ex.iconst (M := mL_law) (pc2 := 541) dL_law_540 ki_1 rfl ?_
                                    refine Ex.iadd (M := mL_law) (pc2 := 542) dL_law_541 rfl ?_
                                    refine Ey.guard (fun hz76 => ?_)
                                    refine Ex.sld (M := mL_law) (pc2 := 543) rfl dL_law_542 hz76 rfl ?_
                                    refine Ey.callVi (M := mL_law) (pc2 := 546) (as := [.inl (xs (l3 + (1 : Int32)).toNatClampNeg)]) (rest := []) rfl dL_law_543 isX6_joined lcL_78 sh_0 rfl rfl ⟨(Nat.le_of_ble_eq_true rfl), (Nat.le_of_ble_eq_true rfl)⟩ rfl (Nat.le_of_ble_eq_true rfl) (Nat.le_of_ble_eq_true rfl) (t_X6_joined (xs (l3 + (1 : Int32)).toNatClampNeg) I) rfl (fun r77 I77 => ?_)
                                    refine Ex.aload_n (M := mL_law) (pc2 := 547) dL_law_546 rfl rfl rfl ?_
                                    refine Ex.aload_n (M := mL_law) (pc2 := 548) dL_law_547 rfl rfl rfl ?_
                                    refine Ex.iload_n (M := mL_law) (pc2 := 549) dL_law_548 rfl rfl rfl ?_
                                    refine Ex.iconst (M := mL_law) (pc2 := 550) dL_law_549 ki_1 rfl ?_
                                    refine Ex.iadd (M := mL_law) (pc2 := 551) dL_law_550 rfl ?_
                                    refine Ey.guard (fun hz78 => ?_)
                                    refine Ex.sld (M := mL_law) (pc2 := 552) rfl dL_law_551 hz78 rfl ?_
                                    refine Ey.callVi (M := mL_law) (pc2 := 555) (as := [.inl (xs (l3 + (1 : Int32)).toNatClampNeg)]) (rest := [.inl r77]) rfl dL_law_552 isX7_joined lcL_81 sh_69 rfl rfl ⟨(Nat.le_of_ble_eq_true rfl), (Nat.le_of_ble_eq_true rfl)⟩ rfl (Nat.le_of_ble_eq_true rfl) (Nat.le_of_ble_eq_true rfl) (t_X7_joined (xs (l3 + (1 : Int32)).toNatClampNeg) I77) rfl (fun r79 I79 => ?_)
                                    refine Ey.icmp_eq (M := mL_law) (tgt := 800) (pc2 := 558) dL_law_555 rfl (fun _ => ?_) rfl (fun _ => ?_)
                                    · refine Ey.iinc (M := mL_law) (pc2 := 803) dL_law_800 rfl ki_5 (Nat.le_of_ble_eq_true rfl) rfl rfl ?_
                                      refine Ex.goto (M := mL_law) (tgt := 18) dL_law_803 rfl ?_
                                      exact hk18 _ _
                                    · refine Ex.iconst (M := mL_law) (pc2 := 559) dL_law_558 ki_0 rfl ?_
                                      exact Ey.ireturn (M := mL_law) dL_law_559 rfl (by decide)
                                  · refine Ey.ite (fun hc17_16 => ?_) (fun hc17_16 => ?_)
                                    · refine Ey.tcase (M := mL_law) (c := 16) (off := 528) (tgt := 560) hc17_16 dL_law_32 (by decide) (by decide) (by decide) rfl ?_
                                      refine Ex.aload_n (M := mL_law) (pc2 := 561) dL_law_560 rfl rfl rfl ?_
                                      refine Ex.aload_n (M := mL_law) (pc2 := 562) dL_law_561 rfl rfl rfl ?_
                                      refine Ex.iload_n (M := mL_law) (pc2 := 563) dL_law_562 rfl rfl rfl ?_
                                      refine Ex.iconst (M := mL_law) (pc2 := 564) dL_law_563 ki_1 rfl ?_
                                      refine Ex.iadd (M := mL_law) (pc2 := 565) dL_law_564 rfl ?_
                                      refine Ey.guard (fun hz80 => ?_)
                                      refine Ex.sld (M := mL_law) (pc2 := 566) rfl dL_law_565 hz80 rfl ?_
                                      refine Ex.aload_n (M := mL_law) (pc2 := 567) dL_law_566 rfl rfl rfl ?_
                                      refine Ex.iload_n (M := mL_law) (pc2 := 568) dL_law_567 rfl rfl rfl ?_
                                      refine Ex.iconst (M := mL_law) (pc2 := 569) dL_law_568 ki_2 rfl ?_
                                      refine Ex.iadd (M := mL_law) (pc2 := 570) dL_law_569 rfl ?_
                                      refine Ey.guard (fun hz81 => ?_)
                                      refine Ex.sld (M := mL_law) (pc2 := 571) rfl dL_law_570 hz81 rfl ?_
                                      refine Ey.callVi (M := mL_law) (pc2 := 574) (as := [.inl (xs (l3 + (1 : Int32)).toNatClampNeg), .inl (xs (l3 + (2 : Int32)).toNatClampNeg)]) (rest := []) rfl dL_law_571 isX6_letter lcL_82 sh_0 rfl rfl ⟨(Nat.le_of_ble_eq_true rfl), (Nat.le_of_ble_eq_true rfl)⟩ rfl (Nat.le_of_ble_eq_true rfl) (Nat.le_of_ble_eq_true rfl) (t_X6_letter (xs (l3 + (1 : Int32)).toNatClampNeg) (xs (l3 + (2 : Int32)).toNatClampNeg) I) rfl (fun r82 I82 => ?_)
                                      refine Ex.aload_n (M := mL_law) (pc2 := 575) dL_law_574 rfl rfl rfl ?_
                                      refine Ex.aload_n (M := mL_law) (pc2 := 576) dL_law_575 rfl rfl rfl ?_
                                      refine Ex.iload_n (M := mL_law) (pc2 := 577) dL_law_576 rfl rfl rfl ?_
                                      refine Ex.iconst (M := mL_law) (pc2 := 578) dL_law_577 ki_1 rfl ?_
                                      refine Ex.iadd (M := mL_law) (pc2 := 579) dL_law_578 rfl ?_
                                      refine Ey.guard (fun hz83 => ?_)
                                      refine Ex.sld (M := mL_law) (pc2 := 580) rfl dL_law_579 hz83 rfl ?_
                                      refine Ex.aload_n (M := mL_law) (pc2 := 581) dL_law_580 rfl rfl rfl ?_
                                      refine Ex.iload_n (M := mL_law) (pc2 := 582) dL_law_581 rfl rfl rfl ?_
                                      refine Ex.iconst (M := mL_law) (pc2 := 583) dL_law_582 ki_2 rfl ?_
                                      refine Ex.iadd (M := mL_law) (pc2 := 584) dL_law_583 rfl ?_
                                      refine Ey.guard (fun hz84 => ?_)
                                      refine Ex.sld (M := mL_law) (pc2 := 585) rfl dL_law_584 hz84 rfl ?_
                                      refine Ey.callVi (M := mL_law) (pc2 := 588) (as := [.inl (xs (l3 + (1 : Int32)).toNatClampNeg), .inl (xs (l3 + (2 : Int32)).toNatClampNeg)]) (rest := [.inl r82]) rfl dL_law_585 isX7_letter lcL_85 sh_69 rfl rfl ⟨(Nat.le_of_ble_eq_true rfl), (Nat.le_of_ble_eq_true rfl)⟩ rfl (Nat.le_of_ble_eq_true rfl) (Nat.le_of_ble_eq_true rfl) (t_X7_letter (xs (l3 + (1 : Int32)).toNatClampNeg) (xs (l3 + (2 : Int32)).toNatClampNeg) I82) rfl (fun r85 I85 => ?_)
                                      refine Ey.icmp_eq (M := mL_law) (tgt := 800) (pc2 := 591) dL_law_588 rfl (fun _ => ?_) rfl (fun _ => ?_)
                                      · refine Ey.iinc (M := mL_law) (pc2 := 803) dL_law_800 rfl ki_5 (Nat.le_of_ble_eq_true rfl) rfl rfl ?_
                                        refine Ex.goto (M := mL_law) (tgt := 18) dL_law_803 rfl ?_
                                        exact hk18 _ _
                                      · refine Ex.iconst (M := mL_law) (pc2 := 592) dL_law_591 ki_0 rfl ?_
                                        exact Ey.ireturn (M := mL_law) dL_law_592 rfl (by decide)
                                    · refine Ey.ite (fun hc17_17 => ?_) (fun hc17_17 => ?_)
                                      · refine Ey.tcase (M := mL_law) (c := 17) (off := 561) (tgt := 593) hc17_17 dL_law_32 (by decide) (by decide) (by decide) rfl ?_
                                        refine Ex.aload_n (M := mL_law) (pc2 := 594) dL_law_593 rfl rfl rfl ?_
                                        refine Ex.aload_n (M := mL_law) (pc2 := 595) dL_law_594 rfl rfl rfl ?_
                                        refine Ex.iload_n (M := mL_law) (pc2 := 596) dL_law_595 rfl rfl rfl ?_
                                        refine Ex.iconst (M := mL_law) (pc2 := 597) dL_law_596 ki_1 rfl ?_
                                        refine Ex.iadd (M := mL_law) (pc2 := 598) dL_law_597 rfl ?_
                                        refine Ey.guard (fun hz86 => ?_)
                                        refine Ex.sld (M := mL_law) (pc2 := 599) rfl dL_law_598 hz86 rfl ?_
                                        refine Ex.aload_n (M := mL_law) (pc2 := 600) dL_law_599 rfl rfl rfl ?_
                                        refine Ex.iload_n (M := mL_law) (pc2 := 601) dL_law_600 rfl rfl rfl ?_
                                        refine Ex.iconst (M := mL_law) (pc2 := 602) dL_law_601 ki_2 rfl ?_
                                        refine Ex.iadd (M := mL_law) (pc2 := 603) dL_law_602 rfl ?_
                                        refine Ey.guard (fun hz87 => ?_)
                                        refine Ex.sld (M := mL_law) (pc2 := 604) rfl dL_law_603 hz87 rfl ?_
                                        refine Ey.callVi (M := mL_law) (pc2 := 607) (as := [.inl (xs (l3 + (1 : Int32)).toNatClampNeg), .inl (xs (l3 + (2 : Int32)).toNatClampNeg)]) (rest := []) rfl dL_law_604 isX6_crossed lcL_86 sh_0 rfl rfl ⟨(Nat.le_of_ble_eq_true rfl), (Nat.le_of_ble_eq_true rfl)⟩ rfl (Nat.le_of_ble_eq_true rfl) (Nat.le_of_ble_eq_true rfl) (t_X6_crossed (xs (l3 + (1 : Int32)).toNatClampNeg) (xs (l3 + (2 : Int32)).toNatClampNeg) I) rfl (fun r88 I88 => ?_)
                                        refine Ex.aload_n (M := mL_law) (pc2 := 608) dL_law_607 rfl rfl rfl ?_
                                        refine Ex.aload_n (M := mL_law) (pc2 := 609) dL_law_608 rfl rfl rfl ?_
                                        refine Ex.iload_n (M := mL_law) (pc2 := 610) dL_law_609 rfl rfl rfl ?_
                                        refine Ex.iconst (M := mL_law) (pc2 := 611) dL_law_610 ki_1 rfl ?_
                                        refine Ex.iadd (M := mL_law) (pc2 := 612) dL_law_611 rfl ?_
                                        refine Ey.guard (fun hz89 => ?_)
                                        refine Ex.sld (M := mL_law) (pc2 := 613) rfl dL_law_612 hz89 rfl ?_
                                        refine Ex.aload_n (M := mL_law) (pc2 := 614) dL_law_613 rfl rfl rfl ?_
                                        refine Ex.iload_n (M := mL_law) (pc2 := 615) dL_law_614 rfl rfl rfl ?_
                                        refine Ex.iconst (M := mL_law) (pc2 := 616) dL_law_615 ki_2 rfl ?_
                                        refine Ex.iadd (M := mL_law) (pc2 := 617) dL_law_616 rfl ?_
                                        refine Ey.guard (fun hz90 => ?_)
                                        refine Ex.sld (M := mL_law) (pc2 := 618) rfl dL_law_617 hz90 rfl ?_
                                        refine Ey.callVi (M := mL_law) (pc2 := 621) (as := [.inl (xs (l3 + (1 : Int32)).toNatClampNeg), .inl (xs (l3 + (2 : Int32)).toNatClampNeg)]) (rest := [.inl r88]) rfl dL_law_618 isX7_crossed lcL_89 sh_69 rfl rfl ⟨(Nat.le_of_ble_eq_true rfl), (Nat.le_of_ble_eq_true rfl)⟩ rfl (Nat.le_of_ble_eq_true rfl) (Nat.le_of_ble_eq_true rfl) (t_X7_crossed (xs (l3 + (1 : Int32)).toNatClampNeg) (xs (l3 + (2 : Int32)).toNatClampNeg) I88) rfl (fun r91 I91 => ?_)
                                        refine Ey.icmp_eq (M := mL_law) (tgt := 800) (pc2 := 624) dL_law_621 rfl (fun _ => ?_) rfl (fun _ => ?_)
                                        · refine Ey.iinc (M := mL_law) (pc2 := 803) dL_law_800 rfl ki_5 (Nat.le_of_ble_eq_true rfl) rfl rfl ?_
                                          refine Ex.goto (M := mL_law) (tgt := 18) dL_law_803 rfl ?_
                                          exact hk18 _ _
                                        · refine Ex.iconst (M := mL_law) (pc2 := 625) dL_law_624 ki_0 rfl ?_
                                          exact Ey.ireturn (M := mL_law) dL_law_625 rfl (by decide)
                                      · refine Ey.ite (fun hc17_18 => ?_) (fun hc17_18 => ?_)
                                        · refine Ey.tcase (M := mL_law) (c := 18) (off := 594) (tgt := 626) hc17_18 dL_law_32 (by decide) (by decide) (by decide) rfl ?_
                                          refine Ex.aload_n (M := mL_law) (pc2 := 627) dL_law_626 rfl rfl rfl ?_
                                          refine Ex.aload_n (M := mL_law) (pc2 := 628) dL_law_627 rfl rfl rfl ?_
                                          refine Ex.iload_n (M := mL_law) (pc2 := 629) dL_law_628 rfl rfl rfl ?_
                                          refine Ex.iconst (M := mL_law) (pc2 := 630) dL_law_629 ki_1 rfl ?_
                                          refine Ex.iadd (M := mL_law) (pc2 := 631) dL_law_630 rfl ?_
                                          refine Ey.guard (fun hz92 => ?_)
                                          refine Ex.sld (M := mL_law) (pc2 := 632) rfl dL_law_631 hz92 rfl ?_
                                          refine Ey.if_eq (M := mL_law) (tgt := 639) (pc2 := 635) dL_law_632 rfl (fun _ => ?_) rfl (fun _ => ?_)
                                          · refine Ex.iconst (M := mL_law) (pc2 := 640) dL_law_639 ki_0 rfl ?_
                                            exact t_L_law_640 L xs k18 hk18 _ _ _
                                          · refine Ex.iconst (M := mL_law) (pc2 := 636) dL_law_635 ki_1 rfl ?_
                                            refine Ex.goto (M := mL_law) (tgt := 640) dL_law_636 rfl ?_
                                            exact t_L_law_640 L xs k18 hk18 _ _ _
                                        · refine Ey.ite (fun hc17_19 => ?_) (fun hc17_19 => ?_)
                                          · refine Ey.tcase (M := mL_law) (c := 19) (off := 653) (tgt := 685) hc17_19 dL_law_32 (by decide) (by decide) (by decide) rfl ?_
                                            refine Ex.aload_n (M := mL_law) (pc2 := 686) dL_law_685 rfl rfl rfl ?_
                                            refine Ex.aload_n (M := mL_law) (pc2 := 687) dL_law_686 rfl rfl rfl ?_
                                            refine Ex.iload_n (M := mL_law) (pc2 := 688) dL_law_687 rfl rfl rfl ?_
                                            refine Ex.iconst (M := mL_law) (pc2 := 689) dL_law_688 ki_1 rfl ?_
                                            refine Ex.iadd (M := mL_law) (pc2 := 690) dL_law_689 rfl ?_
                                            refine Ey.guard (fun hz93 => ?_)
                                            refine Ex.sld (M := mL_law) (pc2 := 691) rfl dL_law_690 hz93 rfl ?_
                                            refine Ey.callVi (M := mL_law) (pc2 := 694) (as := [.inl (xs (l3 + (1 : Int32)).toNatClampNeg)]) (rest := []) rfl dL_law_691 isX6_reasonClaim lcL_95 sh_0 rfl rfl ⟨(Nat.le_of_ble_eq_true rfl), (Nat.le_of_ble_eq_true rfl)⟩ rfl (Nat.le_of_ble_eq_true rfl) (Nat.le_of_ble_eq_true rfl) (t_X6_reasonClaim (xs (l3 + (1 : Int32)).toNatClampNeg) I) rfl (fun r94 I94 => ?_)
                                            refine Ex.aload_n (M := mL_law) (pc2 := 695) dL_law_694 rfl rfl rfl ?_
                                            refine Ex.aload_n (M := mL_law) (pc2 := 696) dL_law_695 rfl rfl rfl ?_
                                            refine Ex.iload_n (M := mL_law) (pc2 := 697) dL_law_696 rfl rfl rfl ?_
                                            refine Ex.iconst (M := mL_law) (pc2 := 698) dL_law_697 ki_1 rfl ?_
                                            refine Ex.iadd (M := mL_law) (pc2 := 699) dL_law_698 rfl ?_
                                            refine Ey.guard (fun hz95 => ?_)
                                            refine Ex.sld (M := mL_law) (pc2 := 700) rfl dL_law_699 hz95 rfl ?_
                                            refine Ey.callVi (M := mL_law) (pc2 := 703) (as := [.inl (xs (l3 + (1 : Int32)).toNatClampNeg)]) (rest := [.inl r94]) rfl dL_law_700 isX7_reasonClaim lcL_98 sh_69 rfl rfl ⟨(Nat.le_of_ble_eq_true rfl), (Nat.le_of_ble_eq_true rfl)⟩ rfl (Nat.le_of_ble_eq_true rfl) (Nat.le_of_ble_eq_true rfl) (t_X7_reasonClaim (xs (l3 + (1 : Int32)).toNatClampNeg) I94) rfl (fun r96 I96 => ?_)
                                            refine Ey.icmp_eq (M := mL_law) (tgt := 800) (pc2 := 706) dL_law_703 rfl (fun _ => ?_) rfl (fun _ => ?_)
                                            · refine Ey.iinc (M := mL_law) (pc2 := 803) dL_law_800 rfl ki_5 (Nat.le_of_ble_eq_true rfl) rfl rfl ?_
                                              refine Ex.goto (M := mL_law) (tgt := 18) dL_law_803 rfl ?_
                                              exact hk18 _ _
                                            · refine Ex.iconst (M := mL_law) (pc2 := 707) dL_law_706 ki_0 rfl ?_
                                              exact Ey.ireturn (M := mL_law) dL_law_707 rfl (by decide)
                                          · refine Ey.ite (fun hc17_20 => ?_) (fun hc17_20 => ?_)
                                            · refine Ey.tcase (M := mL_law) (c := 20) (off := 676) (tgt := 708) hc17_20 dL_law_32 (by decide) (by decide) (by decide) rfl ?_
                                              refine Ex.aload_n (M := mL_law) (pc2 := 709) dL_law_708 rfl rfl rfl ?_
                                              refine Ex.aload_n (M := mL_law) (pc2 := 710) dL_law_709 rfl rfl rfl ?_
                                              refine Ex.iload_n (M := mL_law) (pc2 := 711) dL_law_710 rfl rfl rfl ?_
                                              refine Ex.iconst (M := mL_law) (pc2 := 712) dL_law_711 ki_1 rfl ?_
                                              refine Ex.iadd (M := mL_law) (pc2 := 713) dL_law_712 rfl ?_
                                              refine Ey.guard (fun hz97 => ?_)
                                              refine Ex.sld (M := mL_law) (pc2 := 714) rfl dL_law_713 hz97 rfl ?_
                                              refine Ey.callVi (M := mL_law) (pc2 := 717) (as := [.inl (xs (l3 + (1 : Int32)).toNatClampNeg)]) (rest := []) rfl dL_law_714 isX6_next lcL_99 sh_0 rfl rfl ⟨(Nat.le_of_ble_eq_true rfl), (Nat.le_of_ble_eq_true rfl)⟩ rfl (Nat.le_of_ble_eq_true rfl) (Nat.le_of_ble_eq_true rfl) (t_X6_next (xs (l3 + (1 : Int32)).toNatClampNeg) I) rfl (fun r98 I98 => ?_)
                                              refine Ex.aload_n (M := mL_law) (pc2 := 718) dL_law_717 rfl rfl rfl ?_
                                              refine Ex.aload_n (M := mL_law) (pc2 := 719) dL_law_718 rfl rfl rfl ?_
                                              refine Ex.iload_n (M := mL_law) (pc2 := 720) dL_law_719 rfl rfl rfl ?_
                                              refine Ex.iconst (M := mL_law) (pc2 := 721) dL_law_720 ki_1 rfl ?_
                                              refine Ex.iadd (M := mL_law) (pc2 := 722) dL_law_721 rfl ?_
                                              refine Ey.guard (fun hz99 => ?_)
                                              refine Ex.sld (M := mL_law) (pc2 := 723) rfl dL_law_722 hz99 rfl ?_
                                              refine Ey.callVi (M := mL_law) (pc2 := 726) (as := [.inl (xs (l3 + (1 : Int32)).toNatClampNeg)]) (rest := [.inl r98]) rfl dL_law_723 isX7_next lcL_102 sh_69 rfl rfl ⟨(Nat.le_of_ble_eq_true rfl), (Nat.le_of_ble_eq_true rfl)⟩ rfl (Nat.le_of_ble_eq_true rfl) (Nat.le_of_ble_eq_true rfl) (t_X7_next (xs (l3 + (1 : Int32)).toNatClampNeg) I98) rfl (fun r100 I100 => ?_)
                                              refine Ey.icmp_eq (M := mL_law) (tgt := 800) (pc2 := 729) dL_law_726 rfl (fun _ => ?_) rfl (fun _ => ?_)
                                              · refine Ey.iinc (M := mL_law) (pc2 := 803) dL_law_800 rfl ki_5 (Nat.le_of_ble_eq_true rfl) rfl rfl ?_
                                                refine Ex.goto (M := mL_law) (tgt := 18) dL_law_803 rfl ?_
                                                exact hk18 _ _
                                              · refine Ex.iconst (M := mL_law) (pc2 := 730) dL_law_729 ki_0 rfl ?_
                                                exact Ey.ireturn (M := mL_law) dL_law_730 rfl (by decide)
                                            · refine Ey.ite (fun hc17_21 => ?_) (fun hc17_21 => ?_)
                                              · refine Ey.tcase (M := mL_law) (c := 21) (off := 699) (tgt := 731) hc17_21 dL_law_32 (by decide) (by decide) (by decide) rfl ?_
                                                refine Ex.aload_n (M := mL_law) (pc2 := 732) dL_law_731 rfl rfl rfl ?_
                                                refine Ex.aload_n (M := mL_law) (pc2 := 733) dL_law_732 rfl rfl rfl ?_
                                                refine Ex.iload_n (M := mL_law) (pc2 := 734) dL_law_733 rfl rfl rfl ?_
                                                refine Ex.iconst (M := mL_law) (pc2 := 735) dL_law_734 ki_1 rfl ?_
                                                refine Ex.iadd (M := mL_law) (pc2 := 736) dL_law_735 rfl ?_
                                                refine Ey.guard (fun hz101 => ?_)
                                                refine Ex.sld (M := mL_law) (pc2 := 737) rfl dL_law_736 hz101 rfl ?_
                                                refine Ey.callVi (M := mL_law) (pc2 := 740) (as := [.inl (xs (l3 + (1 : Int32)).toNatClampNeg)]) (rest := []) rfl dL_law_737 isX6_ifAllCome lcL_103 sh_0 rfl rfl ⟨(Nat.le_of_ble_eq_true rfl), (Nat.le_of_ble_eq_true rfl)⟩ rfl (Nat.le_of_ble_eq_true rfl) (Nat.le_of_ble_eq_true rfl) (t_X6_ifAllCome (xs (l3 + (1 : Int32)).toNatClampNeg) I) rfl (fun r102 I102 => ?_)
                                                refine Ex.aload_n (M := mL_law) (pc2 := 741) dL_law_740 rfl rfl rfl ?_
                                                refine Ex.aload_n (M := mL_law) (pc2 := 742) dL_law_741 rfl rfl rfl ?_
                                                refine Ex.iload_n (M := mL_law) (pc2 := 743) dL_law_742 rfl rfl rfl ?_
                                                refine Ex.iconst (M := mL_law) (pc2 := 744) dL_law_743 ki_1 rfl ?_
                                                refine Ex.iadd (M := mL_law) (pc2 := 745) dL_law_744 rfl ?_
                                                refine Ey.guard (fun hz103 => ?_)
                                                refine Ex.sld (M := mL_law) (pc2 := 746) rfl dL_law_745 hz103 rfl ?_
                                                refine Ey.callVi (M := mL_law) (pc2 := 749) (as := [.inl (xs (l3 + (1 : Int32)).toNatClampNeg)]) (rest := [.inl r102]) rfl dL_law_746 isX7_ifAllCome lcL_106 sh_69 rfl rfl ⟨(Nat.le_of_ble_eq_true rfl), (Nat.le_of_ble_eq_true rfl)⟩ rfl (Nat.le_of_ble_eq_true rfl) (Nat.le_of_ble_eq_true rfl) (t_X7_ifAllCome (xs (l3 + (1 : Int32)).toNatClampNeg) I102) rfl (fun r104 I104 => ?_)
                                                refine Ey.icmp_eq (M := mL_law) (tgt := 800) (pc2 := 752) dL_law_749 rfl (fun _ => ?_) rfl (fun _ => ?_)
                                                · refine Ey.iinc (M := mL_law) (pc2 := 803) dL_law_800 rfl ki_5 (Nat.le_of_ble_eq_true rfl) rfl rfl ?_
                                                  refine Ex.goto (M := mL_law) (tgt := 18) dL_law_803 rfl ?_
                                                  exact hk18 _ _
                                                · refine Ex.iconst (M := mL_law) (pc2 := 753) dL_law_752 ki_0 rfl ?_
                                                  exact Ey.ireturn (M := mL_law) dL_law_753 rfl (by decide)
                                              · refine Ey.ite (fun hc17_22 => ?_) (fun hc17_22 => ?_)
                                                · refine Ey.tcase (M := mL_law) (c := 22) (off := 722) (tgt := 754) hc17_22 dL_law_32 (by decide) (by decide) (by decide) rfl ?_
                                                  refine Ex.aload_n (M := mL_law) (pc2 := 755) dL_law_754 rfl rfl rfl ?_
                                                  refine Ex.aload_n (M := mL_law) (pc2 := 756) dL_law_755 rfl rfl rfl ?_
                                                  refine Ex.iload_n (M := mL_law) (pc2 := 757) dL_law_756 rfl rfl rfl ?_
                                                  refine Ex.iconst (M := mL_law) (pc2 := 758) dL_law_757 ki_1 rfl ?_
                                                  refine Ex.iadd (M := mL_law) (pc2 := 759) dL_law_758 rfl ?_
                                                  refine Ey.guard (fun hz105 => ?_)
                                                  refine Ex.sld (M := mL_law) (pc2 := 760) rfl dL_law_759 hz105 rfl ?_
                                                  refine Ey.callVi (M := mL_law) (pc2 := 763) (as := [.inl (xs (l3 + (1 : Int32)).toNatClampNeg)]) (rest := []) rfl dL_law_760 isX6_bestClaim lcL_107 sh_0 rfl rfl ⟨(Nat.le_of_ble_eq_true rfl), (Nat.le_of_ble_eq_true rfl)⟩ rfl (Nat.le_of_ble_eq_true rfl) (Nat.le_of_ble_eq_true rfl) (t_X6_bestClaim (xs (l3 + (1 : Int32)).toNatClampNeg) I) rfl (fun r106 I106 => ?_)
                                                  refine Ex.aload_n (M := mL_law) (pc2 := 764) dL_law_763 rfl rfl rfl ?_
                                                  refine Ex.aload_n (M := mL_law) (pc2 := 765) dL_law_764 rfl rfl rfl ?_
                                                  refine Ex.iload_n (M := mL_law) (pc2 := 766) dL_law_765 rfl rfl rfl ?_
                                                  refine Ex.iconst (M := mL_law) (pc2 := 767) dL_law_766 ki_1 rfl ?_
                                                  refine Ex.iadd (M := mL_law) (pc2 := 768) dL_law_767 rfl ?_
                                                  refine Ey.guard (fun hz107 => ?_)
                                                  refine Ex.sld (M := mL_law) (pc2 := 769) rfl dL_law_768 hz107 rfl ?_
                                                  refine Ey.callVi (M := mL_law) (pc2 := 772) (as := [.inl (xs (l3 + (1 : Int32)).toNatClampNeg)]) (rest := [.inl r106]) rfl dL_law_769 isX7_bestClaim lcL_110 sh_69 rfl rfl ⟨(Nat.le_of_ble_eq_true rfl), (Nat.le_of_ble_eq_true rfl)⟩ rfl (Nat.le_of_ble_eq_true rfl) (Nat.le_of_ble_eq_true rfl) (t_X7_bestClaim (xs (l3 + (1 : Int32)).toNatClampNeg) I106) rfl (fun r108 I108 => ?_)
                                                  refine Ey.icmp_eq (M := mL_law) (tgt := 800) (pc2 := 775) dL_law_772 rfl (fun _ => ?_) rfl (fun _ => ?_)
                                                  · refine Ey.iinc (M := mL_law) (pc2 := 803) dL_law_800 rfl ki_5 (Nat.le_of_ble_eq_true rfl) rfl rfl ?_
                                                    refine Ex.goto (M := mL_law) (tgt := 18) dL_law_803 rfl ?_
                                                    exact hk18 _ _
                                                  · refine Ex.iconst (M := mL_law) (pc2 := 776) dL_law_775 ki_0 rfl ?_
                                                    exact Ey.ireturn (M := mL_law) dL_law_776 rfl (by decide)
                                                · refine Ey.ite (fun hc17_23 => ?_) (fun hc17_23 => ?_)
                                                  · refine Ey.tcase (M := mL_law) (c := 23) (off := 745) (tgt := 777) hc17_23 dL_law_32 (by decide) (by decide) (by decide) rfl ?_
                                                    refine Ex.aload_n (M := mL_law) (pc2 := 778) dL_law_777 rfl rfl rfl ?_
                                                    refine Ex.aload_n (M := mL_law) (pc2 := 779) dL_law_778 rfl rfl rfl ?_
                                                    refine Ex.iload_n (M := mL_law) (pc2 := 780) dL_law_779 rfl rfl rfl ?_
                                                    refine Ex.iconst (M := mL_law) (pc2 := 781) dL_law_780 ki_1 rfl ?_
                                                    refine Ex.iadd (M := mL_law) (pc2 := 782) dL_law_781 rfl ?_
                                                    refine Ey.guard (fun hz109 => ?_)
                                                    refine Ex.sld (M := mL_law) (pc2 := 783) rfl dL_law_782 hz109 rfl ?_
                                                    refine Ey.callVi (M := mL_law) (pc2 := 786) (as := [.inl (xs (l3 + (1 : Int32)).toNatClampNeg)]) (rest := []) rfl dL_law_783 isX6_count lcL_111 sh_0 rfl rfl ⟨(Nat.le_of_ble_eq_true rfl), (Nat.le_of_ble_eq_true rfl)⟩ rfl (Nat.le_of_ble_eq_true rfl) (Nat.le_of_ble_eq_true rfl) (t_X6_count (xs (l3 + (1 : Int32)).toNatClampNeg) I) rfl (fun r110 I110 => ?_)
                                                    refine Ex.aload_n (M := mL_law) (pc2 := 787) dL_law_786 rfl rfl rfl ?_
                                                    refine Ex.aload_n (M := mL_law) (pc2 := 788) dL_law_787 rfl rfl rfl ?_
                                                    refine Ex.iload_n (M := mL_law) (pc2 := 789) dL_law_788 rfl rfl rfl ?_
                                                    refine Ex.iconst (M := mL_law) (pc2 := 790) dL_law_789 ki_1 rfl ?_
                                                    refine Ex.iadd (M := mL_law) (pc2 := 791) dL_law_790 rfl ?_
                                                    refine Ey.guard (fun hz111 => ?_)
                                                    refine Ex.sld (M := mL_law) (pc2 := 792) rfl dL_law_791 hz111 rfl ?_
                                                    refine Ey.callVi (M := mL_law) (pc2 := 795) (as := [.inl (xs (l3 + (1 : Int32)).toNatClampNeg)]) (rest := [.inl r110]) rfl dL_law_792 isX7_count lcL_114 sh_69 rfl rfl ⟨(Nat.le_of_ble_eq_true rfl), (Nat.le_of_ble_eq_true rfl)⟩ rfl (Nat.le_of_ble_eq_true rfl) (Nat.le_of_ble_eq_true rfl) (t_X7_count (xs (l3 + (1 : Int32)).toNatClampNeg) I110) rfl (fun r112 I112 => ?_)
                                                    refine Ey.icmp_eq (M := mL_law) (tgt := 800) (pc2 := 798) dL_law_795 rfl (fun _ => ?_) rfl (fun _ => ?_)
                                                    · refine Ey.iinc (M := mL_law) (pc2 := 803) dL_law_800 rfl ki_5 (Nat.le_of_ble_eq_true rfl) rfl rfl ?_
                                                      refine Ex.goto (M := mL_law) (tgt := 18) dL_law_803 rfl ?_
                                                      exact hk18 _ _
                                                    · refine Ex.iconst (M := mL_law) (pc2 := 799) dL_law_798 ki_0 rfl ?_
                                                      exact Ey.ireturn (M := mL_law) dL_law_799 rfl (by decide)
                                                  · refine Ex.tableOut (M := mL_law) (tgt := 800) dL_law_32 (xOut (n := 24) (by decide) (fun j hj => match j, hj with | 0, _ => xNe hc17_0 (by decide) | 1, _ => xNe hc17_1 (by decide) | 2, _ => xNe hc17_2 (by decide) | 3, _ => xNe hc17_3 (by decide) | 4, _ => xNe hc17_4 (by decide) | 5, _ => xNe hc17_5 (by decide) | 6, _ => xNe hc17_6 (by decide) | 7, _ => xNe hc17_7 (by decide) | 8, _ => xNe hc17_8 (by decide) | 9, _ => xNe hc17_9 (by decide) | 10, _ => xNe hc17_10 (by decide) | 11, _ => xNe hc17_11 (by decide) | 12, _ => xNe hc17_12 (by decide) | 13, _ => xNe hc17_13 (by decide) | 14, _ => xNe hc17_14 (by decide) | 15, _ => xNe hc17_15 (by decide) | 16, _ => xNe hc17_16 (by decide) | 17, _ => xNe hc17_17 (by decide) | 18, _ => xNe hc17_18 (by decide) | 19, _ => xNe hc17_19 (by decide) | 20, _ => xNe hc17_20 (by decide) | 21, _ => xNe hc17_21 (by decide) | 22, _ => xNe hc17_22 (by decide) | 23, _ => xNe hc17_23 (by decide) | j + 24, hj => absurd hj (by omega))) rfl ?_
                                                    refine Ey.iinc (M := mL_law) (pc2 := 803) dL_law_800 rfl ki_5 (Nat.le_of_ble_eq_true rfl) rfl rfl ?_
                                                    refine Ex.goto (M := mL_law) (tgt := 18) dL_law_803 rfl ?_
                                                    exact hk18 _ _
def f_L_law_18 (L : Nat) (xs : Nat → Int32) : Nat → Int32 → xI → Option (Int32 × xI)
  | 0, _, _ => none
  | n + 1, l3, I => f_L_law_18b L xs (fun l3 I => f_L_law_18 L xs n l3 I) l3 I
theorem t_L_law_18 (L : Nat) (xs : Nat → Int32) : ∀ (n : Nat) (l3 : Int32) (I : xI), Ey (some (L, xs)) mL_law 18 [some (.inr none), some (.inr (some 0)), some (.inr (some 69)), some (.inl l3)] [] I (f_L_law_18 L xs n l3 I)
  | 0, l3, I => Ey.nil
  | n + 1, l3, I => t_L_law_18b L xs (fun l3 I => f_L_law_18 L xs n l3 I) (fun l3 I => t_L_law_18 L xs n l3 I) l3 I
