/-- the owner of a field, as the class tells it -/
def cOwn (I : xI) (b f : Nat) : Int32 := if I (b + 4) f = -5 then -5 else I (b + 5) (10 * (I (b + 4) f).toNatClampNeg)
def TK (w : Nat) (I : xI) (b : Nat) : Prop := ∀ f, f < 48 → I (b + 4) f = -5 ∨ ∃ k, k < w ∧ I (b + 4) f = nI k
theorem ff_takerOf {b f : Nat} (h : f < 48) (I : xI) : f_X5_takerOf b (nI f) I = some (I (b + 4) f, I) := by
  unfold f_X5_takerOf
  rw [ff_isField_yes h, xb_some, if_neg (by decide), if_pos (xin_nI h (by decide)), nI_clamp (by omega)]
theorem ff_ownerOf {b f w : Nat} {I : xI} (hw : I b 1 = nI w) (hw6 : w ≤ 60) (ht : TK w I b) (h : f < 48) : f_X5_ownerOf b (nI f) I = some (cOwn I b f, I) := by
  unfold f_X5_ownerOf
  rw [ff_takerOf h, xb_some]
  rcases ht f h with q | ⟨k, hk, q⟩
  · rw [q, ff_told_m5 hw hw6, xb_some, cOwn, if_pos q]
  · rw [q, ff_told0 hw hw6 hk, xb_some, cOwn, if_neg (by rw [q]; exact nI_m5 (by omega)), q, nI_clamp (by omega)]
theorem lp_edgesC {b : Nat} {v : Int32} {I : xI} : ∀ (m i c n : Nat), i + m = 82 → m < n → f_X5_edgesWith_4 b n v (nI c) (nI i) I = some (nI (c + (List.range' i m).countP (fun k => decide (I (b + 3) k = v))), I) := by
  intro m
  induction m with
  | zero =>
    intro i c n hi hn
    obtain ⟨n, rfl⟩ : ∃ n', n = n' + 1 := ⟨n - 1, by omega⟩
    show f_X5_edgesWith_4b b _ v (nI c) (nI i) I = _
    unfold f_X5_edgesWith_4b
    rw [if_pos (show nI i ≥ (82 : Int32) by rw [show i = 82 by omega]; exact Int32.le_refl _)]
    rfl
  | succ m ih =>
    intro i c n hi hn
    obtain ⟨n, rfl⟩ : ∃ n', n = n' + 1 := ⟨n - 1, by omega⟩
    show f_X5_edgesWith_4b b _ v (nI c) (nI i) I = _
    unfold f_X5_edgesWith_4b
    rw [if_neg (show ¬ nI i ≥ (82 : Int32) from nI_ge (b := 82) (by omega) (by decide)), if_pos (xin_nI (by omega) (by decide)), nI_clamp (by omega), List.range'_succ, List.countP_cons]
    by_cases h : I (b + 3) i = v
    · rw [if_neg (fun q => q h), nI_1, nI_1]
      refine (ih (i + 1) (c + 1) n (by omega) (by omega)).trans ?_
      rw [if_pos (by simpa using h)]
      congr 3
      omega
    · rw [if_pos h, nI_1]
      refine (ih (i + 1) c n (by omega) (by omega)).trans ?_
      rw [if_neg (by simpa using h)]
      rfl
theorem ff_edgesWith (b : Nat) (v : Int32) (I : xI) : f_X5_edgesWith b v I = some (nI ((List.range' 0 82).countP (fun k => decide (I (b + 3) k = v))), I) := by
  unfold f_X5_edgesWith
  have h := lp_edgesC (b := b) (v := v) (I := I) 82 0 0 xZ (by omega) (by unfold xZ; omega)
  rw [Nat.zero_add] at h
  exact h
theorem lp_edgesM {v : Int32} {J : xI} : ∀ (m i c n : Nat), i + m = 82 → m < n → f_X7_edgesThat_4 n v (nI c) (nI i) J = some (nI (c + (List.range' i m).countP (fun k => decide (J 70 (12 + k) = v))), J) := by
  intro m
  induction m with
  | zero =>
    intro i c n hi hn
    obtain ⟨n, rfl⟩ : ∃ n', n = n' + 1 := ⟨n - 1, by omega⟩
    show f_X7_edgesThat_4b _ v (nI c) (nI i) J = _
    unfold f_X7_edgesThat_4b
    rw [if_pos (show nI i ≥ (82 : Int32) by rw [show i = 82 by omega]; exact Int32.le_refl _)]
    rfl
  | succ m ih =>
    intro i c n hi hn
    obtain ⟨n, rfl⟩ : ∃ n', n = n' + 1 := ⟨n - 1, by omega⟩
    show f_X7_edgesThat_4b _ v (nI c) (nI i) J = _
    unfold f_X7_edgesThat_4b
    rw [if_neg (show ¬ nI i ≥ (82 : Int32) from nI_ge (b := 82) (by omega) (by decide)), show (12 : Int32) + nI i = nI (12 + i) from nI_add 12 i, if_pos (xin_nI (by omega) (by decide)), nI_clamp (by omega), List.range'_succ, List.countP_cons]
    by_cases h : J 70 (12 + i) = v
    · rw [if_neg (fun q => q h), nI_1, nI_1]
      refine (ih (i + 1) (c + 1) n (by omega) (by omega)).trans ?_
      rw [if_pos (by simpa using h)]
      congr 3
      omega
    · rw [if_pos h, nI_p0, nI_1]
      refine (ih (i + 1) c n (by omega) (by omega)).trans ?_
      rw [if_neg (by simpa using h)]
      rfl
theorem gg_edgesThat (v : Int32) (J : xI) : f_X7_edgesThat v J = some (nI ((List.range' 0 82).countP (fun k => decide (J 70 (12 + k) = v))), J) := by
  unfold f_X7_edgesThat
  have h := lp_edgesM (v := v) (J := J) 82 0 0 xZ (by omega) (by unfold xZ; omega)
  rw [Nat.zero_add] at h
  exact h
theorem lp_fieldsC {b w : Nat} {v : Int32} {I : xI} (hw : I b 1 = nI w) (hw6 : w ≤ 60) (ht : TK w I b) : ∀ (m i c n : Nat), i + m = 48 → m < n → f_X5_fieldsOf_4 b n v (nI c) (nI i) I = some (nI (c + (List.range' i m).countP (fun k => decide (cOwn I b k = v))), I) := by
  intro m
  induction m with
  | zero =>
    intro i c n hi hn
    obtain ⟨n, rfl⟩ : ∃ n', n = n' + 1 := ⟨n - 1, by omega⟩
    show f_X5_fieldsOf_4b b _ v (nI c) (nI i) I = _
    unfold f_X5_fieldsOf_4b
    rw [if_pos (show nI i ≥ (48 : Int32) by rw [show i = 48 by omega]; exact Int32.le_refl _)]
    rfl
  | succ m ih =>
    intro i c n hi hn
    obtain ⟨n, rfl⟩ : ∃ n', n = n' + 1 := ⟨n - 1, by omega⟩
    show f_X5_fieldsOf_4b b _ v (nI c) (nI i) I = _
    unfold f_X5_fieldsOf_4b
    rw [if_neg (show ¬ nI i ≥ (48 : Int32) from nI_ge (b := 48) (by omega) (by decide)), ff_ownerOf hw hw6 ht (by omega), xb_some, List.range'_succ, List.countP_cons]
    by_cases h : cOwn I b i = v
    · rw [if_neg (fun q => q h), nI_1, nI_1]
      refine (ih (i + 1) (c + 1) n (by omega) (by omega)).trans ?_
      rw [if_pos (by simpa using h)]
      congr 3
      omega
    · rw [if_pos h, nI_1]
      refine (ih (i + 1) c n (by omega) (by omega)).trans ?_
      rw [if_neg (by simpa using h)]
      rfl
theorem ff_fieldsOf {b w : Nat} (v : Int32) {I : xI} (hw : I b 1 = nI w) (hw6 : w ≤ 60) (ht : TK w I b) : f_X5_fieldsOf b v I = some (nI ((List.range' 0 48).countP (fun k => decide (cOwn I b k = v))), I) := by
  unfold f_X5_fieldsOf
  have h := lp_fieldsC (v := v) hw hw6 ht 48 0 0 xZ (by omega) (by unfold xZ; omega)
  rw [Nat.zero_add] at h
  exact h
theorem lp_fieldsM {v : Int32} {J : xI} : ∀ (m i c n : Nat), i + m = 48 → m < n → f_X7_fieldsOf_4 n v (nI c) (nI i) J = some (nI (c + (List.range' i m).countP (fun k => decide (J 70 (94 + k) = v))), J) := by
  intro m
  induction m with
  | zero =>
    intro i c n hi hn
    obtain ⟨n, rfl⟩ : ∃ n', n = n' + 1 := ⟨n - 1, by omega⟩
    show f_X7_fieldsOf_4b _ v (nI c) (nI i) J = _
    unfold f_X7_fieldsOf_4b
    rw [if_pos (show nI i ≥ (48 : Int32) by rw [show i = 48 by omega]; exact Int32.le_refl _)]
    rfl
  | succ m ih =>
    intro i c n hi hn
    obtain ⟨n, rfl⟩ : ∃ n', n = n' + 1 := ⟨n - 1, by omega⟩
    show f_X7_fieldsOf_4b _ v (nI c) (nI i) J = _
    unfold f_X7_fieldsOf_4b
    rw [if_neg (show ¬ nI i ≥ (48 : Int32) from nI_ge (b := 48) (by omega) (by decide)), show (94 : Int32) + nI i = nI (94 + i) from nI_add 94 i, if_pos (xin_nI (by omega) (by decide)), nI_clamp (by omega), List.range'_succ, List.countP_cons]
    by_cases h : J 70 (94 + i) = v
    · rw [if_neg (fun q => q h), nI_1, nI_1]
      refine (ih (i + 1) (c + 1) n (by omega) (by omega)).trans ?_
      rw [if_pos (by simpa using h)]
      congr 3
      omega
    · rw [if_pos h, nI_p0, nI_1]
      refine (ih (i + 1) c n (by omega) (by omega)).trans ?_
      rw [if_neg (by simpa using h)]
      rfl
theorem gg_fieldsOf (v : Int32) (J : xI) : f_X7_fieldsOf v J = some (nI ((List.range' 0 48).countP (fun k => decide (J 70 (94 + k) = v))), J) := by
  unfold f_X7_fieldsOf
  have h := lp_fieldsM (v := v) (J := J) 48 0 0 xZ (by omega) (by unfold xZ; omega)
  rw [Nat.zero_add] at h
  exact h
theorem lp_twos {b w : Nat} {I : xI} (hw : I b 1 = nI w) (hw6 : w ≤ 60) : ∀ (m i c n : Nat), i + m = w → m < n → f_X5_turnsOfTwo_4 b n (nI c) (nI i) I = some (nI (c + ((List.range' i m).countP (fun k => decide (¬ I (b + 5) (10 * k + 9) = -5)))) / (2 : Int32), I) := by
  intro m
  induction m with
  | zero =>
    intro i c n hi hn
    obtain ⟨n, rfl⟩ : ∃ n', n = n' + 1 := ⟨n - 1, by omega⟩
    show f_X5_turnsOfTwo_4b b _ (nI c) (nI i) I = _
    unfold f_X5_turnsOfTwo_4b
    rw [hw, if_pos (show nI i ≥ nI w by rw [show i = w by omega]; exact Int32.le_refl _)]
    rfl
  | succ m ih =>
    intro i c n hi hn
    obtain ⟨n, rfl⟩ : ∃ n', n = n' + 1 := ⟨n - 1, by omega⟩
    show f_X5_turnsOfTwo_4b b _ (nI c) (nI i) I = _
    unfold f_X5_turnsOfTwo_4b
    rw [hw, if_neg (nI_ge (by omega) (by omega)), ff_told9 hw hw6 (by omega), xb_some, List.range'_succ, List.countP_cons]
    by_cases h : I (b + 5) (10 * i + 9) = -5
    · rw [if_pos h, nI_1]
      refine (ih (i + 1) c n (by omega) (by omega)).trans ?_
      rw [if_neg (by simpa using h)]
      rfl
    · rw [if_neg h, nI_1, nI_1]
      refine (ih (i + 1) (c + 1) n (by omega) (by omega)).trans ?_
      rw [if_pos (by simpa using h)]
      congr 4
      omega
theorem ff_twos {b w : Nat} {I : xI} (hw : I b 1 = nI w) (hw6 : w ≤ 60) : f_X5_turnsOfTwo b I = some (nI ((List.range' 0 w).countP (fun k => decide (¬ I (b + 5) (10 * k + 9) = -5))) / (2 : Int32), I) := by
  unfold f_X5_turnsOfTwo
  have h := lp_twos hw hw6 w 0 0 xZ (by omega) (by unfold xZ; omega)
  rw [Nat.zero_add] at h
  exact h
/-! ===== the next letter ===== -/
/-- r is the soonest of the letters below n that are on their way, by facts F k j -/
def Soon (F : Nat → Nat → Int32) (n : Nat) (r : Int32) : Prop := (r = -5 ∧ ∀ k, k < n → F k 6 ≠ 0) ∨ ∃ k, k < n ∧ r = nI k ∧ F k 6 = 0 ∧ ∀ j, j < n → F j 6 = 0 → F k 5 < F j 5 ∨ (F k 5 = F j 5 ∧ k ≤ j)
theorem Soon.uniq {F : Nat → Nat → Int32} {n : Nat} {r r' : Int32} (hn : n < 2 ^ 31) (h : Soon F n r) (h' : Soon F n r') : r = r' := by
  rcases h with ⟨h1, h2⟩ | ⟨k, hk, h1, h2, h3⟩ <;> rcases h' with ⟨g1, g2⟩ | ⟨k', hk', g1, g2, g3⟩
  · rw [h1, g1]
  · exact absurd g2 (h2 k' hk')
  · exact absurd h2 (g2 k hk)
  · have a := h3 k' hk' g2
    have b := g3 k hk h2
    have : k = k' := by
      rcases a with a | ⟨a1, a2⟩ <;> rcases b with b | ⟨b1, b2⟩
      · exact (Int32.lt_irrefl (Int32.lt_trans a b)).elim
      · rw [b1] at a; exact (Int32.lt_irrefl a).elim
      · rw [a1] at b; exact (Int32.lt_irrefl b).elim
      · omega
    rw [h1, g1, this]
/-- the soonest from above: letters i .. w - 1 -/
def SoonD (F : Nat → Nat → Int32) (i w : Nat) (r : Int32) : Prop := (r = -5 ∧ ∀ k, i ≤ k → k < w → F k 6 ≠ 0) ∨ ∃ k, i ≤ k ∧ k < w ∧ r = nI k ∧ F k 6 = 0 ∧ ∀ j, i ≤ j → j < w → F j 6 = 0 → F k 5 < F j 5 ∨ (F k 5 = F j 5 ∧ k ≤ j)
def FC (I : xI) (b : Nat) : Nat → Nat → Int32 := fun k j => I (b + 5) (10 * k + j)
def FM (J : xI) : Nat → Nat → Int32 := fun k j => J 70 (142 + 10 * k + j)
theorem lp_soonest {b w : Nat} {I : xI} (hw : I b 1 = nI w) (hw6 : w ≤ 60) : ∀ (m i n : Nat) (r : Int32), i + m = w → m < n → Soon (FC I b) i r → ∃ r', f_X5_soonest_5 b n r (nI i) I = some (r', I) ∧ Soon (FC I b) w r' := by
  intro m
  induction m with
  | zero =>
    intro i n r hi hn hS
    obtain ⟨n, rfl⟩ : ∃ n', n = n' + 1 := ⟨n - 1, by omega⟩
    refine ⟨r, ?_, by rw [show w = i by omega]; exact hS⟩
    show f_X5_soonest_5b b _ r (nI i) I = _
    unfold f_X5_soonest_5b
    rw [hw, if_pos (show nI i ≥ nI w by rw [show i = w by omega]; exact Int32.le_refl _)]
  | succ m ih =>
    intro i n r hi hn hS
    obtain ⟨n, rfl⟩ : ∃ n', n = n' + 1 := ⟨n - 1, by omega⟩
    show ∃ r', f_X5_soonest_5b b _ r (nI i) I = _ ∧ _
    unfold f_X5_soonest_5b
    rw [hw, if_neg (nI_ge (by omega) (by omega)), ff_told6 hw hw6 (by omega), xb_some, nI_1]
    by_cases h : I (b + 5) (10 * i + 6) = 0
    · rw [if_pos h]
      rcases hS with ⟨h1, h2⟩ | ⟨k, hk, h1, h2, h3⟩
      · rw [if_pos h1]
        refine ih (i + 1) n (nI i) (by omega) (by omega) (Or.inr ⟨i, by omega, rfl, h, fun j hj h6 => ?_⟩)
        rcases Nat.lt_or_ge j i with q | q
        · exact absurd h6 (h2 j q)
        · rw [show j = i by omega]; exact Or.inr ⟨rfl, Nat.le_refl _⟩
      · rw [if_neg (by rw [h1]; exact nI_m5 (by omega)), ff_told5 hw hw6 (by omega), xb_some, h1, ff_told5 hw hw6 (by omega), xb_some]
        by_cases hge : I (b + 5) (10 * i + 5) ≥ I (b + 5) (10 * k + 5)
        · rw [if_pos hge]
          refine ih (i + 1) n (nI k) (by omega) (by omega) (Or.inr ⟨k, by omega, rfl, h2, fun j hj h6 => ?_⟩)
          rcases Nat.lt_or_ge j i with q | q
          · exact h3 j q h6
          · rw [show j = i by omega]
            rcases Int32.lt_or_le (FC I b k 5) (FC I b i 5) with z | z
            · exact Or.inl z
            · exact Or.inr ⟨Int32.le_antisymm hge z, by omega⟩
        · rw [if_neg hge]
          have hlt : FC I b i 5 < FC I b k 5 := Int32.not_le.mp hge
          refine ih (i + 1) n (nI i) (by omega) (by omega) (Or.inr ⟨i, by omega, rfl, h, fun j hj h6 => ?_⟩)
          rcases Nat.lt_or_ge j i with q | q
          · rcases h3 j q h6 with z | ⟨z, -⟩
            · exact Or.inl (Int32.lt_trans hlt z)
            · exact Or.inl (by rw [← z]; exact hlt)
          · rw [show j = i by omega]; exact Or.inr ⟨rfl, Nat.le_refl _⟩
    · rw [if_neg h]
      refine ih (i + 1) n r (by omega) (by omega) ?_
      rcases hS with ⟨h1, h2⟩ | ⟨k, hk, h1, h2, h3⟩
      · refine Or.inl ⟨h1, fun j hj => ?_⟩
        rcases Nat.lt_or_ge j i with q | q
        · exact h2 j q
        · rw [show j = i by omega]; exact h
      · refine Or.inr ⟨k, by omega, h1, h2, fun j hj h6 => ?_⟩
        rcases Nat.lt_or_ge j i with q | q
        · exact h3 j q h6
        · rw [show j = i by omega] at h6; exact absurd h6 h
theorem ff_soonest {b w : Nat} {I : xI} (hw : I b 1 = nI w) (hw6 : w ≤ 60) : ∃ r, f_X5_soonest b I = some (r, I) ∧ Soon (FC I b) w r := by
  unfold f_X5_soonest
  exact lp_soonest hw hw6 w 0 xZ (-5) (by omega) (by unfold xZ; omega) (Or.inl ⟨rfl, fun k hk => absurd hk (by omega)⟩)
theorem m1_lt : ((-1 : Int32) < 0) := by decide
theorem nI_m1 (m : Nat) : nI m + (-1) = nI m - 1 := by rw [Int32.sub_eq_add_neg]
theorem nI_m0 : nI 0 - 1 = -1 := by decide
theorem lp_next {w : Nat} {J : xI} (hw6 : w ≤ 60) : ∀ (m n : Nat) (r : Int32), m ≤ w → m < n → SoonD (FM J) m w r → ∃ r', f_X7_nextLetter_12 n r (nI m - 1) J = some (r', J) ∧ SoonD (FM J) 0 w r' := by
  intro m
  induction m with
  | zero =>
    intro n r hm hn hS
    obtain ⟨n, rfl⟩ : ∃ n', n = n' + 1 := ⟨n - 1, by omega⟩
    refine ⟨r, ?_, hS⟩
    show f_X7_nextLetter_12b _ r (nI 0 - 1) J = _
    unfold f_X7_nextLetter_12b
    rw [nI_m0, if_pos m1_lt]
  | succ m ih =>
    intro n r hm hn hS
    obtain ⟨n, rfl⟩ : ∃ n', n = n' + 1 := ⟨n - 1, by omega⟩
    show ∃ r', f_X7_nextLetter_12b _ r (nI (m + 1) - 1) J = _ ∧ _
    unfold f_X7_nextLetter_12b
    rw [nI_pred, if_neg (nI_pos (by omega)), gg_of6 (by omega), xb_some, nI_m1]
    by_cases h : J 70 (142 + 10 * m + 6) = 0
    · rw [if_neg (fun q => q h)]
      rcases hS with ⟨h1, h2⟩ | ⟨k, hk0, hk, h1, h2, h3⟩
      · rw [if_pos h1]
        refine ih n (nI m) (by omega) (by omega) (Or.inr ⟨m, Nat.le_refl _, by omega, rfl, h, fun j hj1 hj h6 => ?_⟩)
        rcases Nat.eq_or_lt_of_le hj1 with q | q
        · rw [← q]; exact Or.inr ⟨rfl, Nat.le_refl _⟩
        · exact absurd h6 (h2 j q hj)
      · rw [if_neg (by rw [h1]; exact nI_m5 (by omega)), gg_of5 (by omega), xb_some, h1, gg_of5 (by omega), xb_some]
        by_cases hge : J 70 (142 + 10 * m + 5) > J 70 (142 + 10 * k + 5)
        · rw [if_pos hge]
          refine ih n (nI k) (by omega) (by omega) (Or.inr ⟨k, by omega, hk, rfl, h2, fun j hj1 hj h6 => ?_⟩)
          rcases Nat.eq_or_lt_of_le hj1 with q | q
          · rw [← q]; exact Or.inl hge
          · exact h3 j q hj h6
        · rw [if_neg hge]
          have hle : FM J m 5 ≤ FM J k 5 := Int32.not_lt.mp hge
          refine ih n (nI m) (by omega) (by omega) (Or.inr ⟨m, Nat.le_refl _, by omega, rfl, h, fun j hj1 hj h6 => ?_⟩)
          rcases Nat.eq_or_lt_of_le hj1 with q | q
          · rw [← q]; exact Or.inr ⟨rfl, Nat.le_refl _⟩
          · rcases h3 j q hj h6 with z | ⟨z, z2⟩
            · exact Or.inl (Int32.lt_of_le_of_lt hle z)
            · rcases Int32.lt_or_le (FM J m 5) (FM J j 5) with y | y
              · exact Or.inl y
              · exact Or.inr ⟨Int32.le_antisymm (by rw [← z]; exact hle) y, by omega⟩
    · rw [if_pos h]
      refine ih n r (by omega) (by omega) ?_
      rcases hS with ⟨h1, h2⟩ | ⟨k, hk0, hk, h1, h2, h3⟩
      · refine Or.inl ⟨h1, fun j hj1 hj => ?_⟩
        rcases Nat.eq_or_lt_of_le hj1 with q | q
        · rw [← q]; exact h
        · exact h2 j q hj
      · refine Or.inr ⟨k, by omega, hk, h1, h2, fun j hj1 hj h6 => ?_⟩
        rcases Nat.eq_or_lt_of_le hj1 with q | q
        · rw [← q] at h6; exact absurd h6 h
        · exact h3 j q hj h6
theorem gg_next {w : Nat} {J : xI} (hw : J 70 1 = nI w) (hw6 : w ≤ 60) : ∃ r, f_X7_nextLetter J = some (r, J) ∧ Soon (FM J) w r := by
  unfold f_X7_nextLetter
  rw [hw]
  obtain ⟨r, h1, h2⟩ := lp_next (J := J) hw6 w xZ (-5) (Nat.le_refl _) (by unfold xZ; omega) (Or.inl ⟨rfl, fun k h1 h2 => absurd h1 (by omega)⟩)
  refine ⟨r, h1, ?_⟩
  rcases h2 with ⟨g1, g2⟩ | ⟨k, -, hk, g1, g2, g3⟩
  · exact Or.inl ⟨g1, fun k hk => g2 k (Nat.zero_le _) hk⟩
  · exact Or.inr ⟨k, hk, g1, g2, fun j hj h6 => g3 j (Nat.zero_le _) hj h6⟩
