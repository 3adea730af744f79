/-! ===== letters: the class's facts at cell b+5, the model's at 142 + 10 k + j of its row ===== -/
theorem ff_hasLetter_yes {b k w : Nat} {I : xI} (hw : I b 1 = nI w) (hw6 : w ≤ 60) (hk : k < w) : f_X5_hasLetter b (nI k) I = some (1, I) := by
  unfold f_X5_hasLetter
  rw [if_neg (nI_pos (by omega)), hw, if_neg (nI_ge hk (by omega)), if_neg (show ¬ nI k ≥ (60 : Int32) from nI_ge (b := 60) (by omega) (by decide))]
theorem ff_hasLetter_cases {b w : Nat} (x : Int32) {I : xI} (hw : I b 1 = nI w) (hw6 : w ≤ 60) : (∃ k, k < w ∧ x = nI k) ∨ ((∀ k, k < w → x ≠ nI k) ∧ f_X5_hasLetter b x I = some (0, I)) := by
  rcases nI_cases x (n := w) (by omega) with h | h | h
  · refine Or.inr ⟨fun k hk q => nI_pos (n := k) (by omega) (q ▸ h), ?_⟩
    unfold f_X5_hasLetter; rw [if_pos h]
  · refine Or.inr ⟨fun k hk q => by subst q; exact nI_ge hk (by omega) h, ?_⟩
    unfold f_X5_hasLetter
    split
    · rfl
    · rw [if_pos (by rw [hw]; exact h)]
  · exact Or.inl h
theorem ff_told {b k w j : Nat} {I : xI} (hw : I b 1 = nI w) (hw6 : w ≤ 60) (hk : k < w) (hj : j < 10) : f_X5_told b (nI k) (nI j) I = some (I (b + 5) (10 * k + j), I) := by
  unfold f_X5_told
  have h4 : ¬ nI j < 0 := nI_pos (by omega)
  have h5 : nI j < (10 : Int32) := nI_lt (b := 10) hj (by decide)
  have e : nI k * (10 : Int32) + nI j = nI (10 * k + j) := by
    rw [show (10 : Int32) = nI 10 from rfl, nI_mulc, nI_add, Nat.mul_comm k 10]
  rw [ff_hasLetter_yes hw hw6 hk, xb_some, if_neg (by decide), if_neg h4, if_pos h5, e, if_pos (xin_nI (by omega) (by decide)), nI_clamp (by omega)]
theorem ff_told_no {b w : Nat} {x y : Int32} {I : xI} (hw : I b 1 = nI w) (hw6 : w ≤ 60) (h : ∀ k, k < w → x ≠ nI k) : f_X5_told b x y I = some (-5, I) := by
  rcases ff_hasLetter_cases (b := b) x hw hw6 with ⟨k, hk, q⟩ | ⟨-, h2⟩
  · exact absurd q (h k hk)
  · unfold f_X5_told
    rw [h2, xb_some, if_pos rfl]
theorem ff_told_m5 {b w : Nat} {y : Int32} {I : xI} (hw : I b 1 = nI w) (hw6 : w ≤ 60) : f_X5_told b (-5) y I = some (-5, I) := ff_told_no hw hw6 (fun k hk => nI_m5' (by omega))
theorem ff_mark {b k w j : Nat} {I : xI} {v : Int32} (hw : I b 1 = nI w) (hw6 : w ≤ 60) (hk : k < w) (hj : j < 10) : f_X5_mark b (nI k) (nI j) v I = some (0, xup I (b + 5) (10 * k + j) v) := by
  unfold f_X5_mark
  have h4 : ¬ nI j < 0 := nI_pos (by omega)
  have h5 : ¬ nI j ≥ (10 : Int32) := nI_ge (b := 10) hj (by decide)
  have e : nI k * (10 : Int32) + nI j = nI (10 * k + j) := by
    rw [show (10 : Int32) = nI 10 from rfl, nI_mulc, nI_add, Nat.mul_comm k 10]
  rw [ff_hasLetter_yes hw hw6 hk, xb_some, if_neg (by decide), if_neg h4, if_neg h5, e, if_pos (xin_nI (by omega) (by decide)), nI_clamp (by omega)]
theorem gg_at (k j : Nat) (J : xI) : f_X7_at (nI k) (nI j) J = some (nI (142 + 10 * k + j), J) := by
  unfold f_X7_at
  rw [show (142 : Int32) = nI 142 from rfl, show (10 : Int32) = nI 10 from rfl, nI_mulc, nI_add, nI_add]
theorem gg_of {k j : Nat} (hk : k < 60) (hj : j < 10) (J : xI) : f_X7_of (nI k) (nI j) J = some (J 70 (142 + 10 * k + j), J) := by
  unfold f_X7_of
  rw [gg_at, xb_some, if_pos (xin_nI (by omega) (by decide)), nI_clamp (by omega)]
/-- the facts by their literal numbers -/
theorem ff_told0 {b k w : Nat} {I : xI} (hw : I b 1 = nI w) (hw6 : w ≤ 60) (hk : k < w) : f_X5_told b (nI k) (0 : Int32) I = some (I (b + 5) (10 * k), I) := ff_told (j := 0) hw hw6 hk (by omega)
theorem ff_told1 {b k w : Nat} {I : xI} (hw : I b 1 = nI w) (hw6 : w ≤ 60) (hk : k < w) : f_X5_told b (nI k) (1 : Int32) I = some (I (b + 5) (10 * k + 1), I) := ff_told (j := 1) hw hw6 hk (by omega)
theorem ff_told2 {b k w : Nat} {I : xI} (hw : I b 1 = nI w) (hw6 : w ≤ 60) (hk : k < w) : f_X5_told b (nI k) (2 : Int32) I = some (I (b + 5) (10 * k + 2), I) := ff_told (j := 2) hw hw6 hk (by omega)
theorem ff_told3 {b k w : Nat} {I : xI} (hw : I b 1 = nI w) (hw6 : w ≤ 60) (hk : k < w) : f_X5_told b (nI k) (3 : Int32) I = some (I (b + 5) (10 * k + 3), I) := ff_told (j := 3) hw hw6 hk (by omega)
theorem ff_told4 {b k w : Nat} {I : xI} (hw : I b 1 = nI w) (hw6 : w ≤ 60) (hk : k < w) : f_X5_told b (nI k) (4 : Int32) I = some (I (b + 5) (10 * k + 4), I) := ff_told (j := 4) hw hw6 hk (by omega)
theorem ff_told5 {b k w : Nat} {I : xI} (hw : I b 1 = nI w) (hw6 : w ≤ 60) (hk : k < w) : f_X5_told b (nI k) (5 : Int32) I = some (I (b + 5) (10 * k + 5), I) := ff_told (j := 5) hw hw6 hk (by omega)
theorem ff_told6 {b k w : Nat} {I : xI} (hw : I b 1 = nI w) (hw6 : w ≤ 60) (hk : k < w) : f_X5_told b (nI k) (6 : Int32) I = some (I (b + 5) (10 * k + 6), I) := ff_told (j := 6) hw hw6 hk (by omega)
theorem ff_told9 {b k w : Nat} {I : xI} (hw : I b 1 = nI w) (hw6 : w ≤ 60) (hk : k < w) : f_X5_told b (nI k) (9 : Int32) I = some (I (b + 5) (10 * k + 9), I) := ff_told (j := 9) hw hw6 hk (by omega)
theorem gg_of0 {k : Nat} (hk : k < 60) (J : xI) : f_X7_of (nI k) (0 : Int32) J = some (J 70 (142 + 10 * k), J) := gg_of (j := 0) hk (by omega) J
theorem gg_of1 {k : Nat} (hk : k < 60) (J : xI) : f_X7_of (nI k) (1 : Int32) J = some (J 70 (142 + 10 * k + 1), J) := gg_of (j := 1) hk (by omega) J
theorem gg_of2 {k : Nat} (hk : k < 60) (J : xI) : f_X7_of (nI k) (2 : Int32) J = some (J 70 (142 + 10 * k + 2), J) := gg_of (j := 2) hk (by omega) J
theorem gg_of3 {k : Nat} (hk : k < 60) (J : xI) : f_X7_of (nI k) (3 : Int32) J = some (J 70 (142 + 10 * k + 3), J) := gg_of (j := 3) hk (by omega) J
theorem gg_of4 {k : Nat} (hk : k < 60) (J : xI) : f_X7_of (nI k) (4 : Int32) J = some (J 70 (142 + 10 * k + 4), J) := gg_of (j := 4) hk (by omega) J
theorem gg_of5 {k : Nat} (hk : k < 60) (J : xI) : f_X7_of (nI k) (5 : Int32) J = some (J 70 (142 + 10 * k + 5), J) := gg_of (j := 5) hk (by omega) J
theorem gg_of6 {k : Nat} (hk : k < 60) (J : xI) : f_X7_of (nI k) (6 : Int32) J = some (J 70 (142 + 10 * k + 6), J) := gg_of (j := 6) hk (by omega) J
theorem nI_p0 (c : Nat) : nI c + (0 : Int32) = nI c := nI_add c 0
/-- counting loops -/
theorem lp_letters {b w : Nat} {how : Int32} {I : xI} (hw : I b 1 = nI w) (hw6 : w ≤ 60) : ∀ (m i c n : Nat), i + m = w → m < n → f_X5_lettersThatAre_4 b n how (nI c) (nI i) I = some (nI (c + ((List.range' i m).countP (fun k => decide (I (b + 5) (10 * k + 6) = how)))), I) := by
  intro m
  induction m with
  | zero =>
    intro i c n hi hn
    obtain ⟨n, rfl⟩ : ∃ n', n = n' + 1 := ⟨n - 1, by omega⟩
    show f_X5_lettersThatAre_4b b _ how (nI c) (nI i) I = _
    unfold f_X5_lettersThatAre_4b
    rw [hw, if_pos (show nI i ≥ nI w by rw [show i = w by omega]; exact Int32.le_refl _)]
    simp
  | succ m ih =>
    intro i c n hi hn
    obtain ⟨n, rfl⟩ : ∃ n', n = n' + 1 := ⟨n - 1, by omega⟩
    show f_X5_lettersThatAre_4b b _ how (nI c) (nI i) I = _
    unfold f_X5_lettersThatAre_4b
    rw [hw, if_neg (nI_ge (by omega) (by omega)), ff_told6 hw hw6 (by omega), xb_some, List.range'_succ, List.countP_cons]
    by_cases h : I (b + 5) (10 * i + 6) = how
    · rw [if_neg (fun q => q h), nI_1, nI_1]
      refine (ih (i + 1) (c + 1) n (by omega) (by omega)).trans ?_
      rw [if_pos (by simpa using h)]
      congr 3
      omega
    · rw [if_pos h, nI_1]
      refine (ih (i + 1) c n (by omega) (by omega)).trans ?_
      rw [if_neg (by simpa using h)]
      rfl
theorem ff_letters {b w : Nat} (how : Int32) {I : xI} (hw : I b 1 = nI w) (hw6 : w ≤ 60) : f_X5_lettersThatAre b how I = some (nI ((List.range' 0 w).countP (fun k => decide (I (b + 5) (10 * k + 6) = how))), I) := by
  unfold f_X5_lettersThatAre
  have h := lp_letters (how := how) hw hw6 w 0 0 xZ (by omega) (by unfold xZ; omega)
  rw [Nat.zero_add] at h
  exact h
theorem lp_lettersM {w : Nat} {how : Int32} {J : xI} (hw : J 70 1 = nI w) (hw6 : w ≤ 60) : ∀ (m i c n : Nat), i + m = w → m < n → f_X7_lettersThat_4 n how (nI c) (nI i) J = some (nI (c + ((List.range' i m).countP (fun k => decide (J 70 (142 + 10 * k + 6) = how)))), J) := by
  intro m
  induction m with
  | zero =>
    intro i c n hi hn
    obtain ⟨n, rfl⟩ : ∃ n', n = n' + 1 := ⟨n - 1, by omega⟩
    show f_X7_lettersThat_4b _ how (nI c) (nI i) J = _
    unfold f_X7_lettersThat_4b
    rw [hw, if_pos (show nI i ≥ nI w by rw [show i = w by omega]; exact Int32.le_refl _)]
    simp
  | succ m ih =>
    intro i c n hi hn
    obtain ⟨n, rfl⟩ : ∃ n', n = n' + 1 := ⟨n - 1, by omega⟩
    show f_X7_lettersThat_4b _ how (nI c) (nI i) J = _
    unfold f_X7_lettersThat_4b
    rw [hw, if_neg (nI_ge (by omega) (by omega)), gg_of6 (by omega), xb_some, List.range'_succ, List.countP_cons]
    by_cases h : J 70 (142 + 10 * i + 6) = how
    · rw [if_neg (fun q => q h), nI_1, nI_1]
      refine (ih (i + 1) (c + 1) n (by omega) (by omega)).trans ?_
      rw [if_pos (by simpa using h)]
      congr 3
      omega
    · rw [if_pos h, nI_p0, nI_1]
      refine (ih (i + 1) c n (by omega) (by omega)).trans ?_
      rw [if_neg (by simpa using h)]
      rfl
theorem gg_letters {w : Nat} (how : Int32) {J : xI} (hw : J 70 1 = nI w) (hw6 : w ≤ 60) : f_X7_lettersThat how J = some (nI ((List.range' 0 w).countP (fun k => decide (J 70 (142 + 10 * k + 6) = how))), J) := by
  unfold f_X7_lettersThat
  have h := lp_lettersM (how := how) hw hw6 w 0 0 xZ (by omega) (by unfold xZ; omega)
  rw [Nat.zero_add] at h
  exact h
