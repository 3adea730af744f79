/-! ===== the model's freeIn, lowestIn, regions ===== -/
theorem lp_freeM {E T : Nat → Int32} {f : Nat} {J : xI} (hm : ∀ g, g < 48 → J 76 g = if rB E f g = true then 1 else 0) (hT : ∀ g, g < 48 → (J 70 (94 + g) = -5 ↔ T g = -5)) : ∀ (m i c n : Nat), i + m = 48 → m < n → f_X7_freeIn_11 n (nI c) (nI i) J = some (nI (c + (List.range' i m).countP (fun g => rB E f g && decide (T g = -5))), J) := by
  intro m
  induction m with
  | zero =>
    intro i c n hi hn
    obtain ⟨n, rfl⟩ : ∃ n', n = n' + 1 := ⟨n - 1, by omega⟩
    show f_X7_freeIn_11b _ (nI c) (nI i) J = _
    unfold f_X7_freeIn_11b
    rw [if_pos (show nI i ≥ (48 : Int32) by rw [show i = 48 by omega]; exact Int32.le_refl _)]
    rfl
  | succ m ih =>
    intro i c n hi hn
    obtain ⟨n, rfl⟩ : ∃ n', n = n' + 1 := ⟨n - 1, by omega⟩
    show f_X7_freeIn_11b _ (nI c) (nI i) J = _
    unfold f_X7_freeIn_11b
    rw [if_neg (show ¬ nI i ≥ (48 : Int32) from nI_ge (b := 48) (by omega) (by decide)), if_pos (xin_nI (by omega) (by decide)), nI_clamp (by omega), show (94 : Int32) + nI i = nI (94 + i) from nI_add 94 i, if_pos (xin_nI (by omega) (by decide)), nI_clamp (by omega), List.range'_succ, List.countP_cons, nI_p0, nI_1, show nI c + (1 : Int32) = nI (c + 1) from nI_1 c, hm i (by omega)]
    by_cases hr : rB E f i = true
    · rw [if_pos hr, if_neg one_ne0]
      by_cases ht : T i = -5
      · rw [if_neg (fun q => q ((hT i (by omega)).mpr ht))]
        refine (ih (i + 1) (c + 1) n (by omega) (by omega)).trans ?_
        rw [if_pos (by simp [hr, ht])]
        congr 3
        omega
      · rw [if_pos (fun q => ht ((hT i (by omega)).mp q))]
        refine (ih (i + 1) c n (by omega) (by omega)).trans ?_
        rw [if_neg (by simp [ht])]
        rfl
    · rw [if_neg hr, if_pos rfl]
      refine (ih (i + 1) c n (by omega) (by omega)).trans ?_
      rw [if_neg (by simp [hr])]
      rfl
theorem gg_freeIn {E T : Nat → Int32} {f : Nat} (hf : f < 48) {J : xI} (hE : ∀ e, e < 82 → (J 70 (12 + e) = 0 ↔ E (qE e) = 0)) (hT : ∀ g, g < 48 → (J 70 (94 + g) = -5 ↔ T g = -5)) : ∃ J', f_X7_freeIn (nI f) J = some (nI (fre E T f), J') ∧ fr76 J J' := by
  obtain ⟨J1, h1, h2, h3⟩ := gg_mark hf hE
  refine ⟨J1, ?_, h2⟩
  unfold f_X7_freeIn
  rw [h1, xb_some]
  have := lp_freeM (T := T) h3 (fun g hg => by rw [h2 70 (by decide)]; exact hT g hg) 48 0 0 xZ (by omega) (by unfold xZ; omega)
  rw [Nat.zero_add] at this
  exact this
theorem lp_lowM {E : Nat → Int32} {f : Nat} (hf : f < 48) {J : xI} (hm : ∀ g, g < 48 → J 76 g = if rB E f g = true then 1 else 0) : ∀ (m i n : Nat), i + m = f → m < n → (∀ g, g < i → ¬ Rch E f g) → ∃ l, f_X7_lowestIn_8 n (nI i) J = some (nI l, J) ∧ IsLow E f l := by
  intro m
  induction m with
  | zero =>
    intro i n hi hn hl
    obtain ⟨n, rfl⟩ : ∃ n', n = n' + 1 := ⟨n - 1, by omega⟩
    have hif : i = f := by omega
    subst hif
    refine ⟨i, ?_, hf, Rch.rf i, hl⟩
    show f_X7_lowestIn_8b _ (nI i) J = _
    unfold f_X7_lowestIn_8b
    rw [if_pos (xin_nI hf (by decide)), nI_clamp (by omega), hm i hf, if_pos (rB_iff.mpr (Rch.rf i)), if_pos one_ne0]
  | succ m ih =>
    intro i n hi hn hl
    obtain ⟨n, rfl⟩ : ∃ n', n = n' + 1 := ⟨n - 1, by omega⟩
    show ∃ l, f_X7_lowestIn_8b _ (nI i) J = _ ∧ _
    unfold f_X7_lowestIn_8b
    rw [if_pos (xin_nI (by omega) (by decide)), nI_clamp (by omega), hm i (by omega), nI_1]
    by_cases hr : Rch E f i
    · rw [if_pos (rB_iff.mpr hr), if_pos one_ne0]
      exact ⟨i, rfl, by omega, hr, hl⟩
    · rw [if_neg (fun q => hr (rB_iff.mp q)), if_neg (fun q => q rfl)]
      refine ih (i + 1) n (by omega) (by omega) (fun g hg => ?_)
      rcases Nat.lt_or_ge g i with q | q
      · exact hl g q
      · rw [show g = i by omega]; exact hr
theorem gg_lowestIn {E : Nat → Int32} {f : Nat} (hf : f < 48) {J : xI} (hE : ∀ e, e < 82 → (J 70 (12 + e) = 0 ↔ E (qE e) = 0)) : ∃ l J', f_X7_lowestIn (nI f) J = some (nI l, J') ∧ fr76 J J' ∧ IsLow E f l := by
  obtain ⟨J1, h1, h2, h3⟩ := gg_mark hf hE
  obtain ⟨l, g1, g2⟩ := lp_lowM hf h3 f 0 xZ (by omega) (by unfold xZ; omega) (fun g hg => absurd hg (by omega))
  refine ⟨l, J1, ?_, h2, g2⟩
  unfold f_X7_lowestIn
  rw [h1, xb_some]
  exact g1
noncomputable def lowB (E : Nat → Int32) (f : Nat) : Bool := @decide (IsLow E f f) (Classical.propDecidable _)
theorem lowB_iff {E : Nat → Int32} {f : Nat} : lowB E f = true ↔ IsLow E f f := by
  unfold lowB
  exact @decide_eq_true_iff _ (Classical.propDecidable _)
theorem lp_regions {E : Nat → Int32} : ∀ (m i c n : Nat) (J : xI), i + m = 48 → m < n → (∀ e, e < 82 → (J 70 (12 + e) = 0 ↔ E (qE e) = 0)) → ∃ J', f_X7_regions_4 n (nI c) (nI i) J = some (nI (c + (List.range' i m).countP (lowB E)), J') ∧ fr76 J J' := by
  intro m
  induction m with
  | zero =>
    intro i c n J hi hn hE
    obtain ⟨n, rfl⟩ : ∃ n', n = n' + 1 := ⟨n - 1, by omega⟩
    refine ⟨J, ?_, fun _ _ => rfl⟩
    show f_X7_regions_4b _ (nI c) (nI i) J = _
    unfold f_X7_regions_4b
    rw [if_pos (show nI i ≥ (48 : Int32) by rw [show i = 48 by omega]; exact Int32.le_refl _)]
    rfl
  | succ m ih =>
    intro i c n J hi hn hE
    obtain ⟨n, rfl⟩ : ∃ n', n = n' + 1 := ⟨n - 1, by omega⟩
    obtain ⟨l, J1, h1, h2, h3⟩ := gg_lowestIn (f := i) (by omega) hE
    have hE1 : ∀ e, e < 82 → (J1 70 (12 + e) = 0 ↔ E (qE e) = 0) := fun e he => by rw [h2 70 (by decide)]; exact hE e he
    show ∃ J', f_X7_regions_4b _ (nI c) (nI i) J = _ ∧ _
    unfold f_X7_regions_4b
    rw [if_neg (show ¬ nI i ≥ (48 : Int32) from nI_ge (b := 48) (by omega) (by decide)), h1, xb_some, List.range'_succ, List.countP_cons, nI_p0, nI_1, show nI c + (1 : Int32) = nI (c + 1) from nI_1 c]
    by_cases hl : l = i
    · obtain ⟨J', g1, g2⟩ := ih (i + 1) (c + 1) n J1 (by omega) (by omega) hE1
      refine ⟨J', ?_, fun k hk => (g2 k hk).trans (h2 k hk)⟩
      rw [if_neg (fun q => q (by rw [hl]))]
      refine g1.trans ?_
      rw [if_pos (lowB_iff.mpr (by rw [hl] at h3; exact h3))]
      congr 3
      omega
    · obtain ⟨J', g1, g2⟩ := ih (i + 1) c n J1 (by omega) (by omega) hE1
      refine ⟨J', ?_, fun k hk => (g2 k hk).trans (h2 k hk)⟩
      have hlt : l < 48 := h3.1
      rw [if_pos (fun q => hl (nI_inj (by omega) (by omega) q))]
      refine g1.trans ?_
      rw [if_neg (fun q => hl (h3.uniq (lowB_iff.mp q)))]
      rfl
theorem gg_regions {E : Nat → Int32} {J : xI} (hE : ∀ e, e < 82 → (J 70 (12 + e) = 0 ↔ E (qE e) = 0)) : ∃ J', f_X7_regions J = some (nI ((List.range' 0 48).countP (lowB E)), J') ∧ fr76 J J' := by
  obtain ⟨J', h1, h2⟩ := lp_regions 48 0 0 xZ J (by omega) (by unfold xZ; omega) hE
  refine ⟨J', ?_, h2⟩
  rw [Nat.zero_add] at h1
  exact h1
