/-! ===== the class's joined ===== -/
theorem lp_relabel {p q : Nat} (hq : q < 48) : ∀ (m i n : Nat) (I : xI), i + m = 48 → m < n → ∃ I', f_X4_relabel_2 n (nI p) (nI q) (nI i) I = some (0, I') ∧ (∀ k, k ≠ 11 → I' k = I k) ∧ (∀ g, i ≤ g → g < 48 → I' 11 g = if I 11 g = nI p then nI q else I 11 g) ∧ (∀ g, g < i → I' 11 g = I 11 g) := by
  intro m
  induction m with
  | zero =>
    intro i n I hi hn
    obtain ⟨n, rfl⟩ : ∃ n', n = n' + 1 := ⟨n - 1, by omega⟩
    refine ⟨I, ?_, fun _ _ => rfl, fun g h1 h2 => by omega, fun _ _ => rfl⟩
    show f_X4_relabel_2b _ _ _ (nI i) I = _
    unfold f_X4_relabel_2b
    rw [if_pos (show nI i ≥ (48 : Int32) by rw [show i = 48 by omega]; exact Int32.le_refl _)]
  | succ m ih =>
    intro i n I hi hn
    obtain ⟨n, rfl⟩ : ∃ n', n = n' + 1 := ⟨n - 1, by omega⟩
    show ∃ I', f_X4_relabel_2b _ _ _ (nI i) I = _ ∧ _
    unfold f_X4_relabel_2b
    rw [if_neg (show ¬ nI i ≥ (48 : Int32) from nI_ge (b := 48) (by omega) (by decide)), if_pos (xin_nI (by omega) (by decide)), if_pos (xin_nI (by omega) (by decide)), nI_clamp (by omega), nI_1]
    by_cases h : I 11 i = nI p
    · rw [if_neg (fun z => z h)]
      obtain ⟨I', g1, g2, g3, g4⟩ := ih (i + 1) n (xup I 11 i (nI q)) (by omega) (by omega)
      refine ⟨I', g1, fun k hk => (g2 k hk).trans (by funext c; exact xup_cell hk), fun g h1 h2 => ?_, fun g hg => (g4 g (by omega)).trans (xup_slot (by omega))⟩
      rcases Nat.eq_or_lt_of_le h1 with z | z
      · subst z
        rw [g4 _ (by omega), xup_at, if_pos h]
      · rw [g3 g z h2, xup_slot (by omega)]
    · rw [if_pos h]
      obtain ⟨I', g1, g2, g3, g4⟩ := ih (i + 1) n I (by omega) (by omega)
      refine ⟨I', g1, g2, fun g h1 h2 => ?_, fun g hg => g4 g (by omega)⟩
      rcases Nat.eq_or_lt_of_le h1 with z | z
      · subst z
        rw [g4 _ (by omega), if_neg h]
      · exact g3 g z h2
theorem lp_countLabel {p : Nat} {I : xI} : ∀ (m i c n : Nat), i + m = 48 → m < n → f_X4_countLabel_4 n (nI p) (nI c) (nI i) I = some (nI (c + (List.range' i m).countP (fun g => decide (I 11 g = nI p))), I) := by
  intro m
  induction m with
  | zero =>
    intro i c n hi hn
    obtain ⟨n, rfl⟩ : ∃ n', n = n' + 1 := ⟨n - 1, by omega⟩
    show f_X4_countLabel_4b _ _ (nI c) (nI i) I = _
    unfold f_X4_countLabel_4b
    rw [if_pos (show nI i ≥ (48 : Int32) by rw [show i = 48 by omega]; exact Int32.le_refl _)]
    rfl
  | succ m ih =>
    intro i c n hi hn
    obtain ⟨n, rfl⟩ : ∃ n', n = n' + 1 := ⟨n - 1, by omega⟩
    show f_X4_countLabel_4b _ _ (nI c) (nI i) I = _
    unfold f_X4_countLabel_4b
    rw [if_neg (show ¬ nI i ≥ (48 : Int32) from nI_ge (b := 48) (by omega) (by decide)), if_pos (xin_nI (by omega) (by decide)), nI_clamp (by omega), List.range'_succ, List.countP_cons]
    by_cases h : I 11 i = nI p
    · rw [if_neg (fun q => q h), nI_1, nI_1]
      refine (ih (i + 1) (c + 1) n (by omega) (by omega)).trans ?_
      rw [if_pos (by simpa using h)]
      congr 3
      omega
    · rw [if_pos h, nI_1]
      refine (ih (i + 1) c n (by omega) (by omega)).trans ?_
      rw [if_neg (by simpa using h)]
      rfl
/-- labels: equal ones are joined, and what lies on both sides of an open edge below i has one label -/
def JnI (E : Nat → Int32) (i : Nat) (I : xI) : Prop := (∀ g, g < 48 → ∃ p, p < 48 ∧ I 11 g = nI p) ∧ (∀ g h, g < 48 → h < 48 → I 11 g = I 11 h → Rch E g h) ∧ (∀ e, e < i → E e = 0 → I 11 (nE e) = I 11 (fE e))
theorem lp_join23 {b f : Nat} {E : Nat → Int32} (hb : 12 ≤ b) (hf : f < 48) : ∀ (m i n : Nat) (I : xI), i + m = 82 → m < n → GT I → (∀ e, e < 82 → I (b + 3) e = E e) → JnI E i I → ∃ I', f_X4_sizeByJoining_23 b n (nI f) (nI i) I = some (nI (siz E f), I') ∧ (∀ k, k ≠ 11 → I' k = I k) := by
  intro m
  induction m with
  | zero =>
    intro i n I hi hn G hE hJ
    obtain ⟨n, rfl⟩ : ∃ n', n = n' + 1 := ⟨n - 1, by omega⟩
    refine ⟨I, ?_, fun _ _ => rfl⟩
    show f_X4_sizeByJoining_23b b _ _ (nI i) I = _
    unfold f_X4_sizeByJoining_23b
    obtain ⟨p, hp, hfp⟩ := hJ.1 f hf
    have hc := lp_countLabel (p := p) (I := I) 48 0 0 xZ (by omega) (by unfold xZ; omega)
    rw [Nat.zero_add] at hc
    rw [if_pos (show nI i ≥ (82 : Int32) by rw [show i = 82 by omega]; exact Int32.le_refl _), ff_isField_yes hf, xb_some, if_neg one_ne0, if_pos (xin_nI hf (by decide)), nI_clamp (by omega), hfp]
    unfold f_X4_countLabel
    rw [show (0 : Int32) = nI 0 from rfl, hc, xb_some]
    congr 3
    refine cP_congr (fun g _ hg => ?_)
    rw [Bool.eq_iff_iff, rB_iff]
    simp only [decide_eq_true_eq]
    refine ⟨fun h => hJ.2.1 f g hf (by omega) (by rw [hfp, h]), fun h => ?_⟩
    refine h (fun x => I 11 x = nI p) hfp (fun x y hx hxy => ?_)
    obtain ⟨e, a1, a2, a3⟩ := hxy
    have := hJ.2.2 e (by omega) a2
    rcases a3 with ⟨rfl, rfl⟩ | ⟨rfl, rfl⟩
    · rw [← this]; exact hx
    · rw [this]; exact hx
  | succ m ih =>
    intro i n I hi hn G hE hJ
    obtain ⟨n, rfl⟩ : ∃ n', n = n' + 1 := ⟨n - 1, by omega⟩
    obtain ⟨t1, t2, -⟩ := tab1 i (by omega)
    show ∃ I', f_X4_sizeByJoining_23b b _ _ (nI i) I = _ ∧ _
    unfold f_X4_sizeByJoining_23b
    rw [if_neg (show ¬ nI i ≥ (82 : Int32) from nI_ge (b := 82) (by omega) (by decide)), if_pos (xin_nI (by omega) (by decide)), if_pos (xin_nI (by omega) (by decide)), if_pos (xin_nI (by omega) (by decide)), nI_clamp (by omega), G.2.2.2 i (by omega), G.2.2.1 i (by omega), hE i (by omega), nI_1]
    by_cases h : E i = 0
    · rw [if_neg (fun z => z h), ff_isField_yes t2, xb_some, if_neg one_ne0, ff_isField_yes t1, xb_some, if_neg one_ne0, if_pos (xin_nI t2 (by decide)), if_pos (xin_nI t1 (by decide)), nI_clamp (by omega), nI_clamp (by omega)]
      obtain ⟨p, hp, hfp⟩ := hJ.1 _ t2
      obtain ⟨q, hq, hfq⟩ := hJ.1 _ t1
      obtain ⟨I1, h1, h2, h3, -⟩ := lp_relabel (p := p) hq 48 0 xZ I (by omega) (by unfold xZ; omega)
      rw [hfp, hfq]
      unfold f_X4_relabel
      rw [show (0 : Int32) = nI 0 from rfl, h1, xb_some]
      have had : Ad E (nE i) (fE i) := ⟨i, by omega, h, Or.inl ⟨rfl, rfl⟩⟩
      have hv : ∀ g, g < 48 → I1 11 g = if I 11 g = nI p then nI q else I 11 g := fun g hg => h3 g (Nat.zero_le _) hg
      -- what has label p or q is reached from the edge's near side
      have hp2 : ∀ g, g < 48 → I 11 g = nI p → Rch E (nE i) g := fun g hg z => (Rch.step (Rch.rf _) had).trans (hJ.2.1 _ _ t2 hg (by rw [hfp, z]))
      have hq2 : ∀ g, g < 48 → I 11 g = nI q → Rch E (nE i) g := fun g hg z => hJ.2.1 _ _ t1 hg (by rw [hfq, z])
      obtain ⟨I', g1, g2⟩ := ih (i + 1) n I1 (by omega) (by omega) (GT_fr (fun k hk => h2 k (by omega)) G) (fun e he => by rw [h2 _ (by omega)]; exact hE e he) ⟨fun g hg => by
          rw [hv g hg]
          split
          · exact ⟨q, hq, rfl⟩
          · exact hJ.1 g hg, fun g k hg hk z => by
          rw [hv g hg, hv k hk] at z
          by_cases a : I 11 g = nI p <;> by_cases c : I 11 k = nI p
          · exact hJ.2.1 g k hg hk (by rw [a, c])
          · rw [if_pos a, if_neg c] at z
            exact (hp2 g hg a).symm.trans (hq2 k hk z.symm)
          · rw [if_neg a, if_pos c] at z
            exact (hq2 g hg z).symm.trans (hp2 k hk c)
          · rw [if_neg a, if_neg c] at z
            exact hJ.2.1 g k hg hk z, fun e he h0 => by
          have te := tab1 e (by omega)
          rw [hv _ te.1, hv _ te.2.1]
          rcases Nat.lt_or_ge e i with z | z
          · rw [hJ.2.2 e z h0]
          · rw [show e = i by omega, hfp, hfq, if_pos rfl]
            split <;> rfl⟩
      exact ⟨I', g1, fun k hk => (g2 k hk).trans (h2 k hk)⟩
    · rw [if_pos h]
      exact ih (i + 1) n I (by omega) (by omega) G hE ⟨hJ.1, hJ.2.1, fun e he h0 => by
        rcases Nat.lt_or_ge e i with z | z
        · exact hJ.2.2 e z h0
        · rw [show e = i by omega] at h0; exact absurd h0 h⟩
theorem lp_join2 {b f : Nat} {E : Nat → Int32} (hb : 12 ≤ b) (hf : f < 48) : ∀ (m i n : Nat) (I : xI), i + m = 48 → m < n → GT I → (∀ e, e < 82 → I (b + 3) e = E e) → (∀ g, g < i → I 11 g = nI g) → ∃ I', f_X4_sizeByJoining_2 b n (nI f) (nI i) I = some (nI (siz E f), I') ∧ (∀ k, k ≠ 11 → I' k = I k) := by
  intro m
  induction m with
  | zero =>
    intro i n I hi hn G hE hJ
    obtain ⟨n, rfl⟩ : ∃ n', n = n' + 1 := ⟨n - 1, by omega⟩
    show ∃ I', f_X4_sizeByJoining_2b b _ _ (nI i) I = _ ∧ _
    unfold f_X4_sizeByJoining_2b
    rw [if_pos (show nI i ≥ (48 : Int32) by rw [show i = 48 by omega]; exact Int32.le_refl _)]
    exact lp_join23 hb hf 82 0 xZ I (by omega) (by unfold xZ; omega) G hE ⟨fun g hg => ⟨g, hg, hJ g (by omega)⟩, fun g h hg hh z => by
      rw [hJ g (by omega), hJ h (by omega)] at z
      rw [nI_inj (by omega) (by omega) z]
      exact Rch.rf h, fun e he => absurd he (by omega)⟩
  | succ m ih =>
    intro i n I hi hn G hE hJ
    obtain ⟨n, rfl⟩ : ∃ n', n = n' + 1 := ⟨n - 1, by omega⟩
    show ∃ I', f_X4_sizeByJoining_2b b _ _ (nI i) I = _ ∧ _
    unfold f_X4_sizeByJoining_2b
    rw [if_neg (show ¬ nI i ≥ (48 : Int32) from nI_ge (b := 48) (by omega) (by decide)), if_pos (xin_nI (by omega) (by decide)), nI_clamp (by omega), nI_1]
    have hfr : ∀ k, k ≠ 11 → xup I 11 i (nI i) k = I k := fun k hk => by funext c; exact xup_cell hk
    obtain ⟨I', g1, g2⟩ := ih (i + 1) n (xup I 11 i (nI i)) (by omega) (by omega) (GT_fr (fun k hk => hfr k (by omega)) G) (fun e he => by rw [hfr _ (by omega)]; exact hE e he) (fun g hg => by
      rcases Nat.lt_or_ge g i with z | z
      · rw [xup_slot (by omega)]; exact hJ g z
      · rw [show g = i by omega, xup_at])
    exact ⟨I', g1, fun k hk => (g2 k hk).trans (hfr k hk)⟩
theorem ff_joined {b f : Nat} {E : Nat → Int32} (hb : 12 ≤ b) (hf : f < 48) {I : xI} (G : GT I) (hE : ∀ e, e < 82 → I (b + 3) e = E e) : ∃ I', f_X4_sizeByJoining b (nI f) I = some (nI (siz E f), I') ∧ (∀ k, k ≠ 11 → I' k = I k) :=
  lp_join2 hb hf 48 0 xZ I (by omega) (by unfold xZ; omega) G hE (fun g hg => absurd hg (by omega))
