theorem GT_fr {I I' : xI} (h : ∀ k, k < 6 → I' k = I k) (G : GT I) : GT I' := by
  unfold GT
  rw [h 3 (by omega), h 2 (by omega), h 4 (by omega), h 5 (by omega)]
  exact G
/-- what spreadFrom leaves: everything reached has the start's label, its region's size and free fields; all else is as it was -/
def SpE (E T : Nat → Int32) (s : Nat) (I I' : xI) : Prop :=
  frS I I' ∧ (∀ g, g < 48 → Rch E s g → I' 7 g = nI s ∧ I' 8 g = nI (siz E s) ∧ I' 9 g = nI (fre E T s)) ∧ (∀ g, g < 48 → ¬ Rch E s g → I' 7 g = I 7 g ∧ I' 8 g = I 8 g ∧ I' 9 g = I 9 g)
theorem sp_end {b s : Nat} {E T : Nat → Int32} {I0 : xI} (hs : s < 48) (hcl : ∀ x y, Ad E x y → (I0 7 x = -5 ↔ I0 7 y = -5)) (hlo : ∀ g, g < s → I0 7 g ≠ -5) {K q : Nat} {I : xI} (hS : SpI E (I0 7) s K I) (h7s : I 7 s = nI s) (hfr : ∀ k, k ≠ 7 → k ≠ 10 → I k = I0 k)
    (hproc : ∀ j, j < K → ∀ t, t < 4 → eT (rn I j) t < 82 → E (eT (rn I j) t) = 0 → I 7 (bT (rn I j) t) ≠ -5) (hq : q = (List.range' 0 48).countP (fun g => prB I K g && decide (T g = -5))) :
    ∃ I', f_X4_spreadFrom_211 b xZ (nI s) (nI K) (nI q) (nI s) I = some (0, I') ∧ SpE E T s I0 I' := by
  obtain ⟨a, b', c, d, e, f⟩ := id hS
  have hK48 : K ≤ 48 := by rw [f]; exact cP_le _ 48 0
  have hlab : ∀ g, g < 48 → (I 7 g = nI s ↔ Rch E s g) := by
    intro g hg
    refine ⟨fun h => ?_, fun h => ?_⟩
    · obtain ⟨j, hj, rfl⟩ := b' g hg h
      exact (a j hj).2.2.2
    · refine (h (fun x => x < 48 ∧ I 7 x = nI s) ⟨hs, h7s⟩ (fun x y hx hxy => ?_)).2
      obtain ⟨j, hj, rfl⟩ := b' x hx.1 hx.2
      have hy := hxy.lt.2
      obtain ⟨t, h1, h2, h3, h4⟩ := hxy.tab
      have hne := hproc j hj t h1 h2 h3
      rw [h4] at hne
      refine ⟨hy, Classical.byContradiction (fun z => hne ?_)⟩
      rw [c y hy z]
      exact (hcl _ _ hxy).mp (d _ hx.1 hx.2)
  have hK : K = siz E s := by
    rw [f]
    refine cP_congr (fun g _ hg => ?_)
    have := hlab g (by omega)
    rw [Bool.eq_iff_iff]
    simp only [decide_eq_true_eq]
    rw [this, rB_iff]
  have hpr : ∀ g, g < 48 → (prB I K g = rB E s g) := by
    intro g hg
    rw [Bool.eq_iff_iff, prB_iff, rB_iff, ← hlab g hg]
    refine ⟨fun ⟨j, hj, z⟩ => by rw [← z]; exact (a j hj).2.2.1, fun h => b' g hg h⟩
  have hq2 : q = fre E T s := by
    rw [hq]
    refine cP_congr (fun g _ hg => ?_)
    rw [hpr g (by omega)]
  obtain ⟨I', g1, g2, g3, g4⟩ := lp_spread211 (b := b) (s := s) (K := K) (q := q) (48 - s) s xZ I (by omega) (by unfold xZ; omega)
  refine ⟨I', g1, fun k h7 h8 h9 h10 => (g2 k h8 h9).trans (hfr k h7 h10), fun g hg hr => ?_, fun g hg hr => ?_⟩
  · have h7 := (hlab g hg).mpr hr
    obtain ⟨z1, z2⟩ := g3 g (Nat.le_of_not_lt (fun z => hlo g z (d g hg h7))) hg h7
    rw [g2 7 (by decide) (by decide), z1, z2, ← hK, ← hq2]
    exact ⟨h7, rfl, rfl⟩
  · have h7 : I 7 g ≠ nI s := fun z => hr ((hlab g hg).mp z)
    obtain ⟨z1, z2⟩ := g4 g (fun ⟨_, _, z⟩ => h7 z)
    rw [g2 7 (by decide) (by decide), z1, z2, hfr 8 (by decide) (by decide), hfr 9 (by decide) (by decide)]
    exact ⟨c g hg h7, rfl, rfl⟩
theorem lp_spread30 {b s : Nat} {E T : Nat → Int32} {I0 : xI} (hb : 11 ≤ b) (hs : s < 48) (hcl : ∀ x y, Ad E x y → (I0 7 x = -5 ↔ I0 7 y = -5)) (hlo : ∀ g, g < s → I0 7 g ≠ -5) :
    ∀ (m i n K q : Nat) (I : xI), i + m = 48 → m < n → i ≤ K → GT I → (∀ e, e < 82 → I (b + 3) e = E e) → (∀ g, g < 48 → I (b + 4) g = T g) → SpI E (I0 7) s K I → I 7 s = nI s → (∀ k, k ≠ 7 → k ≠ 10 → I k = I0 k) →
      (∀ j, j < i → ∀ t, t < 4 → eT (rn I j) t < 82 → E (eT (rn I j) t) = 0 → I 7 (bT (rn I j) t) ≠ -5) → q = (List.range' 0 48).countP (fun g => prB I i g && decide (T g = -5)) →
      ∃ I', f_X4_spreadFrom_30 b n (nI s) (nI K) (nI q) (nI i) I = some (0, I') ∧ SpE E T s I0 I' := by
  intro m
  induction m with
  | zero =>
    intro i n K q I hi hn hiK G hE hT hS h7s hfr hproc hq
    obtain ⟨n, rfl⟩ : ∃ n', n = n' + 1 := ⟨n - 1, by omega⟩
    have hK48 : K ≤ 48 := by rw [hS.2.2.2.2.2]; exact cP_le _ 48 0
    have hiK2 : i = K := by omega
    subst hiK2
    show ∃ I', f_X4_spreadFrom_30b b _ (nI s) (nI i) (nI q) (nI i) I = _ ∧ _
    unfold f_X4_spreadFrom_30b
    rw [if_pos (show nI i ≥ nI i from Int32.le_refl _)]
    exact sp_end hs hcl hlo hS h7s hfr hproc hq
  | succ m ih =>
    intro i n K q I hi hn hiK G hE hT hS h7s hfr hproc hq
    obtain ⟨n, rfl⟩ : ∃ n', n = n' + 1 := ⟨n - 1, by omega⟩
    have hK48 : K ≤ 48 := by rw [hS.2.2.2.2.2]; exact cP_le _ 48 0
    show ∃ I', f_X4_spreadFrom_30b b _ (nI s) (nI K) (nI q) (nI i) I = _ ∧ _
    unfold f_X4_spreadFrom_30b
    rcases Nat.eq_or_lt_of_le hiK with z | hlt
    · subst z
      rw [if_pos (show nI i ≥ nI i from Int32.le_refl _)]
      exact sp_end hs hcl hlo hS h7s hfr hproc hq
    · obtain ⟨r1, r2, r3, r4⟩ := hS.1 i hlt
      rw [if_neg (nI_ge hlt (by omega)), if_neg (show ¬ nI i ≥ (48 : Int32) from nI_ge (b := 48) (by omega) (by decide)), if_pos (xin_nI (by omega) (by decide)), nI_clamp (by omega), r1, ff_isField_yes r2, xb_some, if_pos one_ne0, if_pos (xin_nI r2 (by decide)), nI_clamp (by omega), hT _ r2]
      -- the count of free fields, one field on
      have hnp : prB I i (rn I i) = false := by
        rw [Bool.eq_false_iff]
        intro h
        obtain ⟨j, hj, z⟩ := prB_iff.mp h
        have := hS.2.2.2.2.1 j i (by omega) hlt z
        omega
      have hstep : ∀ g, prB I (i + 1) g = (prB I i g || decide (g = rn I i)) := by
        intro g
        rw [Bool.eq_iff_iff]
        simp only [Bool.or_eq_true, decide_eq_true_eq]
        rw [prB_iff, prB_iff]
        refine ⟨fun ⟨j, hj, z⟩ => ?_, fun h => ?_⟩
        · rcases Nat.lt_or_ge j i with y | y
          · exact Or.inl ⟨j, y, z⟩
          · rw [show j = i by omega] at z; exact Or.inr z.symm
        · rcases h with ⟨j, hj, z⟩ | z
          · exact ⟨j, by omega, z⟩
          · exact ⟨i, by omega, z.symm⟩
      have go : ∀ q', q' = (List.range' 0 48).countP (fun g => prB I (i + 1) g && decide (T g = -5)) → ∃ I', f_X4_spreadFrom_81 b (fun l2 l3 l4 l5 I => f_X4_spreadFrom_30 b n l2 l3 l4 l5 I) xZ (nI s) (nI K) (nI q') (nI i) (nI (rn I i)) (0 : Int32) I = some (0, I') ∧ SpE E T s I0 I' := by
        intro q' hq'
        obtain ⟨K', I', p1, p2, p3, p4, p5, p6, p7⟩ := lp_spread81 (b := b) (s := s) (E := E) (L0 := I0 7) hb hs (i := i) (v := rn I i) r2 r4 (by omega) (q := q') 4 0 xZ K I (by omega) (by unfold xZ; omega) G hE hS
        have hrn : ∀ j, j < K → rn I' j = rn I j := fun j hj => by unfold rn; rw [p4 j hj]
        have hpr : ∀ g, prB I' (i + 1) g = prB I (i + 1) g := by
          intro g
          rw [Bool.eq_iff_iff, prB_iff, prB_iff]
          exact ⟨fun ⟨j, hj, z⟩ => ⟨j, hj, by rw [← hrn j (by omega)]; exact z⟩, fun ⟨j, hj, z⟩ => ⟨j, hj, by rw [hrn j (by omega)]; exact z⟩⟩
        obtain ⟨I2, y1, y2⟩ := ih (i + 1) n K' q' I' (by omega) (by omega) (by omega) (GT_fr (fun k hk => p7 k (by omega) (by omega)) G) (fun e he => by rw [p7 _ (by omega) (by omega)]; exact hE e he) (fun g hg => by rw [p7 _ (by omega) (by omega)]; exact hT g hg) p2 (by rw [p6 s (by rw [h7s]; exact nI_m5 (by omega))]; exact h7s) (fun k h7 h10 => (p7 k h7 h10).trans (hfr k h7 h10))
          (fun j hj t h1 h2 h3 => by
            have hr := hrn j (by omega)
            rw [hr] at h2 h3 ⊢
            rcases Nat.lt_or_ge j i with y | y
            · have := hproc j y t h1 h2 h3
              rw [p6 _ this]; exact this
            · rw [show j = i by omega] at h2 h3 ⊢
              exact p5 t (Nat.zero_le _) h1 h2 h3)
          (by rw [hq']; exact cP_congr (fun g _ _ => by rw [hpr g]))
        exact ⟨I2, (p1 _).trans y1, y2⟩
      by_cases ht : T (rn I i) = -5
      · rw [if_neg (fun z => z ht), show nI q + (1 : Int32) = nI (q + 1) from nI_1 q]
        refine go (q + 1) ?_
        rw [cP_insert (P := fun g => prB I i g && decide (T g = -5)) (P' := fun g => prB I (i + 1) g && decide (T g = -5)) (x := rn I i) 48 0 (by omega) (by omega) (by simp [hnp]) (by simp [hstep, ht]) (fun g hg => by simp [hstep, hg]), ← hq]
      · rw [if_pos ht]
        refine go q ?_
        rw [hq]
        refine cP_congr (fun g _ _ => ?_)
        by_cases hg : g = rn I i
        · simp [hg, ht]
        · simp [hstep, hg]
theorem ff_spread {b s : Nat} {E T : Nat → Int32} {I : xI} (hb : 11 ≤ b) (hs : s < 48) (G : GT I) (hE : ∀ e, e < 82 → I (b + 3) e = E e) (hT : ∀ g, g < 48 → I (b + 4) g = T g) (hcl : ∀ x y, Ad E x y → (I 7 x = -5 ↔ I 7 y = -5)) (h0 : I 7 s = -5) (hno : ∀ g, g < 48 → I 7 g ≠ nI s) (hlo : ∀ g, g < s → I 7 g ≠ -5) : ∃ I', f_X4_spreadFrom b (nI s) I = some (0, I') ∧ SpE E T s I I' := by
  unfold f_X4_spreadFrom
  rw [ff_isField_yes hs, xb_some, if_pos one_ne0, if_pos (xin_nI hs (by decide)), nI_clamp (by omega)]
  generalize hI1 : xup (xup I 7 s (nI s)) 10 0 (nI s) = I1
  have hfr : ∀ k, k ≠ 7 → k ≠ 10 → I1 k = I k := fun k h7 h10 => by funext c; rw [← hI1, xup_cell h10, xup_cell h7]
  have h7 : ∀ g, I1 7 g = if g = s then nI s else I 7 g := by intro g; rw [← hI1]; simp [xup]
  have h10 : I1 10 0 = nI s := by rw [← hI1]; simp [xup]
  have hrn : rn I1 0 = s := by unfold rn; rw [h10, nI_clamp (by omega)]
  have hS : SpI E (I 7) s 1 I1 := by
    refine ⟨fun j hj => ?_, fun g hg hgs => ?_, fun g hg hgs => ?_, fun g hg hgs => ?_, fun j j' hj hj' _ => by omega, ?_⟩
    · rw [show j = 0 by omega, hrn, h10, h7, if_pos rfl]
      exact ⟨rfl, hs, rfl, Rch.rf s⟩
    · rw [h7] at hgs
      by_cases hg2 : g = s
      · exact ⟨0, by omega, by rw [hrn, hg2]⟩
      · rw [if_neg hg2] at hgs; exact absurd hgs (hno g hg)
    · rw [h7] at hgs ⊢
      by_cases hg2 : g = s
      · rw [if_pos hg2] at hgs; exact absurd rfl hgs
      · rw [if_neg hg2]
    · rw [h7] at hgs
      by_cases hg2 : g = s
      · rw [hg2]; exact h0
      · rw [if_neg hg2] at hgs; exact absurd hgs (hno g hg)
    · rw [cP_congr (P' := fun g => decide (I1 7 g = nI s)) (P := fun g => decide (g = s)) (fun g _ hg => by
        rw [h7]
        by_cases hg2 : g = s
        · rw [if_pos hg2]; simp [hg2]
        · rw [if_neg hg2]
          simp [hg2, hno g (by omega)]), cP_insert (P := fun _ => false) (P' := fun g => decide (g = s)) (x := s) 48 0 (by omega) (by omega) rfl (by simp) (fun g hg => by simp [hg])]
      simp
  have := lp_spread30 (E := E) (T := T) (I0 := I) hb hs hcl hlo 48 0 xZ 1 0 I1 (by omega) (by unfold xZ; omega) (by omega) (GT_fr (fun k hk => hfr k (by omega) (by omega)) G) (fun e he => by rw [hfr _ (by omega) (by omega)]; exact hE e he) (fun g hg => by rw [hfr _ (by omega) (by omega)]; exact hT g hg) hS (by rw [h7, if_pos rfl]) hfr (fun j hj => absurd hj (by omega)) (by
    have : (fun g => prB I1 0 g && decide (T g = -5)) = fun _ => false := by
      funext g
      simp [prB]
    rw [this]
    simp)
  exact this
/-- what the survey leaves: of each field the lowest, the size and the free fields of its region -/
def SvE (E T : Nat → Int32) (I : xI) : Prop := ∀ g, g < 48 → ∃ l, IsLow E g l ∧ I 7 g = nI l ∧ I 8 g = nI (siz E g) ∧ I 9 g = nI (fre E T g)
theorem lp_survey {b : Nat} {E T : Nat → Int32} (hb : 11 ≤ b) :
    ∀ (m i c n : Nat) (I : xI), i + m = 48 → m < n → GT I → (∀ e, e < 82 → I (b + 3) e = E e) → (∀ g, g < 48 → I (b + 4) g = T g) → (∀ x y, Ad E x y → (I 7 x = -5 ↔ I 7 y = -5)) →
      (∀ g, g < 48 → I 7 g = -5 ∨ ∃ l, l < i ∧ IsLow E g l ∧ I 7 g = nI l ∧ I 8 g = nI (siz E g) ∧ I 9 g = nI (fre E T g)) → (∀ g, g < i → I 7 g ≠ -5) →
      ∃ I', f_X4_survey_13 b n (nI c) (nI i) I = some (nI (c + (List.range' i m).countP (lowB E)), I') ∧ frS I I' ∧ SvE E T I' := by
  intro m
  induction m with
  | zero =>
    intro i c n I hi hn G hE hT hcl hlab hdone
    obtain ⟨n, rfl⟩ : ∃ n', n = n' + 1 := ⟨n - 1, by omega⟩
    refine ⟨I, ?_, frS.rf I, fun g hg => ?_⟩
    · show f_X4_survey_13b b _ (nI c) (nI i) I = _
      unfold f_X4_survey_13b
      rw [if_pos (show nI i ≥ (48 : Int32) by rw [show i = 48 by omega]; exact Int32.le_refl _)]
      rfl
    · rcases hlab g hg with z | ⟨l, _, z⟩
      · exact absurd z (hdone g (by omega))
      · exact ⟨l, z⟩
  | succ m ih =>
    intro i c n I hi hn G hE hT hcl hlab hdone
    obtain ⟨n, rfl⟩ : ∃ n', n = n' + 1 := ⟨n - 1, by omega⟩
    show ∃ I', f_X4_survey_13b b _ (nI c) (nI i) I = _ ∧ _
    unfold f_X4_survey_13b
    rw [if_neg (show ¬ nI i ≥ (48 : Int32) from nI_ge (b := 48) (by omega) (by decide)), if_pos (xin_nI (by omega) (by decide)), nI_clamp (by omega), List.range'_succ, List.countP_cons]
    by_cases h : I 7 i = -5
    · rw [if_neg (fun z => z h)]
      have hno : ∀ g, g < 48 → I 7 g ≠ nI i := by
        intro g hg z
        rcases hlab g hg with y | ⟨l, hl, _, y, _⟩
        · rw [y] at z; exact nI_m5' (by omega) z
        · rw [y] at z
          have := nI_inj (by omega) (by omega) z
          omega
      obtain ⟨I1, h1, h2, h3, h4⟩ := ff_spread (T := T) hb (by omega) G hE hT hcl h hno hdone
      rw [h1, xb_some]
      have hreach : ∀ g, Rch E i g → I 7 g = -5 := fun g hg => hg (fun x => I 7 x = -5) h (fun x y hx hxy => (hcl x y hxy).mp hx)
      have hlow : ∀ g, g < 48 → Rch E i g → IsLow E g i := fun g hg hr => ⟨by omega, hr.symm, fun g' hg' hr' => hdone g' hg' (hreach g' (hr.trans hr'))⟩
      have hfr6 : ∀ k, k < 6 → I1 k = I k := fun k hk => h2 k (by omega) (by omega) (by omega) (by omega)
      obtain ⟨I', g1, g2, g3⟩ := ih (i + 1) (c + 1) n I1 (by omega) (by omega) (GT_fr hfr6 G) (fun e he => by rw [h2 _ (by omega) (by omega) (by omega) (by omega)]; exact hE e he) (fun g hg => by rw [h2 _ (by omega) (by omega) (by omega) (by omega)]; exact hT g hg)
        (fun x y hxy => by
          have hx := hxy.lt.1
          have hy := hxy.lt.2
          by_cases hr : Rch E i x
          · rw [(h3 x hx hr).1, (h3 y hy (hr.step hxy)).1]
          · have hr2 : ¬ Rch E i y := fun z => hr (z.step hxy.symm)
            rw [(h4 x hx hr).1, (h4 y hy hr2).1]
            exact hcl x y hxy)
        (fun g hg => by
          by_cases hr : Rch E i g
          · obtain ⟨y1, y2, y3⟩ := h3 g hg hr
            exact Or.inr ⟨i, by omega, hlow g hg hr, y1, by rw [y2, siz_eq hr], by rw [y3, fre_eq hr]⟩
          · obtain ⟨y1, y2, y3⟩ := h4 g hg hr
            rcases hlab g hg with z | ⟨l, hl, z1, z2, z3, z4⟩
            · exact Or.inl (by rw [y1]; exact z)
            · exact Or.inr ⟨l, by omega, z1, by rw [y1]; exact z2, by rw [y2]; exact z3, by rw [y3]; exact z4⟩)
        (fun g hg => by
          by_cases hr : Rch E i g
          · rw [(h3 g (by omega) hr).1]; exact nI_m5 (by omega)
          · rw [(h4 g (by omega) hr).1]
            rcases Nat.lt_or_ge g i with z | z
            · exact hdone g z
            · exact absurd (by rw [show g = i by omega]; exact Rch.rf i) hr)
      refine ⟨I', ?_, h2.trans g2, g3⟩
      rw [if_pos (lowB_iff.mpr (hlow i (by omega) (Rch.rf i))), nI_1, nI_1]
      refine g1.trans ?_
      congr 3
      omega
    · rw [if_pos h, nI_1]
      obtain ⟨I', g1, g2, g3⟩ := ih (i + 1) c n I (by omega) (by omega) G hE hT hcl (fun g hg => (hlab g hg).imp id (fun ⟨l, hl, z⟩ => ⟨l, by omega, z⟩)) (fun g hg => by
        rcases Nat.lt_or_ge g i with z | z
        · exact hdone g z
        · rw [show g = i by omega]; exact h)
      refine ⟨I', ?_, g2, g3⟩
      refine g1.trans ?_
      rw [if_neg (fun z => by
        rcases hlab i (by omega) with y | ⟨l, hl, y, _⟩
        · exact h y
        · have := (lowB_iff.mp z).uniq y
          omega)]
      rfl
theorem ff_survey {b : Nat} (E T : Nat → Int32) {I : xI} (hb : 11 ≤ b) (G : GT I) (hE : ∀ e, e < 82 → I (b + 3) e = E e) (hT : ∀ g, g < 48 → I (b + 4) g = T g) : ∃ I', f_X4_survey b I = some (nI ((List.range' 0 48).countP (lowB E)), I') ∧ frS I I' ∧ SvE E T I' := by
  unfold f_X4_survey f_fill
  rw [xb_some]
  have h7 : ∀ g, g < 48 → xfill I 7 48 (-5) 7 g = -5 := fun g hg => by simp [xfill, hg]
  have hfr : ∀ k, k ≠ 7 → xfill I 7 48 (-5) k = I k := fun k hk => by funext c; simp [xfill, hk]
  obtain ⟨I', g1, g2, g3⟩ := lp_survey (b := b) (E := E) (T := T) hb 48 0 0 xZ (xfill I 7 48 (-5)) (by omega) (by unfold xZ; omega) (GT_fr (fun k hk => hfr k (by omega)) G) (fun e he => by rw [hfr _ (by omega)]; exact hE e he) (fun g hg => by rw [hfr _ (by omega)]; exact hT g hg) (fun x y hxy => by rw [h7 x hxy.lt.1, h7 y hxy.lt.2]) (fun g hg => Or.inl (h7 g hg)) (fun g hg => absurd hg (by omega))
  refine ⟨I', ?_, fun k a b' c d => (g2 k a b' c d).trans (hfr k a), g3⟩
  rw [Nat.zero_add] at g1
  exact g1
