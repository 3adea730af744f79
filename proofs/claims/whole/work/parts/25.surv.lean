/-! ===== the class's survey ===== -/
theorem rB_eq {E : Nat → Int32} {a b : Nat} (h : Rch E a b) : rB E a = rB E b := by
  funext g
  rw [Bool.eq_iff_iff, rB_iff, rB_iff]
  exact ⟨fun q => h.symm.trans q, fun q => h.trans q⟩
theorem siz_eq {E : Nat → Int32} {a b : Nat} (h : Rch E a b) : siz E a = siz E b := by unfold siz; rw [rB_eq h]
theorem fre_eq {E T : Nat → Int32} {a b : Nat} (h : Rch E a b) : fre E T a = fre E T b := by unfold fre; rw [rB_eq h]
theorem Ad.tab {E : Nat → Int32} {a b : Nat} (h : Ad E a b) : ∃ t, t < 4 ∧ eT a t < 82 ∧ E (eT a t) = 0 ∧ bT a t = b := by
  obtain ⟨e, h1, h2, h3⟩ := h
  have := tab3 e h1
  rcases h3 with ⟨rfl, rfl⟩ | ⟨rfl, rfl⟩
  · exact ⟨sN e, this.1.1, by rw [this.1.2.1]; exact h1, by rw [this.1.2.1]; exact h2, this.1.2.2⟩
  · exact ⟨sF e, this.2.1, by rw [this.2.2.1]; exact h1, by rw [this.2.2.1]; exact h2, this.2.2.2⟩
theorem tab_Ad {E : Nat → Int32} {v t : Nat} (hv : v < 48) (ht : t < 4) (he : eT v t < 82) (h0 : E (eT v t) = 0) : Ad E v (bT v t) := ⟨eT v t, he, h0, (tab2 v hv t ht he).2⟩
def rn (I : xI) (j : Nat) : Nat := (I 10 j).toNatClampNeg
def SpI (E L0 : Nat → Int32) (s K : Nat) (I : xI) : Prop :=
  (∀ j, j < K → I 10 j = nI (rn I j) ∧ rn I j < 48 ∧ I 7 (rn I j) = nI s ∧ Rch E s (rn I j)) ∧
  (∀ g, g < 48 → I 7 g = nI s → ∃ j, j < K ∧ rn I j = g) ∧
  (∀ g, g < 48 → I 7 g ≠ nI s → I 7 g = L0 g) ∧ (∀ g, g < 48 → I 7 g = nI s → L0 g = -5) ∧
  (∀ j j', j < K → j' < K → rn I j = rn I j' → j = j') ∧ K = (List.range' 0 48).countP (fun g => decide (I 7 g = nI s))
def frS (I I' : xI) : Prop := ∀ k, k ≠ 7 → k ≠ 8 → k ≠ 9 → k ≠ 10 → I' k = I k
theorem frS.trans {I I' I'' : xI} (h1 : frS I I') (h2 : frS I' I'') : frS I I'' := fun k a b c d => (h2 k a b c d).trans (h1 k a b c d)
theorem frS.rf (I : xI) : frS I I := fun _ _ _ _ _ => rfl
theorem SpI.add {E L0 : Nat → Int32} {s K u : Nat} {I : xI} (h : SpI E L0 s K I) (hs : s < 48) (hu : u < 48) (hL : I 7 u = -5) (hr : Rch E s u) : SpI E L0 s (K + 1) (xup (xup I 7 u (nI s)) 10 K (nI u)) := by
  obtain ⟨a, b, c, d, e, f⟩ := h
  have hne : I 7 u ≠ nI s := by rw [hL]; exact nI_m5' (by omega)
  generalize hI1 : xup (xup I 7 u (nI s)) 10 K (nI u) = I1
  have h7 : ∀ g, I1 7 g = if g = u then nI s else I 7 g := by intro g; rw [← hI1]; simp [xup]
  have h10 : ∀ j, I1 10 j = if j = K then nI u else I 10 j := by intro g; rw [← hI1]; simp [xup]
  have hrnK : rn I1 K = u := by unfold rn; rw [h10, if_pos rfl, nI_clamp (by omega)]
  have hrn : ∀ j, j < K → rn I1 j = rn I j := by intro j hj; unfold rn; rw [h10, if_neg (by omega)]
  have hnot : ∀ j, j < K → rn I j ≠ u := fun j hj q => hne (by rw [← q]; exact (a j hj).2.2.1)
  refine ⟨fun j hj => ?_, fun g hg hgs => ?_, fun g hg hgs => ?_, fun g hg hgs => ?_, fun j j' hj hj' hq => ?_, ?_⟩
  · rcases Nat.lt_or_ge j K with q | q
    · rw [hrn j q, h10, if_neg (by omega), h7, if_neg (hnot j q)]
      exact a j q
    · rw [show j = K by omega, hrnK, h10, if_pos rfl, h7, if_pos rfl]
      exact ⟨rfl, hu, rfl, hr⟩
  · rw [h7] at hgs
    by_cases hgu : g = u
    · exact ⟨K, by omega, by rw [hrnK, hgu]⟩
    · rw [if_neg hgu] at hgs
      obtain ⟨j, hj, q⟩ := b g hg hgs
      exact ⟨j, by omega, by rw [hrn j hj, q]⟩
  · rw [h7] at hgs ⊢
    by_cases hgu : g = u
    · rw [if_pos hgu] at hgs; exact absurd rfl hgs
    · rw [if_neg hgu] at hgs ⊢; exact c g hg hgs
  · rw [h7] at hgs
    by_cases hgu : g = u
    · rw [hgu, ← c u hu hne]; exact hL
    · rw [if_neg hgu] at hgs; exact d g hg hgs
  · rcases Nat.lt_or_ge j K with q | q <;> rcases Nat.lt_or_ge j' K with q' | q'
    · rw [hrn j q, hrn j' q'] at hq; exact e j j' q q' hq
    · rw [hrn j q, show j' = K by omega, hrnK] at hq; exact absurd hq (hnot j q)
    · rw [hrn j' q', show j = K by omega, hrnK] at hq; exact absurd hq.symm (hnot j' q')
    · omega
  · rw [cP_insert (P := fun g => decide (I 7 g = nI s)) (P' := fun g => decide (I1 7 g = nI s)) (x := u) 48 0 (by omega) (by omega) (by simpa using hne) (by simp [h7]) (fun g hg => by simp [h7, hg]), ← f]
theorem lp_spread81 {b s : Nat} {E L0 : Nat → Int32} (hb : 11 ≤ b) (hs : s < 48) {i v : Nat} (hv : v < 48) (hrv : Rch E s v) (hi48 : i < 48) {q : Nat} :
    ∀ (m t n K : Nat) (I : xI), t + m = 4 → m < n → GT I → (∀ e, e < 82 → I (b + 3) e = E e) → SpI E L0 s K I →
      ∃ K' I', (∀ k22, f_X4_spreadFrom_81 b k22 n (nI s) (nI K) (nI q) (nI i) (nI v) (nI t) I = k22 (nI s) (nI K') (nI q) (nI (i + 1)) I') ∧ SpI E L0 s K' I' ∧ K ≤ K' ∧ (∀ j, j < K → I' 10 j = I 10 j) ∧ (∀ t', t ≤ t' → t' < 4 → eT v t' < 82 → E (eT v t') = 0 → I' 7 (bT v t') ≠ -5) ∧ (∀ g, I 7 g ≠ -5 → I' 7 g = I 7 g) ∧ (∀ k, k ≠ 7 → k ≠ 10 → I' k = I k) := by
  intro m
  induction m with
  | zero =>
    intro t n K I hi hn G hE hS
    obtain ⟨n, rfl⟩ : ∃ n', n = n' + 1 := ⟨n - 1, by omega⟩
    refine ⟨K, I, fun k22 => ?_, hS, Nat.le_refl _, fun _ _ => rfl, fun t' h1 h2 => by omega, fun _ _ => rfl, fun _ _ _ => rfl⟩
    show f_X4_spreadFrom_81b b k22 _ _ _ _ _ _ (nI t) I = _
    unfold f_X4_spreadFrom_81b
    rw [if_pos (show nI t ≥ (4 : Int32) by rw [show t = 4 by omega]; exact Int32.le_refl _), nI_1]
  | succ m ih =>
    intro t n K I hi hn G hE hS
    obtain ⟨n, rfl⟩ : ∃ n', n = n' + 1 := ⟨n - 1, by omega⟩
    have e4 : nI v * (4 : Int32) + nI t = nI (v * 4 + t) := by
      rw [show (4 : Int32) = nI 4 from rfl, nI_mulc, nI_add]
    have g3 : I 3 (v * 4 + t) = tI (eT v t) 82 := G.1 _ (by omega)
    have g2 : I 2 (v * 4 + t) = tI (bT v t) 48 := G.2.1 _ (by omega)
    have skip : ∀ k22 x, f_X4_spreadFrom_152 b k22 (fun l2 l3 l4 l5 l6 l7 I => f_X4_spreadFrom_81 b k22 n l2 l3 l4 l5 l6 l7 I) (nI s) (nI K) (nI q) (nI i) (nI v) (nI t) x (0 : Int32) I = f_X4_spreadFrom_81 b k22 n (nI s) (nI K) (nI q) (nI i) (nI v) (nI (t + 1)) I := by
      intro k22 x
      unfold f_X4_spreadFrom_152
      rw [if_pos rfl, nI_1]
    have body : ∀ k22, f_X4_spreadFrom_81 b k22 (n + 1) (nI s) (nI K) (nI q) (nI i) (nI v) (nI t) I = if eT v t < 82 ∧ E (eT v t) = 0 ∧ I 7 (bT v t) = -5 then f_X4_spreadFrom_81 b k22 n (nI s) (nI (K + 1)) (nI q) (nI i) (nI v) (nI (t + 1)) (xup (xup I 7 (bT v t) (nI s)) 10 K (nI (bT v t))) else f_X4_spreadFrom_81 b k22 n (nI s) (nI K) (nI q) (nI i) (nI v) (nI (t + 1)) I := by
      intro k22
      show f_X4_spreadFrom_81b b k22 _ _ _ _ _ _ (nI t) I = _
      unfold f_X4_spreadFrom_81b
      rw [if_neg (show ¬ nI t ≥ (4 : Int32) from nI_ge (b := 4) (by omega) (by decide)), e4, if_pos (xin_nI (by omega) (by decide)), if_pos (xin_nI (by omega) (by decide)), nI_clamp (by omega), g3, g2]
      by_cases he : eT v t < 82
      · have hbt := (tab2 v hv t (by omega) he).1
        rw [tI, if_pos he, tI, if_pos hbt, ff_isEdge_yes he, xb_some, if_neg one_ne0, ff_isField_yes hbt, xb_some, if_neg one_ne0, if_pos (xin_nI he (by decide)), nI_clamp (by omega), hE _ he]
        by_cases h0 : E (eT v t) = 0
        · rw [if_neg (fun z => z h0)]
          unfold f_X4_spreadFrom_152
          rw [if_neg one_ne0, if_pos (xin_nI hbt (by decide)), if_pos (xin_nI hbt (by decide)), nI_clamp (by omega), nI_1]
          by_cases hL : I 7 (bT v t) = -5
          · have hK : K < 48 := by
              rw [hS.2.2.2.2.2]
              exact cP_lt (x := bT v t) (by omega) (by omega) (by simp [hL]; exact nI_m5' (by omega))
            rw [if_neg (fun z => z hL), if_neg (show ¬ nI K ≥ (48 : Int32) from nI_ge (b := 48) hK (by decide)), if_pos (xin_nI hK (by decide)), if_pos ⟨he, h0, hL⟩, nI_clamp (by omega), nI_1]
          · rw [if_pos hL, if_neg (fun z => hL z.2.2)]
        · rw [if_pos h0, skip, if_neg (fun z => h0 z.2.1)]
      · rw [tI, if_neg he, ff_isEdge_no, xb_some, if_pos rfl, skip, if_neg (fun z => he z.1)]
    by_cases hc : eT v t < 82 ∧ E (eT v t) = 0 ∧ I 7 (bT v t) = -5
    · have hbt := (tab2 v hv t (by omega) hc.1).1
      have had := tab_Ad hv (by omega) hc.1 hc.2.1
      have hS1 := hS.add hs hbt hc.2.2 (hrv.step had)
      generalize hI1 : xup (xup I 7 (bT v t) (nI s)) 10 K (nI (bT v t)) = I1 at hS1 body
      have hfr : ∀ k, k ≠ 7 → k ≠ 10 → I1 k = I k := fun k h7 h10 => by funext c; rw [← hI1, xup_cell h10, xup_cell h7]
      have h7 : ∀ g, I1 7 g = if g = bT v t then nI s else I 7 g := by intro g; rw [← hI1]; simp [xup]
      have G1 : GT I1 := by
        unfold GT
        rw [hfr 3 (by decide) (by decide), hfr 2 (by decide) (by decide), hfr 4 (by decide) (by decide), hfr 5 (by decide) (by decide)]
        exact G
      obtain ⟨K', I', q1, q2, q3, q4, q5, q6, q7⟩ := ih (t + 1) n (K + 1) I1 (by omega) (by omega) G1 (fun e he => by rw [hfr _ (by omega) (by omega)]; exact hE e he) hS1
      refine ⟨K', I', fun k22 => by rw [body k22, if_pos hc]; exact q1 k22, q2, by omega, fun j hj => (q4 j (by omega)).trans (by rw [← hI1, xup_slot (by omega), xup_cell (by omega)]), fun t' h1 h2 h3 h4 => ?_, fun g hg => ?_, fun k a b' => (q7 k a b').trans (hfr k a b')⟩
      · rcases Nat.eq_or_lt_of_le h1 with z | z
        · subst z
          rw [q6 _ (by rw [h7, if_pos rfl]; exact nI_m5 (by omega)), h7, if_pos rfl]
          exact nI_m5 (by omega)
        · exact q5 t' z h2 h3 h4
      · have : I1 7 g = I 7 g := by
          rw [h7]
          split
          next z => rw [z] at hg; exact absurd hc.2.2 hg
          next => rfl
        rw [q6 g (by rw [this]; exact hg), this]
    · obtain ⟨K', I', q1, q2, q3, q4, q5, q6, q7⟩ := ih (t + 1) n K I (by omega) (by omega) G hE hS
      refine ⟨K', I', fun k22 => by rw [body k22, if_neg hc]; exact q1 k22, q2, q3, q4, fun t' h1 h2 h3 h4 => ?_, q6, q7⟩
      rcases Nat.eq_or_lt_of_le h1 with z | z
      · subst z
        have hne : I 7 (bT v t) ≠ -5 := fun z => hc ⟨h3, h4, z⟩
        rw [q6 _ hne]; exact hne
      · exact q5 t' z h2 h3 h4
theorem lp_spread211 {b s K q : Nat} : ∀ (m i n : Nat) (I : xI), i + m = 48 → m < n →
    ∃ I', f_X4_spreadFrom_211 b n (nI s) (nI K) (nI q) (nI i) I = some (0, I') ∧ (∀ k, k ≠ 8 → k ≠ 9 → I' k = I k) ∧ (∀ g, i ≤ g → g < 48 → I 7 g = nI s → I' 8 g = nI K ∧ I' 9 g = nI q) ∧ (∀ g, ¬ (i ≤ g ∧ g < 48 ∧ I 7 g = nI s) → I' 8 g = I 8 g ∧ I' 9 g = I 9 g) := by
  intro m
  induction m with
  | zero =>
    intro i n I hi hn
    obtain ⟨n, rfl⟩ : ∃ n', n = n' + 1 := ⟨n - 1, by omega⟩
    refine ⟨I, ?_, fun _ _ _ => rfl, fun g h1 h2 _ => by omega, fun _ _ => ⟨rfl, rfl⟩⟩
    show f_X4_spreadFrom_211b b _ _ _ _ (nI i) I = _
    unfold f_X4_spreadFrom_211b
    rw [if_pos (show nI i ≥ (48 : Int32) by rw [show i = 48 by omega]; exact Int32.le_refl _)]
  | succ m ih =>
    intro i n I hi hn
    obtain ⟨n, rfl⟩ : ∃ n', n = n' + 1 := ⟨n - 1, by omega⟩
    have body : f_X4_spreadFrom_211 b (n + 1) (nI s) (nI K) (nI q) (nI i) I = if I 7 i ≠ nI s then f_X4_spreadFrom_211 b n (nI s) (nI K) (nI q) (nI (i + 1)) I else f_X4_spreadFrom_211 b n (nI s) (nI K) (nI q) (nI (i + 1)) (xup (xup I 8 i (nI K)) 9 i (nI q)) := by
      show f_X4_spreadFrom_211b b _ _ _ _ (nI i) I = _
      unfold f_X4_spreadFrom_211b
      rw [if_neg (show ¬ nI i ≥ (48 : Int32) from nI_ge (b := 48) (by omega) (by decide)), if_pos (xin_nI (by omega) (by decide)), if_pos (xin_nI (by omega) (by decide)), if_pos (xin_nI (by omega) (by decide)), nI_clamp (by omega), nI_1]
    rcases Classical.em (I 7 i = nI s) with h | h
    · generalize hI1 : xup (xup I 8 i (nI K)) 9 i (nI q) = I1 at body
      have hfr : ∀ k, k ≠ 8 → k ≠ 9 → I1 k = I k := fun k h8 h9 => by funext c; rw [← hI1, xup_cell h9, xup_cell h8]
      have h8 : ∀ g, I1 8 g = if g = i then nI K else I 8 g := by intro g; rw [← hI1]; simp [xup]
      have h9 : ∀ g, I1 9 g = if g = i then nI q else I 9 g := by intro g; rw [← hI1]; simp [xup]
      have h7 : I1 7 = I 7 := hfr 7 (by decide) (by decide)
      obtain ⟨I', q1, q2, q3, q4⟩ := ih (i + 1) n I1 (by omega) (by omega)
      refine ⟨I', ?_, fun k a b' => (q2 k a b').trans (hfr k a b'), fun g h1 h2 h3 => ?_, fun g hg => ?_⟩
      · rw [body, if_neg (fun z => z h)]; exact q1
      · rcases Nat.eq_or_lt_of_le h1 with z | z
        · obtain ⟨z1, z2⟩ := q4 g (fun y => by omega)
          rw [z1, z2, h8, h9, if_pos z.symm, if_pos z.symm]
          exact ⟨rfl, rfl⟩
        · exact q3 g z h2 (by rw [h7]; exact h3)
      · have hgi : g ≠ i := fun z => hg ⟨by omega, by omega, by rw [z]; exact h⟩
        obtain ⟨z1, z2⟩ := q4 g (fun ⟨a, b', c⟩ => hg ⟨by omega, b', by rw [← h7]; exact c⟩)
        rw [z1, z2, h8, h9, if_neg hgi, if_neg hgi]
        exact ⟨rfl, rfl⟩
    · obtain ⟨I', q1, q2, q3, q4⟩ := ih (i + 1) n I (by omega) (by omega)
      refine ⟨I', ?_, q2, fun g h1 h2 h3 => ?_, fun g hg => q4 g (fun ⟨a, b', c⟩ => hg ⟨by omega, b', c⟩)⟩
      · rw [body, if_pos h]; exact q1
      · rcases Nat.eq_or_lt_of_le h1 with z | z
        · exact absurd (by rw [z]; exact h3) h
        · exact q3 g z h2 h3
def prB (I : xI) (i g : Nat) : Bool := (List.range' 0 i).any (fun j => decide (rn I j = g))
theorem prB_iff {I : xI} {i g : Nat} : prB I i g = true ↔ ∃ j, j < i ∧ rn I j = g := by
  unfold prB
  rw [List.any_eq_true]
  constructor
  · rintro ⟨j, h1, h2⟩
    have := List.mem_range'_1.mp h1
    exact ⟨j, by omega, by simpa using h2⟩
  · rintro ⟨j, h1, h2⟩
    exact ⟨j, List.mem_range'_1.mpr (by omega), by simpa using h2⟩
