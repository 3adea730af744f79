/-! ===== acts ===== -/
theorem CALL.congr {f6 f7 g6 g7 : xI → Option (Int32 × xI)} (h : CALL g6 g7) (h6 : ∀ I, f6 I = g6 I) (h7 : ∀ J, f7 J = g7 J) : CALL f6 f7 := by
  intro I J hR
  obtain ⟨r, I', J', a, b, c⟩ := h I J hR
  exact ⟨r, I', J', (h6 I).trans a, (h7 J).trans b, c⟩
theorem R2.same {I J : xI} (h : R2 I J) {f6 f7 : xI → Option (Int32 × xI)} {r : Int32} (h6 : f6 I = some (r, I)) (h7 : f7 J = some (r, J)) : ∃ r I' J', f6 I = some (r, I') ∧ f7 J = some (r, J') ∧ R2 I' J' ∧ (∀ k, 69 ≤ k → I' k = I k) ∧ ∀ k, k < 69 → J' k = J k := ⟨r, I, J, h6, h7, h, fun _ _ => rfl, fun _ _ => rfl⟩
theorem R2.state {I J I' J' : xI} (h : R2 I J) (hR : RS I' 45 (J' 70)) (hI : ∀ k, (k < 45 ∨ 50 < k) → I' k = I k) (hJ : ∀ k, k ≠ 70 → J' k = J k) : R2 I' J' := by
  obtain ⟨h1, h2, h3, h4, h5, h6⟩ := h
  have h69 := hJ 69 (by decide)
  exact ⟨GT_fr (fun k hk => hI k (by omega)) h1, hR, h3.congr (fun k a b => hI k (by omega)) (by rw [h69]) (hJ 74 (by decide)), h4.congr (by rw [hI 0 (by omega)]) (fun k a b => hI k (by omega)) (by rw [h69]) (by rw [hJ 73 (by decide)]; exact EqR.rf _), h5.congr (by rw [hI 0 (by omega)]; exact ⟨rfl, rfl, rfl⟩) (by rw [h69]; exact ⟨rfl, rfl⟩), h6.congr (by rw [hI 13 (by omega)]) (hI 14 (by omega)) (by rw [h69]) (hJ 75 (by decide))⟩
theorem st_writeE {l1 l3 l4 : Int32} (k : Nat) (hk : k < 2) : INN (f_X6_addEdgeLetter l1 (nI k) l3 l4) (f_X7_writes l1 (nI k) l3 l4) := by
  intro I J G h
  have hm : f_X7_writes l1 (nI k) l3 l4 J = f_X7_writes_14 l1 (nI k) l3 l4 1 J := by
    unfold f_X7_writes
    have : k = 0 ∨ k = 1 := by omega
    rcases this with rfl | rfl
    · rw [if_pos (show nI 0 = 0 from rfl)]
    · rw [if_neg (show ¬ nI 1 = 0 by decide), if_neg (show ¬ nI 1 ≠ 1 from fun q => q rfl)]
  have hk3 : nI k ≠ 3 := fun q => absurd (nI_inj (b := 3) (by omega) (by decide) q) (by omega)
  have hkk : nI k = 0 ∨ nI k = 1 := by
    have : k = 0 ∨ k = 1 := by omega
    rcases this with rfl | rfl
    · exact Or.inl rfl
    · exact Or.inr rfl
  rcases ff_isPlayer_cases l1 I with ⟨p, hp, rfl, c1⟩ | ⟨c0, c1⟩
  · rcases edge_cases l3 l4 G J with ⟨f, g, hf, hg, he, rfl, rfl⟩ | ⟨e1, e2⟩
    · have e := edge_yes hf hg he G J
      have hpp : nI p = 0 ∨ nI p = 1 := by
        have : p = 0 ∨ p = 1 := by omega
        rcases this with rfl | rfl
        · exact Or.inl rfl
        · exact Or.inr rfl
      obtain ⟨r, I', J', a1, a2, a3⟩ := st_addLetter (l1 := nI p) (l2 := nI k) (l3 := nI f) (l4 := nI g) h hpp (Or.inl ⟨hkk, f, g, hf, hg, he, rfl, rfl⟩)
      refine ⟨r, I', J', ?_, ?_, a3⟩
      · unfold f_X6_addEdgeLetter
        rw [c1, xb_some, if_neg one_ne0, e.1, xb_some, ff_isEdge_yes he, xb_some, if_pos one_ne0, a1, xb_some]
      · rw [hm]
        unfold f_X7_writes_14 f_X7_writes_35 f_X7_writes_53
        rw [gg_isPlayer_yes hp, xb_some, if_neg one_ne0, if_neg hk3, gg_isField_yes hf, xb_some, if_neg one_ne0, if_neg one_ne0, e.2, xb_some, if_pos (nI_m5 (by have := pE_lt he; omega)), if_pos hk3, a2]
    · refine ⟨-1, I, J, ?_, ?_, h, frC.rf 45 I, frM.rf J⟩
      · unfold f_X6_addEdgeLetter
        rw [c1, xb_some, if_neg one_ne0, e1, xb_some, ff_isEdge_no, xb_some, if_neg (fun q => q rfl)]
      · rw [hm]
        unfold f_X7_writes_14 f_X7_writes_35
        rw [gg_isPlayer_yes hp, xb_some, if_neg one_ne0, if_neg hk3]
        by_cases hx : ∃ f, f < 48 ∧ l3 = nI f
        · obtain ⟨f, hf, rfl⟩ := hx
          rw [gg_isField_yes hf, xb_some, if_neg one_ne0, if_neg one_ne0, e2, xb_some, if_neg (fun q => q rfl)]
        · rw [gg_isField_no (fun f hf q => hx ⟨f, hf, q⟩), xb_some, if_pos rfl]
  · refine ⟨-1, I, J, ?_, ?_, h, frC.rf 45 I, frM.rf J⟩
    · unfold f_X6_addEdgeLetter
      rw [c1, xb_some, if_pos rfl]
    · rw [hm]
      unfold f_X7_writes_14
      rw [gg_isPlayer_no c0, xb_some, if_pos rfl]
theorem pl01 {p : Nat} (hp : p < 2) : nI p = 0 ∨ nI p = 1 := by
  have : p = 0 ∨ p = 1 := by omega
  rcases this with rfl | rfl
  · exact Or.inl rfl
  · exact Or.inr rfl
theorem st_writeC {l1 l2 : Int32} : INN (f_X6_addClaim l1 l2) (f_X7_writes l1 2 l2 (-5)) := by
  intro I J G h
  have hm : f_X7_writes l1 2 l2 (-5) J = f_X7_writes_14 l1 2 l2 (-5) 0 J := by
    unfold f_X7_writes
    rw [if_neg (by decide), if_pos (by decide)]
  rcases ff_isPlayer_cases l1 I with ⟨p, hp, rfl, c1⟩ | ⟨c0, c1⟩
  · by_cases hx : ∃ f, f < 48 ∧ l2 = nI f
    · obtain ⟨f, hf, rfl⟩ := hx
      obtain ⟨r, I', J', a1, a2, a3⟩ := st_addLetter (l1 := nI p) (l2 := 2) (l3 := nI f) (l4 := -5) h (pl01 hp) (Or.inr (Or.inl ⟨rfl, f, hf, rfl⟩))
      refine ⟨r, I', J', ?_, ?_, a3⟩
      · unfold f_X6_addClaim
        rw [c1, xb_some, if_neg one_ne0, ff_isField_yes hf, xb_some, if_pos one_ne0, a1, xb_some]
      · rw [hm]
        unfold f_X7_writes_14 f_X7_writes_35 f_X7_writes_53
        rw [gg_isPlayer_yes hp, xb_some, if_neg one_ne0, if_neg (by decide), gg_isField_yes hf, xb_some, if_neg one_ne0, if_pos rfl, if_pos (by decide), a2]
    · refine ⟨-1, I, J, ?_, ?_, h, frC.rf 45 I, frM.rf J⟩
      · unfold f_X6_addClaim
        rcases ff_isField_cases l2 I with ⟨f, hf, q⟩ | q
        · exact absurd ⟨f, hf, q⟩ hx
        · rw [c1, xb_some, if_neg one_ne0, q, xb_some, if_neg (fun q => q rfl)]
      · rw [hm]
        unfold f_X7_writes_14
        rw [gg_isPlayer_yes hp, xb_some, if_neg one_ne0, if_neg (by decide), gg_isField_no (fun f hf q => hx ⟨f, hf, q⟩), xb_some, if_pos rfl]
  · refine ⟨-1, I, J, ?_, ?_, h, frC.rf 45 I, frM.rf J⟩
    · unfold f_X6_addClaim
      rw [c1, xb_some, if_pos rfl]
    · rw [hm]
      unfold f_X7_writes_14
      rw [gg_isPlayer_no c0, xb_some, if_pos rfl]
/-- numbers 1 .. 99 -/
theorem in99 (x : Int32) : (∃ n, 1 ≤ n ∧ n ≤ 99 ∧ x = nI n ∧ ¬ x < 1 ∧ x ≤ 99) ∨ ((x < 1 ∨ ¬ x ≤ 99) ∧ ∀ n, 1 ≤ n → n ≤ 99 → x ≠ nI n) := by
  rcases nI_cases x (n := 100) (by decide) with h | h | ⟨n, hn, rfl⟩
  · exact Or.inr ⟨Or.inl (Int32.lt_trans h (by decide)), fun n _ _ q => nI_pos (n := n) (by omega) (q ▸ h)⟩
  · refine Or.inr ⟨Or.inr (fun q => ?_), fun n _ h2 q => ?_⟩
    · exact absurd (Int32.le_trans h q) (by decide)
    · subst q; exact nI_ge (a := n) (b := 100) (by omega) (by decide) h
  · by_cases h0 : n = 0
    · subst h0
      exact Or.inr ⟨Or.inl (by decide), fun m h1 h2 q => absurd (nI_inj (a := 0) (by decide) (by omega) q) (by omega)⟩
    · exact Or.inl ⟨n, by omega, by omega, rfl, nI_nlt (b := 1) (by omega) (by omega), Int32.not_lt.mp (nI_nlt (a := 99) (by omega) (by decide))⟩
theorem st_writeT {l1 l2 : Int32} : INN (f_X6_addTruce l1 l2) (f_X7_writes l1 3 (-5) l2) := by
  intro I J G h
  have hm : f_X7_writes l1 3 (-5) l2 J = f_X7_writes_14 l1 3 (-5) l2 0 J := by
    unfold f_X7_writes
    rw [if_neg (by decide), if_pos (by decide)]
  rcases ff_isPlayer_cases l1 I with ⟨p, hp, rfl, c1⟩ | ⟨c0, c1⟩
  · rcases in99 l2 with ⟨n, n1, n2, rfl, n3, n4⟩ | ⟨h1, h2⟩
    · obtain ⟨r, I', J', a1, a2, a3⟩ := st_addLetter (l1 := nI p) (l2 := 3) (l3 := -5) (l4 := nI n) h (pl01 hp) (Or.inr (Or.inr ⟨rfl, n, n1, n2, rfl⟩))
      refine ⟨r, I', J', ?_, ?_, a3⟩
      · unfold f_X6_addTruce
        rw [c1, xb_some, if_pos one_ne0, if_neg n3, if_pos n4, a1, xb_some]
      · rw [hm]
        unfold f_X7_writes_14 f_X7_writes_35 f_X7_writes_53
        rw [gg_isPlayer_yes hp, xb_some, if_neg one_ne0, if_pos rfl, if_pos rfl, if_neg (fun q => q rfl), show f_X7_in (nI n) 1 99 J = _ from gg_in_yes (a := 1) (b := 99) n1 n2 (by decide) J, xb_some, if_pos one_ne0, a2]
    · refine ⟨-2, I, J, ?_, ?_, h, frC.rf 45 I, frM.rf J⟩
      · unfold f_X6_addTruce
        rw [c1, xb_some, if_pos one_ne0]
        rcases h1 with q | q
        · rw [if_pos q]
        · rw [if_neg q]; split <;> rfl
      · rw [hm]
        unfold f_X7_writes_14 f_X7_writes_35 f_X7_writes_53
        rw [gg_isPlayer_yes hp, xb_some, if_neg one_ne0, if_pos rfl, if_pos rfl, if_neg (fun q => q rfl), show f_X7_in l2 1 99 J = _ from gg_in_no (a := 1) (b := 99) (by decide) (by decide) (fun n a b => h2 n a b) J, xb_some, if_neg (fun q => q rfl)]
  · refine ⟨-1, I, J, ?_, ?_, h, frC.rf 45 I, frM.rf J⟩
    · unfold f_X6_addTruce
      rw [c1, xb_some, if_neg (fun q => q rfl)]
    · rw [hm]
      unfold f_X7_writes_14
      rw [gg_isPlayer_no c0, xb_some, if_pos rfl]
/-- days pass, as an act -/
theorem st_passI (n : Nat) (n1 : 1 ≤ n) (n2 : n ≤ 99) : INN (f_X6_letDaysPass (nI n)) (f_X7_passes (nI n)) := by
  intro I J G h
  obtain ⟨d, d1, d2, d3, d4, d5⟩ := st_pass (b := 45) (by omega) (by omega) G h n2
  have e : f_X6_letDaysPass (nI n) I = if nI (d + n) ≤ (9999 : Int32) then xb (f_X3_deliver 45 (nI (d + n)) I) (fun r1 I1 => some (r1, I1)) else some (-3, I) := by
    unfold f_X6_letDaysPass
    rw [if_neg (show ¬ nI n < (1 : Int32) from nI_nlt (b := 1) (by omega) (by omega)), if_pos (show nI n ≤ (99 : Int32) from Int32.not_lt.mp (nI_nlt (a := 99) (by omega) (by decide))), d1, nI_add]
  by_cases hd : d + n ≤ 9999
  · obtain ⟨g, I', J', g1, g2, g3, g4, g5, g6⟩ := d4 hd
    refine ⟨nI g, I', J', ?_, g3, g4, g5, g6⟩
    rw [e, if_pos (show nI (d + n) ≤ (9999 : Int32) from Int32.not_lt.mp (nI_nlt (a := 9999) hd (by decide))), g2, xb_some]
  · refine ⟨-3, I, J, ?_, d5 hd, h, frC.rf 45 I, frM.rf J⟩
    rw [e, if_neg (show ¬ nI (d + n) ≤ (9999 : Int32) from fun q => Int32.not_lt.mpr q (nI_lt (a := 9999) (by omega) (by omega)))]
theorem st_passN {x : Int32} (h1 : x < 1 ∨ ¬ x ≤ 99) (I : xI) : f_X6_letDaysPass x I = some (-2, I) := by
  unfold f_X6_letDaysPass
  rcases h1 with q | q
  · rw [if_pos q]
  · rw [if_neg q]; split <;> rfl
theorem call_writeEdge (l1 l2 l3 l4 : Int32) : CALL (f_X6_writeEdge l1 l2 l3 l4) (f_X7_writeEdge l1 l2 l3 l4) := by
  by_cases h : l2 = 0
  · subst h
    exact (st_act (st_writeE (l1 := l1) (l3 := l3) (l4 := l4) 0 (by omega))).congr (fun I => rfl) (fun J => rfl)
  · refine (st_act (st_writeE (l1 := l1) (l3 := l3) (l4 := l4) 1 (by omega))).congr (fun I => ?_) (fun J => ?_)
    · unfold f_X6_writeEdge
      simp only [if_neg h]
      rfl
    · unfold f_X7_writeEdge
      simp only [if_neg h]
      rfl
theorem call_writeClaim (l1 l2 : Int32) : CALL (f_X6_writeClaim l1 l2) (f_X7_writeClaim l1 l2) := (st_act st_writeC).congr (fun _ => rfl) (fun _ => rfl)
theorem call_writeTruce (l1 l2 : Int32) : CALL (f_X6_writeTruce l1 l2) (f_X7_writeTruce l1 l2) := (st_act st_writeT).congr (fun _ => rfl) (fun _ => rfl)
theorem call_pass (l1 : Int32) : CALL (f_X6_pass l1) (f_X7_pass l1) := by
  rcases in99 l1 with ⟨n, n1, n2, rfl, n3, n4⟩ | ⟨h1, h2⟩
  · refine (st_act (st_passI n n1 n2)).congr (fun _ => rfl) (fun J => ?_)
    unfold f_X7_pass
    have e : ∀ I1, f_X7_in (nI n) 1 99 I1 = some (1, I1) := fun I1 => gg_in_yes (a := 1) (b := 99) n1 n2 (by decide) I1
    simp only [e, xb_some, if_neg one_ne0]
  · refine (st_act (g6 := f_X6_letDaysPass l1) (g7 := fun J => some (-2, J)) (fun I J G h => ⟨-2, I, J, st_passN h1 I, rfl, h, frC.rf 45 I, frM.rf J⟩)).congr (fun _ => rfl) (fun J => ?_)
    unfold f_X7_pass
    have e : ∀ I1, f_X7_in l1 1 99 I1 = some (0, I1) := fun I1 => gg_in_no (a := 1) (b := 99) (by decide) (by decide) (fun n a b => h2 n a b) I1
    simp only [e, xb_some, if_true]
    rfl
/-- an act is recorded at once -/
theorem st_rec {I J : xI} (h : R2 I J) : ∃ I' J1 J', f_X2_add 45 I = some (0, I') ∧ f_X7_looks J = some (0, J1) ∧ f_X7_records J1 = some (0, J') ∧ R2 I' J' ∧ (∀ k, (k < 19 ∨ 44 < k) → I' k = I k) ∧ (∀ k, k ≠ 69 → k ≠ 72 → k ≠ 74 → J' k = J k) ∧ ∀ j, j ≠ 6 → J' 69 j = J 69 j := by
  obtain ⟨h1, h2, h3, h4, h5, h6⟩ := h
  obtain ⟨J1, c1, c2, c3⟩ := gg_looks J
  have H : HI I J1 := h3.congr (fun _ _ _ => rfl) (by rw [c2 69 (by decide)]) (c2 74 (by decide))
  obtain ⟨I', J', k1, k2, k3, k4, k5, k6⟩ := st_add (Or.inl rfl) H (h2.congr (EqS.rf I 45) c3)
  have e69 : J1 69 = J 69 := c2 69 (by decide)
  refine ⟨I', J1, J', k1, c1, k2, ⟨GT_fr (fun k hk => k4 k (by omega)) h1, ?_, k3, h4.congr (by rw [k4 0 (by omega)]) (fun k a b => k4 k (by omega)) ((k6 4 (by decide)).trans (by rw [e69])) (by rw [k5 73 (by decide) (by decide), c2 73 (by decide)]; exact EqR.rf _), h5.congr (by rw [k4 0 (by omega)]; exact ⟨rfl, rfl, rfl⟩) ⟨(k6 9 (by decide)).trans (by rw [e69]), (k6 10 (by decide)).trans (by rw [e69])⟩, h6.congr (by rw [k4 13 (by omega)]) (k4 14 (by omega)) ((k6 8 (by decide)).trans (by rw [e69])) ((k5 75 (by decide) (by decide)).trans (c2 75 (by decide)))⟩, k4, fun k a b c => (k5 k a c).trans (c2 k b), fun j hj => (k6 j hj).trans (by rw [e69])⟩
  rw [k5 70 (by decide) (by decide), c2 70 (by decide)]
  exact h2.congr (EqS.of (fun k a b => k4 k (by omega))) (EqR.rf _)
theorem tb10 : ∀ w, w < 61 → 0 < w → nI w - (1 : Int32) = nI (w - 1) := by decide +kernel
theorem gg_isLetter {w : Nat} (x : Int32) {J : xI} (hw : J 70 1 = nI w) (hw6 : w ≤ 60) : (∀ k, k < w → x = nI k → f_X7_isLetter x J = some (1, J)) ∧ ((∀ k, k < w → x ≠ nI k) → f_X7_isLetter x J = some (0, J)) := by
  unfold f_X7_isLetter
  rw [hw]
  refine ⟨fun k hk q => ?_, fun q => ?_⟩
  · rw [tb10 w (by omega) (by omega), q, show f_X7_in (nI k) 0 (nI (w - 1)) J = _ from gg_in_yes (a := 0) (b := w - 1) (by omega) (by omega) (by omega) J, xb_some, if_pos (Or.inr rfl)]
  · by_cases hw0 : w = 0
    · subst hw0
      have : f_X7_in x 0 (nI 0 - 1) J = some (0, J) := by
        unfold f_X7_in
        by_cases h : x < 0
        · rw [if_pos h]
        · rw [if_neg h, if_pos]
          exact Int32.lt_of_lt_of_le (show nI 0 - 1 < 0 by decide) (Int32.not_lt.mp h)
      rw [this, xb_some, if_pos (Or.inl rfl)]
    · rw [tb10 w (by omega) (by omega), show f_X7_in x 0 (nI (w - 1)) J = _ from gg_in_no (a := 0) (b := w - 1) (by omega) (by omega) (fun n _ h => q n (by omega)) J, xb_some, if_pos (Or.inl rfl)]
theorem RS.back {I : xI} {b : Nat} {s : Nat → Int32} {w d k : Nat} (hR : RC w I b s) (hA : AL w I b s) (hM : MT w I b s) (hT : TD w I b) (e1 : I b 0 = nI d) (e2 : s 0 = nI d) (e3 : d ≤ 9999) (hD : DY w I b d) (hk : k < w) (h6 : FC I b k 6 = 0) : RS (xup I (b + 5) (10 * k + 6) 3) b (sup s (142 + 10 * k + 6) 3) := by
  have hw := hR.1.2.1
  obtain ⟨a1, a2, a3, a4⟩ := hA
  obtain ⟨m1, n, m2, m3⟩ := hM
  have hF : ∀ k' j, k' < w → j < 10 → FC (xup I (b + 5) (10 * k + 6) 3) b k' j = if k' = k ∧ j = 6 then 3 else FC I b k' j := fun k' j hk' hj => FC_xup (by omega) hj
  have hs : ∀ c, c < 142 → sup s (142 + 10 * k + 6) 3 c = s c := fun c hc => sup_ne (by omega)
  refine ⟨w, d, hR.fact hk (by omega) (by omega) (fun _ => Or.inr (Or.inr (Or.inr rfl))), ⟨by rw [hs 9 (by omega)]; exact a1, ?_, by rw [hs 9 (by omega), hs 8 (by omega), xup_cell (by omega)]; exact a3, fun k' hk' q1 q2 => ?_⟩, ⟨fun k' hk' q => ?_, n, by rw [hs 3 (by omega)]; exact m2, ?_⟩, fun f hf k' hk' q => ?_, by rw [xup_cell (by omega)]; exact e1, by rw [hs 0 (by omega)]; exact e2, e3, fun k' hk' q => ?_⟩
  · rw [hs 8 (by omega)]
    refine a2.imp id (fun ⟨k', hk', z1, z2⟩ => ⟨k', hk', z1, ?_⟩)
    have : k' ≠ k := fun y => by subst y; rw [h6] at z2; rcases z2 with z2 | z2 <;> exact absurd z2 (by decide)
    rw [hF k' 6 hk' (by omega), if_neg (fun y => this y.1)]; exact z2
  · rw [hs 9 (by omega)] at q1
    rw [hs 8 (by omega)] at q2
    obtain ⟨z1, z2⟩ := a4 k' hk' q1 q2
    refine ⟨by rw [hF k' 9 hk' (by omega), if_neg (by omega)]; exact z1, fun f hf => ?_⟩
    rw [xup_cell (by omega)]
    exact (tkB_congr ⟨hs 10 (by omega), hs 11 (by omega)⟩ hf).trans (z2 f hf)
  · rw [hF k' 6 hk' (by omega)] at q
    by_cases y : k' = k ∧ (6 : Nat) = 6
    · rw [if_pos y] at q; exact absurd q (by decide)
    · rw [if_neg y] at q
      rw [hF k' 9 hk' (by omega), if_neg (by omega)]; exact m1 k' hk' q
  · rw [← m3]
    exact cP_congr (fun g _ hg => by rw [hF g 9 (by omega) (by omega), if_neg (by omega)])
  · rw [xup_cell (by omega)] at q
    have z := hT f hf k' hk' q
    have : k' ≠ k := fun y => by subst y; rw [h6] at z; exact absurd z (by decide)
    rw [hF k' 6 hk' (by omega), if_neg (fun y => this y.1)]; exact z
  · rw [hF k' 6 hk' (by omega)] at q
    by_cases y : k' = k ∧ (6 : Nat) = 6
    · rw [if_pos y] at q; exact absurd q (by decide)
    · rw [if_neg y] at q
      rw [hF k' 5 hk' (by omega), if_neg (by omega)]; exact hD k' hk' q
theorem call_callBack (l1 : Int32) : CALL (f_X6_callBack l1) (f_X7_callBack l1) := by
  intro I J h
  obtain ⟨w, d, hR, hA, hM, hT, e1, e2, e3, hD⟩ := h.2.1
  have hw := hR.1.2.1
  have mL := gg_isLetter l1 hR.1.2.2 hw
  rcases ff_hasLetter_cases (b := 45) l1 hR.1.1 hw with ⟨k, hk, rfl⟩ | ⟨q1, q2⟩
  · have m1 := mL.1 k hk rfl
    have c1 := ff_hasLetter_yes hR.1.1 hw hk
    have c6 : f_X5_told 45 (nI k) (6 : Int32) I = _ := hR.cT (j := 6) hk (by omega)
    have m6 : f_X7_of (nI k) (6 : Int32) J = _ := hR.mT (j := 6) hk (by omega)
    by_cases h6 : FC I 45 k 6 = 0
    · obtain ⟨I1, J0, J1, k1, k2, k3, k4, k5, k6, k7⟩ := st_rec h
      have E : ∀ c, 45 ≤ c → c ≤ 50 → I1 c = I c := fun c a b => k5 c (by omega)
      have hR1 : RC w I1 45 (J1 70) := by rw [k6 70 (by decide) (by decide) (by decide)]; exact hR.off E
      have hFC : FC I1 45 = FC I 45 := FC_cell (E 50 (by omega) (by omega))
      have RS2 : RS (xup I1 50 (10 * k + 6) 3) 45 (sup (J1 70) (142 + 10 * k + 6) 3) := by
        have R := RS.back hR hA hM hT e1 e2 e3 hD hk h6
        rw [k6 70 (by decide) (by decide) (by decide)]
        refine R.congr (EqS.of (fun c a b => ?_)) (EqR.rf _)
        funext x
        by_cases y : c = 50
        · subst y
          by_cases z : x = 10 * k + 6
          · subst z; rw [xup_at, xup_at]
          · rw [xup_slot z, xup_slot z, E 50 (by omega) (by omega)]
        · rw [xup_cell y, xup_cell y, E c a b]
      have c5 : f_X5_told 45 (nI k) (5 : Int32) (xup I1 50 (10 * k + 6) 3) = some (FC I 45 k 5, xup I1 50 (10 * k + 6) 3) := by
        have := ff_told (b := 45) (I := xup I1 50 (10 * k + 6) 3) (w := w) (k := k) (j := 5) (by rw [xup_cell (by decide), E 45 (by omega) (by omega)]; exact hR.1.1) hw hk (by omega)
        rw [xup_slot (by omega), E 50 (by omega) (by omega)] at this
        exact this
      have m5 : f_X7_of (nI k) (5 : Int32) (xup J1 70 (142 + 10 * k + 6) 3) = some (FC I 45 k 5, xup J1 70 (142 + 10 * k + 6) 3) := by
        have := gg_of (k := k) (j := 5) (by omega) (by omega) (xup J1 70 (142 + 10 * k + 6) 3)
        rw [xup_slot (by omega), k6 70 (by decide) (by decide) (by decide), hR.fm hk (by omega)] at this
        exact this
      refine ⟨FC I 45 k 5 - nI d, xup I1 50 (10 * k + 6) 3, xup J1 70 (142 + 10 * k + 6) 3, ?_, ?_, k4.state (by rw [xup_70]; exact RS2) (fun c hc => by funext x; exact xup_cell (by omega)) (fun c hc => by funext x; exact xup_cell hc), fun c hc => ?_, fun c hc => ?_⟩
      · unfold f_X6_callBack
        rw [c1, xb_some, if_pos one_ne0, c6, xb_some, if_pos h6, k1, xb_some, show f_X5_mark 45 (nI k) (6 : Int32) 3 I1 = _ from ff_mark (w := w) (j := 6) (by rw [E 45 (by omega) (by omega)]; exact hR.1.1) hw hk (by omega), xb_some, c5, xb_some, xup_cell (by decide), E 45 (by omega) (by omega), e1]
      · unfold f_X7_callBack
        rw [m1, xb_some, if_pos one_ne0, m6, xb_some, if_pos h6, k2, xb_some, k3, xb_some, show f_X7_at (nI k) (6 : Int32) J1 = _ from gg_at k 6 J1, xb_some, if_pos (xin_nI (by omega) (by decide)), nI_clamp (by omega), m5, xb_some, xup_slot (by omega), k6 70 (by decide) (by decide) (by decide), e2]
      · funext x; rw [xup_cell (by omega), k5 c (by omega)]
      · funext x; rw [xup_cell (by omega), k6 c (by omega) (by omega) (by omega)]
    · refine h.same (r := -4) ?_ ?_
      · unfold f_X6_callBack
        rw [c1, xb_some, if_pos one_ne0, c6, xb_some, if_neg h6]
      · unfold f_X7_callBack
        rw [m1, xb_some, if_pos one_ne0, m6, xb_some, if_neg h6]
  · refine h.same (r := -1) ?_ ?_
    · unfold f_X6_callBack
      rw [q2, xb_some, if_neg (fun q => q rfl)]
    · unfold f_X7_callBack
      rw [mL.2 q1, xb_some, if_neg (fun q => q rfl)]
