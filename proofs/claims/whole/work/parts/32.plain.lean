/-! ===== a letter by itself ===== -/
/-- what an act of letter k leaves, with reason r -/
def ACT (w k b : Nat) (I J : xI) (r : Int32) (I' J' : xI) : Prop :=
  RC w I' b (J' 70) ∧ frC b I I' ∧ frM J J' ∧ I' b = I b ∧ I' (b + 5) = I (b + 5) ∧ (∀ c, c < 10 → c ≠ 6 → c ≠ 7 → J' 70 c = J 70 c) ∧
  (r = 0 ∨ r = 1 ∨ r = 2 ∨ r = 3 ∨ r = 4 ∨ r = 5 ∨ r = 6) ∧ (∀ f, f < 48 → I' (b + 4) f = I (b + 4) f ∨ I' (b + 4) f = -5 ∨ (r = 0 ∧ I' (b + 4) f = nI k))
theorem up_self (J : xI) (n : Nat) : xup J 70 n (J 70 n) = J := by
  funext a c
  unfold xup
  by_cases h1 : a = 70
  · by_cases h2 : c = n
    · rw [if_pos h1, if_pos h2, h1, h2]
    · rw [if_pos h1, if_neg h2]
  · rw [if_neg h1]
theorem tr_both {w : Nat} {I : xI} {b : Nat} {J : xI} (h : RC w I b (J 70)) (hd : I b 0 = J 70 0) : ∃ t, (t = 0 ∨ t = 1) ∧ f_X5_hasTruce b I = some (t, I) ∧ f_X7_isTruce J = some (t, J) := by
  unfold f_X5_hasTruce f_X7_isTruce
  rw [← hd, h.2.2.1.2.2.1, h.2.2.1.2.2.2]
  split
  · exact ⟨0, Or.inl rfl, rfl, rfl⟩
  · split
    · exact ⟨0, Or.inl rfl, rfl, rfl⟩
    · exact ⟨1, Or.inr rfl, rfl, rfl⟩
theorem tb7 : ∀ p, p < 82 → (12 : Int32) + (nI (12 + p) - (12 : Int32)) = nI (12 + p) ∧ (12 : Int32) + nI p = nI (12 + p) := by decide +kernel
theorem x03 {x : Int32} (h : x = 0 ∨ x = 1 ∨ x = 2 ∨ x = 3) : x ≤ 0 ↔ x = 0 := by rcases h with rfl | rfl | rfl | rfl <;> decide
/-- reasons about an edge: the class's and the model's -/
theorem whyF {w : Nat} {I : xI} {b : Nat} {J : xI} (h : RC w I b (J 70)) {e : Nat} (he : e < 82) (l2 : Int32) (hl : (12 : Int32) + l2 = nI (12 + pE e)) : ∃ r, (r = 0 ∨ r = 1) ∧ f_X3_reasonAgainstFence b (nI e) I = some (r, I) ∧ f_X7_whyEdge 0 l2 J = some (r, J) := by
  have hp := pE_lt he
  have hx := h.2.2.2.2.1 e he
  have hv := h.2.2.2.2.2.1 e he
  unfold f_X3_reasonAgainstFence f_X7_whyEdge
  rw [cOn he, xb_some, hl, if_pos (xin_nI (by omega) (by decide)), nI_clamp (by omega), hx, if_neg (show ¬ (0 : Int32) ≠ 0 from fun q => q rfl)]
  by_cases h0 : I (b + 3) e = 0
  · rw [if_neg (fun q => q h0), if_pos ((x03 hv).mpr h0)]
    exact ⟨0, Or.inl rfl, rfl, rfl⟩
  · rw [if_pos h0, if_neg (fun q => h0 ((x03 hv).mp q))]
    exact ⟨1, Or.inr rfl, rfl, rfl⟩
theorem whyG {w : Nat} {I : xI} {b : Nat} {J : xI} (h : RC w I b (J 70)) (hd : I b 0 = J 70 0) {e : Nat} (he : e < 82) (l2 : Int32) (hl : (12 : Int32) + l2 = nI (12 + pE e)) : ∃ r, (r = 0 ∨ r = 2 ∨ r = 3) ∧ f_X3_reasonAgainstGap b (nI e) I = some (r, I) ∧ f_X7_whyEdge 1 l2 J = some (r, J) := by
  have hp := pE_lt he
  have hx := h.2.2.2.2.1 e he
  obtain ⟨t, ht, t1, t2⟩ := tr_both h hd
  unfold f_X3_reasonAgainstGap f_X7_whyEdge
  rw [cOn he, xb_some, hl, if_pos (xin_nI (by omega) (by decide)), nI_clamp (by omega), hx, if_pos one_ne0]
  by_cases h0 : I (b + 3) e = 0
  · rw [if_pos h0, if_pos h0]
    exact ⟨2, Or.inr (Or.inl rfl), rfl, rfl⟩
  · rw [if_neg h0, if_neg h0]
    by_cases h3 : I (b + 3) e = 3
    · rw [if_neg (fun q => q h3), if_neg (fun q => q h3)]
      exact ⟨2, Or.inr (Or.inl rfl), rfl, rfl⟩
    · rw [if_pos h3, if_pos h3, t1, t2, xb_some, xb_some]
      rcases ht with rfl | rfl
      · exact ⟨0, Or.inl rfl, rfl, rfl⟩
      · exact ⟨3, Or.inr (Or.inr rfl), rfl, rfl⟩
theorem RC.own5 {w : Nat} {I : xI} {b : Nat} {s : Nat → Int32} (h : RC w I b s) {f : Nat} (hf : f < 48) : s (94 + f) = -5 ↔ I (b + 4) f = -5 := by
  rw [h.2.2.2.2.2.2.1 f hf]
  unfold cOwn
  rcases h.2.2.2.2.2.2.2.1 f hf with z | ⟨k, hk, z⟩
  · rw [if_pos z]; exact ⟨fun _ => z, fun _ => rfl⟩
  · have hw := h.1.2.1
    have hl := (h.2.2.2.2.2.2.2.2.2 k hk).1
    rw [z, if_neg (nI_m5 (by omega)), nI_clamp (by omega)]
    refine ⟨fun q => ?_, fun q => absurd q (nI_m5 (by omega))⟩
    have : FC I b k 0 = -5 := q
    rcases hl with y | y <;> rw [y] at this <;> exact absurd this (by decide)
theorem RC.E76 {w : Nat} {I : xI} {b : Nat} {s : Nat → Int32} (h : RC w I b s) {e : Nat} (he : e < 82) : s (12 + e) = I (b + 3) (qE e) := by
  have t := tab1 e he
  have := h.2.2.2.2.1 (qE e) t.2.2.2.1
  rwa [t.2.2.2.2.2] at this
theorem cSize {f : Nat} (hf : f < 48) (I : xI) : f_X4_sizeAround (nI f) I = some (I 8 f, I) := by
  unfold f_X4_sizeAround
  rw [ff_isField_yes hf, xb_some, if_neg one_ne0, if_pos (xin_nI (by omega) (by decide)), nI_clamp (by omega)]
theorem cFree {f : Nat} (hf : f < 48) (I : xI) : f_X4_freeAround (nI f) I = some (I 9 f, I) := by
  unfold f_X4_freeAround
  rw [ff_isField_yes hf, xb_some, if_neg one_ne0, if_pos (xin_nI (by omega) (by decide)), nI_clamp (by omega)]
theorem cLow {f : Nat} (hf : f < 48) (I : xI) : f_X4_lowestAround (nI f) I = some (I 7 f, I) := by
  unfold f_X4_lowestAround
  rw [ff_isField_yes hf, xb_some, if_neg one_ne0, if_pos (xin_nI (by omega) (by decide)), nI_clamp (by omega)]
/-- the reason against a claim, when the class has surveyed -/
theorem whyC {w : Nat} {I : xI} {b : Nat} {J : xI} (h : RC w I b (J 70)) (hS : ∀ g, g < 48 → I 8 g = nI (siz (I (b + 3)) g)) {f : Nat} (hf : f < 48) : ∃ r J', (r = 0 ∨ r = 4 ∨ r = 5) ∧ f_X3_reasonAgainstClaim b (nI f) I = some (r, I) ∧ f_X7_whyClaim (nI f) J = some (r, J') ∧ fr76 J J' ∧ (r ≠ 4 → I (b + 4) f = -5 ∧ ∀ g, g < 48 → J' 76 g = if rB (I (b + 3)) f g = true then 1 else 0) := by
  unfold f_X3_reasonAgainstClaim f_X7_whyClaim
  rw [ff_takerOf hf, xb_some, n94, if_pos (xin_nI (by omega) (by decide)), nI_clamp (by omega)]
  by_cases h0 : I (b + 4) f = -5
  · obtain ⟨J', m1, m2, m3⟩ := gg_mark (E := I (b + 3)) hf (J := J) (fun e he => by rw [h.E76 he])
    rw [if_pos h0, if_pos ((h.own5 hf).mpr h0), cSize hf, xb_some, m1, xb_some, hS f hf, m2 70 (by decide), h.2.2.1.2.1]
    split
    · exact ⟨0, J', Or.inl rfl, rfl, rfl, m2, fun _ => ⟨h0, m3⟩⟩
    · exact ⟨5, J', Or.inr (Or.inr rfl), rfl, rfl, m2, fun _ => ⟨h0, m3⟩⟩
  · rw [if_neg h0, if_neg (fun q => h0 ((h.own5 hf).mp q))]
    exact ⟨4, J, Or.inr (Or.inl rfl), rfl, rfl, fun _ _ => rfl, fun q => absurd rfl q⟩
/-- the act of a letter by itself -/
theorem st_plain {w k b : Nat} {I J : xI} (hb : 11 ≤ b) (G : GT I) (h : RC w I b (J 70)) (hk : k < w) (hd : I b 0 = J 70 0) (hn : ∀ f, f < 48 → I (b + 4) f ≠ nI k) (t0 : J 70 10 = 0) (t1 : J 70 11 = 0) :
    ∃ r I' J', (∀ K : Int32 → xI → Option (Int32 × xI), xb (f_X3_reasonAgainst b (nI k) I) (fun r7 I7 => if r7 ≠ 0 then K r7 I7 else xb (f_X3_carryOut b (nI k) I7) (fun _ I8 => K r7 I8)) = K r I') ∧ f_X7_does (nI k) J = some (r, J') ∧ ACT w k b I J r I' J' ∧ ∀ f, f < 48 → (tkB (J' 70) f ↔ I' (b + 4) f = nI k) := by
  have hw := h.1.2.1
  obtain ⟨l0, l1, -, -⟩ := h.2.2.2.2.2.2.2.2.2 k hk
  have c0 : f_X5_told b (nI k) (0 : Int32) I = _ := h.cT (j := 0) hk (by omega)
  have c1 : f_X5_told b (nI k) (1 : Int32) I = _ := h.cT (j := 1) hk (by omega)
  have c2 : f_X5_told b (nI k) (2 : Int32) I = _ := h.cT (j := 2) hk (by omega)
  have c3 : f_X5_told b (nI k) (3 : Int32) I = _ := h.cT (j := 3) hk (by omega)
  have m0 : f_X7_of (nI k) (0 : Int32) J = _ := h.mT (j := 0) hk (by omega)
  have m1 : f_X7_of (nI k) (1 : Int32) J = _ := h.mT (j := 1) hk (by omega)
  have m2 : f_X7_of (nI k) (2 : Int32) J = _ := h.mT (j := 2) hk (by omega)
  have m3 : f_X7_of (nI k) (3 : Int32) J = _ := h.mT (j := 3) hk (by omega)
  have hnone : ∀ f, f < 48 → (tkB (J 70) f ↔ I (b + 4) f = nI k) := fun f hf => ⟨fun q => absurd q (tkB_none t0 t1 hf), fun q => absurd q (hn f hf)⟩
  have hrefl : ∀ r, (r = 0 ∨ r = 1 ∨ r = 2 ∨ r = 3 ∨ r = 4 ∨ r = 5 ∨ r = 6) → ACT w k b I J r I J := fun r hr => ⟨h, frC.rf b I, frM.rf J, rfl, rfl, fun _ _ _ _ => rfl, hr, fun _ _ => Or.inl rfl⟩
  rcases l1 with ⟨l1, f, g, hf, hg, he, hF2, hF3⟩ | ⟨l1, f, hf, hF2⟩ | ⟨l1, n, hn1, hn2, hF3⟩
  · have hp := pE_lt he
    have ce := h.cEdge G hk hf hg he hF2 hF3
    have me := h.mEdge G hk hf hg he hF2 hF3
    have hedge : ∀ v, (v = 0 ∨ v = 1 ∨ v = 2 ∨ v = 3) → ACT w k b I J 0 (xup I (b + 3) (eT f g) v) (xup J 70 (12 + pE (eT f g)) v) ∧ ∀ f', f' < 48 → (tkB (xup J 70 (12 + pE (eT f g)) v 70) f' ↔ xup I (b + 3) (eT f g) v (b + 4) f' = nI k) := by
      intro v hv
      refine ⟨⟨by rw [xup_70]; exact h.edge he hv, frC.up b I (by omega), frM.up J, by funext c; exact xup_cell (by omega), by funext c; exact xup_cell (by omega), fun c hc _ _ => xup_slot (by omega), Or.inl rfl, fun f' _ => Or.inl (xup_cell (by omega))⟩, fun f' hf' => ?_⟩
      rw [tkB_congr (s := J 70) ⟨xup_slot (by omega), xup_slot (by omega)⟩ hf', xup_cell (by omega)]
      exact hnone f' hf'
    have h67 : ∀ s0 l3 r, (∃ v, (v = 0 ∨ v = 1 ∨ v = 2 ∨ v = 3) ∧ (if l3 ≠ (1 : Int32) then (1 : Int32) + FC I b k 0 else 0) = v) → f_X7_whyEdge s0 (nI (12 + pE (eT f g)) - 12) J = some (r, J) → (r = 0 ∨ ¬ r ≤ 0) →
        f_X7_does_67 (nI k) (FC I b k 0) l3 s0 J = some (r, if r = 0 then xup J 70 (12 + pE (eT f g)) (if l3 ≠ (1 : Int32) then (1 : Int32) + FC I b k 0 else 0) else J) := by
      intro s0 l3 r _ hy hr
      unfold f_X7_does_67
      rw [me, xb_some, hy, xb_some, me, xb_some]
      rcases hr with rfl | hr
      · rw [if_pos (Int32.le_refl 0), if_pos rfl]
        split
        · rw [if_pos (xin_nI (by omega) (by decide)), nI_clamp (by omega)]
        · rw [if_pos (xin_nI (by omega) (by decide)), nI_clamp (by omega)]
      · rw [if_neg hr, if_neg (fun q => hr (by rw [q]; exact Int32.le_refl 0)), me, xb_some, if_pos (xin_nI (by omega) (by decide)), if_pos (xin_nI (by omega) (by decide)), nI_clamp (by omega), up_self]
    rcases l1 with l1 | l1
    · -- a fence
      obtain ⟨r, hr, y1, y2⟩ := whyF h he _ (tb7 _ hp).1
      have cR : f_X3_reasonAgainst b (nI k) I = some (r, I) := by
        unfold f_X3_reasonAgainst
        rw [c1, xb_some, l1, if_pos rfl, ce, xb_some, y1, xb_some]
      have cC : f_X3_carryOut b (nI k) I = some (0, xup I (b + 3) (eT f g) (FC I b k 0 + 1)) := by
        unfold f_X3_carryOut f_X6_fenceOf
        rw [c0, xb_some, c1, xb_some, l1, if_pos rfl, ce, xb_some, xb_some, cPut he, xb_some]
      have hv : FC I b k 0 + 1 = 0 ∨ FC I b k 0 + 1 = 1 ∨ FC I b k 0 + 1 = 2 ∨ FC I b k 0 + 1 = 3 := by
        rcases l0 with z | z <;> rw [z] <;> decide
      have mD := h67 0 0 r ⟨FC I b k 0 + 1, hv, by rw [if_pos (by decide), Int32.add_comm]⟩ y2 (by rcases hr with rfl | rfl <;> decide)
      have mD2 : f_X7_does (nI k) J = f_X7_does_67 (nI k) (FC I b k 0) 0 0 J := by
        unfold f_X7_does
        rw [m0, xb_some, m1, xb_some, m2, xb_some, l1, if_pos (by decide), if_neg (by decide), if_pos (by decide)]
      rw [if_pos (show (0 : Int32) ≠ 1 by decide), Int32.add_comm] at mD
      rcases hr with rfl | rfl
      · refine ⟨0, _, _, fun K => ?_, mD2.trans mD, hedge _ hv⟩
        rw [cR, xb_some, if_neg (fun q => q rfl), cC, xb_some]
      · refine ⟨1, I, J, fun K => ?_, mD2.trans mD, hrefl 1 (by decide), hnone⟩
        rw [cR, xb_some, if_pos one_ne0]
    · -- a gap
      obtain ⟨r, hr, y1, y2⟩ := whyG h hd he _ (tb7 _ hp).1
      have cR : f_X3_reasonAgainst b (nI k) I = some (r, I) := by
        unfold f_X3_reasonAgainst
        rw [c1, xb_some, l1, if_neg one_ne0, if_pos rfl, ce, xb_some, y1, xb_some]
      have cC : f_X3_carryOut b (nI k) I = some (0, xup I (b + 3) (eT f g) 0) := by
        unfold f_X3_carryOut
        rw [c0, xb_some, c1, xb_some, l1, if_neg one_ne0, if_pos rfl, ce, xb_some, cPut he, xb_some]
      have mD := h67 1 1 r ⟨0, Or.inl rfl, by rw [if_neg (fun q => q rfl)]⟩ y2 (by rcases hr with rfl | rfl | rfl <;> decide)
      have mD2 : f_X7_does (nI k) J = f_X7_does_67 (nI k) (FC I b k 0) 1 1 J := by
        unfold f_X7_does
        rw [m0, xb_some, m1, xb_some, m2, xb_some, l1, if_pos (by decide), if_neg (by decide), if_neg (fun q => q rfl)]
      rw [if_neg (show ¬ (1 : Int32) ≠ 1 from fun q => q rfl)] at mD
      rcases hr with rfl | rfl | rfl
      · refine ⟨0, _, _, fun K => ?_, mD2.trans mD, hedge _ (Or.inl rfl)⟩
        rw [cR, xb_some, if_neg (fun q => q rfl), cC, xb_some]
      · refine ⟨2, I, J, fun K => ?_, mD2.trans mD, hrefl 2 (by decide), hnone⟩
        rw [cR, xb_some, if_pos (by decide)]
      · refine ⟨3, I, J, fun K => ?_, mD2.trans mD, hrefl 3 (by decide), hnone⟩
        rw [cR, xb_some, if_pos (by decide)]
  · -- a claim
    obtain ⟨I7, s1, s2, s3⟩ := ff_survey (b := b) (I (b + 3)) (I (b + 4)) hb G (fun _ _ => rfl) (fun _ _ => rfl)
    have hB : ∀ c, b ≤ c → c ≤ b + 5 → I7 c = I c := fun c h1 h2 => s2 c (by omega) (by omega) (by omega) (by omega)
    have h7 : RC w I7 b (J 70) := h.off hB
    have hfc : ∀ j, FC I7 b k j = FC I b k j := fun j => by unfold FC; rw [hB _ (by omega) (by omega)]
    obtain ⟨r, J1, hr, y1, y2, y3, y4⟩ := whyC h7 (fun g hg => by
      obtain ⟨l, -, -, z, -⟩ := s3 g hg
      rw [hB (b + 3) (by omega) (by omega)]; exact z) hf
    have cR : f_X3_reasonAgainst b (nI k) I = some (r, I7) := by
      unfold f_X3_reasonAgainst
      rw [c1, xb_some, l1, if_neg (by decide), if_neg (by decide), if_pos rfl, s1, xb_some, show f_X5_told b (nI k) (2 : Int32) I7 = _ from h7.cT (j := 2) hk (by omega), xb_some, hfc, hF2, y1, xb_some]
    have mD : f_X7_does (nI k) J = f_X7_does_134 xZ (FC I b k 0) r (0 : Int32) J1 := by
      unfold f_X7_does
      rw [m0, xb_some, m1, xb_some, m2, xb_some, l1, if_pos (by decide), if_pos rfl, hF2, y2, xb_some]
    have hfr : frC b I I7 := fun c _ a b d e => s2 c a b d e
    have h71 : RC w I7 b (J1 70) := by rw [y3 70 (by decide)]; exact h7
    have hM : frM J J1 := fun c _ hc => y3 c hc
    by_cases hr0 : r = 0
    · subst hr0
      obtain ⟨y5, y6⟩ := y4 (by decide)
      obtain ⟨lf, f1, f2, -, -⟩ := s3 f hf
      obtain ⟨I8, g1, g2, g3⟩ := lp_take (b := b) (k := k) (lab := nI lf) hb 48 0 xZ I7 (by omega) (by unfold xZ; omega)
      have hp5 : FC I b k 0 ≠ -5 := by rcases l0 with z | z <;> rw [z] <;> decide
      obtain ⟨J2, e1, e2, e3, e4⟩ := lp_does hp5 48 0 xZ J1 (by omega) (by unfold xZ; omega)
      have hlab : ∀ f', f' < 48 → (I7 7 f' = nI lf ↔ Rch (I (b + 3)) f f') := by
        intro f' hf'
        obtain ⟨l', q1, q2, -, -⟩ := s3 f' hf'
        constructor
        · intro q
          rw [q2] at q
          have := nI_inj (by have := q1.1; omega) (by have := f1.1; omega) q
          subst this
          exact f1.2.1.trans q1.2.1.symm
        · intro q
          have : l' = lf := q1.uniq ⟨f1.1, q.symm.trans f1.2.1, fun g hg z => f1.2.2 g hg (q.trans z)⟩
          rw [q2, this]
      have hcond : ∀ f', f' < 48 → ((0 ≤ f' ∧ I7 7 f' = nI lf ∧ I7 (b + 4) f' = -5) ↔ (0 ≤ f' ∧ J1 76 f' ≠ 0 ∧ J1 70 (94 + f') = -5)) := by
        intro f' hf'
        rw [hlab f' hf', h71.own5 hf', y6 f' hf', hB (b + 3) (by omega) (by omega), ← rB_iff]
        by_cases z : rB (I (b + 3)) f f' = true
        · rw [if_pos z]; simp [z]
        · rw [if_neg z]; simp [z]
      have hI8 : ∀ c, c ≠ b + 4 → I8 c = I7 c := g2
      have hTK : TK w I8 b := fun f' hf' => by
        rw [g3 f' hf']
        split
        · exact Or.inr ⟨k, hk, rfl⟩
        · exact h7.2.2.2.2.2.2.2.1 f' hf'
      refine ⟨0, I8, J2, fun K => ?_, mD.trans e1, ⟨h71.takers hI8 hTK e3 (fun f' hf' => ?_), hfr.trans (fun c hc _ _ _ _ => g2 c (by omega)), hM.trans (fun c hc _ => e2 c hc), (g2 b (by omega)).trans (hB b (by omega) (by omega)), (g2 _ (by omega)).trans (hB _ (by omega) (by omega)), fun c hc _ _ => (e3 c (by omega) (by omega) (by omega)).trans (by rw [y3 70 (by decide)]), Or.inl rfl, fun f' hf' => ?_⟩, fun f' hf' => ?_⟩
      · rw [cR, xb_some, if_neg (fun q => q rfl)]
        unfold f_X3_carryOut f_X3_takeRegion
        rw [show f_X5_told b (nI k) (0 : Int32) I7 = _ from h7.cT (j := 0) hk (by omega), xb_some, show f_X5_told b (nI k) (1 : Int32) I7 = _ from h7.cT (j := 1) hk (by omega), xb_some, hfc, hfc, l1, if_neg (by decide), if_neg (by decide), if_pos rfl, show f_X5_told b (nI k) (2 : Int32) I7 = _ from h7.cT (j := 2) hk (by omega), xb_some, hfc, hF2, cLow hf, xb_some, f2, show f_X3_takeRegion_17 b xZ (nI k) (nI lf) (0 : Int32) I7 = _ from g1, xb_some, xb_some]
      · rw [(e4 f' hf').1]
        have o := h71.2.2.2.2.2.2.1 f' hf'
        by_cases z : 0 ≤ f' ∧ J1 76 f' ≠ 0 ∧ J1 70 (94 + f') = -5
        · have z2 := (hcond f' hf').mpr z
          have t : I8 (b + 4) f' = nI k := by rw [g3 f' hf', if_pos z2]
          rw [if_pos z]
          unfold cOwn
          rw [t, if_neg (nI_m5 (by omega)), nI_clamp (by omega), g2 _ (by omega), hB _ (by omega) (by omega)]
          rfl
        · have t : I8 (b + 4) f' = I7 (b + 4) f' := by rw [g3 f' hf', if_neg (fun q => z ((hcond f' hf').mp q))]
          rw [if_neg z, o]
          unfold cOwn
          rw [t, g2 _ (by omega)]
      · rw [g3 f' hf', hB (b + 4) (by omega) (by omega)]
        split
        · exact Or.inr (Or.inr ⟨rfl, rfl⟩)
        · exact Or.inl rfl
      · rw [(e4 f' hf').2, g3 f' hf', ← hcond f' hf', y3 70 (by decide)]
        by_cases z : 0 ≤ f' ∧ I7 7 f' = nI lf ∧ I7 (b + 4) f' = -5
        · rw [if_pos z]; exact ⟨fun _ => rfl, fun _ => Or.inr z⟩
        · rw [if_neg z, hB (b + 4) (by omega) (by omega)]
          exact ⟨fun q => q.elim (fun q => (hnone f' hf').mp q) (fun q => absurd (by rw [hB (b + 4) (by omega) (by omega)]; exact q) z), fun q => Or.inl ((hnone f' hf').mpr q)⟩
    · have hD : f_X7_does_134 xZ (FC I b k 0) r (0 : Int32) J1 = some (r, J1) := by
        show f_X7_does_134b _ (FC I b k 0) r (0 : Int32) J1 = _
        unfold f_X7_does_134b
        rw [if_neg (by decide), if_pos hr0]
      refine ⟨r, I7, J1, fun K => ?_, mD.trans hD, ⟨h71, hfr, hM, hB b (by omega) (by omega), hB _ (by omega) (by omega), fun c _ _ _ => by rw [y3 70 (by decide)], ?_, fun f' hf' => Or.inl (by rw [hB _ (by omega) (by omega)])⟩, fun f' hf' => ?_⟩
      · rw [cR, xb_some, if_pos hr0]
      · rcases hr with z | z | z
        · exact absurd z hr0
        · exact Or.inr (Or.inr (Or.inr (Or.inr (Or.inl z))))
        · exact Or.inr (Or.inr (Or.inr (Or.inr (Or.inr (Or.inl z)))))
      · rw [y3 70 (by decide), hB _ (by omega) (by omega)]
        exact hnone f' hf'
  · -- a truce
    obtain ⟨p, hp, l0⟩ : ∃ p, p < 2 ∧ FC I b k 0 = nI p := by
      rcases l0 with z | z
      · exact ⟨0, by omega, z⟩
      · exact ⟨1, by omega, z⟩
    have cR : f_X3_reasonAgainst b (nI k) I = some (0, I) := by
      unfold f_X3_reasonAgainst
      rw [c1, xb_some, l1, if_neg (by decide), if_neg (by decide), if_neg (by decide)]
    have cC : f_X3_carryOut b (nI k) I = some (0, xup I (b + 2) p (I b 0 + FC I b k 3)) := by
      unfold f_X3_carryOut f_X6_isPlayer
      rw [c0, xb_some, c1, xb_some, l1, if_neg (by decide), if_neg (by decide), if_neg (by decide), l0, if_neg (nI_pos (by omega)), if_neg (show ¬ nI p ≥ (2 : Int32) from nI_ge (b := 2) hp (by decide)), xb_some, if_neg one_ne0, c3, xb_some, if_pos (xin_nI (by omega) (by decide)), nI_clamp (by omega)]
    have mD : f_X7_does (nI k) J = some (0, xup J 70 (6 + p) (I b 0 + FC I b k 3)) := by
      unfold f_X7_does
      rw [m0, xb_some, m1, xb_some, m2, xb_some, l1, if_neg (fun q => q rfl), m3, xb_some, l0, show (6 : Int32) + nI p = nI (6 + p) from nI_add 6 p, if_pos (xin_nI (by omega) (by decide)), nI_clamp (by omega), hd]
    refine ⟨0, _, _, fun K => ?_, mD, ⟨by rw [xup_70]; exact h.truce hp, frC.up b I (by omega), frM.up J, by funext c; exact xup_cell (by omega), by funext c; exact xup_cell (by omega), fun c hc _ _ => xup_slot (by omega), Or.inl rfl, fun f' _ => Or.inl (xup_cell (by omega))⟩, fun f' hf' => ?_⟩
    · rw [cR, xb_some, if_neg (fun q => q rfl), cC, xb_some]
    · rw [tkB_congr (s := J 70) ⟨xup_slot (by omega), xup_slot (by omega)⟩ hf', xup_cell (by omega)]
      exact hnone f' hf'
