/-! ===== perform ===== -/
theorem lp_perform53 : ∀ (m i n : Nat) (J : xI), i + m = 742 → m < n → ∃ J1, f_X7_perform_53 n (nI i) J = some (-4, J1) ∧ (∀ c, c ≠ 70 → J1 c = J c) ∧ (∀ j, j < i → J1 70 j = J 70 j) ∧ ∀ j, i ≤ j → j < 742 → J1 70 j = J 72 j := by
  intro m
  induction m with
  | zero =>
    intro i n J hi hn
    obtain ⟨n, rfl⟩ : ∃ n', n = n' + 1 := ⟨n - 1, by omega⟩
    refine ⟨J, ?_, fun _ _ => rfl, fun _ _ => rfl, fun j h1 h2 => absurd h1 (by omega)⟩
    show f_X7_perform_53b _ (nI i) J = _
    unfold f_X7_perform_53b
    rw [if_pos (show nI i ≥ (742 : Int32) by rw [show i = 742 by omega]; exact Int32.le_refl _)]
  | succ m ih =>
    intro i n J hi hn
    obtain ⟨n, rfl⟩ : ∃ n', n = n' + 1 := ⟨n - 1, by omega⟩
    obtain ⟨J1, g1, g2, g3, g4⟩ := ih (i + 1) n (xup J 70 i (J 72 i)) (by omega) (by omega)
    refine ⟨J1, ?_, fun c hc => (g2 c hc).trans (by funext x; exact xup_cell hc), fun j hj => (g3 j (by omega)).trans (xup_slot (by omega)), fun j h1 h2 => ?_⟩
    · show f_X7_perform_53b _ (nI i) J = _
      unfold f_X7_perform_53b
      rw [if_neg (show ¬ nI i ≥ (742 : Int32) from nI_ge (b := 742) (by omega) (by decide)), if_pos (xin_nI (by omega) (by decide)), if_pos (xin_nI (by omega) (by decide)), nI_clamp (by omega), nI_1]
      exact g1
    · by_cases z : j = i
      · subst z; rw [g3 j (by omega), xup_at]
      · rw [g4 j (by omega) h2, xup_cell (by decide)]
theorem call_perform : CALL f_X6_perform f_X7_perform := by
  intro I J h
  obtain ⟨L, L1, L2, L3, L4⟩ := h.2.2.2.2.2
  -- the class goes through the text
  have T0 : Tc (I 14) L 0 (xup (xup I 13 2 0) 13 3 0) := ⟨by rw [xup_slot (by omega), xup_slot (by omega)]; exact L2, fun j _ => by rw [xup_cell (by decide), xup_cell (by decide)], by rw [xup_slot (by omega), xup_at]; rfl⟩
  have mStart : ∀ X : xI, X 69 8 = nI L → (∀ j, j < L → X 75 j = I 14 j) → Mt (I 14) L 0 0 (xup (xup (xup X 69 12 0) 69 13 0) 69 18 0) := fun X x1 x2 => ⟨by rw [xup_slot (by omega), xup_slot (by omega), xup_slot (by omega)]; exact x1, fun j hj => by rw [xup_cell (by decide), xup_cell (by decide), xup_cell (by decide)]; exact x2 j hj, by rw [xup_slot (by omega), xup_slot (by omega), xup_at]; rfl, by rw [xup_slot (by omega), xup_at]⟩
  have fStart : ∀ X : xI, frP X (xup (xup (xup X 69 12 0) 69 13 0) 69 18 0) := fun X => ((frP.up X (by omega) _).trans (frP.up _ (by omega) _)).trans (frP.up _ (by omega) _)
  have cStart : ∀ X : xI, ∀ k, k ≠ 69 → xup (xup (xup X 69 12 0) 69 13 0) 69 18 0 k = X k := fun X k hk => by funext x; rw [xup_cell hk, xup_cell hk, xup_cell hk]
  have MJ := mStart J L3 L4
  rcases ff_fault (T := I 14) L1 60 0 0 xZ _ (by omega) (by unfold xZ; omega) (by omega) (by omega) T0 xup_at with ⟨N, I1, g1, g2, g3, g4, g5⟩ | ⟨q, c, I1, g1, g2, g4, g5, g6⟩
  · have cF : f_X0_findFault I = some (-5, I1) := g2
    have hI1 : ∀ k, (k < 13 ∨ k = 14 ∨ 18 < k) → I1 k = I k := fun k hk => (g4.1 k hk).trans (by funext x; rw [xup_cell (by omega), xup_cell (by omega)])
    have hI13 : I1 13 1 = I 13 1 := (g4.2.1 1 (by omega) (by omega)).trans (by rw [xup_slot (by omega), xup_slot (by omega)])
    obtain ⟨v, J1, r1, r2, r3, r4⟩ := gg_run0 (R := I1) L1 N 0 0 0 xZ _ (by unfold xZ; omega) (by omega) g1 MJ
    have mF : f_X7_runs 0 J = some (v, J1) := r1
    have fJ1 : frP J J1 := (fStart J).trans r3
    have cJ1 : ∀ k, k ≠ 69 → J1 k = J k := fun k hk => (r4 k hk).trans (cStart J k hk)
    obtain ⟨J2, c1, c2, c3⟩ := gg_looks J1
    obtain ⟨I2, a1, a2, a3⟩ := ff_take (b0 := 51) (b1 := 45) (by omega) I1
    have hI2 : ∀ k, (k < 51 ∨ 56 < k) → I2 k = I1 k := fun k hk => a3 k (by omega)
    have e69 : J2 69 = J1 69 := c2 69 (by decide)
    have RR : R2 I2 (xup (xup (xup J2 69 12 0) 69 13 0) 69 18 0) := by
      refine h.text (fun k k1 k2 k3 k4 => (hI2 k (by omega)).trans (hI1 k (by omega))) (by rw [hI2 13 (by omega)]; exact hI13) (fun k k1 k2 k3 k4 k5 => by rw [cStart J2 k (by omega), c2 k k4, cJ1 k (by omega)]) (fun j hj => by rw [(fStart J2).2 j (by omega), e69, fJ1.2 j (by omega)]) ?_
      rw [cStart J2 70 (by decide), c2 70 (by decide), cJ1 70 (by decide)]
      exact EqR.rf _
    have M2 : Mt (I 14) L 0 0 (xup (xup (xup J2 69 12 0) 69 13 0) 69 18 0) := mStart J2 (by rw [e69, fJ1.2 8 (by omega)]; exact L3) (fun j hj => by rw [c2 75 (by decide), cJ1 75 (by decide)]; exact L4 j hj)
    have h72 : EqR (J 70) (xup (xup (xup J2 69 12 0) 69 13 0) 69 18 0 72) := by
      rw [cStart J2 72 (by decide)]
      have := c3
      rwa [cJ1 70 (by decide)] at this
    have hN3 : I2 13 3 = nI N := by rw [hI2 13 (by omega), g3, Nat.zero_add]
    have R51 : RS I2 51 (J 70) := by
      have R1 : RS I1 45 (J 70) := h.2.1.congr (EqS.of (fun k a b => hI1 k (by omega))) (EqR.rf _)
      exact R1.congr a2 (EqR.rf _)
    have hlow : ∀ k, k ≠ 69 → k ≠ 72 → xup (xup (xup J2 69 12 0) 69 13 0) 69 18 0 k = J k := fun k k1 k2 => by rw [cStart J2 k k1, c2 k k2, cJ1 k k1]
    have mP : f_X7_perform J = xb (f_X7_runs_19 xZ 1 0 1 (xup (xup (xup J2 69 12 0) 69 13 0) 69 18 0)) (fun r5 I5 => if (I5 69 18) ≥ 0 then xb (f_X7_records I5) (fun _ I6 => some (r5, I6)) else f_X7_perform_53 xZ (0 : Int32) (xup (xup I5 69 9 r5) 69 10 ((xup I5 69 9 r5) 69 18))) := by
      unfold f_X7_perform
      rw [mF, xb_some, if_pos r2, c1, xb_some]
      rfl
    have cP : f_X6_perform I = f_X6_perform_32 xZ 0 I2 := by
      unfold f_X6_perform
      rw [cF, xb_some, if_pos rfl, a1, xb_some]
    generalize xup (xup (xup J2 69 12 0) 69 13 0) 69 18 0 = J3 at RR M2 h72 mP hlow
    rcases lp_perf (R := I1) L1 g5 N 0 0 xZ xZ I2 J3 (by unfold xZ; omega) (by unfold xZ; omega) (by omega) g1 (fun k k1 k2 => hI2 k (by omega)) (by omega) hN3 M2 RR.2.1 RR.1 with ⟨I3, J4, p1, p2, p3, p4, p5, p6⟩ | ⟨t, e, I3, J4, p0, p1, p2, p3, p4, p5, p6⟩
    · have RM : R2 I3 J4 := RR.mid p3 p4 p5
      have RA : RS I3 51 (J4 72) := by
        refine R51.congr (EqS.of (fun k a b => p4 k (by omega) (by omega) (by omega) (by omega) (by omega))) ?_
        rw [p5.1 72 (by decide) (by decide) (by decide)]
        exact h72
      obtain ⟨I4, J5, k1, k2, k3, k4, k5⟩ := st_rec51 RM RA
      refine ⟨nI N, I4, J5, ?_, ?_, k3, fun k hk => ?_, fun k hk => ?_⟩
      · rw [cP]
        refine Eq.trans p1 ?_
        unfold f_X6_recordUnlessError
        rw [if_neg (nI_pos (by omega)), k1, xb_some, xb_some]
      · rw [mP, show f_X7_runs_19 xZ 1 0 1 J3 = _ from p2, xb_some, p6, if_pos (Int32.le_refl 0), k2, xb_some]
      · rw [k4 k hk, p4 k (by omega) (by omega) (by omega) (by omega) (by omega), hI2 k (by omega), hI1 k (by omega)]
      · rw [k5 k hk, p5.1 k (by omega) (by omega) (by omega)]
        exact hlow k (by omega) (by omega)
    · have RM : R2 I3 J4 := RR.mid p6 p4 p5
      have RA : RS I3 51 (J 70) := R51.congr (EqS.of (fun k a b => p4 k (by omega) (by omega) (by omega) (by omega) (by omega))) (EqR.rf _)
      obtain ⟨I4, b1, b2, b3⟩ := ff_take (b0 := 45) (b1 := 51) (by omega) I3
      obtain ⟨J5, d1, d2, -, d3⟩ := lp_perform53 742 0 xZ (xup (xup J4 69 9 t) 69 10 e) (by omega) (by unfold xZ; omega)
      have hJ5 : ∀ k, k ≠ 69 → k ≠ 70 → J5 k = J4 k := fun k k1 k2 => by rw [d2 k k2]; funext x; rw [xup_cell k1, xup_cell k1]
      have hJ69 : ∀ j, j ≠ 9 → j ≠ 10 → J5 69 j = J4 69 j := fun j j1 j2 => by rw [d2 69 (by decide), xup_slot j2, xup_slot j1]
      have hI5 : ∀ k, (k < 45 ∨ 50 < k) → k ≠ 0 → xup (xup (xup I4 0 10 1) 0 11 t) 0 12 e k = I3 k := fun k hk k0 => by funext x; rw [xup_cell k0, xup_cell k0, xup_cell k0, b3 k (by omega)]
      have hI0 : ∀ j, j < 10 → xup (xup (xup I4 0 10 1) 0 11 t) 0 12 e 0 j = I3 0 j := fun j hj => by rw [xup_slot (by omega), xup_slot (by omega), xup_slot (by omega), b3 0 (by omega)]
      have hS : RS (xup (xup (xup I4 0 10 1) 0 11 t) 0 12 e) 45 (J5 70) := by
        refine RA.congr (b2.mid (fun k k1 k2 => by funext x; rw [xup_cell (by omega), xup_cell (by omega), xup_cell (by omega)])) (fun j hj => ?_)
        rw [d3 j (by omega) hj, xup_cell (by decide), xup_cell (by decide), p5.1 72 (by decide) (by decide) (by decide)]
        exact h72 j hj
      obtain ⟨z1, z2, z3, z4, z5, z6⟩ := RM
      refine ⟨-4, xup (xup (xup I4 0 10 1) 0 11 t) 0 12 e, J5, ?_, ?_, ⟨GT_fr2 (fun k k2 k6 => hI5 k (by omega) (by omega)) z1, hS, z3.congr (fun k k1 k2 => hI5 k (by omega) (by omega)) (hJ69 6 (by omega) (by omega)) (hJ5 74 (by omega) (by omega)), z4.congr (hI0 9 (by omega)) (fun k k1 k2 => hI5 k (by omega) (by omega)) (hJ69 4 (by omega) (by omega)) (by rw [hJ5 73 (by omega) (by omega)]; exact EqR.rf _), Or.inr ⟨?_, ?_, ?_⟩, z6.congr (by rw [hI5 13 (by omega) (by omega)]) (hI5 14 (by omega) (by omega)) (hJ69 8 (by omega) (by omega)) (hJ5 75 (by omega) (by omega))⟩, fun k hk => ?_, fun k hk => ?_⟩
      · rw [cP]
        refine Eq.trans p1 ?_
        rw [b1, xb_some]
      · rw [mP, show f_X7_runs_19 xZ 1 0 1 J3 = _ from p2, xb_some, p3, if_neg (fun q => Int32.not_lt.mpr q p0), xup_slot (show 18 ≠ 9 by omega), p3]
        exact d1
      · rw [xup_slot (by omega), xup_slot (by omega), xup_at]
      · rw [xup_slot (by omega), xup_at, d2 69 (by decide), xup_slot (by omega), xup_at]
      · rw [xup_at, d2 69 (by decide), xup_at]
      · rw [hI5 k (by omega) (by omega), p4 k (by omega) (by omega) (by omega) (by omega) (by omega), hI2 k (by omega), hI1 k (by omega)]
      · rw [hJ5 k (by omega) (by omega), p5.1 k (by omega) (by omega) (by omega)]
        exact hlow k (by omega) (by omega)
  · have cF : f_X0_findFault I = some (nI q, I1) := g2
    have hI1 : ∀ k, (k < 13 ∨ k = 14 ∨ 18 < k) → I1 k = I k := fun k hk => (g4.1 k hk).trans (by funext x; rw [xup_cell (by omega), xup_cell (by omega)])
    have hI13 : I1 13 1 = I 13 1 := (g4.2.1 1 (by omega) (by omega)).trans (by rw [xup_slot (by omega), xup_slot (by omega)])
    obtain ⟨v, J1, r1, r2, r3, r4, r5⟩ := gg_runF (q := q) L1 c 0 0 xZ _ (by unfold xZ; omega) (by omega) g1 MJ
    have mF : f_X7_runs 0 J = some (v, J1) := r1
    have fJ1 : frP J J1 := (fStart J).trans r4
    have cJ1 : ∀ k, k ≠ 69 → J1 k = J k := fun k hk => (r5 k hk).trans (cStart J k hk)
    refine ⟨(-100 : Int32) - nI q, I1, J1, ?_, ?_, h.text (fun k k1 k2 k3 k4 => hI1 k (by omega)) hI13 (fun k k1 k2 k3 k4 k5 => cJ1 k (by omega)) (fun j hj => fJ1.2 j (by omega)) (by rw [cJ1 70 (by decide)]; exact EqR.rf _), fun k hk => hI1 k (by omega), fun k hk => cJ1 k (by omega)⟩
    · unfold f_X6_perform
      rw [cF, xb_some, if_neg (nI_m5 (by omega))]
    · unfold f_X7_perform
      rw [mF, xb_some, if_neg (by rw [r2]; exact one_ne0), r3]
