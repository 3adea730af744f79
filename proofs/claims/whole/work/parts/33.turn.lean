/-! ===== turns ===== -/
def CNT (w : Nat) (I : xI) (b : Nat) : Nat := (List.range' 0 w).countP (fun k => decide (¬ FC I b k 9 = -5))
def TRN (w k b : Nat) (I J : xI) (first s0 : Int32) (I' J' : xI) : Prop :=
  RC w I' b (J' 70) ∧ frC b I I' ∧ frM J J' ∧ I' b 0 = I b 0 ∧ J' 70 0 = J 70 0 ∧ (∀ c, c ≠ b → c ≠ b + 5 → I' c = I c) ∧ (∀ k', k' < w → ∀ j, j < 8 → FC I' b k' j = FC I b k' j) ∧
  (J' 70 10 = J 70 10 ∧ J' 70 11 = J 70 11) ∧ (∀ k', k' < w → k' ≠ k → FC I' b k' 6 = 0 → FC I' b k' 9 = -5) ∧ (∃ n, J' 70 3 = nI n ∧ CNT w I' b = 2 * n) ∧
  ((first = -5 ∧ s0 = 0 ∧ J' 70 8 = nI k ∧ J' 70 9 = 0 ∧ I' b 3 = nI k ∧ FC I' b k 9 = -5) ∨
   (∃ a, a < w ∧ a ≠ k ∧ first = nI a ∧ s0 = 1 ∧ J' 70 8 = nI a ∧ J' 70 9 = 1 ∧ I' b 3 = -5 ∧ (FC I b a 6 = 1 ∨ FC I b a 6 = 2) ∧ ∀ f, f < 48 → (tkB (J' 70) f ↔ I' (b + 4) f = nI a)))
theorem st_turn {w k b : Nat} {I J : xI} (h : RC w I b (J 70)) (hA : AL w I b (J 70)) (hM : MT w I b (J 70)) (hk : k < w) (h6 : FC I b k 6 = 0) :
    ∃ first s0 I' J', f_X5_enterTurn b (nI k) I = some (first, I') ∧ f_X7_isSecond (nI k) J = some (s0, J') ∧ TRN w k b I J first s0 I' J' := by
  have hw := h.1.2.1
  obtain ⟨a1, a2, a3, a4⟩ := hA
  obtain ⟨n1, n, n2, n3⟩ := hM
  -- a turn of its own
  have hB : ∃ I' J', f_X5_enterTurn_45 b (nI k) I = some (-5, I') ∧ (∀ x, f_X7_isSecond_74 (nI k) x 0 J = some (0, J')) ∧ TRN w k b I J (-5) 0 I' J' := by
    have e2 : J 70 2 = I b 2 := h.2.1
    refine ⟨xup (xup (xup I b 2 (I b 2 + 1)) b 3 (nI k)) (b + 5) (10 * k + 8) (I b 2 + 1), xup (xup (xup (xup J 70 2 (J 70 2 + 1)) 70 8 (nI k)) 70 9 0) 70 (142 + 10 * k + 8) (J 70 2 + 1), ?_, fun x => ?_, ?_⟩
    · unfold f_X5_enterTurn_45
      rw [show f_X5_mark b (nI k) (8 : Int32) _ _ = _ from ff_mark (j := 8) (w := w) (by rw [xup_slot (by omega), xup_slot (by omega)]; exact h.1.1) hw hk (by omega), xb_some, xup_slot (by omega), xup_at]
    · unfold f_X7_isSecond_74 f_X7_isSecond_150
      rw [if_pos rfl, show f_X7_at (nI k) (8 : Int32) _ = _ from gg_at k 8 _, xb_some, if_pos (xin_nI (by omega) (by decide)), if_pos (Or.inl rfl), nI_clamp (by omega), xup_slot (by omega), xup_slot (by omega), xup_at]
    · have hR : RC w (xup (xup (xup I b 2 (I b 2 + 1)) b 3 (nI k)) (b + 5) (10 * k + 8) (I b 2 + 1)) b (sup (sup (sup (sup (J 70) 2 (I b 2 + 1)) 8 (nI k)) 9 0) (142 + 10 * k + 8) (I b 2 + 1)) := by
        have r1 := (h.turn (I b 2 + 1)).cslot (j := 3) (v := nI k) (Or.inr rfl)
        have r2 : RC w (xup (xup I b 2 (I b 2 + 1)) b 3 (nI k)) b (sup (sup (sup (J 70) 2 (I b 2 + 1)) 8 (nI k)) 9 0) := r1.sslot (fun c _ _ c8 c9 _ _ => by rw [sup_ne c9, sup_ne c8])
        exact r2.fact hk (by omega) (by omega) (fun q => absurd q (by omega))
      have hF : ∀ k', k' < w → ∀ j, j < 10 → j ≠ 8 → FC (xup (xup (xup I b 2 (I b 2 + 1)) b 3 (nI k)) (b + 5) (10 * k + 8) (I b 2 + 1)) b k' j = FC I b k' j := fun k' hk' j hj hj8 => by
        rw [FC_xup (by omega) (by omega), if_neg (fun q => hj8 q.2), FC_xup_other (by omega), FC_xup_other (by omega)]
      refine ⟨by rw [xup_70, xup_70, xup_70, xup_70, e2]; exact hR, ((frC.up b I (by omega)).trans (frC.up b _ (by omega))).trans (frC.up b _ (by omega)), (((frM.up J).trans (frM.up _)).trans (frM.up _)).trans (frM.up _), ?_, ?_, fun c hc hc5 => ?_, fun k' hk' j hj => hF k' hk' j (by omega) ?_, ⟨?_, ?_⟩, fun k' hk' hne q => ?_, ⟨n, ?_, ?_⟩, Or.inl ⟨rfl, rfl, ?_, ?_, ?_, ?_⟩⟩
      · rw [xup_cell (by omega), xup_slot (by omega), xup_slot (by omega)]
      · rw [xup_slot (by omega), xup_slot (by omega), xup_slot (by omega), xup_slot (by omega)]
      · funext x; rw [xup_cell hc5, xup_cell hc, xup_cell hc]
      · omega
      · rw [xup_slot (by omega), xup_slot (by omega), xup_slot (by omega), xup_slot (by omega)]
      · rw [xup_slot (by omega), xup_slot (by omega), xup_slot (by omega), xup_slot (by omega)]
      · rw [hF k' hk' 6 (by omega) (by omega)] at q
        rw [hF k' hk' 9 (by omega) (by omega)]
        exact n1 k' hk' q
      · rw [xup_slot (by omega), xup_slot (by omega), xup_slot (by omega), xup_slot (by omega)]; exact n2
      · rw [← n3]
        exact cP_congr (fun g _ hg => by rw [hF g (by omega) 9 (by omega) (by omega)])
      · rw [xup_slot (by omega), xup_slot (by omega), xup_at]
      · rw [xup_slot (by omega), xup_at]
      · rw [xup_cell (by omega), xup_at]
      · rw [hF k hk 9 (by omega) (by omega)]; exact n1 k hk h6
  obtain ⟨IB, JB, B1, B2, B3⟩ := hB
  rcases a2 with z | ⟨a, ha, z, z6⟩
  · have z3 : I b 3 = -5 := by rw [a3, z]; split <;> rfl
    refine ⟨-5, 0, IB, JB, ?_, ?_, B3⟩
    · unfold f_X5_enterTurn; rw [if_pos z3]; exact B1
    · unfold f_X7_isSecond; rw [if_pos z]; exact B2 _
  · have hm5 : ¬ nI a = -5 := nI_m5 (by omega)
    rcases a1 with z9 | z9
    rotate_left
    · have z3 : I b 3 = -5 := by rw [a3, z9, if_neg one_ne0]
      refine ⟨-5, 0, IB, JB, ?_, ?_, B3⟩
      · unfold f_X5_enterTurn; rw [if_pos z3]; exact B1
      · unfold f_X7_isSecond; rw [if_neg (by rw [z]; exact hm5), if_pos (by rw [z9]; exact one_ne0)]; exact B2 _
    · have z3 : I b 3 = nI a := by rw [a3, if_pos z9, z]
      obtain ⟨z9a, ztk⟩ := a4 a ha z9 z
      have hak : a ≠ k := fun q => by subst q; rw [h6] at z6; rcases z6 with z6 | z6 <;> exact absurd z6 (by decide)
      have T : ∀ {i j}, i < w → j < 10 → f_X5_told b (nI i) (nI j) I = some (FC I b i j, I) := fun hi hj => h.cT hi hj
      have M : ∀ {i j}, i < w → j < 10 → f_X7_of (nI i) (nI j) J = some (FC I b i j, J) := fun hi hj => h.mT hi hj
      have hE : f_X5_enterTurn b (nI k) I = xb (f_X5_haveCrossed b (nI a) (nI k) I) (fun r2 I2 => if r2 = 0 then f_X5_enterTurn_45 b (nI k) I2 else xb (f_X5_mark b (nI a) (9 : Int32) (nI k) I2) (fun _ I3 => xb (f_X5_mark b (nI k) (9 : Int32) (nI a) I3) (fun _ I4 => xb (f_X5_mark b (nI k) (8 : Int32) ((xup I4 b 3 (-5 : Int32)) b 2) (xup I4 b 3 (-5 : Int32))) (fun _ I5 => some (nI a, I5))))) := by
        unfold f_X5_enterTurn
        rw [if_neg (by rw [z3]; exact hm5), z3]
      have hX : f_X5_haveCrossed b (nI a) (nI k) I = if FC I b a 0 ≠ FC I b k 0 then (if FC I b a 4 ≥ FC I b k 5 then some (0, I) else if FC I b k 4 ≥ FC I b a 5 then some (0, I) else some (1, I)) else some (0, I) := by
        unfold f_X5_haveCrossed
        rw [show f_X5_told b (nI a) (0 : Int32) I = _ from T (j := 0) ha (by omega), xb_some, show f_X5_told b (nI k) (0 : Int32) I = _ from T (j := 0) hk (by omega), xb_some, show f_X5_told b (nI a) (6 : Int32) I = _ from T (j := 6) ha (by omega), xb_some, show f_X5_told b (nI k) (6 : Int32) I = _ from T (j := 6) hk (by omega), xb_some, show f_X5_told b (nI a) (4 : Int32) I = _ from T (j := 4) ha (by omega), xb_some, show f_X5_told b (nI k) (5 : Int32) I = _ from T (j := 5) hk (by omega), xb_some, show f_X5_told b (nI k) (4 : Int32) I = _ from T (j := 4) hk (by omega), xb_some, show f_X5_told b (nI a) (5 : Int32) I = _ from T (j := 5) ha (by omega), xb_some, h6, if_neg (show ¬ FC I b a 6 = 3 by rcases z6 with z6 | z6 <;> rw [z6] <;> decide), if_pos (show (0 : Int32) ≠ 3 by decide)]
      have hS : f_X7_isSecond (nI k) J = if FC I b a 0 = FC I b k 0 then f_X7_isSecond_74 (nI k) (nI a) (0 : Int32) J else if FC I b a 4 ≥ FC I b k 5 then f_X7_isSecond_74 (nI k) (nI a) (0 : Int32) J else if FC I b k 4 ≥ FC I b a 5 then f_X7_isSecond_74 (nI k) (nI a) (0 : Int32) J else f_X7_isSecond_74 (nI k) (nI a) (1 : Int32) J := by
        unfold f_X7_isSecond
        rw [z, if_neg hm5, if_neg (show ¬ J 70 9 ≠ 0 from fun q => q z9), show f_X7_of (nI a) (0 : Int32) J = _ from M (j := 0) ha (by omega), xb_some, show f_X7_of (nI k) (0 : Int32) J = _ from M (j := 0) hk (by omega), xb_some, show f_X7_of (nI a) (4 : Int32) J = _ from M (j := 4) ha (by omega), xb_some, show f_X7_of (nI k) (5 : Int32) J = _ from M (j := 5) hk (by omega), xb_some, show f_X7_of (nI k) (4 : Int32) J = _ from M (j := 4) hk (by omega), xb_some, show f_X7_of (nI a) (5 : Int32) J = _ from M (j := 5) ha (by omega), xb_some]
      by_cases c0 : FC I b a 0 = FC I b k 0
      · refine ⟨-5, 0, IB, JB, ?_, ?_, B3⟩
        · rw [hE, hX, if_neg (fun q => q c0), xb_some, if_pos rfl]; exact B1
        · rw [hS, if_pos c0]; exact B2 _
      · by_cases c1 : FC I b a 4 ≥ FC I b k 5
        · refine ⟨-5, 0, IB, JB, ?_, ?_, B3⟩
          · rw [hE, hX, if_pos c0, if_pos c1, xb_some, if_pos rfl]; exact B1
          · rw [hS, if_neg c0, if_pos c1]; exact B2 _
        · by_cases c2 : FC I b k 4 ≥ FC I b a 5
          · refine ⟨-5, 0, IB, JB, ?_, ?_, B3⟩
            · rw [hE, hX, if_pos c0, if_neg c1, if_pos c2, xb_some, if_pos rfl]; exact B1
            · rw [hS, if_neg c0, if_neg c1, if_pos c2]; exact B2 _
          · refine ⟨nI a, 1, xup (xup (xup (xup I (b + 5) (10 * a + 9) (nI k)) (b + 5) (10 * k + 9) (nI a)) b 3 (-5)) (b + 5) (10 * k + 8) (I b 2), xup (xup (xup (xup (xup J 70 9 1) 70 3 (J 70 3 + 1)) 70 (142 + 10 * a + 9) (nI k)) 70 (142 + 10 * k + 9) (nI a)) 70 (142 + 10 * k + 8) (J 70 2), ?_, ?_, ?_⟩
            · rw [hE, hX, if_pos c0, if_neg c1, if_neg c2, xb_some, if_neg one_ne0, show f_X5_mark b (nI a) (9 : Int32) _ _ = _ from ff_mark (j := 9) h.1.1 hw ha (by omega), xb_some, show f_X5_mark b (nI k) (9 : Int32) _ _ = _ from ff_mark (j := 9) (w := w) (by rw [xup_cell (by omega)]; exact h.1.1) hw hk (by omega), xb_some, show f_X5_mark b (nI k) (8 : Int32) _ _ = _ from ff_mark (j := 8) (w := w) (by rw [xup_slot (by omega), xup_cell (by omega), xup_cell (by omega)]; exact h.1.1) hw hk (by omega), xb_some, xup_slot (by omega), xup_cell (by omega), xup_cell (by omega)]
            · rw [hS, if_neg c0, if_neg c1, if_neg c2]
              unfold f_X7_isSecond_74 f_X7_isSecond_150
              rw [if_neg one_ne0, show f_X7_at (nI a) (9 : Int32) _ = _ from gg_at a 9 _, xb_some, if_pos (xin_nI (by omega) (by decide)), show f_X7_at (nI k) (9 : Int32) _ = _ from gg_at k 9 _, xb_some, if_pos (xin_nI (by omega) (by decide)), show f_X7_at (nI k) (8 : Int32) _ = _ from gg_at k 8 _, xb_some, if_pos (xin_nI (by omega) (by decide)), if_pos (Or.inr rfl), nI_clamp (by omega), nI_clamp (by omega), nI_clamp (by omega), xup_slot (show 2 ≠ 142 + 10 * k + 9 by omega), xup_slot (show 2 ≠ 142 + 10 * a + 9 by omega), xup_slot (show 2 ≠ 3 by omega), xup_slot (show 2 ≠ 9 by omega), xup_slot (show 3 ≠ 9 by omega)]
            · have e2 : J 70 2 = I b 2 := h.2.1
              have hR : RC w (xup (xup (xup (xup I (b + 5) (10 * a + 9) (nI k)) (b + 5) (10 * k + 9) (nI a)) b 3 (-5)) (b + 5) (10 * k + 8) (I b 2)) b (sup (sup (sup (sup (sup (J 70) 9 1) 3 (J 70 3 + 1)) (142 + 10 * a + 9) (nI k)) (142 + 10 * k + 9) (nI a)) (142 + 10 * k + 8) (I b 2)) := by
                have r1 : RC w I b (sup (sup (J 70) 9 1) 3 (J 70 3 + 1)) := h.sslot (fun c _ c3 _ c9 _ _ => by rw [sup_ne c3, sup_ne c9])
                have r2 := r1.fact (k := a) (j := 9) (v := nI k) ha (by omega) (by omega) (fun q => absurd q (by omega))
                have r3 := r2.fact (k := k) (j := 9) (v := nI a) hk (by omega) (by omega) (fun q => absurd q (by omega))
                have r4 := r3.cslot (j := 3) (v := -5) (Or.inr rfl)
                exact r4.fact (k := k) (j := 8) (v := I b 2) hk (by omega) (by omega) (fun q => absurd q (by omega))
              have hF : ∀ k', k' < w → ∀ j, j < 10 → j ≠ 8 → FC (xup (xup (xup (xup I (b + 5) (10 * a + 9) (nI k)) (b + 5) (10 * k + 9) (nI a)) b 3 (-5)) (b + 5) (10 * k + 8) (I b 2)) b k' j = if k' = k ∧ j = 9 then nI a else if k' = a ∧ j = 9 then nI k else FC I b k' j := fun k' hk' j hj hj8 => by
                rw [FC_xup (by omega) (by omega), if_neg (fun q => hj8 q.2), FC_xup_other (by omega), FC_xup (by omega) (by omega), FC_xup (by omega) (by omega)]
              generalize hI' : xup (xup (xup (xup I (b + 5) (10 * a + 9) (nI k)) (b + 5) (10 * k + 9) (nI a)) b 3 (-5)) (b + 5) (10 * k + 8) (I b 2) = I' at hR hF
              have hcell : ∀ c, c ≠ b → c ≠ b + 5 → I' c = I c := fun c hc hc5 => by
                rw [← hI']; funext x; rw [xup_cell hc5, xup_cell hc, xup_cell hc5, xup_cell hc5]
              refine ⟨by rw [xup_70, xup_70, xup_70, xup_70, xup_70, e2]; exact hR, fun c hc _ _ _ _ => hcell c (by omega) (by omega), ((((frM.up J).trans (frM.up _)).trans (frM.up _)).trans (frM.up _)).trans (frM.up _), ?_, ?_, hcell, fun k' hk' j hj => ?_, ⟨?_, ?_⟩, fun k' hk' hne q => ?_, ⟨n + 1, ?_, ?_⟩, Or.inr ⟨a, ha, hak, rfl, rfl, ?_, ?_, ?_, z6, fun f hf => ?_⟩⟩
              · rw [← hI', xup_cell (by omega), xup_slot (by omega), xup_cell (by omega), xup_cell (by omega)]
              · rw [xup_slot (by omega), xup_slot (by omega), xup_slot (by omega), xup_slot (by omega), xup_slot (by omega)]
              · rw [hF k' hk' j (by omega) (by omega), if_neg (by omega), if_neg (by omega)]
              · rw [xup_slot (by omega), xup_slot (by omega), xup_slot (by omega), xup_slot (by omega), xup_slot (by omega)]
              · rw [xup_slot (by omega), xup_slot (by omega), xup_slot (by omega), xup_slot (by omega), xup_slot (by omega)]
              · rw [hF k' hk' 6 (by omega) (by omega), if_neg (by omega), if_neg (by omega)] at q
                have hka : k' ≠ a := fun y => by subst y; rw [q] at z6; rcases z6 with z6 | z6 <;> exact absurd z6 (by decide)
                rw [hF k' hk' 9 (by omega) (by omega), if_neg (fun y => hne y.1), if_neg (fun y => hka y.1)]
                exact n1 k' hk' q
              · rw [xup_slot (by omega), xup_slot (by omega), xup_slot (by omega), xup_at, n2, nI_1]
              · have hk9 := n1 k hk h6
                have q1 := cP_insert (P := fun x => decide (¬ FC I b x 9 = -5)) (P' := fun x => decide (¬ FC I b x 9 = -5) || decide (x = a)) (x := a) w 0 (by omega) (by omega) (by simp [z9a]) (by simp) (fun g hg => by simp [hg])
                have q2 := cP_insert (P := fun x => decide (¬ FC I b x 9 = -5) || decide (x = a)) (P' := fun x => (decide (¬ FC I b x 9 = -5) || decide (x = a)) || decide (x = k)) (x := k) w 0 (by omega) (by omega) (by simp [hk9]; omega) (by simp) (fun g hg => by simp [hg])
                have q3 : CNT w I' b = (List.range' 0 w).countP (fun x => (decide (¬ FC I b x 9 = -5) || decide (x = a)) || decide (x = k)) := by
                  unfold CNT
                  refine cP_congr (fun g _ hg => ?_)
                  rw [hF g (by omega) 9 (by omega) (by omega)]
                  by_cases y1 : g = k
                  · rw [if_pos ⟨y1, rfl⟩]; simp [y1, hm5]
                  · rw [if_neg (fun y => y1 y.1)]
                    by_cases y2 : g = a
                    · rw [if_pos ⟨y2, rfl⟩]; simp [y2, show ¬ nI k = -5 from nI_m5 (by omega)]
                    · rw [if_neg (fun y => y2 y.1)]; simp [y1, y2]
                omega
              · rw [xup_slot (by omega), xup_slot (by omega), xup_slot (by omega), xup_slot (by omega), xup_slot (by omega)]; exact z
              · rw [xup_slot (by omega), xup_slot (by omega), xup_slot (by omega), xup_slot (by omega), xup_at]
              · rw [← hI', xup_cell (by omega), xup_at]
              · rw [hcell _ (by omega) (by omega), tkB_congr (s := J 70) ⟨?_, ?_⟩ hf]
                · exact ztk f hf
                · rw [xup_slot (by omega), xup_slot (by omega), xup_slot (by omega), xup_slot (by omega), xup_slot (by omega)]
                · rw [xup_slot (by omega), xup_slot (by omega), xup_slot (by omega), xup_slot (by omega), xup_slot (by omega)]
/-! the second letter of a turn -/
theorem cDone {w : Nat} {I : xI} {b : Nat} {s : Nat → Int32} (h : RC w I b s) {a : Nat} (ha : a < w) (v : Int32) : (FC I b a 6 = 1 ∧ FC I b a 1 = v → f_X5_wasDone b (nI a) v I = some (1, I)) ∧ (¬ (FC I b a 6 = 1 ∧ FC I b a 1 = v) → f_X5_wasDone b (nI a) v I = some (0, I)) := by
  unfold f_X5_wasDone
  rw [show f_X5_told b (nI a) (6 : Int32) I = _ from h.cT (j := 6) ha (by omega), xb_some, show f_X5_told b (nI a) (1 : Int32) I = _ from h.cT (j := 1) ha (by omega), xb_some]
  refine ⟨fun q => by rw [if_neg (fun y => y q.1), if_neg (fun y => y q.2)], fun q => ?_⟩
  by_cases h1 : FC I b a 6 = 1
  · rw [if_neg (fun y => y h1), if_pos (fun y => q ⟨h1, y⟩)]
  · rw [if_pos h1]
theorem st_second {w k a b : Nat} {I J : xI} (G : GT I) (h : RC w I b (J 70)) (hk : k < w) (ha : a < w) (z : J 70 8 = nI a) (hT : ∀ f, f < 48 → (tkB (J 70) f ↔ I (b + 4) f = nI a)) :
    (∃ r I' J', (∀ (K : Int32 → xI → Option (Int32 × xI)) (N : xI → Option (Int32 × xI)), xb (f_X3_growsHedge b (nI a) (nI k) I) (fun r5 I5 => if r5 = 0 then xb (f_X3_makesVoid b (nI a) (nI k) I5) (fun r6 I6 => if r6 = 0 then N I6 else xb (f_X5_giveBackFieldsOf b (nI a) I6) (fun _ I9 => K 6 I9)) else xb (f_X3_edgeOf b (nI k) I5) (fun r10 I10 => xb (f_X5_putOnEdge b r10 (3 : Int32) I10) (fun _ I11 => K 0 I11))) = K r I') ∧ f_X7_doesSecond (nI k) J = some (r, J') ∧ ACT w k b I J r I' J') ∨
    ((∀ (K : Int32 → xI → Option (Int32 × xI)) (N : xI → Option (Int32 × xI)), xb (f_X3_growsHedge b (nI a) (nI k) I) (fun r5 I5 => if r5 = 0 then xb (f_X3_makesVoid b (nI a) (nI k) I5) (fun r6 I6 => if r6 = 0 then N I6 else xb (f_X5_giveBackFieldsOf b (nI a) I6) (fun _ I9 => K 6 I9)) else xb (f_X3_edgeOf b (nI k) I5) (fun r10 I10 => xb (f_X5_putOnEdge b r10 (3 : Int32) I10) (fun _ I11 => K 0 I11))) = N I) ∧ f_X7_doesSecond (nI k) J = some (-5, J)) := by
  have hw := h.1.2.1
  have T : ∀ {i j}, i < w → j < 10 → f_X5_told b (nI i) (nI j) I = some (FC I b i j, I) := fun hi hj => h.cT hi hj
  have M : ∀ {i j}, i < w → j < 10 → f_X7_of (nI i) (nI j) J = some (FC I b i j, J) := fun hi hj => h.mT hi hj
  obtain ⟨-, l1, -, -⟩ := h.2.2.2.2.2.2.2.2.2 k hk
  obtain ⟨p0, p1, -, -⟩ := h.2.2.2.2.2.2.2.2.2 a ha
  have m1k : f_X7_of (nI k) (1 : Int32) J = _ := M (j := 1) hk (by omega)
  have m1a : f_X7_of (nI a) (1 : Int32) J = _ := M (j := 1) ha (by omega)
  have m6a : f_X7_of (nI a) (6 : Int32) J = _ := M (j := 6) ha (by omega)
  have m0a : f_X7_of (nI a) (0 : Int32) J = _ := M (j := 0) ha (by omega)
  have m2k : f_X7_of (nI k) (2 : Int32) J = _ := M (j := 2) hk (by omega)
  have c1k : f_X5_told b (nI k) (1 : Int32) I = _ := T (j := 1) hk (by omega)
  have c2k : f_X5_told b (nI k) (2 : Int32) I = _ := T (j := 2) hk (by omega)
  have c0a : f_X5_told b (nI a) (0 : Int32) I = _ := T (j := 0) ha (by omega)
  have gh0 : ¬ (FC I b a 6 = 1 ∧ FC I b a 1 = 0 ∧ FC I b k 1 = 0) → f_X3_growsHedge b (nI a) (nI k) I = some (0, I) := by
    intro q
    unfold f_X3_growsHedge
    by_cases y : FC I b a 6 = 1 ∧ FC I b a 1 = 0
    · rw [(cDone h ha 0).1 y, xb_some, if_neg one_ne0, c1k, xb_some, if_neg (fun x => q ⟨y.1, y.2, x⟩)]
    · rw [(cDone h ha 0).2 y, xb_some, if_pos rfl]
  have mv0 : ¬ (FC I b a 6 = 1 ∧ FC I b a 1 = 2 ∧ FC I b k 1 = 2) → f_X3_makesVoid b (nI a) (nI k) I = some (0, I) := by
    intro q
    unfold f_X3_makesVoid
    by_cases y : FC I b a 6 = 1 ∧ FC I b a 1 = 2
    · rw [(cDone h ha 2).1 y, xb_some, if_neg one_ne0, c1k, xb_some, if_pos (fun x => q ⟨y.1, y.2, x⟩)]
    · rw [(cDone h ha 2).2 y, xb_some, if_pos rfl]
  by_cases hkd : FC I b k 1 = FC I b a 1
  rotate_left
  · refine Or.inr ⟨fun K N => ?_, ?_⟩
    · rw [gh0 (fun q => hkd (by rw [q.2.1, q.2.2])), xb_some, if_pos rfl, mv0 (fun q => hkd (by rw [q.2.1, q.2.2])), xb_some, if_pos rfl]
    · unfold f_X7_doesSecond
      rw [m1k, xb_some, z, m1a, xb_some, if_pos hkd]
  · by_cases ha6 : FC I b a 6 = 1
    rotate_left
    · refine Or.inr ⟨fun K N => ?_, ?_⟩
      · rw [gh0 (fun q => ha6 q.1), xb_some, if_pos rfl, mv0 (fun q => ha6 q.1), xb_some, if_pos rfl]
      · unfold f_X7_doesSecond
        rw [m1k, xb_some, z, m1a, xb_some, if_neg (fun q => q hkd), m6a, xb_some, if_neg ha6]
    · rcases l1 with ⟨l1, f, g, hf, hg, he, hF2, hF3⟩ | ⟨l1, f, hf, hF2⟩ | ⟨l1, n, hn1, hn2, hF3⟩
      · rcases l1 with l1 | l1
        · -- fences
          have pa : FC I b a 1 = 0 := by rw [← hkd, l1]
          rcases p1 with ⟨-, f', g', hf', hg', he', hG2, hG3⟩ | ⟨p1, -⟩ | ⟨p1, -⟩
          · have ce := h.cEdge G hk hf hg he hF2 hF3
            have me := h.mEdge G hk hf hg he hF2 hF3
            have ca := h.cEdge G ha hf' hg' he' hG2 hG3
            have ma := h.mEdge G ha hf' hg' he' hG2 hG3
            have hp := pE_lt he
            have hp' := pE_lt he'
            have mv := mv0 (fun q => by rw [pa] at q; exact absurd q.2.1 (by decide))
            have d90 : f_X7_doesSecond_90 (nI k) 0 J = some (-5, J) := by
              unfold f_X7_doesSecond_90
              rw [if_pos (by decide)]
            have hDS : f_X7_doesSecond (nI k) J = if nI (12 + pE (eT f g)) ≠ nI (12 + pE (eT f' g')) then some (-5, J) else if I (b + 3) (eT f g) ≠ 1 + FC I b a 0 then some (-5, J) else some (0, xup J 70 (12 + pE (eT f g)) 3) := by
              unfold f_X7_doesSecond
              rw [m1k, xb_some, z, m1a, xb_some, if_neg (fun q => q hkd), m6a, xb_some, if_pos ha6, l1, if_neg (fun q => q rfl), me, xb_some, ma, xb_some, d90, me, xb_some, if_pos (xin_nI (by omega) (by decide)), m0a, xb_some, nI_clamp (by omega), h.2.2.2.2.1 _ he, me, xb_some, if_pos (xin_nI (by omega) (by decide)), nI_clamp (by omega), d90]
            have hGH : f_X3_growsHedge b (nI a) (nI k) I = if nI (eT f' g') ≠ nI (eT f g) then some (0, I) else if I (b + 3) (eT f' g') ≠ FC I b a 0 + 1 then some (0, I) else some (1, I) := by
              unfold f_X3_growsHedge f_X6_fenceOf
              rw [(cDone h ha 0).1 ⟨ha6, pa⟩, xb_some, if_neg one_ne0, c1k, xb_some, l1, if_pos rfl, ca, xb_some, ce, xb_some, cOn he', xb_some, c0a, xb_some, xb_some]
            by_cases hee : eT f g = eT f' g'
            rotate_left
            · refine Or.inr ⟨fun K N => ?_, ?_⟩
              · rw [hGH, if_pos (fun q => hee (nI_inj (by omega) (by omega) q).symm), xb_some, if_pos rfl, mv, xb_some, if_pos rfl]
              · rw [hDS, if_pos (fun q => hee (pE_inj he he' (by have := nI_inj (by omega) (by omega) q; omega)))]
            · rw [← hee, if_neg (fun q => q rfl), Int32.add_comm] at hGH
              rw [← hee, if_neg (fun q => q rfl)] at hDS
              by_cases hv : I (b + 3) (eT f g) = 1 + FC I b a 0
              rotate_left
              · refine Or.inr ⟨fun K N => ?_, ?_⟩
                · rw [hGH, if_pos hv, xb_some, if_pos rfl, mv, xb_some, if_pos rfl]
                · rw [hDS, if_pos hv]
              · refine Or.inl ⟨0, xup I (b + 3) (eT f g) 3, xup J 70 (12 + pE (eT f g)) 3, fun K N => ?_, by rw [hDS, if_neg (fun q => q hv)], by rw [xup_70]; exact h.edge he (by decide), frC.up b I (by omega), frM.up J, by funext c; exact xup_cell (by omega), by funext c; exact xup_cell (by omega), fun c hc _ _ => xup_slot (by omega), Or.inl rfl, fun f' _ => Or.inl (xup_cell (by omega))⟩
                rw [hGH, if_neg (fun q => q hv), xb_some, if_neg one_ne0, ce, xb_some, cPut he, xb_some]
          · rw [pa] at p1; exact absurd p1 (by decide)
          · rw [pa] at p1; exact absurd p1 (by decide)
        · -- gaps
          have pa : FC I b a 1 = 1 := by rw [← hkd, l1]
          refine Or.inr ⟨fun K N => ?_, ?_⟩
          · rw [gh0 (fun q => by rw [pa] at q; exact absurd q.2.1 (by decide)), xb_some, if_pos rfl, mv0 (fun q => by rw [pa] at q; exact absurd q.2.1 (by decide)), xb_some, if_pos rfl]
          · unfold f_X7_doesSecond f_X7_doesSecond_90
            rw [m1k, xb_some, z, m1a, xb_some, if_neg (fun q => q hkd), m6a, xb_some, if_pos ha6, l1, if_pos one_ne0, if_pos (by decide)]
      · -- claims
        have pa : FC I b a 1 = 2 := by rw [← hkd, l1]
        have gh := gh0 (fun q => by rw [pa] at q; exact absurd q.2.1 (by decide))
        have hMV : f_X3_makesVoid b (nI a) (nI k) I = if I (b + 4) f ≠ nI a then some (0, I) else some (1, I) := by
          unfold f_X3_makesVoid
          rw [(cDone h ha 2).1 ⟨ha6, pa⟩, xb_some, if_neg one_ne0, c1k, xb_some, l1, if_neg (fun q => q rfl), c2k, xb_some, hF2, ff_takerOf hf, xb_some]
        have hDS : f_X7_doesSecond (nI k) J = xb (f_X7_isTaken (nI f) J) (fun r6 I6 => if r6 = 0 then some ((-5 : Int32), I6) else f_X7_doesSecond_111 xZ (0 : Int32) I6) := by
          unfold f_X7_doesSecond f_X7_doesSecond_90
          rw [m1k, xb_some, z, m1a, xb_some, if_neg (fun q => q hkd), m6a, xb_some, if_pos ha6, l1, if_pos (by decide), if_neg (fun q => q rfl), m2k, xb_some, hF2]
        by_cases hv : I (b + 4) f = nI a
        rotate_left
        · refine Or.inr ⟨fun K N => ?_, ?_⟩
          · rw [gh, xb_some, if_pos rfl, hMV, if_pos hv, xb_some, if_pos rfl]
          · rw [hDS, (gg_isTaken hf J).2 (fun q => hv ((hT f hf).mp q)), xb_some, if_pos rfl]
        · obtain ⟨I', g1, g2, g3⟩ := lp_give (b := b) (v := nI a) 48 0 xZ I (by omega) (by unfold xZ; omega)
          obtain ⟨J', e1, e2, e3, e4⟩ := lp_void 48 0 xZ J (by omega) (by unfold xZ; omega)
          have hTK : TK w I' b := fun f' hf' => by
            rw [g3 f' hf']
            split
            · exact Or.inl rfl
            · exact h.2.2.2.2.2.2.2.1 f' hf'
          refine Or.inl ⟨6, I', J', fun K N => ?_, ?_, h.takers g2 hTK (fun c hc _ _ => e3 c hc) (fun f' hf' => ?_), fun c hc _ _ _ _ => g2 c (by omega), fun c hc _ => e2 c hc, g2 b (by omega), g2 _ (by omega), fun c hc _ _ => e3 c (by omega), by decide, fun f' hf' => ?_⟩
          · rw [gh, xb_some, if_pos rfl, hMV, if_neg (fun q => q hv), xb_some, if_neg one_ne0]
            unfold f_X5_giveBackFieldsOf
            rw [show f_X5_giveBackFieldsOf_2 b xZ (nI a) (0 : Int32) I = _ from g1, xb_some]
          · rw [hDS, (gg_isTaken hf J).1 ((hT f hf).mpr hv), xb_some, if_neg one_ne0]
            exact e1
          · have o := h.2.2.2.2.2.2.1 f' hf'
            by_cases y : I (b + 4) f' = nI a
            · rw [(e4 f' hf').1 ⟨Nat.zero_le _, (hT f' hf').mpr y⟩]
              have t : I' (b + 4) f' = -5 := by rw [g3 f' hf', if_pos ⟨Nat.zero_le _, y⟩]
              unfold cOwn
              rw [t, if_pos rfl]
            · rw [(e4 f' hf').2 (fun q => y ((hT f' hf').mp q.2)), o]
              have t : I' (b + 4) f' = I (b + 4) f' := by rw [g3 f' hf', if_neg (fun q => y q.2)]
              unfold cOwn
              rw [t, g2 _ (by omega)]
          · rw [g3 f' hf']
            split
            · exact Or.inr (Or.inl rfl)
            · exact Or.inl rfl
      · -- truces
        have pa : FC I b a 1 = 3 := by rw [← hkd, l1]
        refine Or.inr ⟨fun K N => ?_, ?_⟩
        · rw [gh0 (fun q => by rw [pa] at q; exact absurd q.2.1 (by decide)), xb_some, if_pos rfl, mv0 (fun q => by rw [pa] at q; exact absurd q.2.1 (by decide)), xb_some, if_pos rfl]
        · unfold f_X7_doesSecond f_X7_doesSecond_90
          rw [m1k, xb_some, z, m1a, xb_some, if_neg (fun q => q hkd), m6a, xb_some, if_pos ha6, l1, if_pos (by decide), if_pos (by decide)]
