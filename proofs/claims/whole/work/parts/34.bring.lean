/-! ===== a letter comes ===== -/
def rvv (r : Int32) : Int32 := if r = 0 then 1 else 2
theorem r06 {r : Int32} (h : r = 0 ∨ r = 1 ∨ r = 2 ∨ r = 3 ∨ r = 4 ∨ r = 5 ∨ r = 6) : (r ≤ 0 ↔ r = 0) ∧ r ≠ -5 := by rcases h with rfl | rfl | rfl | rfl | rfl | rfl | rfl <;> decide
theorem fin_both {w k b : Nat} {I J : xI} {r : Int32} (h : RC w I b (J 70)) (hk : k < w) (hr : r = 0 ∨ r = 1 ∨ r = 2 ∨ r = 3 ∨ r = 4 ∨ r = 5 ∨ r = 6) :
    f_X3_bring_74 b (nI k) r I = some (0, xup (xup I (b + 5) (10 * k + 7) r) (b + 5) (10 * k + 6) (rvv r)) ∧ f_X7_comes_35 (nI k) r J = some (0, xup (xup J 70 (142 + 10 * k + 7) r) 70 (142 + 10 * k + 6) (rvv r)) := by
  have hw := h.1.2.1
  have m7 : f_X5_mark b (nI k) (7 : Int32) r I = _ := ff_mark (j := 7) h.1.1 hw hk (by omega)
  have m6 : ∀ v, f_X5_mark b (nI k) (6 : Int32) v (xup I (b + 5) (10 * k + 7) r) = _ := fun v => ff_mark (j := 6) (w := w) (by rw [xup_cell (by omega)]; exact h.1.1) hw hk (by omega)
  refine ⟨?_, ?_⟩
  · unfold f_X3_bring_74 rvv
    rw [m7, xb_some]
    by_cases z : r = 0
    · rw [if_neg (fun q => q z), m6, xb_some, if_pos z]
    · rw [if_pos z, m6, xb_some, if_neg z]
  · unfold f_X7_comes_35 rvv
    rw [show f_X7_at (nI k) (7 : Int32) _ = _ from gg_at k 7 _, xb_some, if_pos (xin_nI (by omega) (by decide)), show f_X7_at (nI k) (6 : Int32) _ = _ from gg_at k 6 _, xb_some, if_pos (xin_nI (by omega) (by decide)), if_pos (xin_nI (by omega) (by decide)), nI_clamp (by omega), nI_clamp (by omega)]
    by_cases z : r = 0
    · rw [if_pos ((r06 hr).1.mpr z), if_pos z]
    · rw [if_neg (fun q => z ((r06 hr).1.mp q)), if_neg z]
/-- what a letter that comes leaves -/
def BRG (w k b : Nat) (I J I' J' : xI) : Prop :=
  RC w I' b (J' 70) ∧ AL w I' b (J' 70) ∧ MT w I' b (J' 70) ∧ TD w I' b ∧ frC b I I' ∧ frM J J' ∧ I' b 0 = I b 0 ∧ J' 70 0 = J 70 0 ∧
  (∀ k', k' < w → k' ≠ k → FC I' b k' 6 = FC I b k' 6) ∧ (FC I' b k 6 = 1 ∨ FC I' b k 6 = 2) ∧ ∀ k', k' < w → FC I' b k' 5 = FC I b k' 5
theorem st_bring {w k b : Nat} {I J : xI} (hb : 11 ≤ b) (G : GT I) (h : RC w I b (J 70)) (hA : AL w I b (J 70)) (hM : MT w I b (J 70)) (hT : TD w I b) (hk : k < w) (h6 : FC I b k 6 = 0) (hd : I b 0 = J 70 0) :
    ∃ I' J', f_X3_bring b (nI k) I = some (0, I') ∧ f_X7_comes (nI k) J = some (0, J') ∧ BRG w k b I J I' J' := by
  have hw := h.1.2.1
  obtain ⟨first, s0, I1, J1, t1, t2, tr⟩ := st_turn h hA hM hk h6
  obtain ⟨u1, u2, u3, u4, u5, u6, u7, ⟨u8, u8'⟩, u9, ⟨n, u10, u11⟩, u12⟩ := tr
  have G1 : GT I1 := u2.GT hb G
  have hk1 : ∀ f, f < 48 → I1 (b + 4) f ≠ nI k := fun f hf q => by
    rw [u6 (b + 4) (by omega) (by omega)] at q
    have := hT f hf k hk q
    rw [h6] at this
    exact absurd this (by decide)
  -- the act itself
  have hact : ∃ r I2 J2, f_X3_bring b (nI k) I = f_X3_bring_74 b (nI k) r I2 ∧ f_X7_comes (nI k) J = f_X7_comes_35 (nI k) r J2 ∧ ACT w k b I1 J1 r I2 J2 ∧ (s0 = 0 → ∀ f, f < 48 → (tkB (J2 70) f ↔ I2 (b + 4) f = nI k)) := by
    have hf1 : RC w I1 b (xup (xup J1 70 10 0) 70 11 0 70) := by
      rw [xup_70, xup_70]
      exact u1.sslot (fun c _ _ _ _ c10 c11 => by rw [sup_ne c11, sup_ne c10])
    obtain ⟨r, I2, J2, p1, p2, p3, p4⟩ := st_plain (J := xup (xup J1 70 10 0) 70 11 0) hb G1 hf1 hk (by rw [u4, hd, xup_slot (by omega), xup_slot (by omega), u5]) hk1 (by rw [xup_slot (by omega), xup_at]) xup_at
    have p3' : ACT w k b I1 J1 r I2 J2 := by
      obtain ⟨a1, a2, a3, a4, a5, a6, a7, a8⟩ := p3
      exact ⟨a1, a2, ((frM.up J1).trans (frM.up _)).trans a3, a4, a5, fun c x y z => (a6 c x y z).trans (by rw [xup_slot (by omega), xup_slot (by omega)]), a7, a8⟩
    have p2' : f_X7_comes_18 (nI k) (-5) J1 = f_X7_comes_35 (nI k) r J2 := by
      unfold f_X7_comes_18 f_X7_forgetsTaken
      rw [if_neg (fun q => q rfl), xb_some, p2, xb_some]
    rcases u12 with ⟨v1, v2, v3, v4, v5, v6⟩ | ⟨a, ha, hak, v1, v2, v3, v4, v5, v6, v7⟩
    · refine ⟨r, I2, J2, ?_, ?_, p3', fun _ => p4⟩
      · have e1 : f_X3_growsHedge b (-5) (nI k) I1 = some (0, I1) := by
          unfold f_X3_growsHedge f_X5_wasDone
          rw [ff_told_m5 u1.1.1 hw, xb_some, if_pos (by decide), xb_some, if_pos rfl]
        have e2 : f_X3_makesVoid b (-5) (nI k) I1 = some (0, I1) := by
          unfold f_X3_makesVoid f_X5_wasDone
          rw [ff_told_m5 u1.1.1 hw, xb_some, if_pos (by decide), xb_some, if_pos rfl]
        unfold f_X3_bring
        rw [t1, xb_some, v1, e1, xb_some, if_pos rfl, e2, xb_some, if_pos rfl]
        exact p1 _
      · unfold f_X7_comes
        rw [t2, xb_some, v2, if_pos rfl]
        exact p2'
    · have hs0 : ¬ s0 = 0 := by rw [v2]; exact one_ne0
      rcases st_second (b := b) G1 u1 hk ha v3 v7 with ⟨r', I3, J3, q1, q2, q3⟩ | ⟨q1, q2⟩
      · refine ⟨r', I3, J3, ?_, ?_, q3, fun q => absurd q hs0⟩
        · unfold f_X3_bring
          rw [t1, xb_some, v1]
          exact q1 (fun r I => f_X3_bring_74 b (nI k) r I) (fun I6 => xb (f_X3_reasonAgainst b (nI k) I6) (fun r7 I7 => if r7 ≠ 0 then f_X3_bring_74 b (nI k) r7 I7 else xb (f_X3_carryOut b (nI k) I7) (fun _ I8 => f_X3_bring_74 b (nI k) r7 I8)))
        · unfold f_X7_comes f_X7_comes_18
          rw [t2, xb_some, if_neg hs0, q2, xb_some, if_pos (r06 q3.2.2.2.2.2.2.1).2]
      · refine ⟨r, I2, J2, ?_, ?_, p3', fun q => absurd q hs0⟩
        · unfold f_X3_bring
          rw [t1, xb_some, v1]
          refine (q1 (fun r I => f_X3_bring_74 b (nI k) r I) (fun I6 => xb (f_X3_reasonAgainst b (nI k) I6) (fun r7 I7 => if r7 ≠ 0 then f_X3_bring_74 b (nI k) r7 I7 else xb (f_X3_carryOut b (nI k) I7) (fun _ I8 => f_X3_bring_74 b (nI k) r7 I8)))).trans ?_
          exact p1 _
        · unfold f_X7_comes
          rw [t2, xb_some, if_neg hs0, q2, xb_some]
          exact p2'
  obtain ⟨r, I2, J2, w1, w2, ⟨a1, a2, a3, a4, a5, a6, a7, a8⟩, w4⟩ := hact
  obtain ⟨z1, z2⟩ := fin_both a1 hk a7
  have hrv : rvv r = 1 ∨ rvv r = 2 := by unfold rvv; split; exact Or.inl rfl; exact Or.inr rfl
  have hF : ∀ k', k' < w → ∀ j, j < 10 → FC (xup (xup I2 (b + 5) (10 * k + 7) r) (b + 5) (10 * k + 6) (rvv r)) b k' j = if k' = k ∧ j = 6 then rvv r else if k' = k ∧ j = 7 then r else FC I1 b k' j := fun k' hk' j hj => by
    rw [FC_xup (by omega) (by omega), FC_xup (by omega) (by omega)]
    unfold FC
    rw [a5]
  have hR : RC w (xup (xup I2 (b + 5) (10 * k + 7) r) (b + 5) (10 * k + 6) (rvv r)) b (xup (xup J2 70 (142 + 10 * k + 7) r) 70 (142 + 10 * k + 6) (rvv r) 70) := by
    rw [xup_70, xup_70]
    exact (a1.fact hk (by omega) (by omega) (fun q => absurd q (by omega))).fact hk (by omega) (by omega) (fun _ => by rcases hrv with y | y <;> rw [y] <;> decide)
  have hc : ∀ c, c ≠ b + 5 → xup (xup I2 (b + 5) (10 * k + 7) r) (b + 5) (10 * k + 6) (rvv r) c = I2 c := fun c hc => by funext x; rw [xup_cell hc, xup_cell hc]
  have hs : ∀ c, c < 142 → xup (xup J2 70 (142 + 10 * k + 7) r) 70 (142 + 10 * k + 6) (rvv r) 70 c = J2 70 c := fun c hc => by rw [xup_slot (by omega), xup_slot (by omega)]
  refine ⟨_, _, w1.trans z1, w2.trans z2, ?_⟩
  generalize hI' : xup (xup I2 (b + 5) (10 * k + 7) r) (b + 5) (10 * k + 6) (rvv r) = I' at hF hR hc
  have frCi : frC b I2 I' := by rw [← hI']; exact (frC.up b I2 (by omega)).trans (frC.up b _ (by omega))
  have fr2 : frM J2 (xup (xup J2 70 (142 + 10 * k + 7) r) 70 (142 + 10 * k + 6) (rvv r)) := (frM.up J2).trans (frM.up _)
  generalize xup (xup J2 70 (142 + 10 * k + 7) r) 70 (142 + 10 * k + 6) (rvv r) = J' at hR hs fr2
  have hk6 : FC I' b k 6 = rvv r := by rw [hF k hk 6 (by omega), if_pos ⟨rfl, rfl⟩]
  have hk6' : ∀ k', k' < w → k' ≠ k → FC I' b k' 6 = FC I b k' 6 := fun k' hk' hne => by
    rw [hF k' hk' 6 (by omega), if_neg (fun q => hne q.1), if_neg (fun q => hne q.1), u7 k' hk' 6 (by omega)]
  have h9 : ∀ k', k' < w → FC I' b k' 9 = FC I1 b k' 9 := fun k' hk' => by rw [hF k' hk' 9 (by omega), if_neg (by omega), if_neg (by omega)]
  have htk : ∀ f, f < 48 → (tkB (J' 70) f ↔ tkB (J2 70) f) := fun f hf => tkB_congr ⟨hs 10 (by omega), hs 11 (by omega)⟩ hf
  have h8 : J' 70 8 = J1 70 8 := (hs 8 (by omega)).trans (a6 8 (by omega) (by omega) (by omega))
  have h9' : J' 70 9 = J1 70 9 := (hs 9 (by omega)).trans (a6 9 (by omega) (by omega) (by omega))
  have hb3 : I' b 3 = I1 b 3 := by rw [hc b (by omega), a4]
  have hb4 : I' (b + 4) = I2 (b + 4) := hc _ (by omega)
  refine ⟨hR, ?_, ⟨fun k' hk' q => ?_, n, ?_, ?_⟩, fun f hf k' hk' q => ?_, (u2.trans a2).trans frCi, (u3.trans a3).trans fr2, ?_, ?_, hk6', by rw [hk6]; exact hrv, fun k' hk' => ?_⟩
  · rcases u12 with ⟨v1, v2, v3, v4, v5, v6⟩ | ⟨a, ha, hak, v1, v2, v3, v4, v5, v6, v7⟩
    · refine ⟨Or.inl (h9'.trans v4), Or.inr ⟨k, hk, h8.trans v3, by rw [hk6]; exact hrv⟩, ?_, fun k' hk' q1 q2 => ?_⟩
      · rw [h9', v4, if_pos rfl, h8, v3, hb3, v5]
      · have hkk : k' = k := by
          rw [h8, v3] at q2
          exact (nI_inj (by omega) (by omega) q2).symm
        subst hkk
        refine ⟨by rw [h9 k' hk']; exact v6, fun f hf => ?_⟩
        rw [htk f hf, hb4]
        exact w4 v2 f hf
    · refine ⟨Or.inr (h9'.trans v4), Or.inr ⟨a, ha, h8.trans v3, by rw [hk6' a ha hak]; exact v6⟩, ?_, fun k' hk' q1 q2 => ?_⟩
      · rw [h9', v4, if_neg one_ne0, hb3, v5]
      · rw [h9', v4] at q1; exact absurd q1 one_ne0
  · have hne : k' ≠ k := fun y => by subst y; rw [hk6] at q; rcases hrv with y | y <;> rw [y] at q <;> exact absurd q (by decide)
    rw [h9 k' hk']
    refine u9 k' hk' hne ?_
    rw [u7 k' hk' 6 (by omega), ← hk6' k' hk' hne]
    exact q
  · exact (hs 3 (by omega)).trans ((a6 3 (by omega) (by omega) (by omega)).trans u10)
  · rw [← u11]
    exact cP_congr (fun g _ hg => by rw [h9 g (by omega)])
  · rw [hb4] at q
    rcases a8 f hf with y | y | ⟨y1, y2⟩
    · rw [y] at q
      have hne : k' ≠ k := fun x => by subst x; exact hk1 f hf q
      rw [hk6' k' hk' hne]
      rw [u6 (b + 4) (by omega) (by omega)] at q
      exact hT f hf k' hk' q
    · rw [y] at q; exact absurd q (nI_m5' (by omega))
    · rw [y2] at q
      have := nI_inj (by omega) (by omega) q
      subst this
      rw [hk6, y1]; rfl
  · rw [hc b (by omega), a4, u4]
  · exact (hs 0 (by omega)).trans ((a6 0 (by omega) (by omega) (by omega)).trans u5)
  · rw [hF k' hk' 5 (by omega), if_neg (by omega), if_neg (by omega), u7 k' hk' 5 (by omega)]
