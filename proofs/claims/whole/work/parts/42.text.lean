/-! ===== the text: readers ===== -/
def Tc (T : Nat → Int32) (L p : Nat) (I : xI) : Prop := I 13 1 = nI L ∧ (∀ j, j < L → I 14 j = T j) ∧ I 13 2 = nI p
def Mt (T : Nat → Int32) (L p : Nat) (z : Int32) (J : xI) : Prop := J 69 8 = nI L ∧ (∀ j, j < L → J 75 j = T j) ∧ J 69 12 = nI p ∧ J 69 13 = z
/-- what readers of the class leave: cell 13's slot 2, and the rows of things -/
def frX (i : Nat) (I I' : xI) : Prop := (∀ k, (k < 13 ∨ k = 14 ∨ 18 < k) → I' k = I k) ∧ (∀ j, j ≠ 2 → I' 13 j = I 13 j) ∧ ∀ k, 15 ≤ k → k ≤ 18 → ∀ j, j ≠ i → I' k j = I k j
theorem frX.rf (i : Nat) (I : xI) : frX i I I := ⟨fun _ _ => rfl, fun _ _ => rfl, fun _ _ _ _ _ => rfl⟩
theorem frX.trans {i : Nat} {I I' I'' : xI} (h1 : frX i I I') (h2 : frX i I' I'') : frX i I I'' := ⟨fun k hk => (h2.1 k hk).trans (h1.1 k hk), fun j hj => (h2.2.1 j hj).trans (h1.2.1 j hj), fun k a b j hj => (h2.2.2 k a b j hj).trans (h1.2.2 k a b j hj)⟩
theorem frX.pos (i : Nat) (I : xI) (v : Int32) : frX i I (xup I 13 2 v) := ⟨fun k hk => by funext x; exact xup_cell (by omega), fun j hj => xup_slot hj, fun k a b j _ => xup_cell (by omega)⟩
theorem frX.row (i : Nat) (I : xI) {c : Nat} (h : 15 ≤ c ∧ c ≤ 18) (v : Int32) : frX i I (xup I c i v) := ⟨fun k hk => by funext x; exact xup_cell (by omega), fun j hj => xup_cell (by omega), fun k a b j hj => by
  by_cases z : k = c
  · subst z; exact xup_slot hj
  · exact xup_cell z⟩
theorem Tc.mv {T : Nat → Int32} {L p i : Nat} {I I' : xI} (h : Tc T L p I) (hf : frX i I I') {p' : Nat} (hp : I' 13 2 = nI p') : Tc T L p' I' := ⟨(hf.2.1 1 (by omega)).trans h.1, fun j hj => by rw [hf.1 14 (by omega)]; exact h.2.1 j hj, hp⟩
def ch (T : Nat → Int32) (L p : Nat) : Int32 := if p < L then T p else -5
theorem ff_look {T : Nat → Int32} {L p : Nat} {I : xI} (h : Tc T L p I) (hL : L ≤ 60) (hp : p ≤ L) : f_X0_look I = some (ch T L p, I) := by
  unfold f_X0_look ch
  rw [h.2.2, h.1, if_neg (nI_pos (by omega))]
  by_cases z : p < L
  · rw [if_neg (nI_ge z (by omega)), if_neg (show ¬ nI p ≥ (60 : Int32) from nI_ge (b := 60) (by omega) (by decide)), if_pos (xin_nI (by omega) (by decide)), nI_clamp (by omega), h.2.1 p z, if_pos z]
  · rw [if_pos (show nI p ≥ nI L by rw [show p = L by omega]; exact Int32.le_refl _), if_neg z]
/-- digits -/
def Dg (T : Nat → Int32) (L p d : Nat) : Prop := p < L ∧ d < 10 ∧ T p = nI (48 + d)
theorem Dg.uniq {T : Nat → Int32} {L p d d' : Nat} (h : Dg T L p d) (h' : Dg T L p d') : d = d' := by
  have := nI_inj (a := 48 + d) (b := 48 + d') (by have := h.2.1; omega) (by have := h'.2.1; omega) (h.2.2.symm.trans h'.2.2)
  omega
theorem tb13 : ∀ d, d < 10 → nI (48 + d) - (48 : Int32) = nI d := by decide +kernel
theorem ff_digit {T : Nat → Int32} {L p : Nat} (I : xI) : (∃ d, Dg T L p d ∧ f_X0_digitOf (ch T L p) I = some (nI d, I)) ∨ ((∀ d, ¬ Dg T L p d) ∧ f_X0_digitOf (ch T L p) I = some (-5, I)) := by
  unfold f_X0_digitOf ch
  by_cases z : p < L
  · rw [if_pos z]
    rcases nI_cases (T p) (n := 58) (by decide) with h | h | ⟨c, hc, h⟩
    · refine Or.inr ⟨fun d hd => nI_pos (n := 48 + d) (by have := hd.2.1; omega) (hd.2.2 ▸ h), ?_⟩
      rw [if_pos (Int32.lt_trans h (by decide))]
    · refine Or.inr ⟨fun d hd => ?_, ?_⟩
      · rw [hd.2.2] at h
        exact nI_ge (a := 48 + d) (b := 58) (by have := hd.2.1; omega) (by decide) h
      · rw [if_neg (Int32.not_lt.mpr (Int32.le_trans (show (48 : Int32) ≤ nI 58 by decide) h)), if_pos (Int32.lt_of_lt_of_le (show (57 : Int32) < nI 58 by decide) h)]
    · rw [h]
      by_cases h48 : c < 48
      · refine Or.inr ⟨fun d hd => ?_, ?_⟩
        · have := nI_inj (a := c) (b := 48 + d) (by omega) (by have := hd.2.1; omega) (h.symm.trans hd.2.2)
          omega
        · rw [if_pos (show nI c < (48 : Int32) from nI_lt (b := 48) h48 (by decide))]
      · refine Or.inl ⟨c - 48, ⟨z, by omega, by rw [h]; congr 1; omega⟩, ?_⟩
        rw [if_neg (show ¬ nI c < (48 : Int32) from nI_nlt (b := 48) (by omega) (by omega)), if_neg (show ¬ nI c > (57 : Int32) from nI_nlt (a := 57) (by omega) (by decide))]
        have := tb13 (c - 48) (by omega)
        rw [show 48 + (c - 48) = c by omega] at this
        rw [this]
  · rw [if_neg z]
    exact Or.inr ⟨fun d hd => z hd.1, by rw [if_pos (by decide)]⟩
/-- a number stands at p, up to p' -/
def Nm (T : Nat → Int32) (L least most p p' v : Nat) : Prop := ∃ d, Dg T L p d ∧ least ≤ d ∧ ((p' = p + 2 ∧ 0 < d ∧ ∃ e, Dg T L (p + 1) e ∧ 10 * d + e ≤ most ∧ v = 10 * d + e) ∨ (p' = p + 1 ∧ v = d ∧ ¬ (0 < d ∧ ∃ e, Dg T L (p + 1) e ∧ 10 * d + e ≤ most)))
theorem Nm.le {T : Nat → Int32} {L least most p p' v : Nat} (h : Nm T L least most p p' v) : p < p' ∧ p' ≤ L := by
  obtain ⟨d, h1, -, ⟨h2, -, e, h3, -⟩ | ⟨h2, -⟩⟩ := h
  · have := h3.1; omega
  · have := h1.1; omega
theorem Nm.val {T : Nat → Int32} {L least most p p' v : Nat} (h : Nm T L least most p p' v) (hm : 9 ≤ most) (hl : least ≤ 1) : least ≤ v ∧ v ≤ most := by
  obtain ⟨d, h1, h0, ⟨h2, h4, e, h3, h5, h6⟩ | ⟨h2, h3, -⟩⟩ := h
  · omega
  · have := h1.2.1; omega
theorem tb14 : ∀ d, d < 10 → ∀ e, e < 10 → nI d * (10 : Int32) + nI e = nI (10 * d + e) := by decide +kernel
/-- a part of a thing is put down -/
theorem ff_put {a i : Nat} {v : Int32} {I : xI} (hi : i < 60) : f_X0_putPart a (nI i) v I = some (0, xup I a i v) := by
  unfold f_X0_putPart
  rw [if_neg (nI_pos (by omega)), if_neg (show ¬ nI i ≥ (60 : Int32) from nI_ge (b := 60) hi (by decide)), if_pos (xin_nI hi (by decide)), nI_clamp (by omega)]
/-- the class reads a number -/
theorem ff_num {T : Nat → Int32} {L p i least most : Nat} {I : xI} (h : Tc T L p I) (hL : L ≤ 60) (hp : p ≤ L) (hi : i < 60) (hl : least ≤ 1) (hm : most ≤ 99) :
    (∃ p' v I', Nm T L least most p p' v ∧ f_X0_readNumber (nI i) (nI least) (nI most) I = some (1, I') ∧ frX i I I' ∧ I' 13 2 = nI p' ∧ I' 17 i = nI v ∧ ∀ k, k ≠ 17 → k ≠ 13 → I' k = I k) ∨ ((∀ p' v, ¬ Nm T L least most p p' v) ∧ f_X0_readNumber (nI i) (nI least) (nI most) I = some (0, I)) := by
  have e0 : f_X0_readNumber (nI i) (nI least) (nI most) I = xb (f_X0_digitOf (ch T L p) I) (fun r2 I2 => if r2 ≥ nI least then xb (f_X0_look (xup I2 13 2 ((I2 13 2) + (1 : Int32)))) (fun r3 I3 => xb (f_X0_digitOf r3 I3) (fun r4 I4 => if r2 ≤ 0 then some ((1 : Int32), (xup I4 17 i r2)) else if r4 < 0 then some ((1 : Int32), (xup I4 17 i r2)) else if ((r2 * (10 : Int32)) + r4) > nI most then some ((1 : Int32), (xup I4 17 i r2)) else some ((1 : Int32), (xup (xup I4 13 2 ((I4 13 2) + (1 : Int32))) 17 i ((r2 * (10 : Int32)) + r4))))) else some ((0 : Int32), I2)) := by
    unfold f_X0_readNumber
    rw [ff_look h hL hp, xb_some]
    simp only [ff_put hi, xb_some]
  rcases ff_digit (T := T) (L := L) (p := p) I with ⟨d, hd, h1⟩ | ⟨hd, h1⟩
  · by_cases hdl : least ≤ d
    · have hd10 := hd.2.1
      have hpL := hd.1
      have h1' : Tc T L (p + 1) (xup I 13 2 (nI (p + 1))) := h.mv (i := i) (frX.pos i I _) xup_at
      have e1 : f_X0_readNumber (nI i) (nI least) (nI most) I = xb (f_X0_digitOf (ch T L (p + 1)) (xup I 13 2 (nI (p + 1)))) (fun r4 I4 => if nI d ≤ 0 then some ((1 : Int32), (xup I4 17 i (nI d))) else if r4 < 0 then some ((1 : Int32), (xup I4 17 i (nI d))) else if ((nI d * (10 : Int32)) + r4) > nI most then some ((1 : Int32), (xup I4 17 i (nI d))) else some ((1 : Int32), (xup (xup I4 13 2 ((I4 13 2) + (1 : Int32))) 17 i ((nI d * (10 : Int32)) + r4)))) := by
        rw [e0, h1, xb_some, if_pos (show nI d ≥ nI least from Int32.not_lt.mp (nI_nlt hdl (by omega))), h.2.2, nI_1, ff_look h1' hL (by omega), xb_some]
      have one : ∀ (hno : ¬ (0 < d ∧ ∃ e, Dg T L (p + 1) e ∧ 10 * d + e ≤ most)), f_X0_readNumber (nI i) (nI least) (nI most) I = some (1, xup (xup I 13 2 (nI (p + 1))) 17 i (nI d)) → (∃ p' v I', Nm T L least most p p' v ∧ f_X0_readNumber (nI i) (nI least) (nI most) I = some (1, I') ∧ frX i I I' ∧ I' 13 2 = nI p' ∧ I' 17 i = nI v ∧ ∀ k, k ≠ 17 → k ≠ 13 → I' k = I k) := fun hno hq =>
        ⟨p + 1, d, _, ⟨d, hd, hdl, Or.inr ⟨rfl, rfl, hno⟩⟩, hq, (frX.pos i I _).trans (frX.row i _ (by omega) _), by rw [xup_cell (by decide), xup_at], xup_at, fun k a b => by funext x; rw [xup_cell a, xup_cell b]⟩
      left
      rcases ff_digit (T := T) (L := L) (p := p + 1) (xup I 13 2 (nI (p + 1))) with ⟨e, he, h2⟩ | ⟨he, h2⟩
      · have he10 := he.2.1
        by_cases hd0 : 0 < d
        · have n0 : ¬ nI d ≤ 0 := fun q => Int32.not_lt.mpr q (nI_lt (a := 0) hd0 (by omega))
          by_cases hle : 10 * d + e ≤ most
          · refine ⟨p + 2, 10 * d + e, xup (xup (xup I 13 2 (nI (p + 1))) 13 2 (nI (p + 1 + 1))) 17 i (nI (10 * d + e)), ⟨d, hd, hdl, Or.inl ⟨rfl, hd0, e, he, hle, rfl⟩⟩, ?_, ((frX.pos i I _).trans (frX.pos i _ _)).trans (frX.row i _ (by omega) _), by rw [xup_cell (by decide), xup_at], xup_at, fun k a b => by funext x; rw [xup_cell a, xup_cell b, xup_cell b]⟩
            rw [e1, h2, xb_some, if_neg n0, if_neg (nI_pos (by omega)), tb14 d hd10 e he10, if_neg (show ¬ nI (10 * d + e) > nI most from nI_nlt hle (by omega)), xup_at, nI_1]
          · refine one (fun q => ?_) ?_
            · obtain ⟨-, e', he', hle'⟩ := q
              have := he.uniq he'
              omega
            · rw [e1, h2, xb_some, if_neg n0, if_neg (nI_pos (by omega)), tb14 d hd10 e he10, if_pos (show nI (10 * d + e) > nI most from nI_lt (by omega) (by omega))]
        · refine one (fun q => hd0 q.1) ?_
          rw [e1, h2, xb_some, if_pos (show nI d ≤ 0 by rw [show d = 0 by omega]; exact Int32.le_refl _)]
      · refine one (fun q => ?_) ?_
        · obtain ⟨-, e', he', -⟩ := q
          exact he e' he'
        · rw [e1, h2, xb_some]
          split
          · rfl
          · rw [if_pos (by decide)]
    · refine Or.inr ⟨fun p' v hn => ?_, ?_⟩
      · obtain ⟨d', h3, h4, -⟩ := hn
        have := hd.uniq h3
        omega
      · have := hd.2.1
        rw [e0, h1, xb_some, if_neg (show ¬ nI d ≥ nI least from nI_ge (by omega) (by omega))]
  · refine Or.inr ⟨fun p' v hn => ?_, ?_⟩
    · obtain ⟨d', h3, -⟩ := hn
      exact hd d' h3
    · rw [e0, h1, xb_some, if_neg (show ¬ (-5 : Int32) ≥ nI least from fun q => absurd (Int32.le_trans (nI_pos' (n := least) (by omega)) q) (by decide))]
/-! the reference's readers -/
def frT (J J' : xI) : Prop := (∀ k, k ≠ 69 → J' k = J k) ∧ ∀ j, j ≠ 12 → j ≠ 13 → J' 69 j = J 69 j
theorem frT.rf (J : xI) : frT J J := ⟨fun _ _ => rfl, fun _ _ _ => rfl⟩
theorem frT.trans {J J' J'' : xI} (h1 : frT J J') (h2 : frT J' J'') : frT J J'' := ⟨fun k hk => (h2.1 k hk).trans (h1.1 k hk), fun j a b => (h2.2 j a b).trans (h1.2 j a b)⟩
theorem frT.up (J : xI) (z v : Int32) : frT J (xup (xup J 69 13 z) 69 12 v) := ⟨fun k hk => by funext x; rw [xup_cell hk, xup_cell hk], fun j a b => by rw [xup_slot a, xup_slot b]⟩
theorem Mt.mv {T : Nat → Int32} {L p : Nat} {z : Int32} {J J' : xI} (h : Mt T L p z J) (hf : frT J J') {p' : Nat} {z' : Int32} (hp : J' 69 12 = nI p') (hz : J' 69 13 = z') : Mt T L p' z' J' := ⟨(hf.2 8 (by omega) (by omega)).trans h.1, fun j hj => by rw [hf.1 75 (by omega)]; exact h.2.1 j hj, hp, hz⟩
theorem Mt.up {T : Nat → Int32} {L p : Nat} {z : Int32} {J : xI} (h : Mt T L p z J) (p' : Nat) (z' : Int32) : Mt T L p' z' (xup (xup J 69 13 z') 69 12 (nI p')) := h.mv (frT.up J _ _) xup_at (by rw [xup_slot (by omega), xup_at])
/-- a character out of a range stands at p -/
def Ran (T : Nat → Int32) (L p a b c : Nat) : Prop := p < L ∧ a ≤ c ∧ c ≤ b ∧ T p = nI c
theorem takes47 {J : xI} {p : Nat} (a l3 : Int32) (h12 : J 69 12 = nI p) : f_X7_takes_47 a l3 0 J = some (l3 - a, xup (xup J 69 13 0) 69 12 (nI (p + 1))) ∧ f_X7_takes_47 a l3 1 J = some (l3 - a, xup (xup J 69 13 1) 69 12 (nI p)) := by
  unfold f_X7_takes_47
  rw [if_pos (Or.inl rfl), if_pos (Or.inr rfl), xup_at, xup_at, if_pos rfl, if_neg one_ne0, xup_slot (by omega), xup_slot (by omega), h12, nI_1, nI_p0]
  exact ⟨rfl, rfl⟩
theorem gg_takes {T : Nat → Int32} {L p a b : Nat} {J : xI} (h : Mt T L p 0 J) (hL : L ≤ 60) (hp : p ≤ L) (ha : 1 ≤ a) (hab : a ≤ b) (hb : b ≤ 70000) :
    (∀ c, Ran T L p a b c → f_X7_takes (nI a) (nI b) J = some (nI c - nI a, xup (xup J 69 13 0) 69 12 (nI (p + 1)))) ∧ ((∀ c, ¬ Ran T L p a b c) → ∃ v, f_X7_takes (nI a) (nI b) J = some (v, xup (xup J 69 13 1) 69 12 (nI p))) := by
  obtain ⟨h1, h2, h3, h4⟩ := h
  have h24 : ∀ s0, f_X7_takes_24 (nI a) (nI b) s0 J = xb (f_X7_in s0 (nI a) (nI b) J) (fun r2 I2 => if r2 ≠ 0 then f_X7_takes_47 (nI a) s0 (0 : Int32) I2 else f_X7_takes_47 (nI a) s0 (1 : Int32) I2) := fun s0 => by
    unfold f_X7_takes_24
    rw [h4, if_neg (fun q => q rfl)]
  by_cases z : p < L
  · have e : f_X7_takes (nI a) (nI b) J = f_X7_takes_24 (nI a) (nI b) (T p) J := by
      unfold f_X7_takes
      rw [h3, h1, if_neg (nI_ge z (by omega)), if_pos (xin_nI (by omega) (by decide)), nI_clamp (by omega), h2 p z]
    refine ⟨fun c hc => ?_, fun hno => ⟨T p - nI a, ?_⟩⟩
    · rw [e, h24, hc.2.2.2, gg_in_yes hc.2.1 hc.2.2.1 (by omega), xb_some, if_pos one_ne0, (takes47 _ _ h3).1]
    · rw [e, h24, gg_in_no (by omega) (by omega) (fun n x y q => hno n ⟨z, x, y, q⟩), xb_some, if_neg (fun q => q rfl), (takes47 _ _ h3).2]
  · have e : f_X7_takes (nI a) (nI b) J = f_X7_takes_24 (nI a) (nI b) 0 J := by
      unfold f_X7_takes
      rw [h3, h1, if_pos (show nI p ≥ nI L by rw [show p = L by omega]; exact Int32.le_refl _)]
    refine ⟨fun c hc => absurd hc.1 z, fun _ => ⟨0 - nI a, ?_⟩⟩
    rw [e, h24, show f_X7_in (0 : Int32) (nI a) (nI b) J = some (0, J) from gg_in_no (by omega) (by omega) (fun n x y q => absurd (nI_inj (a := 0) (by omega) (by omega) q) (by omega)) J, xb_some, if_neg (fun q => q rfl), (takes47 _ _ h3).2]
theorem gg_isNext {T : Nat → Int32} {L p a b : Nat} {z : Int32} {J : xI} (h : Mt T L p z J) (hL : L ≤ 60) (hp : p ≤ L) (hab : a ≤ b) (hb : b ≤ 70000) :
    (∀ c, z = 0 → Ran T L p a b c → f_X7_isNext (nI a) (nI b) J = some (1, J)) ∧ ((z ≠ 0 ∨ ∀ c, ¬ Ran T L p a b c) → f_X7_isNext (nI a) (nI b) J = some (0, J)) := by
  obtain ⟨h1, h2, h3, h4⟩ := h
  unfold f_X7_isNext
  rw [h4, h3, h1]
  refine ⟨fun c hz hc => ?_, fun hno => ?_⟩
  · have hpL := hc.1
    rw [if_neg (fun q => q hz), if_neg (nI_ge hc.1 (by omega)), if_pos (xin_nI (by omega) (by decide)), nI_clamp (by omega), h2 p hc.1, hc.2.2.2, gg_in_yes hc.2.1 hc.2.2.1 (by omega), xb_some, if_neg one_ne0]
  · by_cases hz : z = 0
    · rw [if_neg (fun q => q hz)]
      by_cases hpL : p < L
      · rw [if_neg (nI_ge hpL (by omega)), if_pos (xin_nI (by omega) (by decide)), nI_clamp (by omega), h2 p hpL, gg_in_no (by omega) (by omega) (fun n x y q => (hno.elim (fun q => absurd hz q) id) n ⟨hpL, x, y, q⟩), xb_some, if_pos rfl]
      · rw [if_pos (show nI p ≥ nI L by rw [show p = L by omega]; exact Int32.le_refl _)]
    · rw [if_pos hz]
theorem Dg.ran {T : Nat → Int32} {L p d least : Nat} (h : Dg T L p d) (hl : least ≤ d) : Ran T L p (48 + least) 57 (48 + d) := ⟨h.1, by omega, by have := h.2.1; omega, h.2.2⟩
theorem Ran.dg {T : Nat → Int32} {L p c least : Nat} (h : Ran T L p (48 + least) 57 c) : Dg T L p (c - 48) ∧ least ≤ c - 48 := by
  obtain ⟨h1, h2, h3, h4⟩ := h
  exact ⟨⟨h1, by omega, by rw [h4]; congr 1; omega⟩, by omega⟩
theorem tb15 : ∀ v, v < 100 → ∀ d, d < 10 → (((10 : Int32) * nI v) + nI (48 + d)) - (48 : Int32) = nI (10 * v + d) ∧ (10 : Int32) * nI v + (nI (48 + d) - nI 48) = nI (10 * v + d) := by decide +kernel
/-- the loop of takesNumber, at a number that can have no more digit -/
theorem tn_stop {T : Nat → Int32} {L p v most n : Nat} {J : xI} (h : Mt T L p 0 J) (hL : L ≤ 60) (hp : p ≤ L) (hv : v < 100) (hm : most ≤ 99) (hno : ∀ e, Dg T L p e → most < 10 * v + e) : f_X7_takesNumber_24 (n + 2) (nI most) (nI v) 1 J = some (nI v, J) := by
  have e0 : ∀ n', f_X7_takesNumber_24 (n' + 1) (nI most) (nI v) 0 J = some (nI v, J) := fun n' => by
    show f_X7_takesNumber_24b _ (nI most) (nI v) 0 J = _
    unfold f_X7_takesNumber_24b
    rw [if_pos rfl]
  show f_X7_takesNumber_24b _ (nI most) (nI v) 1 J = _
  unfold f_X7_takesNumber_24b f_X7_takesNumber_66
  rw [if_neg one_ne0]
  have hN := gg_isNext (a := 48) (b := 57) h hL hp (by omega) (by omega)
  by_cases hd : ∃ e, Dg T L p e
  · obtain ⟨e, he⟩ := hd
    have he10 := he.2.1
    have hpL := he.1
    rw [show f_X7_isNext (48 : Int32) (57 : Int32) J = _ from hN.1 (48 + e) rfl (he.ran (least := 0) (by omega)), xb_some, if_neg one_ne0, h.2.2.1, if_pos (xin_nI (by omega) (by decide)), nI_clamp (by omega), h.2.1 p hpL, he.2.2, (tb15 v hv e he10).1, if_pos (show nI (10 * v + e) > nI most from nI_lt (hno e he) (by omega)), if_pos rfl]
    exact e0 n
  · rw [show f_X7_isNext (48 : Int32) (57 : Int32) J = _ from hN.2 (Or.inr (fun c hc => hd ⟨c - 48, (Ran.dg (least := 0) hc).1⟩)), xb_some, if_pos rfl, if_pos rfl]
    exact e0 n
theorem gg_num {T : Nat → Int32} {L p least most : Nat} {J : xI} (h : Mt T L p 0 J) (hL : L ≤ 60) (hp : p ≤ L) (hl : least ≤ 1) (hm : most ≤ 99) :
    (∀ p' v, Nm T L least most p p' v → ∃ J', f_X7_takesNumber (nI least) (nI most) J = some (nI v, J') ∧ Mt T L p' 0 J' ∧ frT J J') ∧ ((∀ p' v, ¬ Nm T L least most p p' v) → ∃ v J', f_X7_takesNumber (nI least) (nI most) J = some (v, J') ∧ Mt T L p 1 J' ∧ frT J J') := by
  have hT := gg_takes (a := 48 + least) (b := 57) h hL hp (by omega) (by omega) (by omega)
  refine ⟨fun p' v hn => ?_, fun hno => ?_⟩
  · obtain ⟨d, hd, hdl, hcase⟩ := hn
    have hd10 := hd.2.1
    have hpL := hd.1
    have M1 := h.up (p + 1) 0
    have hv : nI least + (nI (48 + d) - nI (48 + least)) = nI d := by
      have : ∀ l, l < 2 → ∀ d, d < 10 → nI l + (nI (48 + d) - nI (48 + l)) = nI d := by decide +kernel
      exact this least (by omega) d hd10
    have e : f_X7_takesNumber (nI least) (nI most) J = if nI d ≤ 0 then f_X7_takesNumber_24 xZ (nI most) (nI d) 0 (xup (xup J 69 13 0) 69 12 (nI (p + 1))) else f_X7_takesNumber_24 xZ (nI most) (nI d) 1 (xup (xup J 69 13 0) 69 12 (nI (p + 1))) := by
      unfold f_X7_takesNumber
      rw [show (48 : Int32) + nI least = nI (48 + least) from nI_add 48 least, show f_X7_takes (nI (48 + least)) (57 : Int32) J = _ from hT.1 _ (hd.ran hdl), xb_some, hv]
    have fr1 : frT J (xup (xup J 69 13 0) 69 12 (nI (p + 1))) := frT.up J _ _
    generalize hJ1 : xup (xup J 69 13 0) 69 12 (nI (p + 1)) = J1 at e M1 fr1
    rcases hcase with ⟨q1, q2, e2, he, hle, q3⟩ | ⟨q1, q2, hno⟩
    · have he10 := he.2.1
      have hpL2 := he.1
      have M2 := M1.up (p + 1 + 1) 0
      have hN := gg_isNext (a := 48) (b := 57) M1 hL (by omega) (by omega) (by omega)
      have hT2 := (gg_takes (a := 48) (b := 57) M1 hL (by omega) (by omega) (by omega) (by omega)).1 _ (he.ran (least := 0) (by omega))
      refine ⟨xup (xup J1 69 13 0) 69 12 (nI (p + 1 + 1)), ?_, by rw [q1]; exact M2, fr1.trans (frT.up J1 _ _)⟩
      rw [e, if_neg (show ¬ nI d ≤ (0 : Int32) from fun q => Int32.not_lt.mpr q (nI_lt (a := 0) q2 (by omega)))]
      show f_X7_takesNumber_24b (fun l2 l3 l4 I => f_X7_takesNumber_24 3999 l2 l3 l4 I) (nI most) (nI d) 1 J1 = _
      unfold f_X7_takesNumber_24b f_X7_takesNumber_66
      rw [if_neg one_ne0, show f_X7_isNext (48 : Int32) (57 : Int32) J1 = _ from hN.1 (48 + e2) rfl (he.ran (least := 0) (by omega)), xb_some, if_neg one_ne0, M1.2.2.1, if_pos (xin_nI (by omega) (by decide)), nI_clamp (by omega), M1.2.1 (p + 1) hpL2, he.2.2, (tb15 d (by omega) e2 he10).1, if_neg (show ¬ nI (10 * d + e2) > nI most from nI_nlt hle (by omega)), if_neg one_ne0, show f_X7_takes (48 : Int32) (57 : Int32) J1 = _ from hT2, xb_some, (tb15 d (by omega) e2 he10).2, q3]
      exact tn_stop (n := 3997) M2 hL (by omega) (by omega) hm (fun e' he' => by omega)
    · refine ⟨J1, ?_, by rw [q1]; exact M1, fr1⟩
      rw [e, q2]
      by_cases hd0 : 0 < d
      · rw [if_neg (show ¬ nI d ≤ (0 : Int32) from fun q => Int32.not_lt.mpr q (nI_lt (a := 0) hd0 (by omega)))]
        exact tn_stop (n := 3998) M1 hL (by omega) (by omega) hm (fun e' he' => by
          rcases Nat.lt_or_ge most (10 * d + e') with y | y
          · exact y
          · exact absurd ⟨hd0, e', he', y⟩ hno)
      · rw [if_pos (show nI d ≤ 0 by rw [show d = 0 by omega]; exact Int32.le_refl _)]
        show f_X7_takesNumber_24b (fun l2 l3 l4 I => f_X7_takesNumber_24 3999 l2 l3 l4 I) (nI most) (nI d) 0 J1 = _
        unfold f_X7_takesNumber_24b
        rw [if_pos rfl]
  · obtain ⟨v, hv⟩ := hT.2 (fun c hc => by
      obtain ⟨h1, h2⟩ := hc.dg
      by_cases y : 0 < c - 48 ∧ ∃ e, Dg T L (p + 1) e ∧ 10 * (c - 48) + e ≤ most
      · obtain ⟨y1, e, y2, y3⟩ := y
        exact hno _ _ ⟨c - 48, h1, h2, Or.inl ⟨rfl, y1, e, y2, y3, rfl⟩⟩
      · exact hno _ _ ⟨c - 48, h1, h2, Or.inr ⟨rfl, rfl, y⟩⟩)
    have M1 := h.up p 1
    have fr1 : frT J (xup (xup J 69 13 1) 69 12 (nI p)) := frT.up J _ _
    generalize hJ1 : xup (xup J 69 13 1) 69 12 (nI p) = J1 at hv M1 fr1
    have e : f_X7_takesNumber (nI least) (nI most) J = if nI least + v ≤ 0 then f_X7_takesNumber_24 xZ (nI most) (nI least + v) 0 J1 else f_X7_takesNumber_24 xZ (nI most) (nI least + v) 1 J1 := by
      unfold f_X7_takesNumber
      rw [show (48 : Int32) + nI least = nI (48 + least) from nI_add 48 least, show f_X7_takes (nI (48 + least)) (57 : Int32) J = _ from hv, xb_some]
    have hN := (gg_isNext (a := 48) (b := 57) M1 hL hp (by omega) (by omega)).2 (Or.inl one_ne0)
    have e0 : ∀ n', f_X7_takesNumber_24 (n' + 1) (nI most) (nI least + v) 0 J1 = some (nI least + v, J1) := fun n' => by
      show f_X7_takesNumber_24b _ (nI most) (nI least + v) 0 J1 = _
      unfold f_X7_takesNumber_24b
      rw [if_pos rfl]
    refine ⟨nI least + v, J1, ?_, M1, fr1⟩
    rw [e]
    split
    · exact e0 3999
    · show f_X7_takesNumber_24b (fun l2 l3 l4 I => f_X7_takesNumber_24 3999 l2 l3 l4 I) (nI most) (nI least + v) 1 J1 = _
      unfold f_X7_takesNumber_24b f_X7_takesNumber_66
      rw [if_neg one_ne0, show f_X7_isNext (48 : Int32) (57 : Int32) J1 = _ from hN, xb_some, if_pos rfl, if_pos rfl]
      exact e0 3998
