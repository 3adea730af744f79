/-! ===== the text: signs, things ===== -/
def KC : List Nat := [102, 103, 99, 116]
def SC : List Nat := [110, 101, 115, 119]
def Sn (cs : List Nat) (T : Nat → Int32) (L p k : Nat) : Prop := p < L ∧ k < 4 ∧ T p = nI (cs.getD k 0)
theorem Sn.no {cs : List Nat} {T : Nat → Int32} {L p : Nat} (h : ¬ p < L ∨ (T p ≠ nI (cs.getD 0 0) ∧ T p ≠ nI (cs.getD 1 0) ∧ T p ≠ nI (cs.getD 2 0) ∧ T p ≠ nI (cs.getD 3 0))) : ∀ k, ¬ Sn cs T L p k := by
  rintro k ⟨h1, h2, h3⟩
  rcases h with h | ⟨a, b, c, d⟩
  · exact h h1
  · have : k = 0 ∨ k = 1 ∨ k = 2 ∨ k = 3 := by omega
    rcases this with rfl | rfl | rfl | rfl
    · exact a h3
    · exact b h3
    · exact c h3
    · exact d h3
theorem ff_kind {T : Nat → Int32} {L p : Nat} (I : xI) : (∃ k, Sn KC T L p k ∧ f_X0_kindOf (ch T L p) I = some (nI k, I)) ∨ ((∀ k, ¬ Sn KC T L p k) ∧ f_X0_kindOf (ch T L p) I = some (-5, I)) := by
  unfold f_X0_kindOf ch
  by_cases z : p < L
  · rw [if_pos z]
    by_cases a : T p = 99
    · exact Or.inl ⟨2, ⟨z, by omega, a⟩, by rw [if_pos a]; rfl⟩
    · by_cases b : T p = 102
      · exact Or.inl ⟨0, ⟨z, by omega, b⟩, by rw [if_neg a, if_pos b]; rfl⟩
      · by_cases c : T p = 103
        · exact Or.inl ⟨1, ⟨z, by omega, c⟩, by rw [if_neg a, if_neg b, if_pos c]; rfl⟩
        · by_cases d : T p = 116
          · exact Or.inl ⟨3, ⟨z, by omega, d⟩, by rw [if_neg a, if_neg b, if_neg c, if_pos d]; rfl⟩
          · exact Or.inr ⟨Sn.no (Or.inr ⟨b, c, a, d⟩), by rw [if_neg a, if_neg b, if_neg c, if_neg d]⟩
  · rw [if_neg z]
    exact Or.inr ⟨Sn.no (Or.inl z), by rw [if_neg (by decide), if_neg (by decide), if_neg (by decide), if_neg (by decide)]⟩
theorem ff_side {T : Nat → Int32} {L p : Nat} (I : xI) : (∃ k, Sn SC T L p k ∧ f_X0_sideOf (ch T L p) I = some (nI k, I)) ∨ ((∀ k, ¬ Sn SC T L p k) ∧ f_X0_sideOf (ch T L p) I = some (-5, I)) := by
  unfold f_X0_sideOf ch
  by_cases z : p < L
  · rw [if_pos z]
    by_cases a : T p = 101
    · exact Or.inl ⟨1, ⟨z, by omega, a⟩, by rw [if_pos a]; rfl⟩
    · by_cases b : T p = 110
      · exact Or.inl ⟨0, ⟨z, by omega, b⟩, by rw [if_neg a, if_pos b]; rfl⟩
      · by_cases c : T p = 115
        · exact Or.inl ⟨2, ⟨z, by omega, c⟩, by rw [if_neg a, if_neg b, if_pos c]; rfl⟩
        · by_cases d : T p = 119
          · exact Or.inl ⟨3, ⟨z, by omega, d⟩, by rw [if_neg a, if_neg b, if_neg c, if_pos d]; rfl⟩
          · exact Or.inr ⟨Sn.no (Or.inr ⟨b, a, c, d⟩), by rw [if_neg a, if_neg b, if_neg c, if_neg d]⟩
  · rw [if_neg z]
    exact Or.inr ⟨Sn.no (Or.inl z), by rw [if_neg (by decide), if_neg (by decide), if_neg (by decide), if_neg (by decide)]⟩
/-- the signs of the reference, told as one number -/
def SgN (l1 : Int32) (cs : List Nat) : Prop := (∀ k, k < 4 → (l1 >>> (((8 : Int32) * nI k) &&& 31)) &&& (255 : Int32) = nI (cs.getD k 0)) ∧ (∀ j, j < 4 → ∀ k, k < 4 → j ≠ k → nI (cs.getD j 0) ≠ nI (cs.getD k 0)) ∧ ∀ k, k < 4 → nI (cs.getD k 0) ≠ 0
theorem SgK : SgN 1952671590 KC := by unfold SgN; refine ⟨?_, ?_, ?_⟩ <;> decide +kernel
theorem SgS : SgN 2004051310 SC := by unfold SgN; refine ⟨?_, ?_, ?_⟩ <;> decide +kernel
theorem sg_step {l1 c found : Int32} {cs : List Nat} (h : SgN l1 cs) {k : Nat} (hk : k < 4) (n : Nat) (J : xI) : f_X7_takesSign_32 (n + 1) l1 4 c found (nI k) J = if nI (cs.getD k 0) ≠ c then f_X7_takesSign_32 n l1 4 c found (nI (k + 1)) J else f_X7_takesSign_32 n l1 4 c (nI k) (nI (k + 1)) J := by
  show f_X7_takesSign_32b _ l1 4 c found (nI k) J = _
  unfold f_X7_takesSign_32b
  rw [if_neg (show ¬ nI k ≥ (4 : Int32) from nI_ge (b := 4) hk (by decide)), h.1 k hk, nI_1]
theorem sg_end {l1 c found : Int32} (n : Nat) (J : xI) : f_X7_takesSign_32 (n + 1) l1 4 c found (nI 4) J = if J 69 13 ≠ 0 then f_X7_takesSign_88 found 1 J else if found ≠ -5 then f_X7_takesSign_88 found 0 J else f_X7_takesSign_88 found 1 J := by
  show f_X7_takesSign_32b _ l1 4 c found (nI 4) J = _
  unfold f_X7_takesSign_32b
  rw [if_pos (show nI 4 ≥ (4 : Int32) from Int32.le_refl _)]
theorem sg88 {J : xI} {p : Nat} (f : Int32) (h12 : J 69 12 = nI p) : f_X7_takesSign_88 f 0 J = some (f, xup (xup J 69 13 0) 69 12 (nI (p + 1))) ∧ f_X7_takesSign_88 f 1 J = some (f, xup (xup J 69 13 1) 69 12 (nI p)) := by
  unfold f_X7_takesSign_88
  rw [if_pos (Or.inl rfl), if_pos (Or.inr rfl), xup_at, xup_at, if_pos rfl, if_neg one_ne0, xup_slot (by omega), xup_slot (by omega), h12, nI_1, nI_p0]
  exact ⟨rfl, rfl⟩
theorem sg_c {T : Nat → Int32} {L p : Nat} {z : Int32} {J : xI} (h : Mt T L p z J) (hL : L ≤ 60) (hp : p ≤ L) (l1 : Int32) : f_X7_takesSign l1 4 J = f_X7_takesSign_32 4000 l1 4 (if p < L then T p else 0) (-5) (nI 0) J := by
  unfold f_X7_takesSign
  rw [h.2.2.1, h.1]
  by_cases y : p < L
  · rw [if_neg (nI_ge y (by omega)), if_pos (xin_nI (by omega) (by decide)), nI_clamp (by omega), h.2.1 p y, if_pos y]
    rfl
  · rw [if_pos (show nI p ≥ nI L by rw [show p = L by omega]; exact Int32.le_refl _), if_neg y]
    rfl
theorem gg_sign {T : Nat → Int32} {L p : Nat} {J : xI} {l1 : Int32} {cs : List Nat} (hs : SgN l1 cs) (h : Mt T L p 0 J) (hL : L ≤ 60) (hp : p ≤ L) :
    (∀ k, Sn cs T L p k → ∃ J', f_X7_takesSign l1 4 J = some (nI k, J') ∧ Mt T L (p + 1) 0 J' ∧ frT J J') ∧ ((∀ k, ¬ Sn cs T L p k) → ∃ J', f_X7_takesSign l1 4 J = some (-5, J') ∧ Mt T L p 1 J' ∧ frT J J') := by
  have hc := sg_c h hL hp l1
  refine ⟨fun k hk => ⟨_, ?_, h.up (p + 1) 0, frT.up J _ _⟩, fun hno => ⟨_, ?_, h.up p 1, frT.up J _ _⟩⟩
  · obtain ⟨k1, k2, k3⟩ := hk
    rw [hc, if_pos k1, k3]
    have hne : ∀ j, j < 4 → j ≠ k → nI (cs.getD j 0) ≠ nI (cs.getD k 0) := fun j hj hjk => hs.2.1 j hj k k2 hjk
    have hend : ∀ n, f_X7_takesSign_32 (n + 1) l1 4 (nI (cs.getD k 0)) (nI k) (nI 4) J = some (nI k, xup (xup J 69 13 0) 69 12 (nI (p + 1))) := fun n => by
      rw [sg_end, if_neg (fun q => q h.2.2.2), if_pos (show nI k ≠ -5 from nI_m5 (by omega)), (sg88 _ h.2.2.1).1]
    have : k = 0 ∨ k = 1 ∨ k = 2 ∨ k = 3 := by omega
    rw [sg_step hs (n := 3999) (by omega), sg_step hs (n := 3998) (by omega), sg_step hs (n := 3998) (by omega), sg_step hs (n := 3997) (by omega), sg_step hs (n := 3997) (by omega), sg_step hs (n := 3997) (by omega), sg_step hs (n := 3996) (by omega), sg_step hs (n := 3996) (by omega), sg_step hs (n := 3996) (by omega), sg_step hs (n := 3996) (by omega)]
    rcases this with rfl | rfl | rfl | rfl
    · rw [if_neg (fun q => q rfl), if_pos (hne (0 + 1) (by omega) (by omega)), if_pos (hne (0 + 1 + 1) (by omega) (by omega)), if_pos (hne (0 + 1 + 1 + 1) (by omega) (by omega))]
      exact hend 3995
    · rw [if_pos (hne 0 (by omega) (by omega)), if_neg (show ¬ nI (cs.getD (0 + 1) 0) ≠ nI (cs.getD 1 0) from fun q => q rfl), if_pos (hne (0 + 1 + 1) (by omega) (by omega)), if_pos (hne (0 + 1 + 1 + 1) (by omega) (by omega))]
      exact hend 3995
    · rw [if_pos (hne 0 (by omega) (by omega)), if_pos (hne (0 + 1) (by omega) (by omega)), if_neg (show ¬ nI (cs.getD (0 + 1 + 1) 0) ≠ nI (cs.getD 2 0) from fun q => q rfl), if_pos (hne (0 + 1 + 1 + 1) (by omega) (by omega))]
      exact hend 3995
    · rw [if_pos (hne 0 (by omega) (by omega)), if_pos (hne (0 + 1) (by omega) (by omega)), if_pos (hne (0 + 1 + 1) (by omega) (by omega)), if_neg (show ¬ nI (cs.getD (0 + 1 + 1 + 1) 0) ≠ nI (cs.getD 3 0) from fun q => q rfl)]
      exact hend 3995
  · have hne : ∀ j, j < 4 → nI (cs.getD j 0) ≠ (if p < L then T p else 0) := fun j hj => by
      by_cases y : p < L
      · rw [if_pos y]; exact fun q => hno j ⟨y, hj, q.symm⟩
      · rw [if_neg y]; exact hs.2.2 j hj
    rw [hc, sg_step hs (n := 3999) (by omega), if_pos (hne 0 (by omega)), sg_step hs (n := 3998) (by omega), if_pos (hne (0 + 1) (by omega)), sg_step hs (n := 3997) (by omega), if_pos (hne (0 + 1 + 1) (by omega)), sg_step hs (n := 3996) (by omega), if_pos (hne (0 + 1 + 1 + 1) (by omega))]
    refine (sg_end 3995 J).trans ?_
    rw [if_neg (fun q => q h.2.2.2), if_neg (show ¬ (-5 : Int32) ≠ -5 from fun q => q rfl), (sg88 _ h.2.2.1).2]
theorem gg_signW {T : Nat → Int32} {L p : Nat} {J : xI} {l1 : Int32} {cs : List Nat} (hs : SgN l1 cs) (h : Mt T L p 1 J) (hL : L ≤ 60) (hp : p ≤ L) : ∃ v J', f_X7_takesSign l1 4 J = some (v, J') ∧ Mt T L p 1 J' ∧ frT J J' := by
  have hst : ∀ n k c found, k < 4 → ∃ found', f_X7_takesSign_32 (n + 1) l1 4 c found (nI k) J = f_X7_takesSign_32 n l1 4 c found' (nI (k + 1)) J := fun n k c found hk => by
    rw [sg_step hs hk]
    split
    · exact ⟨_, rfl⟩
    · exact ⟨_, rfl⟩
  obtain ⟨f1, e1⟩ := hst 3999 0 (if p < L then T p else 0) (-5) (by omega)
  obtain ⟨f2, e2⟩ := hst 3998 1 (if p < L then T p else 0) f1 (by omega)
  obtain ⟨f3, e3⟩ := hst 3997 2 (if p < L then T p else 0) f2 (by omega)
  obtain ⟨f4, e4⟩ := hst 3996 3 (if p < L then T p else 0) f3 (by omega)
  refine ⟨f4, _, ?_, h.up p 1, frT.up J _ _⟩
  rw [sg_c h hL hp l1]
  refine (((e1.trans e2).trans e3).trans e4).trans ?_
  refine (sg_end 3995 J).trans ?_
  rw [if_pos (by rw [h.2.2.2]; exact one_ne0), (sg88 _ h.2.2.1).2]
/-- a thing of a game stands at p, up to p' -/
def Th (T : Nat → Int32) (L p p' kd pl nu sd : Nat) : Prop :=
  (kd = 4 ∧ p < L ∧ T p = nI 46 ∧ Nm T L 1 99 (p + 1) p' nu) ∨
  (p < L ∧ pl < 2 ∧ T p = nI (48 + pl) ∧ Sn KC T L (p + 1) kd ∧ ((kd = 2 ∧ Nm T L 0 47 (p + 2) p' nu) ∨ (kd = 3 ∧ Nm T L 1 99 (p + 2) p' nu) ∨ (kd < 2 ∧ ∃ p2, Nm T L 0 47 (p + 2) p2 nu ∧ Sn SC T L p2 sd ∧ p' = p2 + 1)))
/-- a thing that stands at p has its fault at q -/
def Fa (T : Nat → Int32) (L p q : Nat) : Prop :=
  (q = p ∧ ¬ (p < L ∧ T p = nI 46) ∧ ∀ pl, ¬ (p < L ∧ pl < 2 ∧ T p = nI (48 + pl))) ∨
  (q = p + 1 ∧ p < L ∧ T p = nI 46 ∧ ∀ p' v, ¬ Nm T L 1 99 (p + 1) p' v) ∨
  (∃ pl, p < L ∧ pl < 2 ∧ T p = nI (48 + pl) ∧ ((q = p + 1 ∧ ∀ k, ¬ Sn KC T L (p + 1) k) ∨ ∃ kd, Sn KC T L (p + 1) kd ∧ ((kd = 2 ∧ q = p + 2 ∧ ∀ p' v, ¬ Nm T L 0 47 (p + 2) p' v) ∨ (kd = 3 ∧ q = p + 2 ∧ ∀ p' v, ¬ Nm T L 1 99 (p + 2) p' v) ∨ (kd < 2 ∧ ((q = p + 2 ∧ ∀ p' v, ¬ Nm T L 0 47 (p + 2) p' v) ∨ ∃ p2 v, Nm T L 0 47 (p + 2) p2 v ∧ q = p2 ∧ ∀ k, ¬ Sn SC T L p2 k)))))
theorem Th.le {T : Nat → Int32} {L p p' kd pl nu sd : Nat} (h : Th T L p p' kd pl nu sd) : p < p' ∧ p' ≤ L := by
  rcases h with ⟨-, h1, -, h2⟩ | ⟨h1, -, -, -, ⟨-, h2⟩ | ⟨-, h2⟩ | ⟨-, p2, h2, h3, h4⟩⟩
  · have := h2.le; omega
  · have := h2.le; omega
  · have := h2.le; omega
  · have := h2.le; have := h3.1; omega
/-- the class reads a thing -/
theorem ff_thing {T : Nat → Int32} {L p i : Nat} {I : xI} (h : Tc T L p I) (hL : L ≤ 60) (hp : p ≤ L) (hi : i < 60) :
    (∃ p' kd pl nu sd I', Th T L p p' kd pl nu sd ∧ f_X0_readThing (nI i) I = some (1, I') ∧ frX i I I' ∧ I' 13 2 = nI p' ∧ I' 15 i = nI kd ∧ I' 17 i = nI nu ∧ (kd ≠ 4 → I' 16 i = nI pl) ∧ (kd < 2 → I' 18 i = nI sd)) ∨ (∃ q I', Fa T L p q ∧ f_X0_readThing (nI i) I = some (0, I') ∧ frX i I I' ∧ I' 13 2 = nI q) := by
  have hxi : xin (nI i) 60 := xin_nI hi (by decide)
  have hcl : (nI i).toNatClampNeg = i := nI_clamp (by omega)
  have hlk := ff_look h hL hp
  by_cases hdot : p < L ∧ T p = nI 46
  · obtain ⟨z, zd⟩ := hdot
    have e : f_X0_readThing (nI i) I = xb (f_X0_readNumber (nI i) (nI 1) (nI 99) (xup (xup I 13 2 (nI (p + 1))) 15 i (nI 4))) (fun r6 I6 => if r6 = 0 ∨ r6 = 1 then some (r6, I6) else none) := by
      unfold f_X0_readThing
      rw [hlk, xb_some, show ch T L p = (46 : Int32) by unfold ch; rw [if_pos z, zd]; rfl, if_neg (show ¬ (46 : Int32) ≠ 46 from fun q => q rfl), ff_put hi, xb_some, h.2.2, nI_1]
      rfl
    have f1 : frX i I (xup (xup I 13 2 (nI (p + 1))) 15 i (nI 4)) := (frX.pos i I _).trans (frX.row i _ (by omega) _)
    have T1 : Tc T L (p + 1) (xup (xup I 13 2 (nI (p + 1))) 15 i (nI 4)) := h.mv f1 (by rw [xup_cell (by decide), xup_at])
    have h15 : xup (xup I 13 2 (nI (p + 1))) 15 i (nI 4) 15 i = nI 4 := xup_at
    generalize xup (xup I 13 2 (nI (p + 1))) 15 i (nI 4) = I1 at e f1 T1 h15
    rcases ff_num (least := 1) (most := 99) T1 hL (by omega) hi (by omega) (by omega) with ⟨p', v, I', n1, n2, n3, n4, n5, n6⟩ | ⟨n1, n2⟩
    · exact Or.inl ⟨p', 4, 0, v, 0, I', Or.inl ⟨rfl, z, zd, n1⟩, by rw [e, n2, xb_some, if_pos (Or.inr rfl)], f1.trans n3, n4, by rw [n6 15 (by decide) (by decide)]; exact h15, n5, fun q => absurd rfl q, fun q => absurd q (by omega)⟩
    · exact Or.inr ⟨p + 1, I1, Or.inr (Or.inl ⟨rfl, z, zd, n1⟩), by rw [e, n2, xb_some, if_pos (Or.inl rfl)], f1, T1.2.2⟩
  · by_cases hpl : ∃ pl, p < L ∧ pl < 2 ∧ T p = nI (48 + pl)
    · obtain ⟨pl, z, hpl2, zp⟩ := hpl
      have e : f_X0_readThing (nI i) I = f_X0_readThing_54 (nI i) (nI (48 + pl)) I := by
        unfold f_X0_readThing
        rw [hlk, xb_some, show ch T L p = nI (48 + pl) by unfold ch; rw [if_pos z, zp]]
        have : pl = 0 ∨ pl = 1 := by omega
        rcases this with rfl | rfl
        · rw [if_pos (show nI (48 + 0) ≠ 46 by decide), if_pos (show nI (48 + 0) = 48 from rfl)]
        · rw [if_pos (show nI (48 + 1) ≠ 46 by decide), if_neg (show ¬ nI (48 + 1) = 48 by decide), if_pos (show nI (48 + 1) = 49 from rfl)]
      have e1 : f_X0_readThing (nI i) I = xb (f_X0_readLetter (nI i) (xup (xup I 13 2 (nI (p + 1))) 16 i (nI pl))) (fun r2 I2 => if r2 = 0 ∨ r2 = 1 then some (r2, I2) else none) := by
        rw [e]; unfold f_X0_readThing_54
        rw [ff_put hi, xb_some, h.2.2, nI_1, tb13 pl (by omega)]
      have f1 : frX i I (xup (xup I 13 2 (nI (p + 1))) 16 i (nI pl)) := (frX.pos i I _).trans (frX.row i _ (by omega) _)
      have T1 : Tc T L (p + 1) (xup (xup I 13 2 (nI (p + 1))) 16 i (nI pl)) := h.mv f1 (by rw [xup_cell (by decide), xup_at])
      have h16 : xup (xup I 13 2 (nI (p + 1))) 16 i (nI pl) 16 i = nI pl := xup_at
      generalize xup (xup I 13 2 (nI (p + 1))) 16 i (nI pl) = I1 at e1 f1 T1 h16
      have hlk1 := ff_look T1 hL (by omega)
      rcases ff_kind (T := T) (L := L) (p := p + 1) I1 with ⟨kd, k1, k2⟩ | ⟨k1, k2⟩
      · have kz := k1.1
        have k4 := k1.2.1
        have e2 : f_X0_readLetter (nI i) I1 = if nI kd = 2 then xb (f_X0_readNumber (nI i) (0 : Int32) (47 : Int32) (xup (xup I1 13 2 (nI (p + 2))) 15 i (nI kd))) (fun r5 I5 => if r5 = 0 ∨ r5 = 1 then some (r5, I5) else none) else if nI kd = 3 then xb (f_X0_readNumber (nI i) (1 : Int32) (99 : Int32) (xup (xup I1 13 2 (nI (p + 2))) 15 i (nI kd))) (fun r7 I7 => if r7 = 0 ∨ r7 = 1 then some (r7, I7) else none) else xb (f_X0_readNumber (nI i) (0 : Int32) (47 : Int32) (xup (xup I1 13 2 (nI (p + 2))) 15 i (nI kd))) (fun r9 I9 => if r9 = 0 then some ((0 : Int32), I9) else xb (f_X0_readSide (nI i) I9) (fun r10 I10 => if r10 = 0 then some ((0 : Int32), I10) else some ((1 : Int32), I10))) := by
          unfold f_X0_readLetter
          rw [hlk1, xb_some, k2, xb_some, if_pos (show nI kd ≠ -5 from nI_m5 (by omega)), ff_put hi, xb_some, T1.2.2, nI_1]
        have f2 : frX i I1 (xup (xup I1 13 2 (nI (p + 2))) 15 i (nI kd)) := (frX.pos i I1 _).trans (frX.row i _ (by omega) _)
        have T2 : Tc T L (p + 2) (xup (xup I1 13 2 (nI (p + 2))) 15 i (nI kd)) := T1.mv f2 (by rw [xup_cell (by decide), xup_at])
        have g15 : xup (xup I1 13 2 (nI (p + 2))) 15 i (nI kd) 15 i = nI kd := xup_at
        have g16 : xup (xup I1 13 2 (nI (p + 2))) 15 i (nI kd) 16 i = nI pl := by rw [xup_cell (by decide), xup_cell (by decide)]; exact h16
        generalize xup (xup I1 13 2 (nI (p + 2))) 15 i (nI kd) = I2 at e2 f2 T2 g15 g16
        have hkd : kd = 2 ∨ kd = 3 ∨ kd < 2 := by omega
        rcases hkd with y | y | y
        · rw [y, if_pos (show nI 2 = 2 from rfl)] at e2
          rcases ff_num (least := 0) (most := 47) T2 hL (by omega) hi (by omega) (by omega) with ⟨p', v, I', n1, n2, n3, n4, n5, n6⟩ | ⟨n1, n2⟩
          · exact Or.inl ⟨p', kd, pl, v, 0, I', Or.inr ⟨z, hpl2, zp, k1, Or.inl ⟨y, n1⟩⟩, by rw [e1, e2, show f_X0_readNumber (nI i) (0 : Int32) (47 : Int32) I2 = _ from n2, xb_some, if_pos (Or.inr rfl), xb_some, if_pos (Or.inr rfl)], (f1.trans f2).trans n3, n4, by rw [n6 15 (by decide) (by decide)]; exact g15, n5, fun _ => by rw [n6 16 (by decide) (by decide)]; exact g16, fun q => absurd q (by omega)⟩
          · exact Or.inr ⟨p + 2, I2, Or.inr (Or.inr ⟨pl, z, hpl2, zp, Or.inr ⟨kd, k1, Or.inl ⟨y, rfl, n1⟩⟩⟩), by rw [e1, e2, show f_X0_readNumber (nI i) (0 : Int32) (47 : Int32) I2 = _ from n2, xb_some, if_pos (Or.inl rfl), xb_some, if_pos (Or.inl rfl)], f1.trans f2, T2.2.2⟩
        · rw [y, if_neg (show ¬ nI 3 = 2 by decide), if_pos (show nI 3 = 3 from rfl)] at e2
          rcases ff_num (least := 1) (most := 99) T2 hL (by omega) hi (by omega) (by omega) with ⟨p', v, I', n1, n2, n3, n4, n5, n6⟩ | ⟨n1, n2⟩
          · exact Or.inl ⟨p', kd, pl, v, 0, I', Or.inr ⟨z, hpl2, zp, k1, Or.inr (Or.inl ⟨y, n1⟩)⟩, by rw [e1, e2, show f_X0_readNumber (nI i) (1 : Int32) (99 : Int32) I2 = _ from n2, xb_some, if_pos (Or.inr rfl), xb_some, if_pos (Or.inr rfl)], (f1.trans f2).trans n3, n4, by rw [n6 15 (by decide) (by decide)]; exact g15, n5, fun _ => by rw [n6 16 (by decide) (by decide)]; exact g16, fun q => absurd q (by omega)⟩
          · exact Or.inr ⟨p + 2, I2, Or.inr (Or.inr ⟨pl, z, hpl2, zp, Or.inr ⟨kd, k1, Or.inr (Or.inl ⟨y, rfl, n1⟩)⟩⟩), by rw [e1, e2, show f_X0_readNumber (nI i) (1 : Int32) (99 : Int32) I2 = _ from n2, xb_some, if_pos (Or.inl rfl), xb_some, if_pos (Or.inl rfl)], f1.trans f2, T2.2.2⟩
        · rw [if_neg (show ¬ nI kd = 2 from fun q => absurd (nI_inj (b := 2) (by omega) (by decide) q) (by omega)), if_neg (show ¬ nI kd = 3 from fun q => absurd (nI_inj (b := 3) (by omega) (by decide) q) (by omega))] at e2
          rcases ff_num (least := 0) (most := 47) T2 hL (by omega) hi (by omega) (by omega) with ⟨p2, v, I', n1, n2, n3, n4, n5, n6⟩ | ⟨n1, n2⟩
          · have hn1 := n1.le
            have T3 : Tc T L p2 I' := T2.mv n3 n4
            have hlk2 := ff_look T3 hL hn1.2
            have j15 : I' 15 i = nI kd := by rw [n6 15 (by decide) (by decide)]; exact g15
            have j16 : I' 16 i = nI pl := by rw [n6 16 (by decide) (by decide)]; exact g16
            rcases ff_side (T := T) (L := L) (p := p2) I' with ⟨sd, s1, s2⟩ | ⟨s1, s2⟩
            · have s4 := s1.2.1
              refine Or.inl ⟨p2 + 1, kd, pl, v, sd, xup (xup I' 13 2 (nI (p2 + 1))) 18 i (nI sd), Or.inr ⟨z, hpl2, zp, k1, Or.inr (Or.inr ⟨y, p2, n1, s1, rfl⟩)⟩, ?_, ((f1.trans f2).trans n3).trans ((frX.pos i I' _).trans (frX.row i _ (by omega) _)), by rw [xup_cell (by decide), xup_at], by rw [xup_cell (by decide), xup_cell (by decide)]; exact j15, by rw [xup_cell (by decide), xup_cell (by decide)]; exact n5, fun _ => by rw [xup_cell (by decide), xup_cell (by decide)]; exact j16, fun _ => xup_at⟩
              rw [e1, e2, show f_X0_readNumber (nI i) (0 : Int32) (47 : Int32) I2 = _ from n2, xb_some, if_neg one_ne0]
              unfold f_X0_readSide
              rw [hlk2, xb_some, s2, xb_some, if_pos (show nI sd ≠ -5 from nI_m5 (by omega)), ff_put hi, xb_some, T3.2.2, nI_1, xb_some, if_neg one_ne0, xb_some, if_pos (Or.inr rfl)]
            · refine Or.inr ⟨p2, I', Or.inr (Or.inr ⟨pl, z, hpl2, zp, Or.inr ⟨kd, k1, Or.inr (Or.inr ⟨y, Or.inr ⟨p2, v, n1, rfl, s1⟩⟩)⟩⟩), ?_, (f1.trans f2).trans n3, n4⟩
              rw [e1, e2, show f_X0_readNumber (nI i) (0 : Int32) (47 : Int32) I2 = _ from n2, xb_some, if_neg one_ne0]
              unfold f_X0_readSide
              rw [hlk2, xb_some, s2, xb_some, if_neg (fun q => q rfl), xb_some, if_pos rfl, xb_some, if_pos (Or.inl rfl)]
          · exact Or.inr ⟨p + 2, I2, Or.inr (Or.inr ⟨pl, z, hpl2, zp, Or.inr ⟨kd, k1, Or.inr (Or.inr ⟨y, Or.inl ⟨rfl, n1⟩⟩)⟩⟩), by rw [e1, e2, show f_X0_readNumber (nI i) (0 : Int32) (47 : Int32) I2 = _ from n2, xb_some, if_pos rfl, xb_some, if_pos (Or.inl rfl)], f1.trans f2, T2.2.2⟩
      · refine Or.inr ⟨p + 1, I1, Or.inr (Or.inr ⟨pl, z, hpl2, zp, Or.inl ⟨rfl, k1⟩⟩), ?_, f1, T1.2.2⟩
        rw [e1]
        unfold f_X0_readLetter
        rw [hlk1, xb_some, k2, xb_some, if_neg (fun q => q rfl), xb_some, if_pos (Or.inl rfl)]
    · refine Or.inr ⟨p, I, Or.inl ⟨rfl, hdot, fun pl q => hpl ⟨pl, q⟩⟩, ?_, frX.rf i I, h.2.2⟩
      have n1 : ch T L p ≠ 46 := fun q => by
        unfold ch at q
        by_cases z : p < L
        · rw [if_pos z] at q; exact hdot ⟨z, q⟩
        · rw [if_neg z] at q; exact absurd q (by decide)
      have n2 : ch T L p ≠ 48 := fun q => by
        unfold ch at q
        by_cases z : p < L
        · rw [if_pos z] at q; exact hpl ⟨0, z, by omega, q⟩
        · rw [if_neg z] at q; exact absurd q (by decide)
      have n3 : ch T L p ≠ 49 := fun q => by
        unfold ch at q
        by_cases z : p < L
        · rw [if_pos z] at q; exact hpl ⟨1, z, by omega, q⟩
        · rw [if_neg z] at q; exact absurd q (by decide)
      unfold f_X0_readThing
      rw [hlk, xb_some, if_pos n1, if_neg n2, if_neg n3]
