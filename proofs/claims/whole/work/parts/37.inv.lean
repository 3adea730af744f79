/-! ===== the invariant of both heaps, letters are written ===== -/
def TX (I J : xI) : Prop := ∃ L, L ≤ 60 ∧ I 13 1 = nI L ∧ J 69 8 = nI L ∧ ∀ j, j < L → J 75 j = I 14 j
def SN (I J : xI) : Prop := (I 0 9 = 0 ∧ J 69 4 = 0) ∨ (I 0 9 = 1 ∧ J 69 4 = 1 ∧ RS I 63 (J 73))
def ST (I J : xI) : Prop := (I 0 10 = 0 ∧ J 69 9 = -5 ∧ J 69 10 = -5) ∨ (I 0 10 = 1 ∧ I 0 11 = J 69 9 ∧ I 0 12 = J 69 10)
def R2 (I J : xI) : Prop := GT I ∧ RS I 45 (J 70) ∧ HI I J ∧ SN I J ∧ ST I J ∧ TX I J
theorem TX.congr {I J I' J' : xI} (h : TX I J) (h13 : I' 13 1 = I 13 1) (h14 : I' 14 = I 14) (h8 : J' 69 8 = J 69 8) (h75 : J' 75 = J 75) : TX I' J' := by
  unfold TX
  rw [h13, h14, h8, h75]; exact h
theorem SN.congr {I J I' J' : xI} (h : SN I J) (h9 : I' 0 9 = I 0 9) (hI : ∀ k, 63 ≤ k → k ≤ 68 → I' k = I k) (h4 : J' 69 4 = J 69 4) (h73 : EqR (J 73) (J' 73)) : SN I' J' := by
  unfold SN
  rw [h9, h4]
  rcases h with h | ⟨h1, h2, h3⟩
  · exact Or.inl h
  · exact Or.inr ⟨h1, h2, h3.congr (EqS.of (fun k a b => hI k a (by omega))) h73⟩
theorem ST.congr {I J I' J' : xI} (h : ST I J) (h0 : I' 0 10 = I 0 10 ∧ I' 0 11 = I 0 11 ∧ I' 0 12 = I 0 12) (h69 : J' 69 9 = J 69 9 ∧ J' 69 10 = J 69 10) : ST I' J' := by
  unfold ST
  rw [h0.1, h0.2.1, h0.2.2, h69.1, h69.2]; exact h
/-- what calls that only tell may leave -/
theorem R2.congr {I J I' J' : xI} (h : R2 I J) (hI : ∀ k, k < 69 → (k < 7 ∨ (12 ≤ k ∧ k < 51) ∨ 63 ≤ k) → I' k = I k) (hJ : ∀ k, 69 ≤ k → k ≠ 70 → k ≠ 71 → k ≠ 72 → k ≠ 76 → J' k = J k) (h70 : EqR (J 70) (J' 70)) : R2 I' J' := by
  obtain ⟨h1, h2, h3, h4, h5, h6⟩ := h
  have h69 := hJ 69 (by omega) (by omega) (by omega) (by omega) (by omega)
  refine ⟨GT_fr (fun k hk => hI k (by omega) (by omega)) h1, h2.congr (EqS.of (fun k a b => hI k (by omega) (by omega))) h70, h3.congr (fun k a b => hI k (by omega) (by omega)) (by rw [h69]) (hJ 74 (by omega) (by omega) (by omega) (by omega) (by omega)), h4.congr (by rw [hI 0 (by omega) (by omega)]) (fun k a b => hI k (by omega) (by omega)) (by rw [h69]) (by rw [hJ 73 (by omega) (by omega) (by omega) (by omega) (by omega)]; exact EqR.rf _), h5.congr (by rw [hI 0 (by omega) (by omega)]; exact ⟨rfl, rfl, rfl⟩) (by rw [h69]; exact ⟨rfl, rfl⟩), h6.congr (by rw [hI 13 (by omega) (by omega)]) (hI 14 (by omega) (by omega)) (by rw [h69]) (hJ 75 (by omega) (by omega) (by omega) (by omega) (by omega))⟩
def CALL (f6 f7 : xI → Option (Int32 × xI)) : Prop := ∀ I J, R2 I J → ∃ r I' J', f6 I = some (r, I') ∧ f7 J = some (r, J') ∧ R2 I' J' ∧ (∀ k, 69 ≤ k → I' k = I k) ∧ ∀ k, k < 69 → J' k = J k
theorem CALL.one {f6 f7 : xI → Option (Int32 × xI)} (h : CALL f6 f7) {I : xI} (hI : R2 I I) : ∃ r I1 I2, f6 I = some (r, I1) ∧ f7 I1 = some (r, I2) ∧ R2 I2 I2 := by
  obtain ⟨r, I1, J1, a1, a2, a3, a4, a5⟩ := h I I hI
  have hR : R2 I I1 := by
    refine hI.congr (fun _ _ _ => rfl) (fun k hk _ _ _ _ => a4 k hk) (by rw [a4 70 (by omega)]; exact EqR.rf _)
  obtain ⟨r', I1', J1', b1, b2, b3, b4, b5⟩ := h I I1 hR
  rw [a1] at b1
  cases b1
  refine ⟨r, I1, J1', a1, b2, ?_⟩
  exact b3.congr (fun k hk _ => b5 k hk) (fun _ _ _ _ _ _ => rfl) (EqR.rf _)
/-- an act of both sides on the state -/
def INN (g6 g7 : xI → Option (Int32 × xI)) : Prop := ∀ I J, GT I → RS I 45 (J 70) → ∃ r I' J', g6 I = some (r, I') ∧ g7 J = some (r, J') ∧ RS I' 45 (J' 70) ∧ frC 45 I I' ∧ frM J J'
theorem st_act {g6 g7 : xI → Option (Int32 × xI)} (h : INN g6 g7) : CALL (fun I => xb (f_X5_takeFrom 51 45 I) (fun _ I1 => xb (g6 I1) (fun r I2 => xb (f_X6_recordUnlessError r I2) (fun r I3 => some (r, I3))))) (fun J => xb (f_X7_looks J) (fun _ J1 => xb (g7 J1) (fun r J2 => xb (f_X7_acted r J2) (fun r J3 => some (r, J3))))) := by
  intro I J hR
  obtain ⟨I1, a1, a2, a3⟩ := ff_take (b0 := 51) (b1 := 45) (by omega) I
  obtain ⟨J1, c1, c2, c3⟩ := gg_looks J
  obtain ⟨h1, h2, h3, h4, h5, h6⟩ := hR
  have hI1 : ∀ k, (k < 51 ∨ 56 < k) → I1 k = I k := fun k hk => a3 k (by omega)
  have G1 : GT I1 := GT_fr (fun k hk => hI1 k (by omega)) h1
  have R1 : RS I1 45 (J1 70) := by
    rw [c2 70 (by decide)]
    exact h2.congr (EqS.of (fun k a b => hI1 k (by omega))) (EqR.rf _)
  obtain ⟨r, I2, J2, d1, d2, d3, d4, d5⟩ := h I1 J1 G1 R1
  have hI2 : ∀ k, (k < 7 ∨ (11 ≤ k ∧ k < 45) ∨ 56 < k) → I2 k = I k := fun k hk => (d4 k (by omega) (by omega) (by omega) (by omega) (by omega)).trans (hI1 k (by omega))
  have hJ2 : ∀ k, k ≠ 70 → k ≠ 76 → k ≠ 72 → J2 k = J k := fun k x y z => (d5 k x y).trans (c2 k z)
  have H2 : HI I2 J2 := h3.congr (fun k a b => hI2 k (by omega)) (by rw [hJ2 69 (by decide) (by decide) (by decide)]) (hJ2 74 (by decide) (by decide) (by decide))
  have G2 : GT I2 := GT_fr (fun k hk => hI2 k (by omega)) h1
  have S2 : SN I2 J2 := h4.congr (by rw [hI2 0 (by omega)]) (fun k a b => hI2 k (by omega)) (by rw [hJ2 69 (by decide) (by decide) (by decide)]) (by rw [hJ2 73 (by decide) (by decide) (by decide)]; exact EqR.rf _)
  have T2 : ST I2 J2 := h5.congr (by rw [hI2 0 (by omega)]; exact ⟨rfl, rfl, rfl⟩) (by rw [hJ2 69 (by decide) (by decide) (by decide)]; exact ⟨rfl, rfl⟩)
  have X2 : TX I2 J2 := h6.congr (by rw [hI2 13 (by omega)]) (hI2 14 (by omega)) (by rw [hJ2 69 (by decide) (by decide) (by decide)]) (hJ2 75 (by decide) (by decide) (by decide))
  by_cases hr : r < 0
  · refine ⟨r, I2, J2, ?_, ?_, ⟨G2, d3, H2, S2, T2, X2⟩, fun k hk => hI2 k (by omega), fun k hk => hJ2 k (by omega) (by omega) (by omega)⟩
    · show xb (f_X5_takeFrom 51 45 I) _ = _
      rw [a1, xb_some, d1, xb_some]
      unfold f_X6_recordUnlessError
      rw [if_pos hr, xb_some]
    · show xb (f_X7_looks J) _ = _
      rw [c1, xb_some, d2, xb_some]
      unfold f_X7_acted
      rw [if_pos hr, xb_some]
  · have R51 : RS I2 51 (J2 72) := by
      have e : EqS I 45 I2 51 := by
        obtain ⟨x0, x1, x2, x3, x4, x5⟩ := a2
        have y : ∀ k, 51 ≤ k → k ≤ 56 → I2 k = I1 k := fun k p q => d4 k (by omega) (by omega) (by omega) (by omega) (by omega)
        exact ⟨fun j hj => by rw [y 51 (by omega) (by omega), x0 j hj], fun j hj => by rw [y (51 + 1) (by omega) (by omega), x1 j hj], fun j hj => by rw [y (51 + 2) (by omega) (by omega), x2 j hj], fun j hj => by rw [y (51 + 3) (by omega) (by omega), x3 j hj], fun j hj => by rw [y (51 + 4) (by omega) (by omega), x4 j hj], fun j hj => by rw [y (51 + 5) (by omega) (by omega), x5 j hj]⟩
      refine h2.congr e ?_
      rw [d5 72 (by decide) (by decide)]
      exact c3
    obtain ⟨I3, J3, k1, k2, k3, k4, k5, k6⟩ := st_add (Or.inr rfl) H2 R51
    refine ⟨r, I3, J3, ?_, ?_, ⟨GT_fr (fun k hk => k4 k (by omega)) G2, ?_, k3, S2.congr (by rw [k4 0 (by omega)]) (fun k a b => k4 k (by omega)) (k6 4 (by decide)) (by rw [k5 73 (by decide) (by decide)]; exact EqR.rf _), T2.congr (by rw [k4 0 (by omega)]; exact ⟨rfl, rfl, rfl⟩) ⟨k6 9 (by decide), k6 10 (by decide)⟩, X2.congr (by rw [k4 13 (by omega)]) (k4 14 (by omega)) (k6 8 (by decide)) (k5 75 (by decide) (by decide))⟩, fun k hk => (k4 k (by omega)).trans (hI2 k (by omega)), fun k hk => (k5 k (by omega) (by omega)).trans (hJ2 k (by omega) (by omega) (by omega))⟩
    · show xb (f_X5_takeFrom 51 45 I) _ = _
      rw [a1, xb_some, d1, xb_some]
      unfold f_X6_recordUnlessError
      rw [if_neg hr, k1, xb_some, xb_some]
    · show xb (f_X7_looks J) _ = _
      rw [c1, xb_some, d2, xb_some]
      unfold f_X7_acted
      rw [if_neg hr, k2, xb_some, xb_some]
    · rw [k5 70 (by decide) (by decide)]
      exact d3.congr (EqS.of (fun k a b => k4 k (by omega))) (EqR.rf _)
theorem cP_snoc (P : Nat → Bool) : ∀ (m i : Nat), (List.range' i (m + 1)).countP P = (List.range' i m).countP P + (if P (i + m) = true then 1 else 0) := by
  intro m
  induction m with
  | zero => intro i; simp
  | succ m ih =>
    intro i
    rw [List.range'_succ, List.countP_cons, ih (i + 1), List.range'_succ, List.countP_cons, show i + 1 + m = i + (m + 1) by omega]
    omega
/-- a letter is added -/
theorem st_addLetter {I J : xI} {l1 l2 l3 l4 : Int32} (h : RS I 45 (J 70)) (hl1 : l1 = 0 ∨ l1 = 1) (hl2 : ((l2 = 0 ∨ l2 = 1) ∧ ∃ f g, f < 48 ∧ g < 4 ∧ eT f g < 82 ∧ l3 = nI f ∧ l4 = nI g) ∨ (l2 = 2 ∧ ∃ f, f < 48 ∧ l3 = nI f) ∨ (l2 = 3 ∧ ∃ n, 1 ≤ n ∧ n ≤ 99 ∧ l4 = nI n)) :
    ∃ r I' J', f_X5_addLetter 45 l1 l2 l3 l4 I = some (r, I') ∧ f_X7_writes_72 l1 l2 l3 l4 J = some (r, J') ∧ RS I' 45 (J' 70) ∧ frC 45 I I' ∧ frM J J' := by
  obtain ⟨w, d, hR, ⟨a1, a2, a3, a4⟩, ⟨m1, n, m2, m3⟩, hT, hd1, hd2, hd3, hDY⟩ := h
  obtain ⟨⟨r1, r2, r3⟩, r4, ⟨r5, r6, r7, r8⟩, ⟨⟨a, ra1, ra2, ra3⟩, r10⟩, r11, r12, r13, r14, r15, r16⟩ := hR
  by_cases hw : w = 60
  · subst hw
    refine ⟨-3, I, J, ?_, ?_, ⟨60, d, ⟨⟨r1, r2, r3⟩, r4, ⟨r5, r6, r7, r8⟩, ⟨⟨a, ra1, ra2, ra3⟩, r10⟩, r11, r12, r13, r14, r15, r16⟩, ⟨a1, a2, a3, a4⟩, ⟨m1, n, m2, m3⟩, hT, hd1, hd2, hd3, hDY⟩, frC.rf 45 I, frM.rf J⟩
    · unfold f_X5_addLetter
      rw [r1, if_neg (by decide)]
    · unfold f_X7_writes_72
      rw [r3, if_neg (by decide)]
  · have hwl : w < 60 := by omega
    let P : xI → Prop := fun X => X 45 1 = nI (w + 1) ∧ X 45 0 = nI d ∧ X 46 0 = nI a
    have hP0 : P (xup I 45 1 (nI (w + 1))) := ⟨xup_at, (xup_slot (by omega)).trans hd1, (xup_cell (by omega)).trans ra3⟩
    have hP : ∀ X : xI, P X → ∀ n v, P (xup X 50 n v) := fun X hX n v => ⟨(xup_cell (by omega)).trans hX.1, (xup_cell (by omega)).trans hX.2.1, (xup_cell (by omega)).trans hX.2.2⟩
    have mk : ∀ (X : xI) (j : Nat) (v : Int32), P X → j < 10 → f_X5_mark 45 (nI w) (nI j) v X = some (0, xup X 50 (10 * w + j) v) := fun X j v hX hj => ff_mark (w := w + 1) hX.1 (by omega) (by omega) hj
    let X0 := xup I 45 1 (nI (w + 1))
    let X1 := xup X0 50 (10 * w + 0) l1
    let X2 := xup X1 50 (10 * w + 1) l2
    let X3 := xup X2 50 (10 * w + 2) l3
    let X4 := xup X3 50 (10 * w + 3) l4
    let X5 := xup X4 50 (10 * w + 4) (nI d)
    let X6 := xup X5 50 (10 * w + 5) (nI (d + a))
    let X7 := xup X6 50 (10 * w + 6) 0
    let X8 := xup X7 50 (10 * w + 7) 0
    let X9 := xup X8 50 (10 * w + 8) (-5)
    let X := xup X9 50 (10 * w + 9) (-5)
    have p1 : P X1 := hP _ hP0 _ _
    have p2 : P X2 := hP _ p1 _ _
    have p3 : P X3 := hP _ p2 _ _
    have p4 : P X4 := hP _ p3 _ _
    have p5 : P X5 := hP _ p4 _ _
    have p6 : P X6 := hP _ p5 _ _
    have p7 : P X7 := hP _ p6 _ _
    have p8 : P X8 := hP _ p7 _ _
    have p9 : P X9 := hP _ p8 _ _
    let Y0 := xup J 70 1 (nI (w + 1))
    let Y1 := xup Y0 70 (142 + 10 * w + 0) l1
    let Y2 := xup Y1 70 (142 + 10 * w + 1) l2
    let Y3 := xup Y2 70 (142 + 10 * w + 2) l3
    let Y4 := xup Y3 70 (142 + 10 * w + 3) l4
    let Y5 := xup Y4 70 (142 + 10 * w + 4) (nI d)
    let Y6 := xup Y5 70 (142 + 10 * w + 5) (nI (d + a))
    let Y7 := xup Y6 70 (142 + 10 * w + 6) 0
    let Y8 := xup Y7 70 (142 + 10 * w + 7) 0
    let Y9 := xup Y8 70 (142 + 10 * w + 8) (-5)
    let Y := xup Y9 70 (142 + 10 * w + 9) (-5)
    have hX50 : ∀ n, (n < 10 * w ∨ 10 * w + 10 ≤ n) → X 50 n = I 50 n := fun n hn => by
      show xup X9 50 _ _ 50 n = _
      rw [xup_slot (by omega)]; show xup X8 50 _ _ 50 n = _
      rw [xup_slot (by omega)]; show xup X7 50 _ _ 50 n = _
      rw [xup_slot (by omega)]; show xup X6 50 _ _ 50 n = _
      rw [xup_slot (by omega)]; show xup X5 50 _ _ 50 n = _
      rw [xup_slot (by omega)]; show xup X4 50 _ _ 50 n = _
      rw [xup_slot (by omega)]; show xup X3 50 _ _ 50 n = _
      rw [xup_slot (by omega)]; show xup X2 50 _ _ 50 n = _
      rw [xup_slot (by omega)]; show xup X1 50 _ _ 50 n = _
      rw [xup_slot (by omega)]; show xup X0 50 _ _ 50 n = _
      rw [xup_slot (by omega)]; exact xup_cell (by omega)
    have hY70 : ∀ n, (n < 142 + 10 * w ∨ 142 + 10 * w + 10 ≤ n) → n ≠ 1 → Y 70 n = J 70 n := fun n hn hn1 => by
      show xup Y9 70 _ _ 70 n = _
      rw [xup_slot (by omega)]; show xup Y8 70 _ _ 70 n = _
      rw [xup_slot (by omega)]; show xup Y7 70 _ _ 70 n = _
      rw [xup_slot (by omega)]; show xup Y6 70 _ _ 70 n = _
      rw [xup_slot (by omega)]; show xup Y5 70 _ _ 70 n = _
      rw [xup_slot (by omega)]; show xup Y4 70 _ _ 70 n = _
      rw [xup_slot (by omega)]; show xup Y3 70 _ _ 70 n = _
      rw [xup_slot (by omega)]; show xup Y2 70 _ _ 70 n = _
      rw [xup_slot (by omega)]; show xup Y1 70 _ _ 70 n = _
      rw [xup_slot (by omega)]; show xup Y0 70 _ _ 70 n = _
      rw [xup_slot (by omega)]; exact xup_slot hn1
    have hY1 : Y 70 1 = nI (w + 1) := by
      show xup Y9 70 _ _ 70 1 = _
      rw [xup_slot (by omega)]; show xup Y8 70 _ _ 70 1 = _
      rw [xup_slot (by omega)]; show xup Y7 70 _ _ 70 1 = _
      rw [xup_slot (by omega)]; show xup Y6 70 _ _ 70 1 = _
      rw [xup_slot (by omega)]; show xup Y5 70 _ _ 70 1 = _
      rw [xup_slot (by omega)]; show xup Y4 70 _ _ 70 1 = _
      rw [xup_slot (by omega)]; show xup Y3 70 _ _ 70 1 = _
      rw [xup_slot (by omega)]; show xup Y2 70 _ _ 70 1 = _
      rw [xup_slot (by omega)]; show xup Y1 70 _ _ 70 1 = _
      rw [xup_slot (by omega)]; show xup Y0 70 _ _ 70 1 = _
      rw [xup_slot (by omega)]; exact xup_at
    have hXc : ∀ k, k ≠ 50 → k ≠ 45 → X k = I k := fun k hk hk2 => by
      funext x
      show xup (xup (xup (xup (xup (xup (xup (xup (xup (xup (xup I 45 1 (nI (w + 1))) 50 _ _) 50 _ _) 50 _ _) 50 _ _) 50 _ _) 50 _ _) 50 _ _) 50 _ _) 50 _ _) 50 _ _ k x = _
      rw [xup_cell hk, xup_cell hk, xup_cell hk, xup_cell hk, xup_cell hk, xup_cell hk, xup_cell hk, xup_cell hk, xup_cell hk, xup_cell hk, xup_cell hk2]
    have hX45 : ∀ n, n ≠ 1 → X 45 n = I 45 n := fun n hn => by
      show xup (xup (xup (xup (xup (xup (xup (xup (xup (xup (xup I 45 1 (nI (w + 1))) 50 _ _) 50 _ _) 50 _ _) 50 _ _) 50 _ _) 50 _ _) 50 _ _) 50 _ _) 50 _ _) 50 _ _ 45 n = _
      rw [xup_cell (by omega), xup_cell (by omega), xup_cell (by omega), xup_cell (by omega), xup_cell (by omega), xup_cell (by omega), xup_cell (by omega), xup_cell (by omega), xup_cell (by omega), xup_cell (by omega), xup_slot hn]
    have pX : P X := hP _ p9 _ _
    have hYc : ∀ k, k ≠ 70 → Y k = J k := fun k hk => by
      funext x
      show xup (xup (xup (xup (xup (xup (xup (xup (xup (xup (xup J 70 1 (nI (w + 1))) 70 _ _) 70 _ _) 70 _ _) 70 _ _) 70 _ _) 70 _ _) 70 _ _) 70 _ _) 70 _ _) 70 _ _ k x = _
      rw [xup_cell hk, xup_cell hk, xup_cell hk, xup_cell hk, xup_cell hk, xup_cell hk, xup_cell hk, xup_cell hk, xup_cell hk, xup_cell hk, xup_cell hk]
    have hnew : ∀ j, j < 10 → Y 70 (142 + 10 * w + j) = X 50 (10 * w + j) := by
      intro j hj
      have : j = 0 ∨ j = 1 ∨ j = 2 ∨ j = 3 ∨ j = 4 ∨ j = 5 ∨ j = 6 ∨ j = 7 ∨ j = 8 ∨ j = 9 := by omega
      rcases this with rfl | rfl | rfl | rfl | rfl | rfl | rfl | rfl | rfl | rfl <;> simp [X, X9, X8, X7, X6, X5, X4, X3, X2, X1, X0, Y, Y9, Y8, Y7, Y6, Y5, Y4, Y3, Y2, Y1, Y0, xup]
    have f0 : FC X 45 w 0 = l1 := by simp [FC, X, X9, X8, X7, X6, X5, X4, X3, X2, X1, X0, xup]
    have f1 : FC X 45 w 1 = l2 := by simp [FC, X, X9, X8, X7, X6, X5, X4, X3, X2, X1, X0, xup]
    have f2 : FC X 45 w 2 = l3 := by simp [FC, X, X9, X8, X7, X6, X5, X4, X3, X2, X1, X0, xup]
    have f3 : FC X 45 w 3 = l4 := by simp [FC, X, X9, X8, X7, X6, X5, X4, X3, X2, X1, X0, xup]
    have f4 : FC X 45 w 4 = nI d := by simp [FC, X, X9, X8, X7, X6, X5, X4, X3, X2, X1, X0, xup]
    have f5 : FC X 45 w 5 = nI (d + a) := by simp [FC, X, X9, X8, X7, X6, X5, X4, X3, X2, X1, X0, xup]
    have f6 : FC X 45 w 6 = 0 := by simp [FC, X, X9, X8, X7, X6, X5, X4, X3, X2, X1, X0, xup]
    have f9 : FC X 45 w 9 = -5 := by simp [FC, X, X9, X8, X7, X6, X5, X4, X3, X2, X1, X0, xup]
    have fo : ∀ k j, k < w → j < 10 → FC X 45 k j = FC I 45 k j := fun k j hk hj => hX50 _ (by omega)
    have hc : f_X5_addLetter 45 l1 l2 l3 l4 I = some (nI w, X) := by
      unfold f_X5_addLetter
      rw [r1, if_pos (show nI w < (60 : Int32) from nI_lt (b := 60) hwl (by decide)), nI_1]
      rw [show f_X5_mark 45 (nI w) (0 : Int32) l1 (xup I 45 1 (nI (w + 1))) = some (0, X1) from mk X0 0 l1 hP0 (by omega), xb_some]
      rw [show f_X5_mark 45 (nI w) (1 : Int32) l2 X1 = some (0, X2) from mk X1 1 l2 p1 (by omega), xb_some]
      rw [show f_X5_mark 45 (nI w) (2 : Int32) l3 X2 = some (0, X3) from mk X2 2 l3 p2 (by omega), xb_some]
      rw [show f_X5_mark 45 (nI w) (3 : Int32) l4 X3 = some (0, X4) from mk X3 3 l4 p3 (by omega), xb_some, p4.2.1]
      rw [show f_X5_mark 45 (nI w) (4 : Int32) (nI d) X4 = some (0, X5) from mk X4 4 (nI d) p4 (by omega), xb_some, p5.2.1, show X5 (45 + 1) 0 = nI a from p5.2.2, nI_add]
      rw [show f_X5_mark 45 (nI w) (5 : Int32) (nI (d + a)) X5 = some (0, X6) from mk X5 5 (nI (d + a)) p5 (by omega), xb_some]
      rw [show f_X5_mark 45 (nI w) (6 : Int32) 0 X6 = some (0, X7) from mk X6 6 0 p6 (by omega), xb_some]
      rw [show f_X5_mark 45 (nI w) (7 : Int32) 0 X7 = some (0, X8) from mk X7 7 0 p7 (by omega), xb_some]
      rw [show f_X5_mark 45 (nI w) (8 : Int32) (-5) X8 = some (0, X9) from mk X8 8 (-5) p8 (by omega), xb_some]
      rw [show f_X5_mark 45 (nI w) (9 : Int32) (-5) X9 = some (0, X) from mk X9 9 (-5) p9 (by omega), xb_some]
    have q4 : J 70 4 = nI a := r5.trans ra3
    have qd : ∀ n, n < 10 → n ≠ 1 → Y4 70 n = J 70 n := fun n hn hn1 => by
      show xup (xup (xup (xup (xup J 70 1 (nI (w + 1))) 70 _ _) 70 _ _) 70 _ _) 70 _ _ 70 n = _
      rw [xup_slot (by omega), xup_slot (by omega), xup_slot (by omega), xup_slot (by omega), xup_slot hn1]
    have qd5 : ∀ n, n < 10 → n ≠ 1 → Y5 70 n = J 70 n := fun n hn hn1 => (xup_slot (by omega)).trans (qd n hn hn1)
    have A : ∀ (j : Nat) (Z : xI), f_X7_at (nI w) (nI j) Z = some (nI (142 + 10 * w + j), Z) := fun j Z => gg_at w j Z
    have hm : f_X7_writes_72 l1 l2 l3 l4 J = some (nI w, Y) := by
      unfold f_X7_writes_72
      rw [r3, if_pos (show nI w ≠ (60 : Int32) from fun q => hw (nI_inj (b := 60) (by omega) (by decide) q)), nI_1]
      rw [show f_X7_at (nI w) (0 : Int32) (xup J 70 1 (nI (w + 1))) = _ from A 0 Y0, xb_some, if_pos (xin_nI (by omega) (by decide)), nI_clamp (by omega)]
      rw [show f_X7_at (nI w) (1 : Int32) (xup Y0 70 (142 + 10 * w + 0) l1) = _ from A 1 Y1, xb_some, if_pos (xin_nI (by omega) (by decide)), nI_clamp (by omega)]
      rw [show f_X7_at (nI w) (2 : Int32) (xup Y1 70 (142 + 10 * w + 1) l2) = _ from A 2 Y2, xb_some, if_pos (xin_nI (by omega) (by decide)), nI_clamp (by omega)]
      rw [show f_X7_at (nI w) (3 : Int32) (xup Y2 70 (142 + 10 * w + 2) l3) = _ from A 3 Y3, xb_some, if_pos (xin_nI (by omega) (by decide)), nI_clamp (by omega)]
      rw [show f_X7_at (nI w) (4 : Int32) (xup Y3 70 (142 + 10 * w + 3) l4) = _ from A 4 Y4, xb_some, if_pos (xin_nI (by omega) (by decide)), nI_clamp (by omega), qd 0 (by omega) (by omega), hd2]
      rw [show f_X7_at (nI w) (5 : Int32) (xup Y4 70 (142 + 10 * w + 4) (nI d)) = _ from A 5 Y5, xb_some, if_pos (xin_nI (by omega) (by decide)), nI_clamp (by omega), qd5 0 (by omega) (by omega), qd5 4 (by omega) (by omega), hd2, q4, nI_add]
      rw [show f_X7_at (nI w) (6 : Int32) (xup Y5 70 (142 + 10 * w + 5) (nI (d + a))) = _ from A 6 Y6, xb_some, if_pos (xin_nI (by omega) (by decide)), nI_clamp (by omega)]
      rw [show f_X7_at (nI w) (7 : Int32) (xup Y6 70 (142 + 10 * w + 6) 0) = _ from A 7 Y7, xb_some, if_pos (xin_nI (by omega) (by decide)), nI_clamp (by omega)]
      rw [show f_X7_at (nI w) (8 : Int32) (xup Y7 70 (142 + 10 * w + 7) 0) = _ from A 8 Y8, xb_some, if_pos (xin_nI (by omega) (by decide)), nI_clamp (by omega)]
      rw [show f_X7_at (nI w) (9 : Int32) (xup Y8 70 (142 + 10 * w + 8) (-5)) = _ from A 9 Y9, xb_some, if_pos (xin_nI (by omega) (by decide)), nI_clamp (by omega)]
    refine ⟨nI w, X, Y, hc, hm, ⟨w + 1, d, ⟨⟨pX.1, by omega, hY1⟩, ?_, ⟨?_, ?_, ?_, ?_⟩, ⟨⟨a, ra1, ra2, pX.2.2⟩, ?_⟩, ?_, ?_, ?_, ?_, ?_, ?_⟩, ⟨?_, ?_, ?_, ?_⟩, ⟨?_, n, ?_, ?_⟩, ?_, pX.2.1, ?_, hd3, ?_⟩, ?_, fun k hk _ => hYc k hk⟩
    · rw [hY70 2 (by omega) (by omega), hX45 2 (by omega)]; exact r4
    · rw [hY70 4 (by omega) (by omega), hXc (45 + 1) (by decide) (by decide)]; exact r5
    · rw [hY70 5 (by omega) (by omega), hXc (45 + 1) (by decide) (by decide)]; exact r6
    · rw [hY70 6 (by omega) (by omega), hXc (45 + 2) (by decide) (by decide)]; exact r7
    · rw [hY70 7 (by omega) (by omega), hXc (45 + 2) (by decide) (by decide)]; exact r8
    · rw [hXc (45 + 1) (by decide) (by decide)]; exact r10
    · intro e he
      have := pE_lt he
      rw [hY70 _ (by omega) (by omega), hXc (45 + 3) (by decide) (by decide)]; exact r11 e he
    · intro e he; rw [hXc (45 + 3) (by decide) (by decide)]; exact r12 e he
    · intro f hf
      rw [hY70 _ (by omega) (by omega), r13 f hf]
      unfold cOwn
      rw [hXc (45 + 4) (by decide) (by decide)]
      rcases r14 f hf with z | ⟨k, hk, z⟩
      · rw [if_pos z, if_pos z]
      · rw [z, if_neg (nI_m5 (by omega)), if_neg (nI_m5 (by omega)), nI_clamp (by omega)]
        exact (hX50 _ (by omega)).symm
    · intro f hf
      rw [hXc (45 + 4) (by decide) (by decide)]
      exact (r14 f hf).imp id (fun ⟨k, hk, z⟩ => ⟨k, by omega, z⟩)
    · intro j hj
      by_cases hin : 10 * w ≤ j ∧ j < 10 * w + 10
      · have := hnew (j - 10 * w) (by omega)
        rw [show 142 + 10 * w + (j - 10 * w) = 142 + j by omega, show 10 * w + (j - 10 * w) = j by omega] at this
        exact this
      · rw [hY70 _ (by omega) (by omega), r15 j hj]
        exact (hX50 j (by omega)).symm
    · intro k hk
      by_cases z : k = w
      · subst z
        refine ⟨by rw [f0]; exact hl1, by rw [f1, f2, f3]; exact hl2, ⟨d, d + a, f4, f5, by omega, by omega, hd3⟩, by rw [f6]; exact Or.inl rfl⟩
      · exact (r16 k (by omega)).congr (fun j hj => fo k j (by omega) (by omega))
    · rw [hY70 9 (by omega) (by omega)]; exact a1
    · rw [hY70 8 (by omega) (by omega)]
      exact a2.imp id (fun ⟨k, hk, z1, z2⟩ => ⟨k, by omega, z1, by rw [fo k 6 hk (by omega)]; exact z2⟩)
    · rw [hY70 9 (by omega) (by omega), hY70 8 (by omega) (by omega), hX45 3 (by omega)]; exact a3
    · intro k hk q1 q2
      rw [hY70 9 (by omega) (by omega)] at q1
      rw [hY70 8 (by omega) (by omega)] at q2
      have hkw : k < w := by
        rcases a2 with z | ⟨k', hk', z, -⟩
        · rw [z] at q2; exact absurd q2 (nI_m5' (by omega))
        · rw [z] at q2
          have := nI_inj (by omega) (by omega) q2
          omega
      obtain ⟨z1, z2⟩ := a4 k hkw q1 q2
      refine ⟨by rw [fo k 9 hkw (by omega)]; exact z1, fun f hf => ?_⟩
      rw [hXc (45 + 4) (by decide) (by decide)]
      exact (tkB_congr ⟨hY70 10 (by omega) (by omega), hY70 11 (by omega) (by omega)⟩ hf).trans (z2 f hf)
    · intro k hk q
      by_cases z : k = w
      · subst z; exact f9
      · rw [fo k 6 (by omega) (by omega)] at q
        rw [fo k 9 (by omega) (by omega)]
        exact m1 k (by omega) q
    · rw [hY70 3 (by omega) (by omega)]; exact m2
    · rw [cP_snoc, Nat.zero_add, f9, if_neg (by decide), Nat.add_zero, ← m3]
      exact cP_congr (fun g _ hg => by rw [fo g 9 (by omega) (by omega)])
    · intro f hf k hk q
      rw [hXc (45 + 4) (by decide) (by decide)] at q
      have hkw : k < w := by
        rcases r14 f hf with z | ⟨k', hk', z⟩
        · rw [z] at q; exact absurd q (nI_m5' (by omega))
        · rw [z] at q
          have := nI_inj (by omega) (by omega) q
          omega
      rw [fo k 6 hkw (by omega)]
      exact hT f hf k hkw q
    · rw [hY70 0 (by omega) (by omega)]; exact hd2
    · intro k hk q
      by_cases z : k = w
      · subst z; exact ⟨d + a, f5, by omega, by omega⟩
      · rw [fo k 6 (by omega) (by omega)] at q
        rw [fo k 5 (by omega) (by omega)]
        exact hDY k (by omega) q
    · intro k hk _ _ _ _
      exact hXc k (by omega) (by omega)
