/-! ===== the relation of a State (cells b .. b+5 of I) and the model's row s ===== -/
def sup (s : Nat → Int32) (n : Nat) (v : Int32) : Nat → Int32 := fun c => if c = n then v else s c
theorem sup_at {s : Nat → Int32} {n : Nat} {v : Int32} : sup s n v n = v := by simp [sup]
theorem sup_ne {s : Nat → Int32} {n c : Nat} {v : Int32} (h : c ≠ n) : sup s n v c = s c := by simp [sup, h]
theorem xup_70 (J : xI) (n : Nat) (v : Int32) : xup J 70 n v 70 = sup (J 70) n v := by funext c; simp [xup, sup]
/-- a letter's facts are well made -/
def LF (F : Nat → Int32) : Prop :=
  (F 0 = 0 ∨ F 0 = 1) ∧
  (((F 1 = 0 ∨ F 1 = 1) ∧ ∃ f g, f < 48 ∧ g < 4 ∧ eT f g < 82 ∧ F 2 = nI f ∧ F 3 = nI g) ∨ (F 1 = 2 ∧ ∃ f, f < 48 ∧ F 2 = nI f) ∨ (F 1 = 3 ∧ ∃ n, 1 ≤ n ∧ n ≤ 99 ∧ F 3 = nI n)) ∧
  (∃ wr du, F 4 = nI wr ∧ F 5 = nI du ∧ wr < du ∧ du ≤ wr + 9 ∧ wr ≤ 9999) ∧
  (F 6 = 0 ∨ F 6 = 1 ∨ F 6 = 2 ∨ F 6 = 3)
theorem LF.congr {F F' : Nat → Int32} (h : ∀ j, j < 7 → F' j = F j) (hL : LF F) : LF F' := by
  unfold LF
  rw [h 0 (by omega), h 1 (by omega), h 2 (by omega), h 3 (by omega), h 4 (by omega), h 5 (by omega), h 6 (by omega)]
  exact hL
def RC (w : Nat) (I : xI) (b : Nat) (s : Nat → Int32) : Prop :=
  (I b 1 = nI w ∧ w ≤ 60 ∧ s 1 = nI w) ∧ s 2 = I b 2 ∧ (s 4 = I (b + 1) 0 ∧ s 5 = I (b + 1) 1 ∧ s 6 = I (b + 2) 0 ∧ s 7 = I (b + 2) 1) ∧
  ((∃ a, 1 ≤ a ∧ a ≤ 9 ∧ I (b + 1) 0 = nI a) ∧ (∃ a, 1 ≤ a ∧ a ≤ 48 ∧ I (b + 1) 1 = nI a)) ∧
  (∀ e, e < 82 → s (12 + pE e) = I (b + 3) e) ∧ (∀ e, e < 82 → I (b + 3) e = 0 ∨ I (b + 3) e = 1 ∨ I (b + 3) e = 2 ∨ I (b + 3) e = 3) ∧
  (∀ f, f < 48 → s (94 + f) = cOwn I b f) ∧ TK w I b ∧ (∀ j, j < 600 → s (142 + j) = I (b + 5) j) ∧ (∀ k, k < w → LF (FC I b k))
def tkB (s : Nat → Int32) (f : Nat) : Prop := ((s (10 + f / 24)) >>> (nI (f % 24) &&& 31)) &&& (1 : Int32) = 1
def AL (w : Nat) (I : xI) (b : Nat) (s : Nat → Int32) : Prop :=
  (s 9 = 0 ∨ s 9 = 1) ∧ (s 8 = -5 ∨ ∃ k, k < w ∧ s 8 = nI k ∧ (FC I b k 6 = 1 ∨ FC I b k 6 = 2)) ∧ (I b 3 = if s 9 = 0 then s 8 else -5) ∧
  (∀ k, k < w → s 9 = 0 → s 8 = nI k → FC I b k 9 = -5 ∧ ∀ f, f < 48 → (tkB s f ↔ I (b + 4) f = nI k))
def MT (w : Nat) (I : xI) (b : Nat) (s : Nat → Int32) : Prop :=
  (∀ k, k < w → FC I b k 6 = 0 → FC I b k 9 = -5) ∧ ∃ n, s 3 = nI n ∧ (List.range' 0 w).countP (fun k => decide (¬ FC I b k 9 = -5)) = 2 * n
def TD (w : Nat) (I : xI) (b : Nat) : Prop := ∀ f, f < 48 → ∀ k, k < w → I (b + 4) f = nI k → FC I b k 6 = 1
def DY (w : Nat) (I : xI) (b d : Nat) : Prop := ∀ k, k < w → FC I b k 6 = 0 → ∃ du, FC I b k 5 = nI du ∧ d < du ∧ du ≤ d + 9
/-- the relation, between calls -/
def RS (I : xI) (b : Nat) (s : Nat → Int32) : Prop := ∃ w d, RC w I b s ∧ AL w I b s ∧ MT w I b s ∧ TD w I b ∧ I b 0 = nI d ∧ s 0 = nI d ∧ d ≤ 9999 ∧ DY w I b d
/-- two States that hold the same -/
def EqS (I : xI) (b : Nat) (I' : xI) (b' : Nat) : Prop := (∀ j, j < 4 → I' b' j = I b j) ∧ (∀ j, j < 2 → I' (b' + 1) j = I (b + 1) j) ∧ (∀ j, j < 2 → I' (b' + 2) j = I (b + 2) j) ∧ (∀ j, j < 82 → I' (b' + 3) j = I (b + 3) j) ∧ (∀ j, j < 48 → I' (b' + 4) j = I (b + 4) j) ∧ (∀ j, j < 600 → I' (b' + 5) j = I (b + 5) j)
def EqR (s s' : Nat → Int32) : Prop := ∀ j, j < 742 → s' j = s j
theorem cOwn_congr {w : Nat} {I I' : xI} {b b' f : Nat} (h4 : I' (b' + 4) f = I (b + 4) f) (h5 : ∀ j, j < 600 → I' (b' + 5) j = I (b + 5) j) (hw : w ≤ 60) (ht : I (b + 4) f = -5 ∨ ∃ k, k < w ∧ I (b + 4) f = nI k) : cOwn I' b' f = cOwn I b f := by
  unfold cOwn
  rw [h4]
  rcases ht with z | ⟨k, hk, z⟩
  · rw [if_pos z, if_pos z]
  · rw [z, if_neg (nI_m5 (by omega)), if_neg (nI_m5 (by omega)), nI_clamp (by omega), h5 _ (by omega)]
theorem FC_congr {I I' : xI} {b b' k j : Nat} (h5 : ∀ j, j < 600 → I' (b' + 5) j = I (b + 5) j) (hk : k < 60) (hj : j < 10) : FC I' b' k j = FC I b k j := h5 _ (by omega)
theorem pE_lt {e : Nat} (h : e < 82) : pE e < 82 := (tab1 e h).2.2.1
theorem RC.congr {w : Nat} {I I' : xI} {b b' : Nat} {s s' : Nat → Int32} (hI : EqS I b I' b') (hs : EqR s s') (h : RC w I b s) : RC w I' b' s' := by
  obtain ⟨⟨h1, h2, h3⟩, h4, ⟨h5, h6, h7, h8⟩, ⟨h9, h10⟩, h11, h12, h13, h14, h15, h16⟩ := h
  obtain ⟨e0, e1, e2, e3, e4, e5⟩ := hI
  refine ⟨⟨by rw [e0 1 (by omega)]; exact h1, h2, by rw [hs 1 (by omega)]; exact h3⟩, by rw [hs 2 (by omega), e0 2 (by omega)]; exact h4, ⟨by rw [hs 4 (by omega), e1 0 (by omega)]; exact h5, by rw [hs 5 (by omega), e1 1 (by omega)]; exact h6, by rw [hs 6 (by omega), e2 0 (by omega)]; exact h7, by rw [hs 7 (by omega), e2 1 (by omega)]; exact h8⟩, ⟨by rw [e1 0 (by omega)]; exact h9, by rw [e1 1 (by omega)]; exact h10⟩, fun e he => ?_, fun e he => by rw [e3 e he]; exact h12 e he, fun f hf => ?_, fun f hf => by rw [e4 f hf]; exact h14 f hf, fun j hj => by rw [hs _ (by omega), e5 j hj]; exact h15 j hj, fun k hk => (h16 k hk).congr (fun j hj => FC_congr e5 (by omega) (by omega))⟩
  · have := pE_lt he
    rw [hs _ (by omega), e3 e he]; exact h11 e he
  · rw [hs _ (by omega), cOwn_congr (e4 f hf) e5 h2 (h14 f hf)]; exact h13 f hf
theorem tkB_congr {s s' : Nat → Int32} (hs : s' 10 = s 10 ∧ s' 11 = s 11) {f : Nat} (hf : f < 48) : tkB s' f ↔ tkB s f := by
  unfold tkB
  have : f / 24 = 0 ∨ f / 24 = 1 := by omega
  rcases this with z | z <;> rw [z]
  · rw [show s' (10 + 0) = s (10 + 0) from hs.1]
  · rw [show s' (10 + 1) = s (10 + 1) from hs.2]
theorem RS.congr {I I' : xI} {b b' : Nat} {s s' : Nat → Int32} (hI : EqS I b I' b') (hs : EqR s s') (h : RS I b s) : RS I' b' s' := by
  obtain ⟨w, d, hR, ⟨a1, a2, a3, a4⟩, ⟨m1, n, m2, m3⟩, hT, d1, d2, d3, d4⟩ := h
  have hw := hR.1.2.1
  have hF : ∀ k j, k < w → j < 10 → FC I' b' k j = FC I b k j := fun k j hk hj => FC_congr hI.2.2.2.2.2 (by omega) hj
  refine ⟨w, d, hR.congr hI hs, ⟨by rw [hs 9 (by omega)]; exact a1, ?_, by rw [hs 9 (by omega), hs 8 (by omega), hI.1 3 (by omega)]; exact a3, fun k hk h9 h8 => ?_⟩, ⟨fun k hk h6 => ?_, n, by rw [hs 3 (by omega)]; exact m2, ?_⟩, fun f hf k hk z => ?_, by rw [hI.1 0 (by omega)]; exact d1, by rw [hs 0 (by omega)]; exact d2, d3, fun k hk h6 => ?_⟩
  · rw [hs 8 (by omega)]
    exact a2.imp id (fun ⟨k, hk, z1, z2⟩ => ⟨k, hk, z1, by rw [hF k 6 hk (by omega)]; exact z2⟩)
  · rw [hs 9 (by omega)] at h9
    rw [hs 8 (by omega)] at h8
    obtain ⟨z1, z2⟩ := a4 k hk h9 h8
    refine ⟨by rw [hF k 9 hk (by omega)]; exact z1, fun f hf => ?_⟩
    rw [tkB_congr ⟨hs 10 (by omega), hs 11 (by omega)⟩ hf, hI.2.2.2.2.1 f hf]
    exact z2 f hf
  · rw [hF k 6 hk (by omega)] at h6
    rw [hF k 9 hk (by omega)]
    exact m1 k hk h6
  · rw [← m3]
    refine cP_congr (fun k _ hk => ?_)
    rw [hF k 9 (by omega) (by omega)]
  · rw [hI.2.2.2.2.1 f hf] at z
    rw [hF k 6 hk (by omega)]
    exact hT f hf k hk z
  · rw [hF k 6 hk (by omega)] at h6
    rw [hF k 5 hk (by omega)]
    exact d4 k hk h6
/-! updates of both sides -/
theorem FC_xup_other {I : xI} {b a n k j : Nat} {v : Int32} (h : a ≠ b + 5) : FC (xup I a n v) b k j = FC I b k j := xup_cell (fun z => h z.symm)
theorem FC_xup {I : xI} {b k j k' j' : Nat} {v : Int32} (hj : j < 10) (hj' : j' < 10) : FC (xup I (b + 5) (10 * k + j) v) b k' j' = if k' = k ∧ j' = j then v else FC I b k' j' := by
  unfold FC
  by_cases h : k' = k ∧ j' = j
  · rw [if_pos h, h.1, h.2, xup_at]
  · rw [if_neg h]
    exact xup_slot (by omega)
theorem EqS.rf (I : xI) (b : Nat) : EqS I b I b := ⟨fun _ _ => rfl, fun _ _ => rfl, fun _ _ => rfl, fun _ _ => rfl, fun _ _ => rfl, fun _ _ => rfl⟩
theorem RC.fact {w : Nat} {I : xI} {b : Nat} {s : Nat → Int32} (h : RC w I b s) {k j : Nat} {v : Int32} (hk : k < w) (hj6 : 6 ≤ j) (hj : j < 10) (hv : j = 6 → v = 0 ∨ v = 1 ∨ v = 2 ∨ v = 3) : RC w (xup I (b + 5) (10 * k + j) v) b (sup s (142 + 10 * k + j) v) := by
  obtain ⟨⟨h1, h2, h3⟩, h4, ⟨h5, h6, h7, h8⟩, ⟨h9, h10⟩, h11, h12, h13, h14, h15, h16⟩ := h
  have hc : ∀ c, c < 142 → sup s (142 + 10 * k + j) v c = s c := fun c hc => sup_ne (by omega)
  have hI : ∀ i n, i < 5 → xup I (b + 5) (10 * k + j) v (b + i) n = I (b + i) n := fun i n hi => xup_cell (by omega)
  refine ⟨⟨(hI 0 1 (by omega)).trans h1, h2, (hc 1 (by omega)).trans h3⟩, (hc 2 (by omega)).trans (h4.trans (hI 0 2 (by omega)).symm), ⟨(hc 4 (by omega)).trans (h5.trans (hI 1 0 (by omega)).symm), (hc 5 (by omega)).trans (h6.trans (hI 1 1 (by omega)).symm), (hc 6 (by omega)).trans (h7.trans (hI 2 0 (by omega)).symm), (hc 7 (by omega)).trans (h8.trans (hI 2 1 (by omega)).symm)⟩, ⟨by rw [hI 1 0 (by omega)]; exact h9, by rw [hI 1 1 (by omega)]; exact h10⟩, fun e he => ?_, fun e he => by rw [hI 3 e (by omega)]; exact h12 e he, fun f hf => ?_, fun f hf => by rw [hI 4 f (by omega)]; exact h14 f hf, fun n hn => ?_, fun k' hk' => ?_⟩
  · have := pE_lt he
    rw [hc _ (by omega), hI 3 e (by omega)]; exact h11 e he
  · rw [hc _ (by omega), h13 f hf]
    unfold cOwn
    rw [hI 4 f (by omega)]
    rcases h14 f hf with z | ⟨a, ha, z⟩
    · rw [if_pos z, if_pos z]
    · rw [z, if_neg (nI_m5 (by omega)), if_neg (nI_m5 (by omega)), nI_clamp (by omega), xup_slot (by omega)]
  · by_cases hn2 : n = 10 * k + j
    · rw [hn2, xup_at, show 142 + (10 * k + j) = 142 + 10 * k + j by omega, sup_at]
    · rw [xup_slot hn2, sup_ne (by omega)]; exact h15 n hn
  · by_cases hkk : k' = k
    · have hl := h16 k' hk'
      by_cases hj2 : j = 6
      · subst hj2
        obtain ⟨l1, l2, l3, -⟩ := hl
        have hF : ∀ i, i < 6 → FC (xup I (b + 5) (10 * k + 6) v) b k' i = FC I b k' i := fun i hi => by rw [FC_xup (by omega) (by omega), if_neg (by omega)]
        have h66 : FC (xup I (b + 5) (10 * k + 6) v) b k' 6 = v := by rw [FC_xup (by omega) (by omega), if_pos ⟨hkk, rfl⟩]
        refine ⟨by rw [hF 0 (by omega)]; exact l1, by rw [hF 1 (by omega), hF 2 (by omega), hF 3 (by omega)]; exact l2, by rw [hF 4 (by omega), hF 5 (by omega)]; exact l3, by rw [h66]; exact hv rfl⟩
      · exact hl.congr (fun i hi => by rw [FC_xup (by omega) (by omega), if_neg (by omega)])
    · exact (h16 k' hk').congr (fun i hi => by rw [FC_xup (by omega) (by omega), if_neg (by omega)])
theorem RC.cslot {w : Nat} {I : xI} {b : Nat} {s : Nat → Int32} (h : RC w I b s) {j : Nat} {v : Int32} (hj : j = 0 ∨ j = 3) : RC w (xup I b j v) b s := by
  have hI : ∀ i n, (i = 0 → n = 1 ∨ n = 2) → xup I b j v (b + i) n = I (b + i) n := fun i n hi => by
    by_cases z : i = 0
    · subst z; exact xup_slot (by have := hi rfl; omega)
    · exact xup_cell (by omega)
  obtain ⟨⟨h1, h2, h3⟩, h4, ⟨h5, h6, h7, h8⟩, ⟨h9, h10⟩, h11, h12, h13, h14, h15, h16⟩ := h
  refine ⟨⟨(hI 0 1 (by omega)).trans h1, h2, h3⟩, h4.trans (hI 0 2 (by omega)).symm, ⟨h5.trans (hI 1 0 (by omega)).symm, h6.trans (hI 1 1 (by omega)).symm, h7.trans (hI 2 0 (by omega)).symm, h8.trans (hI 2 1 (by omega)).symm⟩, ⟨by rw [hI 1 0 (by omega)]; exact h9, by rw [hI 1 1 (by omega)]; exact h10⟩, fun e he => by rw [hI 3 e (by omega)]; exact h11 e he, fun e he => by rw [hI 3 e (by omega)]; exact h12 e he, fun f hf => ?_, fun f hf => by rw [hI 4 f (by omega)]; exact h14 f hf, fun n hn => by rw [hI 5 n (by omega)]; exact h15 n hn, fun k hk => (h16 k hk).congr (fun i _ => hI 5 _ (by omega))⟩
  rw [h13 f hf]
  unfold cOwn
  rw [hI 4 f (by omega), hI 5 _ (by omega)]
theorem RC.sslot {w : Nat} {I : xI} {b : Nat} {s s' : Nat → Int32} (h : RC w I b s) (hs : ∀ c, c ≠ 0 → c ≠ 3 → c ≠ 8 → c ≠ 9 → c ≠ 10 → c ≠ 11 → s' c = s c) : RC w I b s' := by
  obtain ⟨⟨h1, h2, h3⟩, h4, ⟨h5, h6, h7, h8⟩, h9, h11, h12, h13, h14, h15, h16⟩ := h
  refine ⟨⟨h1, h2, by rw [hs 1 (by omega) (by omega) (by omega) (by omega) (by omega) (by omega)]; exact h3⟩, by rw [hs 2 (by omega) (by omega) (by omega) (by omega) (by omega) (by omega)]; exact h4, ⟨by rw [hs 4 (by omega) (by omega) (by omega) (by omega) (by omega) (by omega)]; exact h5, by rw [hs 5 (by omega) (by omega) (by omega) (by omega) (by omega) (by omega)]; exact h6, by rw [hs 6 (by omega) (by omega) (by omega) (by omega) (by omega) (by omega)]; exact h7, by rw [hs 7 (by omega) (by omega) (by omega) (by omega) (by omega) (by omega)]; exact h8⟩, h9, fun e he => by rw [hs _ (by omega) (by omega) (by omega) (by omega) (by omega) (by omega)]; exact h11 e he, h12, fun f hf => by rw [hs _ (by omega) (by omega) (by omega) (by omega) (by omega) (by omega)]; exact h13 f hf, h14, fun j hj => by rw [hs _ (by omega) (by omega) (by omega) (by omega) (by omega) (by omega)]; exact h15 j hj, h16⟩
theorem RC.turn {w : Nat} {I : xI} {b : Nat} {s : Nat → Int32} (h : RC w I b s) (v : Int32) : RC w (xup I b 2 v) b (sup s 2 v) := by
  have hI : ∀ i n, (i = 0 → n = 1) → xup I b 2 v (b + i) n = I (b + i) n := fun i n hi => by
    by_cases z : i = 0
    · subst z; exact xup_slot (by have := hi rfl; omega)
    · exact xup_cell (by omega)
  have hc : ∀ c, c ≠ 2 → sup s 2 v c = s c := fun c hc => sup_ne hc
  obtain ⟨⟨h1, h2, h3⟩, h4, ⟨h5, h6, h7, h8⟩, ⟨h9, h10⟩, h11, h12, h13, h14, h15, h16⟩ := h
  refine ⟨⟨(hI 0 1 (by omega)).trans h1, h2, (hc 1 (by omega)).trans h3⟩, by rw [sup_at, xup_at], ⟨(hc 4 (by omega)).trans (h5.trans (hI 1 0 (by omega)).symm), (hc 5 (by omega)).trans (h6.trans (hI 1 1 (by omega)).symm), (hc 6 (by omega)).trans (h7.trans (hI 2 0 (by omega)).symm), (hc 7 (by omega)).trans (h8.trans (hI 2 1 (by omega)).symm)⟩, ⟨by rw [hI 1 0 (by omega)]; exact h9, by rw [hI 1 1 (by omega)]; exact h10⟩, fun e he => by rw [hc _ (by omega), hI 3 e (by omega)]; exact h11 e he, fun e he => by rw [hI 3 e (by omega)]; exact h12 e he, fun f hf => ?_, fun f hf => by rw [hI 4 f (by omega)]; exact h14 f hf, fun n hn => by rw [hc _ (by omega), hI 5 n (by omega)]; exact h15 n hn, fun k hk => (h16 k hk).congr (fun i _ => hI 5 _ (by omega))⟩
  rw [hc _ (by omega), h13 f hf]
  unfold cOwn
  rw [hI 4 f (by omega), hI 5 _ (by omega)]
theorem pE_inj {e e' : Nat} (h : e < 82) (h' : e' < 82) (hq : pE e = pE e') : e = e' := by
  have a := (tab1 e h).2.2.2.2.1
  have b := (tab1 e' h').2.2.2.2.1
  rw [← a, ← b, hq]
theorem RC.edge {w : Nat} {I : xI} {b : Nat} {s : Nat → Int32} (h : RC w I b s) {e : Nat} (he : e < 82) {v : Int32} (hv : v = 0 ∨ v = 1 ∨ v = 2 ∨ v = 3) : RC w (xup I (b + 3) e v) b (sup s (12 + pE e) v) := by
  have hp := pE_lt he
  have hI : ∀ i n, i ≠ 3 → xup I (b + 3) e v (b + i) n = I (b + i) n := fun i n hi => xup_cell (by omega)
  have hc : ∀ c, c < 12 ∨ 94 ≤ c → sup s (12 + pE e) v c = s c := fun c hc => sup_ne (by omega)
  obtain ⟨⟨h1, h2, h3⟩, h4, ⟨h5, h6, h7, h8⟩, ⟨h9, h10⟩, h11, h12, h13, h14, h15, h16⟩ := h
  refine ⟨⟨(hI 0 1 (by omega)).trans h1, h2, (hc 1 (by omega)).trans h3⟩, (hc 2 (by omega)).trans (h4.trans (hI 0 2 (by omega)).symm), ⟨(hc 4 (by omega)).trans (h5.trans (hI 1 0 (by omega)).symm), (hc 5 (by omega)).trans (h6.trans (hI 1 1 (by omega)).symm), (hc 6 (by omega)).trans (h7.trans (hI 2 0 (by omega)).symm), (hc 7 (by omega)).trans (h8.trans (hI 2 1 (by omega)).symm)⟩, ⟨by rw [hI 1 0 (by omega)]; exact h9, by rw [hI 1 1 (by omega)]; exact h10⟩, fun e' he' => ?_, fun e' he' => ?_, fun f hf => ?_, fun f hf => by rw [hI 4 f (by omega)]; exact h14 f hf, fun n hn => by rw [hc _ (by omega), hI 5 n (by omega)]; exact h15 n hn, fun k hk => (h16 k hk).congr (fun i _ => hI 5 _ (by omega))⟩
  · by_cases hq : e' = e
    · rw [hq, sup_at, xup_at]
    · rw [sup_ne (fun z => hq (pE_inj he' he (by omega))), xup_slot hq]; exact h11 e' he'
  · by_cases hq : e' = e
    · rw [hq, xup_at]; exact hv
    · rw [xup_slot hq]; exact h12 e' he'
  · rw [hc _ (by omega), h13 f hf]
    unfold cOwn
    rw [hI 4 f (by omega), hI 5 _ (by omega)]
theorem RC.truce {w : Nat} {I : xI} {b : Nat} {s : Nat → Int32} (h : RC w I b s) {p : Nat} (hp : p < 2) {v : Int32} : RC w (xup I (b + 2) p v) b (sup s (6 + p) v) := by
  have hI : ∀ i n, i ≠ 2 → xup I (b + 2) p v (b + i) n = I (b + i) n := fun i n hi => xup_cell (by omega)
  have hc : ∀ c, c < 6 ∨ 8 ≤ c → sup s (6 + p) v c = s c := fun c hc => sup_ne (by omega)
  obtain ⟨⟨h1, h2, h3⟩, h4, ⟨h5, h6, h7, h8⟩, ⟨h9, h10⟩, h11, h12, h13, h14, h15, h16⟩ := h
  refine ⟨⟨(hI 0 1 (by omega)).trans h1, h2, (hc 1 (by omega)).trans h3⟩, (hc 2 (by omega)).trans (h4.trans (hI 0 2 (by omega)).symm), ⟨(hc 4 (by omega)).trans (h5.trans (hI 1 0 (by omega)).symm), (hc 5 (by omega)).trans (h6.trans (hI 1 1 (by omega)).symm), ?_, ?_⟩, ⟨by rw [hI 1 0 (by omega)]; exact h9, by rw [hI 1 1 (by omega)]; exact h10⟩, fun e he => by rw [hc _ (by omega), hI 3 e (by omega)]; exact h11 e he, fun e he => by rw [hI 3 e (by omega)]; exact h12 e he, fun f hf => ?_, fun f hf => by rw [hI 4 f (by omega)]; exact h14 f hf, fun n hn => by rw [hc _ (by omega), hI 5 n (by omega)]; exact h15 n hn, fun k hk => (h16 k hk).congr (fun i _ => hI 5 _ (by omega))⟩
  · have : p = 0 ∨ p = 1 := by omega
    rcases this with rfl | rfl
    · rw [sup_at, xup_at]
    · rw [sup_ne (by omega), xup_slot (by omega)]; exact h7
  · have : p = 0 ∨ p = 1 := by omega
    rcases this with rfl | rfl
    · rw [sup_ne (by omega), xup_slot (by omega)]; exact h8
    · rw [sup_at, xup_at]
  · rw [hc _ (by omega), h13 f hf]
    unfold cOwn
    rw [hI 4 f (by omega), hI 5 _ (by omega)]
/-- what is no State's cell may change -/
theorem RC.off {w : Nat} {I I' : xI} {b : Nat} {s : Nat → Int32} (h : RC w I b s) (hI : ∀ k, b ≤ k → k ≤ b + 5 → I' k = I k) : RC w I' b s :=
  h.congr ⟨fun j _ => by rw [hI b (by omega) (by omega)], fun j _ => by rw [hI _ (by omega) (by omega)], fun j _ => by rw [hI _ (by omega) (by omega)], fun j _ => by rw [hI _ (by omega) (by omega)], fun j _ => by rw [hI _ (by omega) (by omega)], fun j _ => by rw [hI _ (by omega) (by omega)]⟩ (fun _ _ => rfl)
/-- fields taken by the letter k, or given back -/
theorem RC.takers {w : Nat} {I I' : xI} {b : Nat} {s s' : Nat → Int32} (h : RC w I b s) (hI : ∀ k, k ≠ b + 4 → I' k = I k) (ht : TK w I' b) (hs : ∀ c, (c < 94 ∨ 142 ≤ c) → c ≠ 10 → c ≠ 11 → s' c = s c) (ho : ∀ f, f < 48 → s' (94 + f) = cOwn I' b f) : RC w I' b s' := by
  obtain ⟨⟨h1, h2, h3⟩, h4, ⟨h5, h6, h7, h8⟩, ⟨h9, h10⟩, h11, h12, h13, h14, h15, h16⟩ := h
  have hI : ∀ i, i ≠ 4 → I' (b + i) = I (b + i) := fun i hi => hI _ (by omega)
  have hI0 : I' b = I b := hI 0 (by omega)
  refine ⟨⟨by rw [hI0]; exact h1, h2, by rw [hs 1 (by omega) (by omega) (by omega)]; exact h3⟩, by rw [hs 2 (by omega) (by omega) (by omega), hI0]; exact h4, ⟨by rw [hs 4 (by omega) (by omega) (by omega), hI 1 (by omega)]; exact h5, by rw [hs 5 (by omega) (by omega) (by omega), hI 1 (by omega)]; exact h6, by rw [hs 6 (by omega) (by omega) (by omega), hI 2 (by omega)]; exact h7, by rw [hs 7 (by omega) (by omega) (by omega), hI 2 (by omega)]; exact h8⟩, ⟨by rw [hI 1 (by omega)]; exact h9, by rw [hI 1 (by omega)]; exact h10⟩, fun e he => ?_, fun e he => by rw [hI 3 (by omega)]; exact h12 e he, ho, ht, fun j hj => by rw [hs _ (by omega) (by omega) (by omega), hI 5 (by omega)]; exact h15 j hj, fun k hk => (h16 k hk).congr (fun i _ => by unfold FC; rw [hI 5 (by omega)])⟩
  have := pE_lt he
  rw [hs _ (by omega) (by omega) (by omega), hI 3 (by omega)]; exact h11 e he
