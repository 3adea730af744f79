/-! ===== days pass ===== -/
def CO (w : Nat) (I : xI) (b : Nat) (s : Nat → Int32) : Prop := RC w I b s ∧ AL w I b s ∧ MT w I b s ∧ TD w I b
theorem FC_cell {I I' : xI} {b : Nat} (h : I' (b + 5) = I (b + 5)) : FC I' b = FC I b := by
  unfold FC; rw [h]
theorem CO.day {w : Nat} {I : xI} {b : Nat} {s : Nat → Int32} (h : CO w I b s) (v : Int32) : CO w (xup I b 0 v) b s := by
  obtain ⟨h1, ⟨a1, a2, a3, a4⟩, ⟨m1, m2⟩, h4⟩ := h
  have hF : FC (xup I b 0 v) b = FC I b := FC_cell (by funext x; exact xup_cell (by omega))
  have h44 : xup I b 0 v (b + 4) = I (b + 4) := by funext x; exact xup_cell (by omega)
  unfold CO AL MT TD
  rw [hF, h44, xup_slot (show 3 ≠ 0 by omega)]
  exact ⟨h1.cslot (Or.inl rfl), ⟨a1, a2, a3, a4⟩, ⟨m1, m2⟩, h4⟩
theorem CO.sday {w : Nat} {I : xI} {b : Nat} {s : Nat → Int32} (h : CO w I b s) (v : Int32) : CO w I b (sup s 0 v) := by
  obtain ⟨h1, ⟨a1, a2, a3, a4⟩, ⟨m1, n, m2, m3⟩, h4⟩ := h
  have e : ∀ c, c ≠ 0 → sup s 0 v c = s c := fun c hc => sup_ne hc
  refine ⟨h1.sslot (fun c c0 _ _ _ _ _ => e c c0), ⟨by rw [e 9 (by omega)]; exact a1, by rw [e 8 (by omega)]; exact a2, by rw [e 9 (by omega), e 8 (by omega)]; exact a3, fun k hk q1 q2 => ?_⟩, ⟨m1, n, by rw [e 3 (by omega)]; exact m2, m3⟩, h4⟩
  rw [e 9 (by omega)] at q1
  rw [e 8 (by omega)] at q2
  obtain ⟨z1, z2⟩ := a4 k hk q1 q2
  exact ⟨z1, fun f hf => (tkB_congr ⟨e 10 (by omega), e 11 (by omega)⟩ hf).trans (z2 f hf)⟩
def DV (w : Nat) (I : xI) (b d k mx : Nat) : Prop := ∀ j, j < w → FC I b j 6 = 0 → ∃ du, FC I b j 5 = nI du ∧ d ≤ du ∧ (j < k → d < du) ∧ du ≤ mx
def ONW (w : Nat) (I : xI) (b : Nat) : Nat := (List.range' 0 w).countP (fun k => decide (FC I b k 6 = 0))
/-- the class's letter of a day: it is the soonest -/
theorem cp_step {w k b d last came i mx : Nat} {I : xI} {s : Nat → Int32} (h : RC w I b s) (hk : k < w) (h6 : FC I b k 6 = 0) (h5 : FC I b k 5 = nI d) (hD : DV w I b d k mx) (hmx : mx ≤ 20000) (hl : d ≤ last) (hl2 : last ≤ 20000) (hi : i < 60) {I1 : xI} (hbr : f_X3_bring b (nI k) (xup I b 0 (nI d)) = some (0, I1)) (n : Nat) :
    f_X3_deliver_5 b (n + 1) (nI last) (nI came) (nI i) I = f_X3_deliver_5 b n (nI last) (nI (came + 1)) (nI (i + 1)) I1 := by
  have hw := h.1.2.1
  obtain ⟨r, s1, s2⟩ := ff_soonest h.1.1 hw
  have hr : r = nI k := by
    refine s2.uniq (by omega) (Or.inr ⟨k, hk, rfl, h6, fun j hj hj6 => ?_⟩)
    obtain ⟨du, e1, e2, e3, e4⟩ := hD j hj hj6
    rw [h5, e1]
    by_cases z : d = du
    · subst z
      refine Or.inr ⟨rfl, ?_⟩
      rcases Nat.lt_or_ge j k with y | y
      · exact absurd (e3 y) (by omega)
      · exact y
    · exact Or.inl (nI_lt (by omega) (by omega))
  show f_X3_deliver_5b b _ (nI last) (nI came) (nI i) I = _
  unfold f_X3_deliver_5b
  rw [if_neg (show ¬ nI i ≥ (60 : Int32) from nI_ge (b := 60) hi (by decide)), s1, xb_some, hr, if_neg (nI_m5 (by omega)), show f_X5_told b (nI k) (5 : Int32) I = _ from h.cT (j := 5) hk (by omega), xb_some, h5, if_pos (Int32.not_lt.mp (nI_nlt hl (by omega))), show f_X5_told b (nI k) (5 : Int32) I = _ from h.cT (j := 5) hk (by omega), xb_some, h5, hbr, xb_some, nI_1, nI_1]
theorem cp_end {w b last came i mx : Nat} {I : xI} {s : Nat → Int32} (h : RC w I b s) (hD : DV w I b (last + 1) 0 mx) (hmx : mx ≤ 20000) (hl2 : last ≤ 20000) (n : Nat) :
    f_X3_deliver_5 b (n + 1) (nI last) (nI came) (nI i) I = some (nI came, xup I b 0 (nI last)) := by
  have hw := h.1.2.1
  show f_X3_deliver_5b b _ (nI last) (nI came) (nI i) I = _
  unfold f_X3_deliver_5b
  split
  · rfl
  · obtain ⟨r, s1, s2⟩ := ff_soonest h.1.1 hw
    rw [s1, xb_some]
    rcases s2 with ⟨z, -⟩ | ⟨k, hk, z, z6, -⟩
    · rw [if_pos z]
    · obtain ⟨du, e1, e2, -, e4⟩ := hD k hk z6
      rw [z, if_neg (nI_m5 (by omega)), show f_X5_told b (nI k) (5 : Int32) I = _ from h.cT (j := 5) hk (by omega), xb_some, e1, if_neg (fun q => Int32.not_lt.mpr q (nI_lt (by omega) (by omega)))]
theorem BRG.onw {w k b : Nat} {I J I' J' : xI} (h : BRG w k b I J I' J') (hk : k < w) (h6 : FC I b k 6 = 0) : ONW w I b = ONW w I' b + 1 := by
  obtain ⟨-, -, -, -, -, -, -, -, h9, h10, -⟩ := h
  have hk6 : ¬ FC I' b k 6 = 0 := by rcases h10 with z | z <;> rw [z] <;> decide
  unfold ONW
  rw [← cP_insert (P := fun x => decide (FC I' b x 6 = 0)) (P' := fun x => decide (FC I' b x 6 = 0) || decide (x = k)) (x := k) w 0 (by omega) (by omega) (by simp [hk6]) (by simp) (fun g hg => by simp [hg])]
  refine cP_congr (fun g _ hg => ?_)
  by_cases y : g = k
  · subst y; simp [h6]
  · rw [h9 g (by omega) y]; simp [y]
theorem lp_day {w b d last mx : Nat} (hb : 11 ≤ b) (hb2 : b < 64) (hl : d ≤ last) (hl2 : last ≤ 20000) (hmx : mx ≤ 20000) : ∀ (m k n c came i : Nat) (I J : xI), k + m = w → m < n → CO w I b (J 70) → GT I → J 70 0 = nI d → DV w I b d k mx → i + ONW w I b ≤ 60 →
    ∃ g I' J', f_X7_day_14 n (nI c) (nI k) J = some (nI (c + g), J') ∧ (∀ n', f_X3_deliver_5 b (n' + g) (nI last) (nI came) (nI i) I = f_X3_deliver_5 b n' (nI last) (nI (came + g)) (nI (i + g)) I') ∧ CO w I' b (J' 70) ∧ frC b I I' ∧ frM J J' ∧ J' 70 0 = nI d ∧ DV w I' b (d + 1) 0 mx ∧ (i + g) + ONW w I' b ≤ 60 := by
  intro m
  induction m with
  | zero =>
    intro k n c came i I J hk hn hC G h0 hD hi
    obtain ⟨n, rfl⟩ : ∃ n', n = n' + 1 := ⟨n - 1, by omega⟩
    refine ⟨0, I, J, ?_, fun _ => rfl, hC, frC.rf b I, frM.rf J, h0, fun j hj h6 => ?_, hi⟩
    · show f_X7_day_14b _ (nI c) (nI k) J = _
      unfold f_X7_day_14b
      rw [hC.1.1.2.2, if_pos (show nI k ≥ nI w by rw [show k = w by omega]; exact Int32.le_refl _)]
      rfl
    · obtain ⟨du, e1, e2, e3, e4⟩ := hD j hj h6
      exact ⟨du, e1, e3 (by omega), fun q => absurd q (by omega), e4⟩
  | succ m ih =>
    intro k n c came i I J hk hn hC G h0 hD hi
    obtain ⟨n, rfl⟩ : ∃ n', n = n' + 1 := ⟨n - 1, by omega⟩
    have hw := hC.1.1.2.1
    have hunf : f_X7_day_14 (n + 1) (nI c) (nI k) J = if FC I b k 6 ≠ 0 then f_X7_day_14 n (nI c) (nI (k + 1)) J else if FC I b k 5 ≠ nI d then f_X7_day_14 n (nI c) (nI (k + 1)) J else xb (f_X7_comes (nI k) J) (fun _ I3 => f_X7_day_14 n (nI (c + 1)) (nI (k + 1)) I3) := by
      show f_X7_day_14b _ (nI c) (nI k) J = _
      unfold f_X7_day_14b
      rw [hC.1.1.2.2, if_neg (nI_ge (by omega) (by omega)), show f_X7_of (nI k) (6 : Int32) J = _ from hC.1.mT (j := 6) (by omega) (by omega), xb_some, show f_X7_of (nI k) (5 : Int32) J = _ from hC.1.mT (j := 5) (by omega) (by omega), xb_some, h0, nI_1, nI_1]
    have hskip : (FC I b k 6 = 0 → FC I b k 5 ≠ nI d) → f_X7_day_14 (n + 1) (nI c) (nI k) J = f_X7_day_14 n (nI c) (nI (k + 1)) J → ∃ g I' J', f_X7_day_14 (n + 1) (nI c) (nI k) J = some (nI (c + g), J') ∧ (∀ n', f_X3_deliver_5 b (n' + g) (nI last) (nI came) (nI i) I = f_X3_deliver_5 b n' (nI last) (nI (came + g)) (nI (i + g)) I') ∧ CO w I' b (J' 70) ∧ frC b I I' ∧ frM J J' ∧ J' 70 0 = nI d ∧ DV w I' b (d + 1) 0 mx ∧ (i + g) + ONW w I' b ≤ 60 := fun hs e => by
      obtain ⟨g, I', J', q1, q2⟩ := ih (k + 1) n c came i I J (by omega) (by omega) hC G h0 (fun j hj h6 => by
        obtain ⟨du, e1, e2, e3, e4⟩ := hD j hj h6
        refine ⟨du, e1, e2, fun hjk => ?_, e4⟩
        by_cases z : j = k
        · subst z
          rcases Nat.lt_or_ge d du with y | y
          · exact y
          · exact absurd (by rw [e1, show du = d by omega]) (hs h6)
        · exact e3 (by omega)) hi
      exact ⟨g, I', J', e.trans q1, q2⟩
    by_cases h6 : FC I b k 6 = 0
    · by_cases h5 : FC I b k 5 = nI d
      · have C2 := hC.day (nI d)
        have hF : FC (xup I b 0 (nI d)) b = FC I b := FC_cell (by funext x; exact xup_cell (by omega))
        obtain ⟨I1, J1, b1, b2, bg⟩ := st_bring (k := k) hb ((frC.up b I (by omega)).GT hb G) C2.1 C2.2.1 C2.2.2.1 C2.2.2.2 (by omega) (by rw [hF]; exact h6) (by rw [xup_at, h0])
        have bo := bg.onw (by omega) (by rw [hF]; exact h6)
        have bo2 : ONW w (xup I b 0 (nI d)) b = ONW w I b := by unfold ONW; rw [hF]
        obtain ⟨r1, r2, r3, r4, r5, r6, r7, r8, r9, r10, r11⟩ := bg
        obtain ⟨g, I', J', q1, q2, q3, q4, q5, q6, q7, q8⟩ := ih (k + 1) n (c + 1) (came + 1) (i + 1) I1 J1 (by omega) (by omega) ⟨r1, r2, r3, r4⟩ (r5.GT hb ((frC.up b I (by omega)).GT hb G)) (r8.trans h0) (fun j hj hj6 => by
          have hjk : j ≠ k := fun z => by subst z; rw [hj6] at r10; rcases r10 with z | z <;> exact absurd z (by decide)
          rw [r9 j hj hjk, hF] at hj6
          obtain ⟨du, e1, e2, e3, e4⟩ := hD j hj hj6
          exact ⟨du, by rw [r11 j hj, hF]; exact e1, e2, fun y => e3 (by omega), e4⟩) (by omega)
        refine ⟨g + 1, I', J', ?_, fun n' => ?_, q3, ((frC.up b I (by omega)).trans r5).trans q4, r6.trans q5, q6, q7, by omega⟩
        · rw [hunf, if_neg (fun q => q h6), if_neg (fun q => q h5), b2, xb_some, q1]
          congr 3; omega
        · rw [← Nat.add_assoc n' g 1, cp_step hC.1 (by omega) h6 h5 hD hmx hl hl2 (by omega) b1, q2 n']
          congr 1
          · congr 1; omega
          · congr 1; omega
      · exact hskip (fun _ => h5) (by rw [hunf, if_neg (fun q => q h6), if_pos h5])
    · exact hskip (fun q => absurd q h6) (by rw [hunf, if_pos h6])
/-- a day of the model -/
theorem st_day {w b d last mx came i : Nat} {I J : xI} (hb : 11 ≤ b) (hb2 : b < 64) (hl : d + 1 ≤ last) (hl2 : last ≤ 20000) (hmx : mx ≤ 20000) (hC : CO w I b (J 70)) (G : GT I) (h0 : J 70 0 = nI d) (hD : DV w I b (d + 1) 0 mx) (hi : i + ONW w I b ≤ 60) :
    ∃ g I' J', f_X7_day J = some (nI g, J') ∧ (∀ n', f_X3_deliver_5 b (n' + g) (nI last) (nI came) (nI i) I = f_X3_deliver_5 b n' (nI last) (nI (came + g)) (nI (i + g)) I') ∧ CO w I' b (J' 70) ∧ frC b I I' ∧ frM J J' ∧ J' 70 0 = nI (d + 1) ∧ DV w I' b (d + 2) 0 mx ∧ (i + g) + ONW w I' b ≤ 60 := by
  have hw := hC.1.1.2.1
  obtain ⟨g, I', J', q1, q2, q3, q4, q5, q6⟩ := lp_day (d := d + 1) (w := w) hb hb2 hl hl2 hmx w 0 xZ 0 came i I (xup J 70 0 (nI (d + 1))) (by omega) (by unfold xZ; omega) (by rw [xup_70]; exact hC.sday _) G xup_at hD hi
  refine ⟨g, I', J', ?_, q2, q3, q4, (frM.up J).trans q5, q6⟩
  unfold f_X7_day
  rw [h0, nI_1]
  rw [Nat.zero_add] at q1
  exact q1
theorem lp_pass {w b last mx days : Nat} (hb : 11 ≤ b) (hb2 : b < 64) (hl2 : last ≤ 20000) (hmx : mx ≤ 20000) (hdays : days ≤ 99) : ∀ (m t n c d came i : Nat) (I J : xI), t + m = days → d + m = last → m < n → CO w I b (J 70) → GT I → J 70 0 = nI d → DV w I b (d + 1) 0 mx → i + ONW w I b ≤ 60 →
    ∃ g I' J', f_X7_passes_21 n (nI days) (nI c) (nI t) J = some (nI (c + g), J') ∧ (∀ n', f_X3_deliver_5 b (n' + g) (nI last) (nI came) (nI i) I = f_X3_deliver_5 b n' (nI last) (nI (came + g)) (nI (i + g)) I') ∧ CO w I' b (J' 70) ∧ frC b I I' ∧ frM J J' ∧ J' 70 0 = nI last ∧ DV w I' b (last + 1) 0 mx ∧ (i + g) + ONW w I' b ≤ 60 := by
  intro m
  induction m with
  | zero =>
    intro t n c d came i I J ht hd hn hC G h0 hD hi
    obtain ⟨n, rfl⟩ : ∃ n', n = n' + 1 := ⟨n - 1, by omega⟩
    have : d = last := by omega
    subst this
    refine ⟨0, I, J, ?_, fun _ => rfl, hC, frC.rf b I, frM.rf J, h0, hD, hi⟩
    show f_X7_passes_21b _ (nI days) (nI c) (nI t) J = _
    unfold f_X7_passes_21b
    rw [if_pos (show nI t ≥ nI days by rw [show t = days by omega]; exact Int32.le_refl _)]
    rfl
  | succ m ih =>
    intro t n c d came i I J ht hd hn hC G h0 hD hi
    obtain ⟨n, rfl⟩ : ∃ n', n = n' + 1 := ⟨n - 1, by omega⟩
    obtain ⟨g, I1, J1, p1, p2, p3, p4, p5, p6, p7, p8⟩ := st_day (came := came) (last := last) hb hb2 (by omega) hl2 hmx hC G h0 hD hi
    obtain ⟨g', I', J', q1, q2, q3, q4, q5, q6⟩ := ih (t + 1) n (c + g) (d + 1) (came + g) (i + g) I1 J1 (by omega) (by omega) (by omega) p3 (p4.GT hb G) p6 p7 p8
    refine ⟨g + g', I', J', ?_, fun n' => ?_, q3, p4.trans q4, p5.trans q5, q6.1, q6.2.1, by omega⟩
    · show f_X7_passes_21b _ (nI days) (nI c) (nI t) J = _
      unfold f_X7_passes_21b
      rw [if_neg (nI_ge (by omega) (by omega)), p1, xb_some, nI_add, nI_1]
      refine q1.trans ?_
      rw [Nat.add_assoc]
    · rw [show n' + (g + g') = (n' + g') + g by omega, p2, q2, Nat.add_assoc, Nat.add_assoc]
theorem ONW_le {w : Nat} (I : xI) (b : Nat) : ONW w I b ≤ w := cP_le _ _ _
theorem DV.of_DY {w b d : Nat} {I : xI} (h : DY w I b d) : DV w I b (d + 1) 0 (d + 9) := fun j hj h6 => by
  obtain ⟨du, e1, e2, e3⟩ := h j hj h6
  exact ⟨du, e1, e2, fun q => absurd q (by omega), e3⟩
/-- days pass: the class's and the model's -/
theorem st_pass {b : Nat} {I J : xI} {days : Nat} (hb : 11 ≤ b) (hb2 : b < 64) (G : GT I) (h : RS I b (J 70)) (hd : days ≤ 99) :
    ∃ d, I b 0 = nI d ∧ J 70 0 = nI d ∧ d ≤ 9999 ∧ (d + days ≤ 9999 → ∃ g I' J', g ≤ 60 ∧ f_X3_deliver b (nI (d + days)) I = some (nI g, I') ∧ f_X7_passes (nI days) J = some (nI g, J') ∧ RS I' b (J' 70) ∧ frC b I I' ∧ frM J J') ∧ (¬ d + days ≤ 9999 → f_X7_passes (nI days) J = some (-3, J)) := by
  obtain ⟨w, d, hR, hA, hM, hT, hd1, hd2, hd3, hDY⟩ := h
  have hw := hR.1.2.1
  refine ⟨d, hd1, hd2, hd3, fun hle => ?_, fun hgt => ?_⟩
  · have hon := ONW_le (w := w) I b
    obtain ⟨g, I', J', q1, q2, ⟨c1, c2, c3, c4⟩, q4, q5, q6, q7, q8⟩ := lp_pass (w := w) (last := d + days) (mx := d + 9) hb hb2 (by omega) (by omega) hd days 0 xZ 0 d 0 0 I J (by omega) rfl (by unfold xZ; omega) ⟨hR, hA, hM, hT⟩ G hd2 (DV.of_DY hDY) (by omega)
    have C := CO.day ⟨c1, c2, c3, c4⟩ (nI (d + days))
    have hF : FC (xup I' b 0 (nI (d + days))) b = FC I' b := FC_cell (by funext x; exact xup_cell (by omega))
    refine ⟨g, xup I' b 0 (nI (d + days)), J', by omega, ?_, ?_, ⟨w, d + days, C.1, C.2.1, C.2.2.1, C.2.2.2, xup_at, q6, hle, fun k hk h6 => ?_⟩, q4.trans (frC.up b _ (by omega)), q5⟩
    · unfold f_X3_deliver
      have e := q2 (xZ - g)
      rw [show xZ - g + g = xZ by unfold xZ; omega] at e
      refine e.trans ?_
      rw [show xZ - g = (xZ - g - 1) + 1 by unfold xZ; omega, cp_end c1 q7 (by omega) (by omega), Nat.zero_add]
    · unfold f_X7_passes
      rw [hd2, nI_add, if_pos (show nI (d + days) ≤ (9999 : Int32) from Int32.not_lt.mp (nI_nlt (a := 9999) hle (by decide)))]
      rw [Nat.zero_add] at q1
      exact q1
    · rw [hF] at h6
      rw [hF]
      obtain ⟨du, e1, e2, e3, e4⟩ := q7 k hk h6
      exact ⟨du, e1, by omega, by omega⟩
  · unfold f_X7_passes
    rw [hd2, nI_add, if_neg (show ¬ nI (d + days) ≤ (9999 : Int32) from fun q => Int32.not_lt.mpr q (nI_lt (a := 9999) (by omega) (by omega)))]
