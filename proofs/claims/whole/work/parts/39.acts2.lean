/-! ===== settings, text, history ===== -/
theorem inM (x : Int32) {M : Nat} (hM : M + 1 < 2 ^ 31) : (∃ n, 1 ≤ n ∧ n ≤ M ∧ x = nI n ∧ ¬ x < 1 ∧ x ≤ nI M) ∨ ((x < 1 ∨ ¬ x ≤ nI M) ∧ ∀ n, 1 ≤ n → n ≤ M → x ≠ nI n) := by
  rcases nI_cases x (n := M + 1) hM with h | h | ⟨n, hn, rfl⟩
  · exact Or.inr ⟨Or.inl (Int32.lt_trans h (by decide)), fun n _ h2 q => nI_pos (n := n) (by omega) (q ▸ h)⟩
  · refine Or.inr ⟨Or.inr (fun q => ?_), fun n _ h2 q => ?_⟩
    · exact Int32.not_lt.mpr (Int32.le_trans h q) (nI_lt (Nat.lt_succ_self M) hM)
    · subst q; exact nI_ge (a := n) (b := M + 1) (by omega) (by omega) h
  · by_cases h0 : n = 0
    · subst h0
      exact Or.inr ⟨Or.inl (by decide), fun m h1 h2 q => absurd (nI_inj (a := 0) (by decide) (by omega) q) (by omega)⟩
    · exact Or.inl ⟨n, by omega, by omega, rfl, nI_nlt (b := 1) (by omega) (by omega), Int32.not_lt.mp (nI_nlt (a := M) (by omega) (by omega))⟩
theorem GT_fr2 {I I' : xI} (h : ∀ k, 2 ≤ k → k < 6 → I' k = I k) (G : GT I) : GT I' := by
  unfold GT
  rw [h 3 (by omega) (by omega), h 2 (by omega) (by omega), h 4 (by omega) (by omega), h 5 (by omega) (by omega)]
  exact G
theorem RS.set {I : xI} {b : Nat} {s : Nat → Int32} (h : RS I b s) {p v : Nat} (hp : p < 2) (h1 : 1 ≤ v) (h2 : p = 0 → v ≤ 9) (h3 : p = 1 → v ≤ 48) : RS (xup I (b + 1) p (nI v)) b (sup s (4 + p) (nI v)) := by
  obtain ⟨w, d, ⟨r1, r4, ⟨r5, r6, r7, r8⟩, ⟨r9, r10⟩, r11, r12, r13, r14, r15, r16⟩, ⟨a1, a2, a3, a4⟩, ⟨m1, n, m2, m3⟩, hT, e1, e2, e3, hD⟩ := h
  have hI : ∀ i, i ≠ 1 → xup I (b + 1) p (nI v) (b + i) = I (b + i) := fun i hi => by funext x; exact xup_cell (by omega)
  have hI0 : xup I (b + 1) p (nI v) b = I b := hI 0 (by omega)
  have hs : ∀ c, c ≠ 4 → c ≠ 5 → sup s (4 + p) (nI v) c = s c := fun c h4 h5 => sup_ne (by omega)
  have hF : FC (xup I (b + 1) p (nI v)) b = FC I b := FC_cell (hI 5 (by omega))
  refine ⟨w, d, ⟨⟨by rw [hI0]; exact r1.1, r1.2.1, by rw [hs 1 (by omega) (by omega)]; exact r1.2.2⟩, by rw [hs 2 (by omega) (by omega), hI0]; exact r4, ⟨?_, ?_, by rw [hs 6 (by omega) (by omega), hI 2 (by omega)]; exact r7, by rw [hs 7 (by omega) (by omega), hI 2 (by omega)]; exact r8⟩, ⟨?_, ?_⟩, fun e he => ?_, fun e he => by rw [hI 3 (by omega)]; exact r12 e he, fun f hf => ?_, fun f hf => by rw [hI 4 (by omega)]; exact r14 f hf, fun j hj => by rw [hs _ (by omega) (by omega), hI 5 (by omega)]; exact r15 j hj, by rw [hF]; exact r16⟩, ⟨by rw [hs 9 (by omega) (by omega)]; exact a1, by rw [hs 8 (by omega) (by omega), hF]; exact a2, by rw [hs 9 (by omega) (by omega), hs 8 (by omega) (by omega), hI0]; exact a3, fun k hk q1 q2 => ?_⟩, ⟨by rw [hF]; exact m1, n, by rw [hs 3 (by omega) (by omega)]; exact m2, by rw [hF]; exact m3⟩, ?_, by rw [hI0]; exact e1, by rw [hs 0 (by omega) (by omega)]; exact e2, e3, ?_⟩
  · have : p = 0 ∨ p = 1 := by omega
    rcases this with rfl | rfl
    · rw [xup_at, show sup s (4 + 0) (nI v) 4 = nI v from sup_at]
    · rw [xup_slot (by omega), sup_ne (by omega)]; exact r5
  · have : p = 0 ∨ p = 1 := by omega
    rcases this with rfl | rfl
    · rw [xup_slot (by omega), sup_ne (by omega)]; exact r6
    · rw [xup_at, show sup s (4 + 1) (nI v) 5 = nI v from sup_at]
  · have : p = 0 ∨ p = 1 := by omega
    rcases this with rfl | rfl
    · exact ⟨v, h1, h2 rfl, xup_at⟩
    · rw [xup_slot (by omega)]; exact r9
  · have : p = 0 ∨ p = 1 := by omega
    rcases this with rfl | rfl
    · rw [xup_slot (by omega)]; exact r10
    · exact ⟨v, h1, h3 rfl, xup_at⟩
  · have := pE_lt he
    rw [hs _ (by omega) (by omega), hI 3 (by omega)]; exact r11 e he
  · rw [hs _ (by omega) (by omega), r13 f hf]
    unfold cOwn
    rw [hI 4 (by omega), hI 5 (by omega)]
  · rw [hs 9 (by omega) (by omega)] at q1
    rw [hs 8 (by omega) (by omega)] at q2
    obtain ⟨z1, z2⟩ := a4 k hk q1 q2
    refine ⟨by rw [hF]; exact z1, fun f hf => ?_⟩
    rw [hI 4 (by omega)]
    exact (tkB_congr ⟨hs 10 (by omega) (by omega), hs 11 (by omega) (by omega)⟩ hf).trans (z2 f hf)
  · intro f hf k hk
    rw [hI 4 (by omega), hF]; exact hT f hf k hk
  · intro k hk
    rw [hF]; exact hD k hk
theorem call_set (l1 l2 : Int32) : CALL (f_X6_set l1 l2) (f_X7_set l1 l2) := by
  intro I J h
  by_cases hp : ∃ p, p < 2 ∧ l1 = nI p
  · obtain ⟨p, hp, rfl⟩ := hp
    obtain ⟨M, hM, hM2, c1, m1⟩ : ∃ M, M ≤ 48 ∧ ((p = 0 → M = 9) ∧ (p = 1 → M = 48)) ∧ (f_X6_set (nI p) l2 I = f_X6_set_22 (nI p) l2 (nI M) I) ∧ (f_X7_set (nI p) l2 J = f_X7_set_24 (nI p) l2 (nI M) 1 l2 J) := by
      have : p = 0 ∨ p = 1 := by omega
      have i1 : f_X7_in (nI p) 0 1 J = some (1, J) := gg_in_yes (a := 0) (b := 1) (by omega) (by omega) (by decide) J
      have n0 : ¬ nI p < 0 := nI_pos (by omega)
      have n2 : nI p < (2 : Int32) := nI_lt (b := 2) hp (by decide)
      rcases this with rfl | rfl
      · refine ⟨9, by omega, ⟨fun _ => rfl, fun q => absurd q (by omega)⟩, ?_, ?_⟩
        · unfold f_X6_set
          rw [if_neg n0, if_pos n2, if_neg (show ¬ nI 0 ≠ 0 from fun q => q rfl)]
          rfl
        · unfold f_X7_set
          rw [i1, xb_some, if_pos one_ne0, if_neg (show ¬ nI 0 ≠ 0 from fun q => q rfl)]
          rfl
      · refine ⟨48, by omega, ⟨fun q => absurd q (by omega), fun _ => rfl⟩, ?_, ?_⟩
        · unfold f_X6_set
          rw [if_neg n0, if_pos n2, if_pos (show nI 1 ≠ 0 by decide)]
          rfl
        · unfold f_X7_set
          rw [i1, xb_some, if_pos one_ne0, if_pos (show nI 1 ≠ 0 by decide)]
          rfl
    have cl : (nI p).toNatClampNeg = p := nI_clamp (by omega)
    have cl4 : (nI (4 + p)).toNatClampNeg = 4 + p := nI_clamp (by omega)
    have hset : J 70 (4 + p) = I 46 p := by
      obtain ⟨w, d, hR, -⟩ := h.2.1
      have : p = 0 ∨ p = 1 := by omega
      rcases this with rfl | rfl
      · exact hR.2.2.1.1
      · exact hR.2.2.1.2.1
    rcases inM l2 (M := M) (by omega) with ⟨v, v1, v2, rfl, v3, v4⟩ | ⟨v1, v2⟩
    · have iv : f_X7_in (nI v) 1 (nI M) J = some (1, J) := gg_in_yes (a := 1) (b := M) v1 v2 (by omega) J
      have n4 : (4 : Int32) + nI p = nI (4 + p) := nI_add 4 p
      by_cases hs : I 46 p = nI v
      · refine h.same (r := -5) ?_ ?_
        · rw [c1]; unfold f_X6_set_22
          simp only [cl]
          rw [if_neg v3, if_pos v4, if_pos (xin_nI hp (by decide)), if_neg (fun q => q hs)]
        · rw [m1]; unfold f_X7_set_24
          simp only [n4, cl4]
          rw [iv, xb_some, if_pos one_ne0, if_pos (xin_nI (by omega) (by decide)), hset, if_neg (fun q => q hs)]
      · obtain ⟨I1, J0, J1, k1, k2, k3, k4, k5, k6, k7⟩ := st_rec h
        refine ⟨I 46 p, xup I1 46 p (nI v), xup J1 70 (4 + p) (nI v), ?_, ?_, k4.state (by rw [xup_70]; exact k4.2.1.set hp v1 (fun q => by have := hM2.1 q; omega) (fun q => by have := hM2.2 q; omega)) (fun c hc => by funext x; exact xup_cell (by omega)) (fun c hc => by funext x; exact xup_cell hc), fun c hc => by funext x; rw [xup_cell (by omega), k5 c (by omega)], fun c hc => by funext x; rw [xup_cell (by omega), k6 c (by omega) (by omega) (by omega)]⟩
        · rw [c1]; unfold f_X6_set_22
          simp only [cl]
          rw [if_neg v3, if_pos v4, if_pos (xin_nI hp (by decide)), if_pos hs, k1, xb_some, if_pos (xin_nI hp (by decide))]
        · rw [m1]; unfold f_X7_set_24
          simp only [n4, cl4]
          rw [iv, xb_some, if_pos one_ne0, if_pos (xin_nI (by omega) (by decide)), hset, if_pos hs, k2, xb_some, k3, xb_some, if_pos (xin_nI (by omega) (by decide))]
    · refine h.same (r := -2) ?_ ?_
      · rw [c1]; unfold f_X6_set_22
        rcases v1 with q | q
        · rw [if_pos q]
        · rw [if_neg q]; split <;> rfl
      · rw [m1]; unfold f_X7_set_24
        rw [show f_X7_in l2 1 (nI M) J = _ from gg_in_no (a := 1) (b := M) (by omega) (by omega) (fun n a b => v2 n a b) J, xb_some, if_neg (fun q => q rfl)]
  · have hx : ∀ p, p < 2 → l1 ≠ nI p := fun p hp2 q => hp ⟨p, hp2, q⟩
    refine h.same (r := -1) ?_ ?_
    · unfold f_X6_set
      rcases nI_cases l1 (n := 2) (by decide) with q | q | ⟨p, hp2, q⟩
      · rw [if_pos q]
      · split
        · rfl
        · rw [if_neg (show ¬ l1 < (2 : Int32) from Int32.not_lt.mpr q)]
      · exact absurd q (hx p hp2)
    · unfold f_X7_set
      rw [show f_X7_in l1 0 1 J = _ from gg_in_no (a := 0) (b := 1) (by decide) (by decide) (fun n _ b => hx n (by omega)) J, xb_some, if_neg (fun q => q rfl)]
theorem call_undo : CALL f_X6_undo f_X7_undo := by
  intro I J h
  have h' := h
  obtain ⟨h1, h2, h3, h4, h5, h6⟩ := h
  rcases st_undo h3 with ⟨a1, a2⟩ | ⟨r, I', J', a1, a2, a3, a4, a5, a6, a7⟩
  · refine h'.same (r := -5) ?_ a2
    unfold f_X6_undo
    rw [a1, xb_some]
  · refine ⟨r, I', J', ?_, a2, ⟨GT_fr (fun k hk => a5 k (by omega) (by omega)) h1, a4, a3, h4.congr (by rw [a5 0 (by omega) (by omega)]) (fun k a b => a5 k (by omega) (by omega)) (a7 4 (by decide)) (by rw [a6 73 (by decide) (by decide)]; exact EqR.rf _), h5.congr (by rw [a5 0 (by omega) (by omega)]; exact ⟨rfl, rfl, rfl⟩) ⟨a7 9 (by decide), a7 10 (by decide)⟩, h6.congr (by rw [a5 13 (by omega) (by omega)]) (a5 14 (by omega) (by omega)) (a7 8 (by decide)) (a6 75 (by decide) (by decide))⟩, fun k hk => a5 k (by omega) (by omega), fun k hk => a6 k (by omega) (by omega)⟩
    unfold f_X6_undo
    rw [a1, xb_some]
theorem EqS.mid {I I1 I2 : xI} {b b' : Nat} (h : EqS I b I1 b') (e : ∀ k, b' ≤ k → k ≤ b' + 5 → I2 k = I1 k) : EqS I b I2 b' := by
  obtain ⟨x0, x1, x2, x3, x4, x5⟩ := h
  exact ⟨fun j hj => by rw [e b' (by omega) (by omega), x0 j hj], fun j hj => by rw [e (b' + 1) (by omega) (by omega), x1 j hj], fun j hj => by rw [e (b' + 2) (by omega) (by omega), x2 j hj], fun j hj => by rw [e (b' + 3) (by omega) (by omega), x3 j hj], fun j hj => by rw [e (b' + 4) (by omega) (by omega), x4 j hj], fun j hj => by rw [e (b' + 5) (by omega) (by omega), x5 j hj]⟩
theorem call_keep : CALL f_X6_keep f_X7_keep := by
  intro I J h
  obtain ⟨h1, h2, h3, h4, h5, h6⟩ := h
  obtain ⟨I1, a1, a2, a3⟩ := ff_take (b0 := 63) (b1 := 45) (by omega) I
  obtain ⟨J1, g1, g2, -, g3⟩ := lp_keep 742 0 xZ J (by omega) (by unfold xZ; omega)
  have hI : ∀ k, k < 63 → k ≠ 0 → xup I1 0 9 1 k = I k := fun k hk h0 => by funext x; rw [xup_cell h0, a3 k (by omega)]
  have hI0 : ∀ j, j ≠ 9 → xup I1 0 9 1 0 j = I 0 j := fun j hj => by rw [xup_slot hj, a3 0 (by omega)]
  have hJ : ∀ k, k ≠ 73 → k ≠ 69 → xup J1 69 4 1 k = J k := fun k hk h0 => by funext x; rw [xup_cell h0, g2 k hk]
  have hJ9 : ∀ j, j ≠ 4 → xup J1 69 4 1 69 j = J 69 j := fun j hj => by rw [xup_slot hj, g2 69 (by decide)]
  have hday : I 45 0 = J 70 0 := by
    obtain ⟨w, d, -, -, -, -, e1, e2, -⟩ := h2
    rw [e1, e2]
  refine ⟨I 45 0, xup I1 0 9 1, xup J1 69 4 1, ?_, ?_, ⟨?_, ?_, ?_, ?_, ?_, ?_⟩, fun k hk => by funext x; rw [xup_cell (by omega), a3 k (by omega)], fun k hk => hJ k (by omega) (by omega)⟩
  · unfold f_X6_keep
    rw [a1, xb_some, xup_cell (by decide), a3 45 (by omega)]
  · unfold f_X7_keep
    refine g1.trans ?_
    rw [xup_cell (by decide), g2 70 (by decide), hday]
  · exact GT_fr2 (fun k h2 hk => hI k (by omega) (by omega)) h1
  · rw [hJ 70 (by decide) (by decide)]
    exact h2.congr (EqS.of (fun k a b => hI k (by omega) (by omega))) (EqR.rf _)
  · exact h3.congr (fun k a b => hI k (by omega) (by omega)) (hJ9 6 (by decide)) (hJ 74 (by decide) (by decide))
  · refine Or.inr ⟨xup_at, xup_at, h2.congr (a2.mid (fun k a b => by funext x; exact xup_cell (by omega))) (fun j hj => ?_)⟩
    rw [xup_cell (by decide), g3 j (by omega) hj]
  · exact h5.congr ⟨hI0 10 (by decide), hI0 11 (by decide), hI0 12 (by decide)⟩ ⟨hJ9 9 (by decide), hJ9 10 (by decide)⟩
  · exact h6.congr (by rw [hI 13 (by omega) (by omega)]) (hI 14 (by omega) (by omega)) (hJ9 8 (by decide)) (hJ 75 (by decide) (by decide))
theorem call_restore : CALL f_X6_restore f_X7_restore := by
  intro I J h
  rcases h.2.2.2.1 with ⟨s1, s2⟩ | ⟨s1, s2, s3⟩
  · refine h.same (r := -5) ?_ ?_
    · unfold f_X6_restore
      rw [if_neg (fun q => q s1)]
    · unfold f_X7_restore
      rw [if_neg (fun q => q s2)]
  · obtain ⟨I1, J0, J1, k1, k2, k3, k4, k5, k6, k7⟩ := st_rec h
    obtain ⟨I2, a1, a2, a3⟩ := ff_take (b0 := 45) (b1 := 63) (by omega) I1
    obtain ⟨J2, g1, g2, -, g3⟩ := lp_restore 742 0 xZ J1 (by omega) (by unfold xZ; omega)
    have hR : RS I2 45 (J2 70) := by
      have s3' : RS I1 63 (J1 73) := by
        rw [k6 73 (by decide) (by decide) (by decide)]
        exact s3.congr (EqS.of (fun k a b => k5 k (by omega))) (EqR.rf _)
      exact s3'.congr a2 (fun j hj => g3 j (by omega) hj)
    have hday : I2 45 0 = J2 70 0 := by
      obtain ⟨w, d, -, -, -, -, e1, e2, -⟩ := hR
      rw [e1, e2]
    refine ⟨I2 45 0, I2, J2, ?_, ?_, k4.state hR (fun k hk => a3 k (by omega)) (fun k hk => g2 k hk), fun k hk => (a3 k (by omega)).trans (k5 k (by omega)), fun k hk => (g2 k (by omega)).trans (k6 k (by omega) (by omega) (by omega))⟩
    · unfold f_X6_restore
      rw [if_pos (by rw [s1]; exact one_ne0), k1, xb_some, a1, xb_some]
    · unfold f_X7_restore
      rw [if_pos (by rw [s2]; exact one_ne0), k2, xb_some, k3, xb_some]
      refine g1.trans ?_
      rw [hday]
theorem tb11 : ∀ L, L < 61 → (nI L < (60 : Int32) ↔ L < 60) ∧ (nI L = (60 : Int32) ↔ L = 60) := by decide +kernel
theorem call_type (x : Int32) : CALL (f_X6_type ((x.toUInt32 % 65536).toInt32)) (f_X7_type ((x.toUInt32 % 65536).toInt32)) := by
  intro I J h
  have h' := h
  obtain ⟨h1, h2, h3, h4, h5, ⟨L, t1, t2, t3, t4⟩⟩ := h
  have tb := tb11 L (by omega)
  generalize hc : (x.toUInt32 % 65536).toInt32 = c
  have hn : vp_nar .char c = c := by rw [← hc]; exact pk_vc x
  by_cases hL : L < 60
  · refine ⟨nI (L + 1), xup (xup I 14 L c) 13 1 (nI (L + 1)), xup (xup J 75 L c) 69 8 (nI (L + 1)), ?_, ?_, ⟨?_, ?_, ?_, ?_, ?_, ?_⟩, fun k hk => by funext y; rw [xup_cell (by omega), xup_cell (by omega)], fun k hk => by funext y; rw [xup_cell (by omega), xup_cell (by omega)]⟩
    · unfold f_X6_type f_X0_append
      rw [t2, if_neg (nI_pos (by omega)), if_pos (tb.1.mpr hL), if_pos (xin_nI hL (by decide)), nI_clamp (by omega), hn, xup_cell (show 13 ≠ 14 by decide), t2, nI_1, xup_at, xb_some]
    · unfold f_X7_type
      rw [t3, if_pos (fun q => by have := tb.2.mp q; omega), if_pos (xin_nI hL (by decide)), nI_clamp (by omega), xup_cell (show 69 ≠ 75 by decide), t3, nI_1, xup_at]
    · exact GT_fr (fun k hk => by funext y; rw [xup_cell (by omega), xup_cell (by omega)]) h1
    · rw [show xup (xup J 75 L c) 69 8 (nI (L + 1)) 70 = J 70 by funext y; rw [xup_cell (by omega), xup_cell (by omega)]]
      exact h2.congr (EqS.of (fun k a b => by funext y; rw [xup_cell (by omega), xup_cell (by omega)])) (EqR.rf _)
    · exact h3.congr (fun k a b => by funext y; rw [xup_cell (by omega), xup_cell (by omega)]) (by rw [xup_slot (by omega), xup_cell (by omega)]) (by funext y; rw [xup_cell (by omega), xup_cell (by omega)])
    · exact h4.congr (by rw [xup_cell (by omega), xup_cell (by omega)]) (fun k a b => by funext y; rw [xup_cell (by omega), xup_cell (by omega)]) (by rw [xup_slot (by omega), xup_cell (by omega)]) (fun j _ => by rw [xup_cell (by omega), xup_cell (by omega)])
    · exact h5.congr (by simp [xup]) (by simp [xup])
    · refine ⟨L + 1, by omega, xup_at, xup_at, fun j hj => ?_⟩
      rw [xup_cell (show 75 ≠ 69 by decide), xup_cell (show 14 ≠ 13 by decide)]
      by_cases z : j = L
      · subst z; rw [xup_at, xup_at]
      · rw [xup_slot z, xup_slot z]; exact t4 j (by omega)
  · have hL60 : L = 60 := by omega
    refine h'.same (r := -3) ?_ ?_
    · unfold f_X6_type f_X0_append
      rw [t2, if_neg (nI_pos (by omega)), if_neg (fun q => hL (tb.1.mp q)), xb_some]
    · unfold f_X7_type
      rw [t3, if_neg (fun q => q (tb.2.mpr hL60))]
theorem call_clear : CALL f_X6_clearText f_X7_clearText := by
  intro I J h
  obtain ⟨h1, h2, h3, h4, h5, ⟨L, t1, t2, t3, t4⟩⟩ := h
  refine ⟨nI L, xup I 13 1 0, xup J 69 8 0, ?_, ?_, ⟨?_, ?_, ?_, ?_, ?_, ?_⟩, fun k hk => by funext y; rw [xup_cell (by omega)], fun k hk => by funext y; rw [xup_cell (by omega)]⟩
  · unfold f_X6_clearText f_X0_empty
    rw [xb_some, t2]
  · unfold f_X7_clearText
    rw [t3]
  · exact GT_fr (fun k hk => by funext y; rw [xup_cell (by omega)]) h1
  · rw [show xup J 69 8 0 70 = J 70 by funext y; rw [xup_cell (by omega)]]
    exact h2.congr (EqS.of (fun k a b => by funext y; rw [xup_cell (by omega)])) (EqR.rf _)
  · exact h3.congr (fun k a b => by funext y; rw [xup_cell (by omega)]) (by rw [xup_slot (by omega)]) (by funext y; rw [xup_cell (by omega)])
  · exact h4.congr (by rw [xup_cell (by omega)]) (fun k a b => by funext y; rw [xup_cell (by omega)]) (by rw [xup_slot (by omega)]) (fun j _ => by rw [xup_cell (by omega)])
  · exact h5.congr (by simp [xup]) (by simp [xup])
  · exact ⟨0, by omega, xup_at, xup_at, fun j hj => absurd hj (by omega)⟩
theorem call_stopped (l1 : Int32) : CALL (f_X6_stopped l1) (f_X7_stopped l1) := by
  intro I J h
  have hS := h.2.2.2.2.1
  by_cases h0 : l1 = 0
  · subst h0
    rcases hS with ⟨s1, s2, s3⟩ | ⟨s1, s2, s3⟩
    · refine h.same (r := -5) ?_ ?_
      · unfold f_X6_stopped
        rw [if_neg (by decide), if_pos (by decide), if_neg (fun q => q s1)]
      · unfold f_X7_stopped
        rw [if_neg (fun q => q rfl), s2]
    · refine h.same (r := I 0 11) ?_ ?_
      · unfold f_X6_stopped
        rw [if_neg (by decide), if_pos (by decide), if_pos (by rw [s1]; exact one_ne0), if_neg (fun q => q rfl)]
      · unfold f_X7_stopped
        rw [if_neg (fun q => q rfl), s2]
  · by_cases h1 : l1 = 1
    · subst h1
      rcases hS with ⟨s1, s2, s3⟩ | ⟨s1, s2, s3⟩
      · refine h.same (r := -5) ?_ ?_
        · unfold f_X6_stopped
          rw [if_neg (by decide), if_pos (by decide), if_neg (fun q => q s1)]
        · unfold f_X7_stopped
          rw [if_pos one_ne0, if_neg (fun q => q rfl), s3]
      · refine h.same (r := I 0 12) ?_ ?_
        · unfold f_X6_stopped
          rw [if_neg (by decide), if_pos (by decide), if_pos (by rw [s1]; exact one_ne0), if_pos one_ne0]
        · unfold f_X7_stopped
          rw [if_pos one_ne0, if_neg (fun q => q rfl), s3]
    · refine h.same (r := -2) ?_ ?_
      · unfold f_X6_stopped
        rcases nI_cases l1 (n := 2) (by decide) with q | q | ⟨p, hp, q⟩
        · rw [if_pos q]
        · split
          · rfl
          · rw [if_neg (fun y => absurd (Int32.le_trans q y) (by decide))]
        · have : p = 0 ∨ p = 1 := by omega
          rcases this with rfl | rfl
          · exact absurd q h0
          · exact absurd q h1
      · unfold f_X7_stopped
        rw [if_pos h0, if_pos h1]
