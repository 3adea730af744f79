/-! ===== a game is performed ===== -/
theorem R2.text {I J I' J' : xI} (h : R2 I J) (hI : ∀ k, k < 69 → k ≠ 13 → ¬ (15 ≤ k ∧ k ≤ 18) → (k < 7 ∨ (12 ≤ k ∧ k < 51) ∨ 63 ≤ k) → I' k = I k) (h13 : I' 13 1 = I 13 1) (hJ : ∀ k, 69 < k → k ≠ 70 → k ≠ 71 → k ≠ 72 → k ≠ 76 → J' k = J k) (h69 : ∀ j, j < 12 → J' 69 j = J 69 j) (h70 : EqR (J 70) (J' 70)) : R2 I' J' := by
  obtain ⟨h1, h2, h3, h4, h5, h6⟩ := h
  refine ⟨GT_fr (fun k hk => hI k (by omega) (by omega) (by omega) (by omega)) h1, h2.congr (EqS.of (fun k a b => hI k (by omega) (by omega) (by omega) (by omega))) h70, h3.congr (fun k a b => hI k (by omega) (by omega) (by omega) (by omega)) (h69 6 (by omega)) (hJ 74 (by omega) (by omega) (by omega) (by omega) (by omega)), h4.congr (by rw [hI 0 (by omega) (by omega) (by omega) (by omega)]) (fun k a b => hI k (by omega) (by omega) (by omega) (by omega)) (h69 4 (by omega)) (by rw [hJ 73 (by omega) (by omega) (by omega) (by omega) (by omega)]; exact EqR.rf _), h5.congr (by rw [hI 0 (by omega) (by omega) (by omega) (by omega)]; exact ⟨rfl, rfl, rfl⟩) ⟨h69 9 (by omega), h69 10 (by omega)⟩, h6.congr h13 (hI 14 (by omega) (by omega) (by omega) (by omega)) (h69 8 (by omega)) (hJ 75 (by omega) (by omega) (by omega) (by omega) (by omega))⟩
theorem R2.mid {I J I' J' : xI} (h : R2 I J) (hR : RS I' 45 (J' 70)) (hI : frC 45 I I') (hJ : frP J J') : R2 I' J' := by
  obtain ⟨h1, h2, h3, h4, h5, h6⟩ := h
  have e : ∀ k, (k < 7 ∨ (11 ≤ k ∧ k < 45) ∨ 50 < k) → I' k = I k := fun k hk => hI k (by omega) (by omega) (by omega) (by omega) (by omega)
  exact ⟨GT_fr (fun k hk => e k (by omega)) h1, hR, h3.congr (fun k a b => e k (by omega)) (hJ.2 6 (by omega)) (hJ.1 74 (by omega) (by omega) (by omega)), h4.congr (by rw [e 0 (by omega)]) (fun k a b => e k (by omega)) (hJ.2 4 (by omega)) (by rw [hJ.1 73 (by omega) (by omega) (by omega)]; exact EqR.rf _), h5.congr (by rw [e 0 (by omega)]; exact ⟨rfl, rfl, rfl⟩) ⟨hJ.2 9 (by omega), hJ.2 10 (by omega)⟩, h6.congr (by rw [e 13 (by omega)]) (e 14 (by omega)) (hJ.2 8 (by omega)) (hJ.1 75 (by omega) (by omega) (by omega))⟩
theorem st_rec51 {I J : xI} (h : R2 I J) (hR : RS I 51 (J 72)) : ∃ I' J', f_X2_add 51 I = some (0, I') ∧ f_X7_records J = some (0, J') ∧ R2 I' J' ∧ (∀ k, 69 ≤ k → I' k = I k) ∧ ∀ k, k < 69 → J' k = J k := by
  obtain ⟨h1, h2, h3, h4, h5, h6⟩ := h
  obtain ⟨I', J', k1, k2, k3, k4, k5, k6⟩ := st_add (Or.inr rfl) h3 hR
  refine ⟨I', J', k1, k2, ⟨GT_fr (fun k hk => k4 k (by omega)) h1, ?_, k3, h4.congr (by rw [k4 0 (by omega)]) (fun k a b => k4 k (by omega)) (k6 4 (by decide)) (by rw [k5 73 (by decide) (by decide)]; exact EqR.rf _), h5.congr (by rw [k4 0 (by omega)]; exact ⟨rfl, rfl, rfl⟩) ⟨k6 9 (by decide), k6 10 (by decide)⟩, h6.congr (by rw [k4 13 (by omega)]) (k4 14 (by omega)) (k6 8 (by decide)) (k5 75 (by decide) (by decide))⟩, fun k hk => k4 k (by omega), fun k hk => k5 k (by omega) (by omega)⟩
  rw [k5 70 (by decide) (by decide)]
  exact h2.congr (EqS.of (fun k a b => k4 k (by omega))) (EqR.rf _)
theorem ff_part {a i : Nat} (hi : i < 60) (I : xI) : f_X0_part a (nI i) I = some (I a i, I) := by
  unfold f_X0_part
  rw [if_neg (nI_pos (by omega)), if_neg (show ¬ nI i ≥ (60 : Int32) from nI_ge (b := 60) hi (by decide)), if_pos (xin_nI hi (by decide)), nI_clamp (by omega)]
/-- a thing is done: both sides -/
theorem st_thing {T : Nat → Int32} {L p p' kd pl nu sd i : Nat} {I J : xI} (ht : Th T L p p' kd pl nu sd) (hr : Row I i kd pl nu sd) (hi : i < 60) (h3 : ¬ nI i ≥ I 13 3) (hm : RdM kd pl nu sd J) (G : GT I) (hR : RS I 45 (J 70)) (n : Nat) :
    ∃ r I' J', f_X6_perform_32 (n + 1) (nI i) I = f_X6_perform_99 (fun l2 I => f_X6_perform_32 n l2 I) (nI i) r I' ∧ (∀ (k19 : Int32 → Int32 → Int32 → xI → Option (Int32 × xI)) (l2 : Int32), (if J 69 14 ≠ -5 then xb (f_X7_writes (J 69 14) (J 69 15) (J 69 16) (J 69 17) J) (fun r3 I3 => f_X7_runs_75 k19 1 l2 r3 I3) else xb (f_X7_passes (J 69 17) J) (fun r4 I4 => f_X7_runs_75 k19 1 l2 r4 I4)) = f_X7_runs_75 k19 1 l2 r J') ∧ RS I' 45 (J' 70) ∧ frC 45 I I' ∧ frM J J' := by
  obtain ⟨q15, q17, q16, q18⟩ := hr
  have e0 : f_X6_perform_32 (n + 1) (nI i) I = if nI kd ≠ 4 then f_X6_perform_67 (fun l2 I => f_X6_perform_32 n l2 I) (nI i) 0 I else f_X6_perform_67 (fun l2 I => f_X6_perform_32 n l2 I) (nI i) 1 I := by
    show f_X6_perform_32b _ (nI i) I = _
    unfold f_X6_perform_32b
    rw [if_neg h3, ff_part hi, xb_some, q15]
  have hg : kd ≠ 4 → f_X6_addLetterOfGame (nI i) I = if nI kd = 2 then xb (f_X6_addClaim (nI pl) (nI nu) I) (fun r5 I5 => some (r5, I5)) else if nI kd = 3 then xb (f_X6_addTruce (nI pl) (nI nu) I) (fun r6 I6 => some (r6, I6)) else xb (f_X6_addEdgeLetter (nI pl) (nI kd) (nI nu) (I 18 i) I) (fun r8 I8 => some (r8, I8)) := fun hk => by
    unfold f_X6_addLetterOfGame
    rw [ff_part hi, xb_some, ff_part hi, xb_some, ff_part hi, xb_some, ff_part hi, xb_some, q15, q17, q16 hk]
  have m14 : ∀ pl, nI pl ≠ -5 ∨ 2 ^ 31 ≤ pl := fun pl => by
    rcases Nat.lt_or_ge pl (2 ^ 31) with y | y
    · exact Or.inl (nI_m5 y)
    · exact Or.inr y
  rcases ht with ⟨k4, -, -, hn⟩ | ⟨z, hpl2, -, hk, -⟩
  · have hv := hn.val (by omega) (by omega)
    obtain ⟨r, I', J', a1, a2, a3, a4, a5⟩ := st_passI nu hv.1 hv.2 I J G hR
    refine ⟨r, I', J', ?_, fun k19 l2 => ?_, a3, a4, a5⟩
    · rw [e0, if_neg (show ¬ nI kd ≠ 4 by rw [k4]; exact fun q => q rfl)]
      unfold f_X6_perform_67
      rw [if_neg one_ne0, ff_part hi, xb_some, q17, a1, xb_some]
    · rcases hm with ⟨-, b1, b2⟩ | ⟨b1, b2, ⟨b3, -⟩ | ⟨b3, -⟩ | ⟨b3, -⟩⟩
      · rw [b1, if_neg (fun q => q rfl), b2, a2, xb_some]
      · omega
      · omega
      · omega
  · have hk4 := hk.2.1
    have hne4 : kd ≠ 4 := by omega
    have e1 : f_X6_perform_32 (n + 1) (nI i) I = xb (f_X6_addLetterOfGame (nI i) I) (fun r2 I2 => f_X6_perform_99 (fun l2 I => f_X6_perform_32 n l2 I) (nI i) r2 I2) := by
      rw [e0, if_pos (show nI kd ≠ 4 from fun q => hne4 (nI_inj (b := 4) (by omega) (by decide) q))]
      unfold f_X6_perform_67
      rw [if_pos rfl]
    rcases hm with ⟨b0, -⟩ | ⟨b1, b2, hb⟩
    · exact absurd b0 hne4
    · have n5 : nI pl ≠ -5 := nI_m5 (by omega)
      rw [e1, hg hne4]
      rcases hb with ⟨y, b3, b4⟩ | ⟨y, b3, b4⟩ | ⟨y, b3, b4⟩
      · subst y
        obtain ⟨r, I', J', a1, a2, a3, a4, a5⟩ := st_writeC (l1 := nI pl) (l2 := nI nu) I J G hR
        refine ⟨r, I', J', ?_, fun k19 l2 => ?_, a3, a4, a5⟩
        · rw [if_pos (show nI 2 = 2 from rfl), a1, xb_some, xb_some]
        · rw [b1, if_pos n5, b2, b3, b4, show nI 2 = (2 : Int32) from rfl, a2, xb_some]
      · subst y
        obtain ⟨r, I', J', a1, a2, a3, a4, a5⟩ := st_writeT (l1 := nI pl) (l2 := nI nu) I J G hR
        refine ⟨r, I', J', ?_, fun k19 l2 => ?_, a3, a4, a5⟩
        · rw [if_neg (show ¬ nI 3 = 2 by decide), if_pos (show nI 3 = 3 from rfl), a1, xb_some, xb_some]
        · rw [b1, if_pos n5, b2, b3, b4, show nI 3 = (3 : Int32) from rfl, a2, xb_some]
      · obtain ⟨r, I', J', a1, a2, a3, a4, a5⟩ := st_writeE (l1 := nI pl) (l3 := nI nu) (l4 := nI sd) kd y I J G hR
        refine ⟨r, I', J', ?_, fun k19 l2 => ?_, a3, a4, a5⟩
        · rw [if_neg (show ¬ nI kd = 2 from fun q => absurd (nI_inj (b := 2) (by omega) (by decide) q) (by omega)), if_neg (show ¬ nI kd = 3 from fun q => absurd (nI_inj (b := 3) (by omega) (by decide) q) (by omega)), q18 y, a1, xb_some, xb_some]
        · rw [b1, if_pos n5, b2, b3, b4, a2, xb_some]
/-- the things of a game, one by one -/
theorem lp_perf {T : Nat → Int32} {L N : Nat} {R : xI} (hL : L ≤ 60) (hN : N ≤ 60) : ∀ (m i p n1 n2 : Nat) (I J : xI), m + 1 < n1 → m + 1 < n2 → p ≤ L → Gm T L R m i p → (∀ k, 15 ≤ k → k ≤ 18 → I k = R k) → i + m = N → I 13 3 = nI N → Mt T L p 0 J → RS I 45 (J 70) → GT I →
    (∃ I' J', f_X6_perform_32 n1 (nI i) I = xb (f_X6_recordUnlessError (nI N) I') (fun r5 I5 => some (r5, I5)) ∧ f_X7_runs_19 n2 1 (nI i) 1 J = some (nI N, J') ∧ RS I' 45 (J' 70) ∧ frC 45 I I' ∧ frP J J' ∧ J' 69 18 = 0) ∨
    (∃ t e I' J', e < 0 ∧ f_X6_perform_32 n1 (nI i) I = xb (f_X5_takeFrom 45 51 I') (fun _ I1 => some ((-4 : Int32), xup (xup (xup I1 0 10 1) 0 11 t) 0 12 e)) ∧ f_X7_runs_19 n2 1 (nI i) 1 J = some (t, J') ∧ J' 69 18 = e ∧ frC 45 I I' ∧ frP J J' ∧ RS I' 45 (J' 70)) := by
  intro m
  induction m with
  | zero => intro i p n1 n2 I J _ _ _ h; exact h.elim
  | succ m ih =>
    intro i p n1 n2 I J hn1 hn2 hp h hrow hi h3 hM hR G
    obtain ⟨n1, rfl⟩ : ∃ n', n1 = n' + 2 := ⟨n1 - 2, by omega⟩
    obtain ⟨n2, rfl⟩ : ∃ n', n2 = n' + 2 := ⟨n2 - 2, by omega⟩
    obtain ⟨p', kd, pl, nu, sd, t1, t2, t3⟩ := h
    have hle := t1.le
    obtain ⟨J1, r1, r2, r3, r4⟩ := (gg_thing hM hL hp).1 _ _ _ _ _ t1
    have R1 : RS I 45 (J1 70) := by rw [r3.1 70 (by decide)]; exact hR
    have row : Row I i kd pl nu sd := by
      obtain ⟨a, b, c, d⟩ := t2
      exact ⟨by rw [hrow 15 (by omega) (by omega)]; exact a, by rw [hrow 17 (by omega) (by omega)]; exact b, fun q => by rw [hrow 16 (by omega) (by omega)]; exact c q, fun q => by rw [hrow 18 (by omega) (by omega)]; exact d q⟩
    obtain ⟨r, I', J', a1, a2, a3, a4, a5⟩ := st_thing (i := i) t1 row (by omega) (by rw [h3]; exact nI_ge (by omega) (by omega)) r4 G R1 (n1 + 1)
    have M' : Mt T L p' 0 J' := by
      obtain ⟨x1, x2, x3, x4⟩ := r2
      have e69 : J' 69 = J1 69 := a5 69 (by decide) (by decide)
      exact ⟨by rw [e69]; exact x1, fun j hj => by rw [a5 75 (by decide) (by decide)]; exact x2 j hj, by rw [e69]; exact x3, by rw [e69]; exact x4⟩
    have eM : f_X7_runs_19 (n2 + 2) 1 (nI i) 1 J = f_X7_runs_75 (fun l1 l2 l3 I => f_X7_runs_19 (n2 + 1) l1 l2 l3 I) 1 (nI i) r J' := by
      show f_X7_runs_19b _ 1 (nI i) 1 J = _
      unfold f_X7_runs_19b
      rw [if_neg one_ne0, r1, xb_some, if_pos one_ne0]
      exact a2 _ _
    have fP : frP J J' := r3.p.trans a5.p
    by_cases hr : r ≥ 0
    · have eM2 : f_X7_runs_75 (fun l1 l2 l3 I => f_X7_runs_19 (n2 + 1) l1 l2 l3 I) 1 (nI i) r J' = f_X7_runs_75 (fun l1 l2 l3 I => f_X7_runs_19 (n2 + 1) l1 l2 l3 I) 1 (nI i) 0 J' := by
        unfold f_X7_runs_75
        rw [if_pos hr, if_pos (Int32.le_refl 0)]
      have eC : f_X6_perform_32 (n1 + 2) (nI i) I = f_X6_perform_32 (n1 + 1) (nI (i + 1)) I' := by
        refine a1.trans ?_
        unfold f_X6_perform_99
        rw [if_pos hr, nI_1]
      have h3' : I' 13 3 = nI N := by rw [a4 13 (by omega) (by omega) (by omega) (by omega) (by omega)]; exact h3
      have R5 := (rn_105 (T := T) (L := L) (p := p') (J := J') hL hle.2 1 i n2 (fun l1 l2 l3 I => f_X7_runs_19 (n2 + 1) l1 l2 l3 I)).2 M'
      rcases t3 with ⟨hm0, hend⟩ | ⟨hlt, hs, hg⟩
      · have hiN : i + 1 = N := by omega
        refine Or.inl ⟨I', xup J' 69 18 0, eC.trans ?_, eM.trans (eM2.trans ((R5.1 hend).trans ((rn_end n2 _ _ _).trans (by rw [hiN])))), ?_, a4, fP.trans (frP.up J' (by omega) _), xup_at⟩
        · show f_X6_perform_32b _ (nI (i + 1)) I' = _
          unfold f_X6_perform_32b
          rw [h3', if_pos (show nI (i + 1) ≥ nI N by rw [hiN]; exact Int32.le_refl _)]
        · rw [show xup J' 69 18 0 70 = J' 70 by funext x; exact xup_cell (by decide)]; exact a3
      · obtain ⟨J2, s1, s2, s3, s4, s5⟩ := R5.2.1 hlt hs
        have hrow' : ∀ k, 15 ≤ k → k ≤ 18 → I' k = R k := fun k x y => (a4 k (by omega) (by omega) (by omega) (by omega) (by omega)).trans (hrow k x y)
        rcases ih (i + 1) (p' + 1) (n1 + 1) (n2 + 1) I' J2 (by omega) (by omega) (by omega) hg hrow' (by omega) h3' s2 (by rw [s5 70 (by decide)]; exact a3) (a4.GT (by omega) G) with ⟨I'', J'', g1, g2, g3, g4, g5, g6⟩ | ⟨t, e, I'', J'', g0, g1, g2, g3, g4, g5, g6⟩
        · exact Or.inl ⟨I'', J'', eC.trans g1, eM.trans (eM2.trans (s1.trans g2)), g3, a4.trans g4, (fP.trans s3).trans g5, g6⟩
        · exact Or.inr ⟨t, e, I'', J'', g0, eC.trans g1, eM.trans (eM2.trans (s1.trans g2)), g3, a4.trans g4, (fP.trans s3).trans g5, g6⟩
    · have hr0 : r ≠ 0 := fun q => hr (by rw [q]; exact Int32.le_refl 0)
      refine Or.inr ⟨nI i, r, I', xup J' 69 18 r, Int32.not_le.mp hr, ?_, ?_, xup_at, a4, fP.trans (frP.up J' (by omega) _), by rw [show xup J' 69 18 r 70 = J' 70 by funext x; exact xup_cell (by decide)]; exact a3⟩
      · refine a1.trans ?_
        unfold f_X6_perform_99
        rw [if_neg hr]
      · refine eM.trans ?_
        unfold f_X7_runs_75 f_X7_runs_89 f_X7_runs_105 f_X7_runs_137
        rw [if_neg hr, xup_at, if_neg hr, if_pos hr0, if_pos rfl, nI_p0]
        exact rn_end n2 _ _ _
