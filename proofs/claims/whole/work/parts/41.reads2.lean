/-! ===== the best claim, counts, what all letters would bring ===== -/
theorem fre_pos {E T : Nat → Int32} {f : Nat} (hf : f < 48) (h : T f = -5) : 1 ≤ fre E T f := by
  unfold fre
  have := cP_insert (P := fun g => (rB E f g && decide (T g = -5)) && decide (g ≠ f)) (P' := fun g => rB E f g && decide (T g = -5)) (x := f) 48 0 (by omega) (by omega) (by simp) (by simp [h, rB_iff.mpr (Rch.rf f)]) (fun g hg => by simp [hg])
  omega
theorem lp_best {w : Nat} {l1 : Int32} {I : xI} (hS : SvE (I 48) (I 49) I) : ∀ (m i n : Nat) (best most found mst : Int32) (J : xI), i + m = 48 → m < n → RC w I 45 (J 70) → ((best = -5 ∧ most = 0 ∧ found = -5 ∧ mst = -5) ∨ ∃ f q, f < 48 ∧ 1 ≤ q ∧ q ≤ 48 ∧ best = nI f ∧ found = nI f ∧ most = nI q ∧ mst = nI q) →
    ∃ r J', f_X6_bestClaim_32 n l1 best most (nI i) I = some (r, I) ∧ f_X7_bestClaim_21 n l1 found mst (nI i) J = some (r, J') ∧ fr76 J J' := by
  intro m
  induction m with
  | zero =>
    intro i n best most found mst J hi hn hR hrel
    obtain ⟨n, rfl⟩ : ∃ n', n = n' + 1 := ⟨n - 1, by omega⟩
    have e : nI i ≥ (48 : Int32) := by rw [show i = 48 by omega]; exact Int32.le_refl _
    have hc : f_X6_bestClaim_32 (n + 1) l1 best most (nI i) I = if best ≠ -5 then (if l1 ≠ 0 then some (most, I) else some (best, I)) else some (-5, I) := by
      show f_X6_bestClaim_32b _ l1 best most (nI i) I = _
      unfold f_X6_bestClaim_32b
      rw [if_pos e]
    have hm : f_X7_bestClaim_21 (n + 1) l1 found mst (nI i) J = if l1 ≠ 0 then some (mst, J) else some (found, J) := by
      show f_X7_bestClaim_21b _ l1 found mst (nI i) J = _
      unfold f_X7_bestClaim_21b
      rw [if_pos e]
    rw [hc, hm]
    rcases hrel with ⟨z1, z2, z3, z4⟩ | ⟨f, q, hf, q1, q2, z1, z2, z3, z4⟩
    · refine ⟨-5, J, by rw [if_neg (fun y => y z1)], ?_, fr76.rf J⟩
      rw [z3, z4]; split <;> rfl
    · rw [if_pos (show best ≠ -5 by rw [z1]; exact nI_m5 (by omega)), z1, z2, z3, z4]
      split
      · exact ⟨nI q, J, rfl, rfl, fr76.rf J⟩
      · exact ⟨nI f, J, rfl, rfl, fr76.rf J⟩
  | succ m ih =>
    intro i n best most found mst J hi hn hR hrel
    obtain ⟨n, rfl⟩ : ∃ n', n = n' + 1 := ⟨n - 1, by omega⟩
    have hi48 : i < 48 := by omega
    have e : ¬ nI i ≥ (48 : Int32) := nI_ge (b := 48) hi48 (by decide)
    obtain ⟨l, -, -, -, v4⟩ := hS i hi48
    have hq48 : fre (I 48) (I 49) i ≤ 48 := cP_le _ _ _
    generalize hq : fre (I 48) (I 49) i = q at v4 hq48
    obtain ⟨r, J1, -, y1, y2, y3, y4⟩ := whyC hR (fun g hg => by
      obtain ⟨l, -, -, z, -⟩ := hS g hg
      exact z) hi48
    have hc : f_X6_bestClaim_32 (n + 1) l1 best most (nI i) I = if nI q ≤ most then f_X6_bestClaim_32 n l1 best most (nI (i + 1)) I else if r ≠ 0 then f_X6_bestClaim_32 n l1 best most (nI (i + 1)) I else f_X6_bestClaim_32 n l1 (nI i) (nI q) (nI (i + 1)) I := by
      show f_X6_bestClaim_32b _ l1 best most (nI i) I = _
      unfold f_X6_bestClaim_32b
      rw [if_neg e, cFree hi48, xb_some, v4, y1, xb_some, nI_1]
    by_cases hr : r = 0
    · have hfree := (y4 (by rw [hr]; decide)).1
      have hq1 : 1 ≤ q := by rw [← hq]; exact fre_pos hi48 hfree
      have hR1 : RC w I 45 (J1 70) := by rw [y3 70 (by decide)]; exact hR
      obtain ⟨J2, g1, g2⟩ := gg_freeIn (E := I 48) (T := I 49) (J := J1) hi48 (fun e he => by rw [hR1.E76 he]) (fun g hg => hR1.own5 hg)
      rw [hq] at g1
      have hm : f_X7_bestClaim_21 (n + 1) l1 found mst (nI i) J = if nI q ≤ mst then f_X7_bestClaim_21 n l1 found mst (nI (i + 1)) J2 else f_X7_bestClaim_21 n l1 (nI i) (nI q) (nI (i + 1)) J2 := by
        show f_X7_bestClaim_21b _ l1 found mst (nI i) J = _
        unfold f_X7_bestClaim_21b f_X7_bestClaim_57
        rw [if_neg e, y2, xb_some, if_neg (fun y => y hr), g1, xb_some, nI_1]
        by_cases z : nI q ≤ mst
        · rw [if_pos z, if_pos z, if_pos z]
        · rw [if_neg z, if_neg z, if_neg z]
      have hR2 : RC w I 45 (J2 70) := by rw [g2 70 (by decide)]; exact hR1
      have hupd : ∃ r J', f_X6_bestClaim_32 n l1 (nI i) (nI q) (nI (i + 1)) I = some (r, I) ∧ f_X7_bestClaim_21 n l1 (nI i) (nI q) (nI (i + 1)) J2 = some (r, J') ∧ fr76 J2 J' := ih (i + 1) n _ _ _ _ J2 (by omega) (by omega) hR2 (Or.inr ⟨i, q, hi48, hq1, hq48, rfl, rfl, rfl, rfl⟩)
      have fr2 : fr76 J J2 := fun k hk => (g2 k hk).trans (y3 k hk)
      rw [hc, hm, if_neg (show ¬ r ≠ 0 from fun y => y hr)]
      rcases hrel with ⟨z1, z2, z3, z4⟩ | ⟨f, q', hf, q1, q2, z1, z2, z3, z4⟩
      · rw [z2, z4, if_neg (show ¬ nI q ≤ (0 : Int32) from fun y => Int32.not_lt.mpr y (nI_lt (a := 0) hq1 (by omega))), if_neg (show ¬ nI q ≤ (-5 : Int32) from fun y => Int32.not_lt.mpr y (Int32.lt_of_lt_of_le (show (-5 : Int32) < 0 by decide) (nI_pos' (by omega))))]
        obtain ⟨r', J', u1, u2, u3⟩ := hupd
        exact ⟨r', J', u1, u2, fun k hk => (u3 k hk).trans (fr2 k hk)⟩
      · rw [z3, z4]
        by_cases z : nI q ≤ nI q'
        · rw [if_pos z, if_pos z]
          obtain ⟨r', J', u1, u2, u3⟩ := ih (i + 1) n best (nI q') found (nI q') J2 (by omega) (by omega) hR2 (Or.inr ⟨f, q', hf, q1, q2, z1, z2, rfl, rfl⟩)
          exact ⟨r', J', u1, u2, fun k hk => (u3 k hk).trans (fr2 k hk)⟩
        · rw [if_neg z, if_neg z]
          obtain ⟨r', J', u1, u2, u3⟩ := hupd
          exact ⟨r', J', u1, u2, fun k hk => (u3 k hk).trans (fr2 k hk)⟩
    · have hm : f_X7_bestClaim_21 (n + 1) l1 found mst (nI i) J = f_X7_bestClaim_21 n l1 found mst (nI (i + 1)) J1 := by
        show f_X7_bestClaim_21b _ l1 found mst (nI i) J = _
        unfold f_X7_bestClaim_21b
        rw [if_neg e, y2, xb_some, if_pos hr, nI_1]
      obtain ⟨r', J', u1, u2, u3⟩ := ih (i + 1) n best most found mst J1 (by omega) (by omega) (by rw [y3 70 (by decide)]; exact hR) hrel
      refine ⟨r', J', ?_, hm.trans u2, fun k hk => (u3 k hk).trans (y3 k hk)⟩
      rw [hc, if_pos hr]
      split <;> exact u1
theorem call_bestClaim (l1 : Int32) : CALL (f_X6_bestClaim l1) (f_X7_bestClaim l1) := by
  intro I J h
  obtain ⟨w, d, hR, hw, e1, e2⟩ := h.RCx
  rcases in01 l1 with ⟨j, hj, rfl, j1, j2⟩ | ⟨j1, j2⟩
  · obtain ⟨I', s1, s2, s3⟩ := h.surv
    have hB : ∀ c, 45 ≤ c → I' c = I c := fun c h1 => s2 c (by omega) (by omega) (by omega) (by omega)
    have hR' : RC w I' 45 (J 70) := hR.off (fun c a _ => hB c a)
    obtain ⟨r, J', u1, u2, u3⟩ := lp_best (l1 := nI j) (I := I') (by rw [hB 48 (by omega), hB 49 (by omega)]; exact s3) 48 0 xZ (-5) 0 (-5) (-5) J (by omega) (by unfold xZ; omega) hR' (Or.inl ⟨rfl, rfl, rfl, rfl⟩)
    refine ⟨r, I', J', ?_, ?_, h.rd s2 u3⟩
    · unfold f_X6_bestClaim
      rw [if_neg j1, if_pos j2, s1, xb_some]
      exact u1
    · unfold f_X7_bestClaim
      rw [show f_X7_in (nI j) 0 1 J = _ from gg_in_yes (a := 0) (b := 1) (by omega) (by omega) (by decide) J, xb_some, if_pos one_ne0]
      exact u2
  · refine h.same (r := -2) ?_ ?_
    · unfold f_X6_bestClaim
      rcases j1 with q | q
      · rw [if_pos q]
      · rw [if_neg q]; split <;> rfl
    · unfold f_X7_bestClaim
      rw [show f_X7_in l1 0 1 J = _ from gg_in_no (a := 0) (b := 1) (by decide) (by decide) (fun n _ b => j2 n (by omega)) J, xb_some, if_neg (fun q => q rfl)]
theorem qE_perm : ((List.range' 0 82).map qE).Perm (List.range' 0 82) := by decide +kernel
theorem cP_perm (P : Nat → Bool) : (List.range' 0 82).countP (fun k => P (qE k)) = (List.range' 0 82).countP P := by
  rw [← qE_perm.countP_eq P, List.countP_map]
  rfl
theorem RC.cntE {w : Nat} {I : xI} {b : Nat} {J : xI} (h : RC w I b (J 70)) (v : Int32) : f_X5_edgesWith b v I = some (nI ((List.range' 0 82).countP (fun k => decide (I (b + 3) k = v))), I) ∧ f_X7_edgesThat v J = some (nI ((List.range' 0 82).countP (fun k => decide (I (b + 3) k = v))), J) := by
  refine ⟨ff_edgesWith b v I, ?_⟩
  rw [gg_edgesThat, ← cP_perm (fun k => decide (I (b + 3) k = v))]
  congr 3
  exact cP_congr (fun g _ hg => by rw [h.E76 (by omega)])
theorem RC.cntL {w : Nat} {I : xI} {b : Nat} {J : xI} (h : RC w I b (J 70)) (v : Int32) : ∃ n, f_X5_lettersThatAre b v I = some (nI n, I) ∧ f_X7_lettersThat v J = some (nI n, J) := by
  have hw := h.1.2.1
  refine ⟨_, ff_letters v h.1.1 hw, ?_⟩
  rw [gg_letters v h.1.2.2 hw]
  congr 3
  exact cP_congr (fun g _ hg => by rw [h.fm (by omega) (by omega)]; rfl)
theorem RC.cntF {w : Nat} {I : xI} {b : Nat} {J : xI} (h : RC w I b (J 70)) (v : Int32) : ∃ n, f_X5_fieldsOf b v I = some (nI n, I) ∧ f_X7_fieldsOf v J = some (nI n, J) := by
  have hw := h.1.2.1
  refine ⟨_, ff_fieldsOf v h.1.1 hw h.2.2.2.2.2.2.2.1, ?_⟩
  rw [gg_fieldsOf v]
  congr 3
  exact cP_congr (fun g _ hg => by rw [h.2.2.2.2.2.2.1 g (by omega)])
theorem tb12 : ∀ n, n < 31 → nI (2 * n) / (2 : Int32) = nI n := by decide +kernel
theorem call_count (x : Int32) : CALL (f_X6_count x) (f_X7_count x) := by
  intro I J h
  obtain ⟨w, d, hR, hA, hM, hT, e1, e2, e3, hD⟩ := h.2.1
  have hw := hR.1.2.1
  obtain ⟨hh, la, hh1, hla, hz1, hz2, -⟩ := h.2.2.1
  obtain ⟨L, L1, L2, L3, -⟩ := h.2.2.2.2.2
  by_cases h0 : x = 0
  · subst h0
    exact h.same (r := nI d) (by unfold f_X6_count; rw [if_pos rfl, e1]) (by unfold f_X7_count; rw [if_pos rfl, if_pos (show xin (0 : Int32) 742 from xin_nI (n := 0) (by omega) (by decide)), show (0 : Int32).toNatClampNeg = 0 from rfl, e2])
  by_cases h1 : x = 1
  · subst h1
    exact h.same (r := nI w) (by unfold f_X6_count; rw [if_neg h0, if_pos rfl, hR.1.1]) (by unfold f_X7_count; rw [if_neg h0, if_pos rfl, if_pos (show xin (1 : Int32) 742 from xin_nI (n := 1) (by omega) (by decide)), show (1 : Int32).toNatClampNeg = 1 from rfl, hR.1.2.2])
  by_cases h2 : x = 2
  · subst h2
    obtain ⟨n, c1, c2⟩ := hR.cntL 0
    exact h.same (r := nI n) (by unfold f_X6_count; rw [if_neg h0, if_neg h1, if_pos rfl, c1, xb_some]) (by unfold f_X7_count; rw [if_neg h0, if_neg h1, if_pos rfl, c2, xb_some])
  by_cases h3 : x = 3
  · subst h3
    obtain ⟨n, c1, c2⟩ := hR.cntL 1
    exact h.same (r := nI n) (by unfold f_X6_count; rw [if_neg h0, if_neg h1, if_neg h2, if_pos rfl, c1, xb_some]) (by unfold f_X7_count; rw [if_neg h0, if_neg h1, if_neg h2, if_pos rfl, show (3 : Int32) - 2 = 1 by decide, c2, xb_some])
  by_cases h4 : x = 4
  · subst h4
    obtain ⟨n, c1, c2⟩ := hR.cntL 2
    exact h.same (r := nI n) (by unfold f_X6_count; rw [if_neg h0, if_neg h1, if_neg h2, if_neg h3, if_pos rfl, c1, xb_some]) (by unfold f_X7_count; rw [if_neg h0, if_neg h1, if_neg h2, if_neg h3, if_pos rfl, show (4 : Int32) - 2 = 2 by decide, c2, xb_some])
  by_cases h5 : x = 5
  · subst h5
    exact h.same (r := I 45 2) (by unfold f_X6_count; rw [if_neg h0, if_neg h1, if_neg h2, if_neg h3, if_neg h4, if_pos rfl]) (by unfold f_X7_count f_X7_count_117; rw [if_neg h0, if_neg h1, if_neg h2, if_neg h3, if_neg h4, if_pos rfl, show (2 : Int32) + 5 - 5 = nI 2 by decide, if_pos (xin_nI (by omega) (by decide)), nI_clamp (by omega), hR.2.1])
  by_cases h6 : x = 6
  · subst h6
    obtain ⟨n, m2, m3⟩ := hM.2
    have hn : 2 * n ≤ 60 := by rw [← m3]; exact Nat.le_trans (cP_le _ _ _) hw
    refine h.same (r := nI n) (by
      unfold f_X6_count
      rw [if_neg h0, if_neg h1, if_neg h2, if_neg h3, if_neg h4, if_neg h5, if_pos rfl, ff_twos hR.1.1 hw, xb_some]
      rw [show (List.range' 0 w).countP (fun k => decide (¬ I (45 + 5) (10 * k + 9) = -5)) = 2 * n from m3, tb12 n (by omega)]) (by unfold f_X7_count f_X7_count_117; rw [if_neg h0, if_neg h1, if_neg h2, if_neg h3, if_neg h4, if_neg h5, if_pos rfl, show (2 : Int32) + 6 - 5 = nI 3 by decide, if_pos (xin_nI (by omega) (by decide)), nI_clamp (by omega), m2])
  by_cases h7 : x = 7
  · subst h7
    obtain ⟨n, c1, c2⟩ := hR.cntF 0
    exact h.same (r := nI n) (by unfold f_X6_count; rw [if_neg h0, if_neg h1, if_neg h2, if_neg h3, if_neg h4, if_neg h5, if_neg h6, if_pos rfl, c1, xb_some]) (by unfold f_X7_count; rw [if_neg h0, if_neg h1, if_neg h2, if_neg h3, if_neg h4, if_neg h5, if_neg h6, if_pos rfl, show (7 : Int32) - 7 = 0 by decide, c2, xb_some])
  by_cases h8 : x = 8
  · subst h8
    obtain ⟨n, c1, c2⟩ := hR.cntF 1
    exact h.same (r := nI n) (by unfold f_X6_count; rw [if_neg h0, if_neg h1, if_neg h2, if_neg h3, if_neg h4, if_neg h5, if_neg h6, if_neg h7, if_pos rfl, c1, xb_some]) (by unfold f_X7_count; rw [if_neg h0, if_neg h1, if_neg h2, if_neg h3, if_neg h4, if_neg h5, if_neg h6, if_neg h7, if_pos rfl, show (8 : Int32) - 7 = 1 by decide, c2, xb_some])
  by_cases h9 : x = 9
  · subst h9
    obtain ⟨c1, c2⟩ := hR.cntE 1
    exact h.same (by unfold f_X6_count f_X6_fenceOf; rw [if_neg h0, if_neg h1, if_neg h2, if_neg h3, if_neg h4, if_neg h5, if_neg h6, if_neg h7, if_neg h8, if_pos rfl, xb_some, show (0 : Int32) + 1 = 1 by decide, c1, xb_some]) (by unfold f_X7_count; rw [if_neg h0, if_neg h1, if_neg h2, if_neg h3, if_neg h4, if_neg h5, if_neg h6, if_neg h7, if_neg h8, if_pos rfl, show (9 : Int32) - 8 = 1 by decide, c2, xb_some])
  by_cases h10 : x = 10
  · subst h10
    obtain ⟨c1, c2⟩ := hR.cntE 2
    exact h.same (by unfold f_X6_count f_X6_fenceOf; rw [if_neg h0, if_neg h1, if_neg h2, if_neg h3, if_neg h4, if_neg h5, if_neg h6, if_neg h7, if_neg h8, if_neg h9, if_pos rfl, xb_some, show (1 : Int32) + 1 = 2 by decide, c1, xb_some]) (by unfold f_X7_count; rw [if_neg h0, if_neg h1, if_neg h2, if_neg h3, if_neg h4, if_neg h5, if_neg h6, if_neg h7, if_neg h8, if_neg h9, if_pos rfl, show (10 : Int32) - 8 = 2 by decide, c2, xb_some])
  by_cases h11 : x = 11
  · subst h11
    obtain ⟨c1, c2⟩ := hR.cntE 3
    exact h.same (by unfold f_X6_count; rw [if_neg h0, if_neg h1, if_neg h2, if_neg h3, if_neg h4, if_neg h5, if_neg h6, if_neg h7, if_neg h8, if_neg h9, if_neg h10, if_pos rfl, c1, xb_some]) (by unfold f_X7_count; rw [if_neg h0, if_neg h1, if_neg h2, if_neg h3, if_neg h4, if_neg h5, if_neg h6, if_neg h7, if_neg h8, if_neg h9, if_neg h10, if_pos rfl, show (11 : Int32) - 8 = 3 by decide, c2, xb_some])
  by_cases h12 : x = 12
  · subst h12
    obtain ⟨I', s1, s2, s3⟩ := h.surv
    obtain ⟨J', g1, g2⟩ := gg_regions (E := I 48) (J := J) (fun e he => by rw [hR.E76 he])
    exact ⟨_, I', J', by unfold f_X6_count; rw [if_neg h0, if_neg h1, if_neg h2, if_neg h3, if_neg h4, if_neg h5, if_neg h6, if_neg h7, if_neg h8, if_neg h9, if_neg h10, if_neg h11, if_pos rfl, s1, xb_some], by unfold f_X7_count; rw [if_neg h0, if_neg h1, if_neg h2, if_neg h3, if_neg h4, if_neg h5, if_neg h6, if_neg h7, if_neg h8, if_neg h9, if_neg h10, if_neg h11, if_pos rfl, g1, xb_some], h.rd s2 g2⟩
  by_cases h13 : x = 13
  · subst h13
    obtain ⟨t, ht, t1, t2⟩ := tr_both hR (by rw [e1, e2])
    exact h.same (r := t) (by unfold f_X6_count; rw [if_neg h0, if_neg h1, if_neg h2, if_neg h3, if_neg h4, if_neg h5, if_neg h6, if_neg h7, if_neg h8, if_neg h9, if_neg h10, if_neg h11, if_neg h12, if_pos rfl, t1, xb_some]; rcases ht with rfl | rfl <;> rfl) (by unfold f_X7_count; rw [if_neg h0, if_neg h1, if_neg h2, if_neg h3, if_neg h4, if_neg h5, if_neg h6, if_neg h7, if_neg h8, if_neg h9, if_neg h10, if_neg h11, if_neg h12, if_pos rfl, t2, xb_some]; rcases ht with rfl | rfl <;> rfl)
  by_cases h14 : x = 14
  · subst h14
    exact h.same (r := I 47 0) (by unfold f_X6_count; rw [if_neg h0, if_neg h1, if_neg h2, if_neg h3, if_neg h4, if_neg h5, if_neg h6, if_neg h7, if_neg h8, if_neg h9, if_neg h10, if_neg h11, if_neg h12, if_neg h13, if_pos rfl]) (by unfold f_X7_count f_X7_count_164; rw [if_neg h0, if_neg h1, if_neg h2, if_neg h3, if_neg h4, if_neg h5, if_neg h6, if_neg h7, if_neg h8, if_neg h9, if_neg h10, if_neg h11, if_neg h12, if_neg h13, if_pos rfl, show (6 : Int32) + 14 - 14 = nI 6 by decide, if_pos (xin_nI (by omega) (by decide)), nI_clamp (by omega), hR.2.2.1.2.2.1])
  by_cases h15 : x = 15
  · subst h15
    exact h.same (r := I 47 1) (by unfold f_X6_count; rw [if_neg h0, if_neg h1, if_neg h2, if_neg h3, if_neg h4, if_neg h5, if_neg h6, if_neg h7, if_neg h8, if_neg h9, if_neg h10, if_neg h11, if_neg h12, if_neg h13, if_neg h14, if_pos rfl]) (by unfold f_X7_count f_X7_count_164; rw [if_neg h0, if_neg h1, if_neg h2, if_neg h3, if_neg h4, if_neg h5, if_neg h6, if_neg h7, if_neg h8, if_neg h9, if_neg h10, if_neg h11, if_neg h12, if_neg h13, if_neg h14, if_pos rfl, show (6 : Int32) + 15 - 14 = nI 7 by decide, if_pos (xin_nI (by omega) (by decide)), nI_clamp (by omega), hR.2.2.1.2.2.2])
  by_cases h16 : x = 16
  · subst h16
    exact h.same (r := I 46 0) (by unfold f_X6_count; rw [if_neg h0, if_neg h1, if_neg h2, if_neg h3, if_neg h4, if_neg h5, if_neg h6, if_neg h7, if_neg h8, if_neg h9, if_neg h10, if_neg h11, if_neg h12, if_neg h13, if_neg h14, if_neg h15, if_pos rfl]) (by unfold f_X7_count f_X7_count_177; rw [if_neg h0, if_neg h1, if_neg h2, if_neg h3, if_neg h4, if_neg h5, if_neg h6, if_neg h7, if_neg h8, if_neg h9, if_neg h10, if_neg h11, if_neg h12, if_neg h13, if_neg h14, if_neg h15, if_pos rfl, show (4 : Int32) + 16 - 16 = nI 4 by decide, if_pos (xin_nI (by omega) (by decide)), nI_clamp (by omega), hR.2.2.1.1])
  by_cases h17 : x = 17
  · subst h17
    exact h.same (r := I 46 1) (by unfold f_X6_count; rw [if_neg h0, if_neg h1, if_neg h2, if_neg h3, if_neg h4, if_neg h5, if_neg h6, if_neg h7, if_neg h8, if_neg h9, if_neg h10, if_neg h11, if_neg h12, if_neg h13, if_neg h14, if_neg h15, if_neg h16, if_pos rfl]) (by unfold f_X7_count f_X7_count_177; rw [if_neg h0, if_neg h1, if_neg h2, if_neg h3, if_neg h4, if_neg h5, if_neg h6, if_neg h7, if_neg h8, if_neg h9, if_neg h10, if_neg h11, if_neg h12, if_neg h13, if_neg h14, if_neg h15, if_neg h16, if_pos rfl, show (4 : Int32) + 17 - 16 = nI 5 by decide, if_pos (xin_nI (by omega) (by decide)), nI_clamp (by omega), hR.2.2.1.2.1])
  by_cases h18 : x = 18
  · subst h18
    exact h.same (r := nI hh) (by unfold f_X6_count; rw [if_neg h0, if_neg h1, if_neg h2, if_neg h3, if_neg h4, if_neg h5, if_neg h6, if_neg h7, if_neg h8, if_neg h9, if_neg h10, if_neg h11, if_neg h12, if_neg h13, if_neg h14, if_neg h15, if_neg h16, if_neg h17, if_pos rfl, hz1]) (by unfold f_X7_count; rw [if_neg h0, if_neg h1, if_neg h2, if_neg h3, if_neg h4, if_neg h5, if_neg h6, if_neg h7, if_neg h8, if_neg h9, if_neg h10, if_neg h11, if_neg h12, if_neg h13, if_neg h14, if_neg h15, if_neg h16, if_neg h17, if_pos rfl, hz2])
  by_cases h19 : x = 19
  · subst h19
    exact h.same (r := nI L) (by unfold f_X6_count; rw [if_neg h0, if_neg h1, if_neg h2, if_neg h3, if_neg h4, if_neg h5, if_neg h6, if_neg h7, if_neg h8, if_neg h9, if_neg h10, if_neg h11, if_neg h12, if_neg h13, if_neg h14, if_neg h15, if_neg h16, if_neg h17, if_neg h18, if_pos rfl, L2]) (by unfold f_X7_count; rw [if_neg h0, if_neg h1, if_neg h2, if_neg h3, if_neg h4, if_neg h5, if_neg h6, if_neg h7, if_neg h8, if_neg h9, if_neg h10, if_neg h11, if_neg h12, if_neg h13, if_neg h14, if_neg h15, if_neg h16, if_neg h17, if_neg h18, if_pos rfl, L3])
  · exact h.same (r := -2) (by unfold f_X6_count; rw [if_neg h0, if_neg h1, if_neg h2, if_neg h3, if_neg h4, if_neg h5, if_neg h6, if_neg h7, if_neg h8, if_neg h9, if_neg h10, if_neg h11, if_neg h12, if_neg h13, if_neg h14, if_neg h15, if_neg h16, if_neg h17, if_neg h18, if_neg h19]) (by unfold f_X7_count; rw [if_neg h0, if_neg h1, if_neg h2, if_neg h3, if_neg h4, if_neg h5, if_neg h6, if_neg h7, if_neg h8, if_neg h9, if_neg h10, if_neg h11, if_neg h12, if_neg h13, if_neg h14, if_neg h15, if_neg h16, if_neg h17, if_neg h18, if_neg h19])
/-- what all letters would bring -/
theorem lp_all {w mx : Nat} {l1 : Int32} (hmx : mx ≤ 10008) : ∀ (m n d came i : Nat) (I J : xI), mx - d ≤ m → m < n → CO w I 57 (J 70) → GT I → J 70 0 = nI d → DV w I 57 (d + 1) 0 mx → i + ONW w I 57 ≤ 60 →
    ∃ g I' J', (∀ k16, f_X7_ifAllCome_16 n l1 J = f_X7_ifAllCome_16b k16 l1 J') ∧ f_X7_nextLetter J' = some (-5, J') ∧ (∀ n', f_X3_deliver_5 57 (n' + g) (nI 10008) (nI came) (nI i) I = f_X3_deliver_5 57 n' (nI 10008) (nI (came + g)) (nI (i + g)) I') ∧ CO w I' 57 (J' 70) ∧ frC 57 I I' ∧ frM J J' ∧ (∀ k, k < w → FC I' 57 k 6 ≠ 0) ∧ i + g ≤ 60 := by
  intro m
  induction m with
  | zero =>
    intro n d came i I J hm hn hC G h0 hD hi
    obtain ⟨n, rfl⟩ : ∃ n', n = n' + 1 := ⟨n - 1, by omega⟩
    obtain ⟨r, -, s2, s3⟩ := nx_both hC.1
    rcases s3 with ⟨z, z2⟩ | ⟨k, hk, -, z6⟩
    · subst z
      refine ⟨0, I, J, fun k16 => ?_, s2, fun _ => rfl, hC, frC.rf 57 I, frM.rf J, z2, by omega⟩
      show f_X7_ifAllCome_16b _ l1 J = _
      unfold f_X7_ifAllCome_16b
      rw [s2, xb_some, xb_some, if_pos rfl, if_pos rfl]
    · obtain ⟨du, -, e2, -, e4⟩ := hD k hk z6
      omega
  | succ m ih =>
    intro n d came i I J hm hn hC G h0 hD hi
    obtain ⟨n, rfl⟩ : ∃ n', n = n' + 1 := ⟨n - 1, by omega⟩
    have hw := hC.1.1.2.1
    obtain ⟨r, -, s2, s3⟩ := nx_both hC.1
    rcases s3 with ⟨z, z2⟩ | ⟨k, hk, z, z6⟩
    · subst z
      refine ⟨0, I, J, fun k16 => ?_, s2, fun _ => rfl, hC, frC.rf 57 I, frM.rf J, z2, by omega⟩
      show f_X7_ifAllCome_16b _ l1 J = _
      unfold f_X7_ifAllCome_16b
      rw [s2, xb_some, xb_some, if_pos rfl, if_pos rfl]
    · obtain ⟨du, -, e2, -, e4⟩ := hD k hk z6
      obtain ⟨g, I1, J1, p1, p2, p3, p4, p5, p6, p7, p8⟩ := st_day (came := came) (last := 10008) (by omega) (by omega) (by omega) (by omega) (show mx ≤ 20000 by omega) hC G h0 hD hi
      obtain ⟨g', I', J', q1, q2, q3, q4, q5, q6, q7, q8⟩ := ih n (d + 1) (came + g) (i + g) I1 J1 (by omega) (by omega) p3 (p4.GT (by omega) G) p6 p7 p8
      refine ⟨g + g', I', J', fun k16 => ?_, q2, fun n' => ?_, q4, p4.trans q5, p5.trans q6, q7, by omega⟩
      · refine Eq.trans ?_ (q1 k16)
        show f_X7_ifAllCome_16b _ l1 J = _
        unfold f_X7_ifAllCome_16b
        rw [s2, xb_some, z, if_neg (nI_m5 (by omega)), p1, xb_some]
      · rw [show n' + (g + g') = (n' + g') + g by omega, p2, q3, Nat.add_assoc, Nat.add_assoc]
theorem in03 (x : Int32) : (∃ j, j < 4 ∧ x = nI j ∧ ¬ x < 0 ∧ x ≤ 3) ∨ ((x < 0 ∨ ¬ x ≤ 3) ∧ ∀ j, j < 4 → x ≠ nI j) := by
  rcases nI_cases x (n := 4) (by decide) with h | h | ⟨n, hn, rfl⟩
  · exact Or.inr ⟨Or.inl h, fun n _ q => nI_pos (n := n) (by omega) (q ▸ h)⟩
  · refine Or.inr ⟨Or.inr (fun y => absurd (Int32.le_trans h y) (by decide)), fun n h2 q => ?_⟩
    subst q; exact nI_ge (a := n) (b := 4) h2 (by decide) h
  · exact Or.inl ⟨n, hn, rfl, nI_pos (by omega), Int32.not_lt.mp (nI_nlt (a := 3) (by omega) (by decide))⟩
theorem call_ifAllCome (l1 : Int32) : CALL (f_X6_ifAllCome l1) (f_X7_ifAllCome l1) := by
  intro I J h
  rcases in03 l1 with ⟨j, hj, rfl, j1, j2⟩ | ⟨j1, j2⟩
  · obtain ⟨I1, a1, a2, a3⟩ := ff_take (b0 := 57) (b1 := 45) (by omega) I
    obtain ⟨J1, b1, b2, b3⟩ := gg_putAside J
    have R1 : RS I1 57 (J1 70) := by rw [b2 70 (by decide)]; exact h.2.1.congr a2 (EqR.rf _)
    obtain ⟨w, d, hR, hA, hM, hT, e1, e2, e3, hD⟩ := R1
    have hw := hR.1.2.1
    have G1 : GT I1 := GT_fr (fun k hk => a3 k (by omega)) h.1
    have hon := ONW_le (w := w) I1 57
    obtain ⟨g, I2, J2, q1, q2, q3, q4, q5, q6, q7, q8⟩ := lp_all (w := w) (mx := d + 9) (l1 := nI j) (by omega) 9 xZ d 0 0 I1 J1 (by omega) (by unfold xZ; omega) ⟨hR, hA, hM, hT⟩ G1 e2 (DV.of_DY hD) (by omega)
    have C := q4.day (nI 10008)
    have hdel : f_X3_deliver 57 (10008 : Int32) I1 = some (nI g, xup I2 57 0 (nI 10008)) := by
      unfold f_X3_deliver
      have e := q3 (xZ - g)
      rw [show xZ - g + g = xZ by unfold xZ; omega] at e
      refine e.trans ?_
      rw [show xZ - g = (xZ - g - 1) + 1 by unfold xZ; omega, cp_end (mx := 0) q4.1 (fun k hk h6 => absurd h6 (q7 k hk)) (by omega) (by omega), Nat.zero_add]
    obtain ⟨J3, c1, c2, c3⟩ := gg_putBack J2
    have hI : ∀ k, (k < 57 ∨ 62 < k) → k ≠ 7 → k ≠ 8 → k ≠ 9 → k ≠ 10 → xup I2 57 0 (nI 10008) k = I k := fun k hk a b c d => by
      funext x
      rw [xup_cell (by omega), q5 k (by omega) a b c d, a3 k (by omega)]
    have hJ : ∀ k, k ≠ 70 → k ≠ 71 → k ≠ 76 → J3 k = J k := fun k a b c => (c2 k a).trans ((q6 k a c).trans (b2 k b))
    have hRR : R2 (xup I2 57 0 (nI 10008)) J3 := by
      refine h.congr (fun k _ q => hI k (by omega) (by omega) (by omega) (by omega) (by omega)) (fun k _ x y z u => hJ k x y u) (fun j hj => ?_)
      rw [c3 j hj, q6 71 (by decide) (by decide), b3 j hj]
    have fin : ∀ r, (f_X6_ifAllCome (nI j) I = some (r, xup I2 57 0 (nI 10008))) → (f_X7_ifAllCome (nI j) J = some (r, J3)) → ∃ r I' J', f_X6_ifAllCome (nI j) I = some (r, I') ∧ f_X7_ifAllCome (nI j) J = some (r, J') ∧ R2 I' J' ∧ (∀ k, 69 ≤ k → I' k = I k) ∧ ∀ k, k < 69 → J' k = J k := fun r x y => ⟨r, _, J3, x, y, hRR, fun k hk => hI k (by omega) (by omega) (by omega) (by omega) (by omega), fun k hk => hJ k (by omega) (by omega) (by omega)⟩
    have hc : f_X6_ifAllCome (nI j) I = if nI j = 2 then xb (f_X5_edgesWith 57 (3 : Int32) (xup I2 57 0 (nI 10008))) (fun r4 I4 => some (r4, I4)) else if nI j = 3 then xb (f_X5_lettersThatAre 57 (2 : Int32) (xup I2 57 0 (nI 10008))) (fun r5 I5 => some (r5, I5)) else xb (f_X5_fieldsOf 57 (nI j) (xup I2 57 0 (nI 10008))) (fun r6 I6 => some (r6, I6)) := by
      unfold f_X6_ifAllCome
      rw [if_neg j1, if_pos j2, a1, xb_some, hdel, xb_some]
    have hm : f_X7_ifAllCome (nI j) J = if nI j ≥ (2 : Int32) then (if nI j ≠ (2 : Int32) then xb (f_X7_lettersThat (2 : Int32) J2) (fun r2 I2 => xb (f_X7_putBack I2) (fun _ I3 => some (r2, I3))) else xb (f_X7_edgesThat (3 : Int32) J2) (fun r4 I4 => xb (f_X7_putBack I4) (fun _ I5 => some (r4, I5)))) else xb (f_X7_fieldsOf (nI j) J2) (fun r6 I6 => xb (f_X7_putBack I6) (fun _ I7 => some (r6, I7))) := by
      unfold f_X7_ifAllCome
      rw [show f_X7_in (nI j) 0 3 J = _ from gg_in_yes (a := 0) (b := 3) (by omega) (by omega) (by decide) J, xb_some, if_pos one_ne0, b1, xb_some, q1 (fun _ _ => none)]
      unfold f_X7_ifAllCome_16b
      rw [q2, xb_some, if_pos rfl]
    have hj4 : j = 0 ∨ j = 1 ∨ j = 2 ∨ j = 3 := by omega
    have hlow : j < 2 → ∃ r I' J', f_X6_ifAllCome (nI j) I = some (r, I') ∧ f_X7_ifAllCome (nI j) J = some (r, J') ∧ R2 I' J' ∧ (∀ k, 69 ≤ k → I' k = I k) ∧ ∀ k, k < 69 → J' k = J k := fun hj2 => by
      obtain ⟨n, c4, c5⟩ := C.1.cntF (nI j)
      refine fin (nI n) ?_ ?_
      · rw [hc, if_neg (show ¬ nI j = (2 : Int32) from fun q => absurd (nI_inj (a := j) (b := 2) (by omega) (by decide) q) (by omega)), if_neg (show ¬ nI j = (3 : Int32) from fun q => absurd (nI_inj (a := j) (b := 3) (by omega) (by decide) q) (by omega)), c4, xb_some]
      · rw [hm, if_neg (show ¬ nI j ≥ (2 : Int32) from nI_ge (b := 2) hj2 (by decide)), c5, xb_some, c1, xb_some]
    rcases hj4 with z | z | z | z
    · exact hlow (by omega)
    · exact hlow (by omega)
    · subst z
      obtain ⟨c4, c5⟩ := C.1.cntE 3
      refine fin (nI ((List.range' 0 82).countP (fun k => decide (xup I2 57 0 (nI 10008) (57 + 3) k = 3)))) ?_ ?_
      · rw [hc, if_pos (show nI 2 = 2 from rfl), c4, xb_some]
      · rw [hm, if_pos (show nI 2 ≥ 2 from Int32.le_refl _), if_neg (show ¬ nI 2 ≠ 2 from fun q => q rfl), c5, xb_some, c1, xb_some]
    · subst z
      obtain ⟨n, c4, c5⟩ := C.1.cntL 2
      refine fin (nI n) ?_ ?_
      · rw [hc, if_neg (show ¬ nI 3 = 2 by decide), if_pos (show nI 3 = 3 from rfl), c4, xb_some]
      · rw [hm, if_pos (show nI 3 ≥ 2 by decide), if_pos (show nI 3 ≠ 2 by decide), c5, xb_some, c1, xb_some]
  · refine h.same (r := -2) ?_ ?_
    · unfold f_X6_ifAllCome
      rcases j1 with q | q
      · rw [if_pos q]
      · rw [if_neg q]; split <;> rfl
    · unfold f_X7_ifAllCome
      rw [show f_X7_in l1 0 3 J = _ from gg_in_no (a := 0) (b := 3) (by decide) (by decide) (fun n _ b => j2 n (by omega)) J, xb_some, if_neg (fun q => q rfl)]
