/-! ===== what is told ===== -/
theorem R2.RCx {I J : xI} (h : R2 I J) : ∃ w d, RC w I 45 (J 70) ∧ w ≤ 60 ∧ I 45 0 = nI d ∧ J 70 0 = nI d := by
  obtain ⟨w, d, hR, -, -, -, e1, e2, -⟩ := h.2.1
  exact ⟨w, d, hR, hR.1.2.1, e1, e2⟩
/-- calls that only mark -/
theorem R2.rd {I J I' J' : xI} (h : R2 I J) (hI : frS I I') (hJ : fr76 J J') : R2 I' J' ∧ (∀ k, 69 ≤ k → I' k = I k) ∧ ∀ k, k < 69 → J' k = J k :=
  ⟨h.congr (fun k _ q => hI k (by omega) (by omega) (by omega) (by omega)) (fun k _ _ _ _ q => hJ k q) (by rw [hJ 70 (by decide)]; exact EqR.rf _), fun k hk => hI k (by omega) (by omega) (by omega) (by omega), fun k hk => hJ k (by omega)⟩
theorem fr76.rf (J : xI) : fr76 J J := fun _ _ => rfl
theorem call_edge (l1 l2 : Int32) : CALL (f_X6_edge l1 l2) (f_X7_edge l1 l2) := by
  intro I J h
  obtain ⟨w, d, hR, hw, -⟩ := h.RCx
  rcases edge_cases l1 l2 h.1 J with ⟨f, g, hf, hg, he, rfl, rfl⟩ | ⟨e1, e2⟩
  · have e := edge_yes hf hg he h.1 J
    have hp := pE_lt he
    refine h.same (r := I 48 (eT f g)) ?_ ?_
    · unfold f_X6_edge
      rw [e.1, xb_some, ff_isEdge_yes he, xb_some, if_neg one_ne0, cOn he, xb_some]
    · unfold f_X7_edge
      rw [e.2, xb_some, if_pos (nI_m5 (by omega)), (tb7 _ hp).2, if_pos (xin_nI (by omega) (by decide)), nI_clamp (by omega), hR.2.2.2.2.1 _ he]
  · refine h.same (r := -1) ?_ ?_
    · unfold f_X6_edge
      rw [e1, xb_some, ff_isEdge_no, xb_some, if_pos rfl]
    · unfold f_X7_edge
      rw [e2, xb_some, if_neg (fun q => q rfl)]
theorem lp_edgesOf {w f : Nat} (hf : f < 48) {I J : xI} (G : GT I) (hR : RC w I 45 (J 70)) : ∀ (m i c n : Nat), i + m = 4 → m < n → ∃ r, f_X6_edgesWithSomething_4 n (nI f) (nI c) (nI i) I = some (r, I) ∧ f_X7_edgesOf_4 n (nI f) (nI c) (nI i) J = some (r, J) := by
  intro m
  induction m with
  | zero =>
    intro i c n hi hn
    obtain ⟨n, rfl⟩ : ∃ n', n = n' + 1 := ⟨n - 1, by omega⟩
    have e : nI i ≥ (4 : Int32) := by rw [show i = 4 by omega]; exact Int32.le_refl _
    refine ⟨nI c, ?_, ?_⟩
    · show f_X6_edgesWithSomething_4b _ (nI f) (nI c) (nI i) I = _
      unfold f_X6_edgesWithSomething_4b
      rw [if_pos e]
    · show f_X7_edgesOf_4b _ (nI f) (nI c) (nI i) J = _
      unfold f_X7_edgesOf_4b
      rw [if_pos e]
  | succ m ih =>
    intro i c n hi hn
    obtain ⟨n, rfl⟩ : ∃ n', n = n' + 1 := ⟨n - 1, by omega⟩
    have e : ¬ nI i ≥ (4 : Int32) := nI_ge (b := 4) (by omega) (by decide)
    have key : ∃ q, q ≤ 1 ∧ f_X6_edgesWithSomething_4 (n + 1) (nI f) (nI c) (nI i) I = f_X6_edgesWithSomething_4 n (nI f) (nI (c + q)) (nI (i + 1)) I ∧ f_X7_edgesOf_4 (n + 1) (nI f) (nI c) (nI i) J = f_X7_edgesOf_4 n (nI f) (nI (c + q)) (nI (i + 1)) J := by
      by_cases he : eT f i < 82
      · have ee := edge_yes hf (show i < 4 by omega) he G J
        have hp := pE_lt he
        have hv := hR.2.2.2.2.2.1 _ he
        by_cases h0 : I (45 + 3) (eT f i) = 0
        · refine ⟨0, by omega, ?_, ?_⟩
          · show f_X6_edgesWithSomething_4b _ (nI f) (nI c) (nI i) I = _
            unfold f_X6_edgesWithSomething_4b
            rw [if_neg e, ee.1, xb_some, ff_isEdge_yes he, xb_some, if_neg one_ne0, cOn he, xb_some, if_pos h0, nI_1]
            rfl
          · show f_X7_edgesOf_4b _ (nI f) (nI c) (nI i) J = _
            unfold f_X7_edgesOf_4b
            rw [if_neg e, ee.2, xb_some, if_neg (nI_m5 (by omega)), (tb7 _ hp).2, if_pos (xin_nI (by omega) (by decide)), nI_clamp (by omega), hR.2.2.2.2.1 _ he, if_pos ((x03 hv).mpr h0), nI_1, nI_p0]
            rfl
        · refine ⟨1, by omega, ?_, ?_⟩
          · show f_X6_edgesWithSomething_4b _ (nI f) (nI c) (nI i) I = _
            unfold f_X6_edgesWithSomething_4b
            rw [if_neg e, ee.1, xb_some, ff_isEdge_yes he, xb_some, if_neg one_ne0, cOn he, xb_some, if_neg h0, nI_1, nI_1]
          · show f_X7_edgesOf_4b _ (nI f) (nI c) (nI i) J = _
            unfold f_X7_edgesOf_4b
            rw [if_neg e, ee.2, xb_some, if_neg (nI_m5 (by omega)), (tb7 _ hp).2, if_pos (xin_nI (by omega) (by decide)), nI_clamp (by omega), hR.2.2.2.2.1 _ he, if_neg (fun q => h0 ((x03 hv).mp q)), nI_1, nI_1]
      · have ee := edge_no hf (show i < 4 by omega) he G J
        refine ⟨0, by omega, ?_, ?_⟩
        · show f_X6_edgesWithSomething_4b _ (nI f) (nI c) (nI i) I = _
          unfold f_X6_edgesWithSomething_4b
          rw [if_neg e, ee.1, xb_some, ff_isEdge_no, xb_some, if_pos rfl, nI_1]
          rfl
        · show f_X7_edgesOf_4b _ (nI f) (nI c) (nI i) J = _
          unfold f_X7_edgesOf_4b
          rw [if_neg e, ee.2, xb_some, if_pos rfl, nI_1, nI_p0]
          rfl
    obtain ⟨q, -, k1, k2⟩ := key
    obtain ⟨r, g1, g2⟩ := ih (i + 1) (c + q) n (by omega) (by omega)
    exact ⟨r, k1.trans g1, k2.trans g2⟩
theorem gg_fieldNo {x : Int32} {I : xI} (h : ¬ ∃ f, f < 48 ∧ x = nI f) (J : xI) : f_X6_isField x I = some (0, I) ∧ f_X7_isField x J = some (0, J) := by
  refine ⟨?_, gg_isField_no (fun f hf q => h ⟨f, hf, q⟩) J⟩
  rcases ff_isField_cases x I with q | q
  · exact absurd q h
  · exact q
theorem R2.surv {I J : xI} (h : R2 I J) : ∃ I', f_X4_survey 45 I = some (nI ((List.range' 0 48).countP (lowB (I 48))), I') ∧ frS I I' ∧ SvE (I 48) (I 49) I' :=
  ff_survey (b := 45) (I 48) (I 49) (by omega) h.1 (fun _ _ => rfl) (fun _ _ => rfl)
theorem call_field (l1 l2 : Int32) : CALL (f_X6_field l1 l2) (f_X7_field l1 l2) := by
  intro I J h
  obtain ⟨w, d, hR, hw, -⟩ := h.RCx
  by_cases hx : ∃ f, f < 48 ∧ l1 = nI f
  · obtain ⟨f, hf, rfl⟩ := hx
    obtain ⟨I', s1, s2, s3⟩ := h.surv
    have hB : ∀ c, 45 ≤ c → I' c = I c := fun c h1 => s2 c (by omega) (by omega) (by omega) (by omega)
    have hR' : RC w I' 45 (J 70) := hR.off (fun c a _ => hB c a)
    obtain ⟨l, v1, v2, v3, v4⟩ := s3 f hf
    have G' : GT I' := GT_fr (fun k hk => s2 k (by omega) (by omega) (by omega) (by omega)) h.1
    have hE : ∀ e, e < 82 → (J 70 (12 + e) = 0 ↔ I 48 (qE e) = 0) := fun e he => by rw [hR.E76 he]
    have hT : ∀ g, g < 48 → (J 70 (94 + g) = -5 ↔ I 49 g = -5) := fun g hg => hR.own5 hg
    have c0 : f_X6_field (nI f) l2 I = if l2 = 0 then xb (f_X5_ownerOf 45 (nI f) I') (fun r4 I4 => some (r4, I4)) else if l2 = 1 then xb (f_X4_sizeAround (nI f) I') (fun r5 I5 => some (r5, I5)) else if l2 = 2 then xb (f_X4_freeAround (nI f) I') (fun r6 I6 => some (r6, I6)) else if l2 = 3 then xb (f_X4_lowestAround (nI f) I') (fun r7 I7 => some (r7, I7)) else if l2 = 4 then xb (f_X6_edgesWithSomething (nI f) I') (fun r8 I8 => some (r8, I8)) else some ((-2 : Int32), I') := by
      unfold f_X6_field
      rw [ff_isField_yes hf, xb_some, if_pos one_ne0, s1, xb_some]
    have m0 : f_X7_field (nI f) l2 J = if l2 = 0 then some (J 70 (94 + f), J) else if l2 = 1 then xb (f_X7_mark (nI f) J) (fun r4 I4 => some (r4, I4)) else if l2 = 2 then xb (f_X7_freeIn (nI f) J) (fun r5 I5 => some (r5, I5)) else if l2 = 3 then xb (f_X7_lowestIn (nI f) J) (fun r6 I6 => some (r6, I6)) else if l2 = 4 then xb (f_X7_edgesOf (nI f) J) (fun r7 I7 => some (r7, I7)) else some ((-2 : Int32), J) := by
      unfold f_X7_field
      rw [gg_isField_yes hf, xb_some, if_pos one_ne0, n94, if_pos (xin_nI (by omega) (by decide)), nI_clamp (by omega)]
    by_cases q0 : l2 = 0
    · refine ⟨cOwn I' 45 f, I', J, ?_, ?_, h.rd s2 (fr76.rf J)⟩
      · rw [c0, if_pos q0, ff_ownerOf hR'.1.1 hw hR'.2.2.2.2.2.2.2.1 hf, xb_some]
      · rw [m0, if_pos q0, hR'.2.2.2.2.2.2.1 f hf]
    · by_cases q1 : l2 = 1
      · obtain ⟨J', g1, g2, -⟩ := gg_mark (E := I 48) hf hE
        refine ⟨nI (siz (I 48) f), I', J', ?_, ?_, h.rd s2 g2⟩
        · rw [c0, if_neg q0, if_pos q1, cSize hf, xb_some, v3]
        · rw [m0, if_neg q0, if_pos q1, g1, xb_some]
      · by_cases q2 : l2 = 2
        · obtain ⟨J', g1, g2⟩ := gg_freeIn (E := I 48) (T := I 49) hf hE hT
          refine ⟨nI (fre (I 48) (I 49) f), I', J', ?_, ?_, h.rd s2 g2⟩
          · rw [c0, if_neg q0, if_neg q1, if_pos q2, cFree hf, xb_some, v4]
          · rw [m0, if_neg q0, if_neg q1, if_pos q2, g1, xb_some]
        · by_cases q3 : l2 = 3
          · obtain ⟨l', J', g1, g2, g3⟩ := gg_lowestIn (E := I 48) hf hE
            refine ⟨nI l, I', J', ?_, ?_, h.rd s2 g2⟩
            · rw [c0, if_neg q0, if_neg q1, if_neg q2, if_pos q3, cLow hf, xb_some, v2]
            · rw [m0, if_neg q0, if_neg q1, if_neg q2, if_pos q3, g1, xb_some, v1.uniq g3]
          · by_cases q4 : l2 = 4
            · obtain ⟨r, g1, g2⟩ := lp_edgesOf hf G' hR' 4 0 0 xZ (by omega) (by unfold xZ; omega)
              refine ⟨r, I', J, ?_, ?_, h.rd s2 (fr76.rf J)⟩
              · rw [c0, if_neg q0, if_neg q1, if_neg q2, if_neg q3, if_pos q4]
                unfold f_X6_edgesWithSomething
                rw [show f_X6_edgesWithSomething_4 xZ (nI f) (0 : Int32) (0 : Int32) I' = _ from g1, xb_some]
              · rw [m0, if_neg q0, if_neg q1, if_neg q2, if_neg q3, if_pos q4]
                unfold f_X7_edgesOf
                rw [show f_X7_edgesOf_4 xZ (nI f) (0 : Int32) (0 : Int32) J = _ from g2, xb_some]
            · refine ⟨-2, I', J, ?_, ?_, h.rd s2 (fr76.rf J)⟩
              · rw [c0, if_neg q0, if_neg q1, if_neg q2, if_neg q3, if_neg q4]
              · rw [m0, if_neg q0, if_neg q1, if_neg q2, if_neg q3, if_neg q4]
  · obtain ⟨n1, n2⟩ := gg_fieldNo (I := I) hx J
    refine h.same (r := -1) ?_ ?_
    · unfold f_X6_field
      rw [n1, xb_some, if_neg (fun q => q rfl)]
    · unfold f_X7_field
      rw [n2, xb_some, if_neg (fun q => q rfl)]
theorem in09 (x : Int32) : (∃ j, j < 10 ∧ x = nI j ∧ ¬ x < 0 ∧ x < 10) ∨ ((x < 0 ∨ ¬ x < 10) ∧ ∀ j, j < 10 → x ≠ nI j) := by
  rcases nI_cases x (n := 10) (by decide) with h | h | ⟨n, hn, rfl⟩
  · exact Or.inr ⟨Or.inl h, fun n _ q => nI_pos (n := n) (by omega) (q ▸ h)⟩
  · refine Or.inr ⟨Or.inr (Int32.not_lt.mpr h), fun n h2 q => ?_⟩
    subst q; exact nI_ge (a := n) (b := 10) h2 (by decide) h
  · exact Or.inl ⟨n, hn, rfl, nI_pos (by omega), nI_lt (b := 10) hn (by decide)⟩
theorem call_letter (l1 l2 : Int32) : CALL (f_X6_letter l1 l2) (f_X7_letter l1 l2) := by
  intro I J h
  obtain ⟨w, d, hR, hw, -⟩ := h.RCx
  have mL := gg_isLetter l1 hR.1.2.2 hw
  rcases ff_hasLetter_cases (b := 45) l1 hR.1.1 hw with ⟨k, hk, rfl⟩ | ⟨q1, q2⟩
  · have m1 := mL.1 k hk rfl
    have c1 := ff_hasLetter_yes hR.1.1 hw hk
    rcases in09 l2 with ⟨j, hj, rfl, j1, j2⟩ | ⟨j1, j2⟩
    · refine h.same (r := FC I 45 k j) ?_ ?_
      · unfold f_X6_letter
        rw [c1, xb_some, if_pos one_ne0, if_neg j1, if_pos j2, hR.cT hk hj, xb_some]
      · unfold f_X7_letter
        rw [m1, xb_some, if_pos one_ne0, show f_X7_in (nI j) 0 9 J = _ from gg_in_yes (a := 0) (b := 9) (by omega) (by omega) (by decide) J, xb_some, if_neg one_ne0, hR.mT hk hj, xb_some]
    · refine h.same (r := -2) ?_ ?_
      · unfold f_X6_letter
        rw [c1, xb_some, if_pos one_ne0]
        rcases j1 with q | q
        · rw [if_pos q]
        · rw [if_neg q]; split <;> rfl
      · unfold f_X7_letter
        rw [m1, xb_some, if_pos one_ne0, show f_X7_in l2 0 9 J = _ from gg_in_no (a := 0) (b := 9) (by decide) (by decide) (fun n _ b => j2 n (by omega)) J, xb_some, if_pos rfl]
  · refine h.same (r := -1) ?_ ?_
    · unfold f_X6_letter
      rw [q2, xb_some, if_neg (fun q => q rfl)]
    · unfold f_X7_letter
      rw [mL.2 q1, xb_some, if_neg (fun q => q rfl)]
theorem call_crossed (l1 l2 : Int32) : CALL (f_X6_crossed l1 l2) (f_X7_crossed l1 l2) := by
  intro I J h
  obtain ⟨w, d, hR, hw, -⟩ := h.RCx
  have mL := gg_isLetter l1 hR.1.2.2 hw
  have mL2 := gg_isLetter l2 hR.1.2.2 hw
  rcases ff_hasLetter_cases (b := 45) l1 hR.1.1 hw with ⟨k, hk, rfl⟩ | ⟨q1, q2⟩
  · have m1 := mL.1 k hk rfl
    have c1 := ff_hasLetter_yes hR.1.1 hw hk
    rcases ff_hasLetter_cases (b := 45) l2 hR.1.1 hw with ⟨a, ha, rfl⟩ | ⟨q1, q2⟩
    · have m2 := mL2.1 a ha rfl
      have c2 := ff_hasLetter_yes hR.1.1 hw ha
      by_cases hne : nI k = nI a
      · refine h.same (r := -2) ?_ ?_
        · unfold f_X6_crossed
          rw [c1, xb_some, if_neg one_ne0, c2, xb_some, if_pos one_ne0, if_neg (fun q => q hne)]
        · unfold f_X7_crossed
          rw [m1, xb_some, if_neg one_ne0, m2, xb_some, if_pos one_ne0, if_neg (fun q => q hne)]
      · have T : ∀ {i j}, i < w → j < 10 → f_X5_told 45 (nI i) (nI j) I = some (FC I 45 i j, I) := fun hi hj => hR.cT hi hj
        have M : ∀ {i j}, i < w → j < 10 → f_X7_of (nI i) (nI j) J = some (FC I 45 i j, J) := fun hi hj => hR.mT hi hj
        have hX : f_X5_haveCrossed 45 (nI k) (nI a) I = if FC I 45 k 0 ≠ FC I 45 a 0 then (if FC I 45 k 6 = 3 then some (0, I) else if FC I 45 a 6 ≠ 3 then (if FC I 45 k 4 ≥ FC I 45 a 5 then some (0, I) else if FC I 45 a 4 ≥ FC I 45 k 5 then some (0, I) else some (1, I)) else some (0, I)) else some (0, I) := by
          unfold f_X5_haveCrossed
          rw [show f_X5_told 45 (nI k) (0 : Int32) I = _ from T (j := 0) hk (by omega), xb_some, show f_X5_told 45 (nI a) (0 : Int32) I = _ from T (j := 0) ha (by omega), xb_some, show f_X5_told 45 (nI k) (6 : Int32) I = _ from T (j := 6) hk (by omega), xb_some, show f_X5_told 45 (nI a) (6 : Int32) I = _ from T (j := 6) ha (by omega), xb_some, show f_X5_told 45 (nI k) (4 : Int32) I = _ from T (j := 4) hk (by omega), xb_some, show f_X5_told 45 (nI a) (5 : Int32) I = _ from T (j := 5) ha (by omega), xb_some, show f_X5_told 45 (nI a) (4 : Int32) I = _ from T (j := 4) ha (by omega), xb_some, show f_X5_told 45 (nI k) (5 : Int32) I = _ from T (j := 5) hk (by omega), xb_some]
        have h27 : ∀ s0, f_X7_cross_27 (nI k) (nI a) s0 J = if s0 ≠ 0 then some (0, J) else if FC I 45 k 0 = FC I 45 a 0 then some (0, J) else if FC I 45 k 4 ≥ FC I 45 a 5 then some (0, J) else if FC I 45 a 4 ≥ FC I 45 k 5 then some (0, J) else some (1, J) := fun s0 => by
          unfold f_X7_cross_27
          rw [show f_X7_of (nI k) (0 : Int32) J = _ from M (j := 0) hk (by omega), xb_some, show f_X7_of (nI a) (0 : Int32) J = _ from M (j := 0) ha (by omega), xb_some, show f_X7_of (nI k) (4 : Int32) J = _ from M (j := 4) hk (by omega), xb_some, show f_X7_of (nI a) (5 : Int32) J = _ from M (j := 5) ha (by omega), xb_some, show f_X7_of (nI a) (4 : Int32) J = _ from M (j := 4) ha (by omega), xb_some, show f_X7_of (nI k) (5 : Int32) J = _ from M (j := 5) hk (by omega), xb_some]
        have hC : f_X7_cross (nI k) (nI a) J = if FC I 45 k 6 = 3 then some (0, J) else if FC I 45 a 6 ≠ 3 then f_X7_cross_27 (nI k) (nI a) 0 J else some (0, J) := by
          unfold f_X7_cross
          rw [show f_X7_of (nI k) (6 : Int32) J = _ from M (j := 6) hk (by omega), xb_some, show f_X7_of (nI a) (6 : Int32) J = _ from M (j := 6) ha (by omega), xb_some, h27 1, if_pos one_ne0]
        have key : ∃ t, (t = 0 ∨ t = 1) ∧ f_X5_haveCrossed 45 (nI k) (nI a) I = some (t, I) ∧ f_X7_cross (nI k) (nI a) J = some (t, J) := by
          rw [hX, hC, h27 0, if_neg (show ¬ (0 : Int32) ≠ 0 from fun q => q rfl)]
          by_cases y1 : FC I 45 k 6 = 3
          · rw [if_pos y1, if_pos y1]
            exact ⟨0, Or.inl rfl, by split <;> rfl, rfl⟩
          · rw [if_neg y1, if_neg y1]
            by_cases y2 : FC I 45 a 6 = 3
            · rw [if_neg (show ¬ FC I 45 a 6 ≠ 3 from fun q => q y2), if_neg (show ¬ FC I 45 a 6 ≠ 3 from fun q => q y2)]
              exact ⟨0, Or.inl rfl, by split <;> rfl, rfl⟩
            · rw [if_pos y2, if_pos y2]
              by_cases y3 : FC I 45 k 0 = FC I 45 a 0
              · rw [if_neg (fun q => q y3), if_pos y3]
                exact ⟨0, Or.inl rfl, rfl, rfl⟩
              · rw [if_pos y3, if_neg y3]
                split
                · exact ⟨0, Or.inl rfl, rfl, rfl⟩
                · split
                  · exact ⟨0, Or.inl rfl, rfl, rfl⟩
                  · exact ⟨1, Or.inr rfl, rfl, rfl⟩
        obtain ⟨t, ht, t1, t2⟩ := key
        refine h.same (r := t) ?_ ?_
        · unfold f_X6_crossed
          rw [c1, xb_some, if_neg one_ne0, c2, xb_some, if_pos one_ne0, if_pos hne, t1, xb_some]
          rcases ht with rfl | rfl <;> rfl
        · unfold f_X7_crossed
          rw [m1, xb_some, if_neg one_ne0, m2, xb_some, if_pos one_ne0, if_pos hne, t2, xb_some]
          rcases ht with rfl | rfl <;> rfl
    · refine h.same (r := -1) ?_ ?_
      · unfold f_X6_crossed
        rw [c1, xb_some, if_neg one_ne0, q2, xb_some, if_neg (fun q => q rfl)]
      · unfold f_X7_crossed
        rw [m1, xb_some, if_neg one_ne0, mL2.2 q1, xb_some, if_neg (fun q => q rfl)]
  · refine h.same (r := -1) ?_ ?_
    · unfold f_X6_crossed
      rw [q2, xb_some, if_pos rfl]
    · unfold f_X7_crossed
      rw [mL.2 q1, xb_some, if_pos rfl]
theorem call_reasonEdge (t : Int32) (ht : t = 0 ∨ t = 1) (l2 l3 : Int32) : CALL (f_X6_reasonEdge t l2 l3) (f_X7_reasonEdge t l2 l3) := by
  intro I J h
  obtain ⟨w, d, hR, hw, e1, e2⟩ := h.RCx
  rcases edge_cases l2 l3 h.1 J with ⟨f, g, hf, hg, he, rfl, rfl⟩ | ⟨n1, n2⟩
  · have e := edge_yes hf hg he h.1 J
    have hp := pE_lt he
    rcases ht with rfl | rfl
    · obtain ⟨r, -, y1, y2⟩ := whyF hR he _ (tb7 _ hp).2
      refine h.same (r := r) ?_ ?_
      · unfold f_X6_reasonEdge
        rw [e.1, xb_some, ff_isEdge_yes he, xb_some, if_pos one_ne0, if_pos rfl, y1, xb_some]
      · unfold f_X7_reasonEdge
        rw [e.2, xb_some, if_pos (nI_m5 (by omega)), y2, xb_some]
    · obtain ⟨r, -, y1, y2⟩ := whyG hR (by rw [e1, e2]) he _ (tb7 _ hp).2
      refine h.same (r := r) ?_ ?_
      · unfold f_X6_reasonEdge
        rw [e.1, xb_some, ff_isEdge_yes he, xb_some, if_pos one_ne0, if_neg one_ne0, y1, xb_some]
      · unfold f_X7_reasonEdge
        rw [e.2, xb_some, if_pos (nI_m5 (by omega)), y2, xb_some]
  · refine h.same (r := -1) ?_ ?_
    · unfold f_X6_reasonEdge
      rw [n1, xb_some, ff_isEdge_no, xb_some, if_neg (fun q => q rfl)]
    · unfold f_X7_reasonEdge
      rw [n2, xb_some, if_neg (fun q => q rfl)]
theorem call_reasonClaim (l1 : Int32) : CALL (f_X6_reasonClaim l1) (f_X7_reasonClaim l1) := by
  intro I J h
  obtain ⟨w, d, hR, hw, e1, e2⟩ := h.RCx
  by_cases hx : ∃ f, f < 48 ∧ l1 = nI f
  · obtain ⟨f, hf, rfl⟩ := hx
    obtain ⟨I', s1, s2, s3⟩ := h.surv
    have hB : ∀ c, 45 ≤ c → I' c = I c := fun c h1 => s2 c (by omega) (by omega) (by omega) (by omega)
    have hR' : RC w I' 45 (J 70) := hR.off (fun c a _ => hB c a)
    obtain ⟨r, J1, -, y1, y2, y3, -⟩ := whyC hR' (fun g hg => by
      obtain ⟨l, -, -, z, -⟩ := s3 g hg
      rw [hB (45 + 3) (by omega)]; exact z) hf
    refine ⟨r, I', J1, ?_, ?_, h.rd s2 y3⟩
    · unfold f_X6_reasonClaim
      rw [ff_isField_yes hf, xb_some, if_pos one_ne0, s1, xb_some, y1, xb_some]
    · unfold f_X7_reasonClaim
      rw [gg_isField_yes hf, xb_some, if_neg one_ne0, y2, xb_some]
  · obtain ⟨n1, n2⟩ := gg_fieldNo (I := I) hx J
    refine h.same (r := -1) ?_ ?_
    · unfold f_X6_reasonClaim
      rw [n1, xb_some, if_neg (fun q => q rfl)]
    · unfold f_X7_reasonClaim
      rw [n2, xb_some, if_pos rfl]
theorem call_joined (l1 : Int32) : CALL (f_X6_joined l1) (f_X7_joined l1) := by
  intro I J h
  obtain ⟨w, d, hR, hw, e1, e2⟩ := h.RCx
  by_cases hx : ∃ f, f < 48 ∧ l1 = nI f
  · obtain ⟨f, hf, rfl⟩ := hx
    obtain ⟨I', s1, s2⟩ := ff_joined (b := 45) (E := I 48) (by omega) hf h.1 (fun _ _ => rfl)
    obtain ⟨J', g1, g2, -⟩ := gg_mark (E := I 48) (J := J) hf (fun e he => by rw [hR.E76 he])
    refine ⟨nI (siz (I 48) f), I', J', ?_, ?_, h.congr (fun k _ q => s2 k (by omega)) (fun k _ _ _ _ q => g2 k q) (by rw [g2 70 (by decide)]; exact EqR.rf _), fun k hk => s2 k (by omega), fun k hk => g2 k (by omega)⟩
    · unfold f_X6_joined
      rw [ff_isField_yes hf, xb_some, if_neg one_ne0, s1, xb_some]
    · unfold f_X7_joined
      rw [gg_isField_yes hf, xb_some, if_neg one_ne0, g1, xb_some]
  · obtain ⟨n1, n2⟩ := gg_fieldNo (I := I) hx J
    refine h.same (r := -1) ?_ ?_
    · unfold f_X6_joined
      rw [n1, xb_some, if_pos rfl]
    · unfold f_X7_joined
      rw [n2, xb_some, if_pos rfl]
theorem Soon.congr {F F' : Nat → Nat → Int32} {n : Nat} {r : Int32} (h : Soon F n r) (e : ∀ k j, k < n → j < 10 → F' k j = F k j) : Soon F' n r := by
  rcases h with ⟨h1, h2⟩ | ⟨k, hk, h1, h2, h3⟩
  · exact Or.inl ⟨h1, fun k hk => by rw [e k 6 hk (by omega)]; exact h2 k hk⟩
  · exact Or.inr ⟨k, hk, h1, by rw [e k 6 hk (by omega)]; exact h2, fun j hj h6 => by
      rw [e j 6 hj (by omega)] at h6
      rw [e k 5 hk (by omega), e j 5 hj (by omega)]
      exact h3 j hj h6⟩
/-- the next letter of both -/
theorem nx_both {w b : Nat} {I J : xI} (hR : RC w I b (J 70)) : ∃ r, f_X5_soonest b I = some (r, I) ∧ f_X7_nextLetter J = some (r, J) ∧ (r = -5 ∧ (∀ k, k < w → FC I b k 6 ≠ 0) ∨ ∃ k, k < w ∧ r = nI k ∧ FC I b k 6 = 0) := by
  have hw := hR.1.2.1
  obtain ⟨r, s1, s2⟩ := ff_soonest hR.1.1 hw
  obtain ⟨r', g1, g2⟩ := gg_next hR.1.2.2 hw
  have := s2.uniq (by omega) (g2.congr (F' := FC I b) (fun k j hk hj => (hR.fm hk hj).symm))
  subst this
  refine ⟨r, s1, g1, ?_⟩
  rcases s2 with h | ⟨k, hk, h1, h2, -⟩
  · exact Or.inl h
  · exact Or.inr ⟨k, hk, h1, h2⟩
theorem in01 (x : Int32) : (∃ j, j < 2 ∧ x = nI j ∧ ¬ x < 0 ∧ x ≤ 1) ∨ ((x < 0 ∨ ¬ x ≤ 1) ∧ ∀ j, j < 2 → x ≠ nI j) := by
  rcases nI_cases x (n := 2) (by decide) with h | h | ⟨n, hn, rfl⟩
  · exact Or.inr ⟨Or.inl h, fun n _ q => nI_pos (n := n) (by omega) (q ▸ h)⟩
  · refine Or.inr ⟨Or.inr (fun y => absurd (Int32.le_trans h y) (by decide)), fun n h2 q => ?_⟩
    subst q; exact nI_ge (a := n) (b := 2) h2 (by decide) h
  · exact Or.inl ⟨n, hn, rfl, nI_pos (by omega), Int32.not_lt.mp (nI_nlt (a := 1) (by omega) (by decide))⟩
theorem call_next (l1 : Int32) : CALL (f_X6_next l1) (f_X7_next l1) := by
  intro I J h
  obtain ⟨w, d, hR, hw, e1, e2⟩ := h.RCx
  rcases in01 l1 with ⟨j, hj, rfl, j1, j2⟩ | ⟨j1, j2⟩
  · have i1 : f_X7_in (nI j) 0 1 J = some (1, J) := gg_in_yes (a := 0) (b := 1) (by omega) (by omega) (by decide) J
    obtain ⟨r, s1, s2, s3⟩ := nx_both hR
    rcases s3 with ⟨z, -⟩ | ⟨k, hk, z, z6⟩
    · refine h.same (r := -5) ?_ ?_
      · unfold f_X6_next
        rw [if_neg j1, if_pos j2, s1, xb_some, z, if_neg (fun q => q rfl)]
      · unfold f_X7_next
        rw [i1, xb_some, if_pos one_ne0, s2, xb_some, z, if_pos rfl]
    · have hm : nI k ≠ -5 := nI_m5 (by omega)
      by_cases z0 : nI j = 0
      · refine h.same (r := nI k) ?_ ?_
        · unfold f_X6_next
          rw [if_neg j1, if_pos j2, s1, xb_some, z, if_pos hm, if_neg (fun q => q z0)]
        · unfold f_X7_next
          rw [i1, xb_some, if_pos one_ne0, s2, xb_some, z, if_neg hm, if_neg (fun q => q z0)]
      · refine h.same (r := FC I 45 k 5 - nI d) ?_ ?_
        · unfold f_X6_next
          rw [if_neg j1, if_pos j2, s1, xb_some, z, if_pos hm, if_pos z0, show f_X5_told 45 (nI k) (5 : Int32) I = _ from hR.cT (j := 5) hk (by omega), xb_some, e1]
        · unfold f_X7_next
          rw [i1, xb_some, if_pos one_ne0, s2, xb_some, z, if_neg hm, if_pos z0, show f_X7_of (nI k) (5 : Int32) J = _ from hR.mT (j := 5) hk (by omega), xb_some, e2]
  · refine h.same (r := -2) ?_ ?_
    · unfold f_X6_next
      rcases j1 with q | q
      · rw [if_pos q]
      · rw [if_neg q]; split <;> rfl
    · unfold f_X7_next
      rw [show f_X7_in l1 0 1 J = _ from gg_in_no (a := 0) (b := 1) (by decide) (by decide) (fun n _ b => j2 n (by omega)) J, xb_some, if_neg (fun q => q rfl)]
