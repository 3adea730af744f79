/-! ===== the law's loop ===== -/
theorem R2_I00 : R2 I00 I00 := by
  have ht : ∀ f, f < 48 → I00 49 f = -5 := by decide +kernel
  refine ⟨GT_I00, ⟨0, 0, ⟨⟨by decide +kernel, by omega, by decide +kernel⟩, by decide +kernel, ⟨by decide +kernel, by decide +kernel, by decide +kernel, by decide +kernel⟩, ⟨⟨3, by omega, by omega, by decide +kernel⟩, ⟨9, by omega, by omega, by decide +kernel⟩⟩, by decide +kernel, ?_, fun f hf => ?_, fun f hf => Or.inl (ht f hf), by decide +kernel, fun k hk => absurd hk (by omega)⟩, ⟨by decide +kernel, by decide +kernel, by decide +kernel, fun k hk => absurd hk (by omega)⟩, ⟨fun k hk => absurd hk (by omega), 0, by decide +kernel, by decide +kernel⟩, fun f hf k hk => absurd hk (by omega), by decide +kernel, by decide +kernel, by omega, fun k hk => absurd hk (by omega)⟩, ⟨0, 3, by omega, by omega, by decide +kernel, by decide +kernel, Or.inr ⟨rfl, by decide +kernel⟩, fun i hi => absurd hi (by omega)⟩, Or.inl ⟨by decide +kernel, by decide +kernel⟩, Or.inl ⟨by decide +kernel, by decide +kernel, by decide +kernel⟩, ⟨0, by omega, by decide +kernel, by decide +kernel, fun j hj => absurd hj (by omega)⟩⟩
  · have : ∀ e, e < 82 → I00 (45 + 3) e = 0 := by decide +kernel
    exact fun e he => Or.inl (this e he)
  · have h2 : ∀ f, f < 48 → I00 70 (94 + f) = -5 := by decide +kernel
    unfold cOwn
    rw [h2 f hf, if_pos (ht f hf)]
theorem law_step {f6 f7 : xI → Option (Int32 × xI)} (h : CALL f6 f7) {I : xI} (hI : R2 I I) (k : xI → Option (Int32 × xI)) : ∃ I', xb (f6 I) (fun r I1 => xb (f7 I1) (fun r' I2 => if r = r' then k I2 else some ((0 : Int32), I2))) = k I' ∧ R2 I' I' := by
  obtain ⟨r, I1, I2, a, b, c⟩ := h.one hI
  exact ⟨I2, by rw [a, xb_some, b, xb_some, if_pos rfl], c⟩
theorem lw_more {L i : Nat} (hL : L ≤ 2560) (h : i + 5 ≤ L) : ¬ nI i > (Int32.ofNat L) - (5 : Int32) := by
  have e : Int32.ofNat L - (5 : Int32) = nI (L - 5) := by
    have : Int32.ofNat L = nI (L - 5) + 5 := by
      rw [show (5 : Int32) = nI 5 from rfl, nI_add, show L - 5 + 5 = L by omega]; rfl
    rw [this, Int32.add_sub_cancel]
  rw [e]
  exact nI_nlt (by omega) (by omega)
theorem lw_less {L i : Nat} (hL : L ≤ 2560) (hi : i ≤ 2560) (h : ¬ i + 5 ≤ L) : nI i > (Int32.ofNat L) - (5 : Int32) := by
  by_cases h5 : 5 ≤ L
  · have e : Int32.ofNat L - (5 : Int32) = nI (L - 5) := by
      have : Int32.ofNat L = nI (L - 5) + 5 := by
        rw [show (5 : Int32) = nI 5 from rfl, nI_add, show L - 5 + 5 = L by omega]; rfl
      rw [this, Int32.add_sub_cancel]
    rw [e]
    exact nI_lt (by omega) (by omega)
  · have : ∀ L, L < 5 → Int32.ofNat L - (5 : Int32) < 0 := by decide
    exact Int32.lt_of_lt_of_le (this L (by omega)) (nI_pos' (by omega))
theorem lw_round {L i : Nat} (xs : Nat → Int32) (hL : L ≤ 2560) (h : i + 5 ≤ L) {I : xI} (hI : R2 I I) (n : Nat) : ∃ I', f_L_law_18 L xs (n + 1) (nI i) I = f_L_law_18 L xs n (nI (i + 5)) I' ∧ R2 I' I' := by
  have e1 : nI i + (1 : Int32) = nI (i + 1) := nI_add i 1
  have e2 : nI i + (2 : Int32) = nI (i + 2) := nI_add i 2
  have e3 : nI i + (3 : Int32) = nI (i + 3) := nI_add i 3
  have e4 : nI i + (4 : Int32) = nI (i + 4) := nI_add i 4
  have e5 : nI i + (5 : Int32) = nI (i + 5) := nI_add i 5
  have x0 : xin (nI i) L := xin_nI (by omega) (by omega)
  have x1 : xin (nI (i + 1)) L := xin_nI (by omega) (by omega)
  have x2 : xin (nI (i + 2)) L := xin_nI (by omega) (by omega)
  have x3 : xin (nI (i + 3)) L := xin_nI (by omega) (by omega)
  have x4 : xin (nI (i + 4)) L := xin_nI (by omega) (by omega)
  show ∃ I', f_L_law_18b L xs _ (nI i) I = _ ∧ _
  unfold f_L_law_18b f_L_law_163 f_L_law_195 f_L_law_640 f_L_law_667
  rw [if_neg (lw_more hL h)]
  simp only [e1, e2, e3, e4, e5, if_pos x0, if_pos x1, if_pos x2, if_pos x3, if_pos x4]
  generalize hsel : xs (nI i).toNatClampNeg &&& (31 : Int32) = sel
  generalize xs (nI (i + 1)).toNatClampNeg = a1
  generalize xs (nI (i + 2)).toNatClampNeg = a2
  generalize xs (nI (i + 3)).toNatClampNeg = a3
  generalize xs (nI (i + 4)).toNatClampNeg = a4
  by_cases c0 : sel = 0
  · rw [if_pos c0]
    by_cases z : a2 = 0
    · simp only [z, if_true]
      exact law_step (call_writeEdge a1 0 a3 a4) hI _
    · simp only [z, if_false]
      exact law_step (call_writeEdge a1 1 a3 a4) hI _
  rw [if_neg c0]
  by_cases c1 : sel = 1
  · rw [if_pos c1]
    exact law_step (call_writeClaim a1 a2) hI _
  rw [if_neg c1]
  by_cases c2 : sel = 2
  · rw [if_pos c2]
    exact law_step (call_writeTruce a1 a2) hI _
  rw [if_neg c2]
  by_cases c3 : sel = 3
  · rw [if_pos c3]
    exact law_step (call_callBack a1) hI _
  rw [if_neg c3]
  by_cases c4 : sel = 4
  · rw [if_pos c4]
    exact law_step (call_pass a1) hI _
  rw [if_neg c4]
  by_cases c5 : sel = 5
  · rw [if_pos c5]
    exact law_step (call_set a1 a2) hI _
  rw [if_neg c5]
  by_cases c6 : sel = 6
  · rw [if_pos c6]
    exact law_step (call_type a1) hI _
  rw [if_neg c6]
  by_cases c7 : sel = 7
  · rw [if_pos c7]
    exact law_step (call_clear) hI _
  rw [if_neg c7]
  by_cases c8 : sel = 8
  · rw [if_pos c8]
    exact law_step (call_perform) hI _
  rw [if_neg c8]
  by_cases c9 : sel = 9
  · rw [if_pos c9]
    exact law_step (call_stopped a1) hI _
  rw [if_neg c9]
  by_cases c10 : sel = 10
  · rw [if_pos c10]
    exact law_step (call_undo) hI _
  rw [if_neg c10]
  by_cases c11 : sel = 11
  · rw [if_pos c11]
    exact law_step (call_keep) hI _
  rw [if_neg c11]
  by_cases c12 : sel = 12
  · rw [if_pos c12]
    exact law_step (call_restore) hI _
  rw [if_neg c12]
  by_cases c13 : sel = 13
  · rw [if_pos c13]
    exact law_step (call_edge a1 a2) hI _
  rw [if_neg c13]
  by_cases c14 : sel = 14
  · rw [if_pos c14]
    exact law_step (call_field a1 a2) hI _
  rw [if_neg c14]
  by_cases c15 : sel = 15
  · rw [if_pos c15]
    exact law_step (call_joined a1) hI _
  rw [if_neg c15]
  by_cases c16 : sel = 16
  · rw [if_pos c16]
    exact law_step (call_letter a1 a2) hI _
  rw [if_neg c16]
  by_cases c17 : sel = 17
  · rw [if_pos c17]
    exact law_step (call_crossed a1 a2) hI _
  rw [if_neg c17]
  by_cases c18 : sel = 18
  · rw [if_pos c18]
    by_cases z : a1 = 0
    · simp only [z, if_true]
      exact law_step (call_reasonEdge 0 (Or.inl rfl) a2 a3) hI _
    · simp only [z, if_false]
      exact law_step (call_reasonEdge 1 (Or.inr rfl) a2 a3) hI _
  rw [if_neg c18]
  by_cases c19 : sel = 19
  · rw [if_pos c19]
    exact law_step (call_reasonClaim a1) hI _
  rw [if_neg c19]
  by_cases c20 : sel = 20
  · rw [if_pos c20]
    exact law_step (call_next a1) hI _
  rw [if_neg c20]
  by_cases c21 : sel = 21
  · rw [if_pos c21]
    exact law_step (call_ifAllCome a1) hI _
  rw [if_neg c21]
  by_cases c22 : sel = 22
  · rw [if_pos c22]
    exact law_step (call_bestClaim a1) hI _
  rw [if_neg c22]
  by_cases c23 : sel = 23
  · rw [if_pos c23]
    exact law_step (call_count a1) hI _
  rw [if_neg c23]
  exact ⟨I, rfl, hI⟩
theorem lw_all {L : Nat} (xs : Nat → Int32) (hL : L ≤ 2560) : ∀ (m i n : Nat) (I : xI), L - i ≤ m → i ≤ L → m + 1 < n → R2 I I → ∃ I', f_L_law_18 L xs n (nI i) I = some (1, I') := by
  intro m
  induction m with
  | zero =>
    intro i n I hm hi hn hI
    obtain ⟨n, rfl⟩ : ∃ n', n = n' + 1 := ⟨n - 1, by omega⟩
    refine ⟨I, ?_⟩
    show f_L_law_18b L xs _ (nI i) I = _
    unfold f_L_law_18b
    rw [if_pos (lw_less hL (by omega) (by omega))]
  | succ m ih =>
    intro i n I hm hi hn hI
    obtain ⟨n, rfl⟩ : ∃ n', n = n' + 1 := ⟨n - 1, by omega⟩
    by_cases h : i + 5 ≤ L
    · obtain ⟨I1, e, h1⟩ := lw_round xs hL h hI n
      obtain ⟨I', g⟩ := ih (i + 5) n I1 (by omega) (by omega) (by omega) h1
      exact ⟨I', e.trans g⟩
    · refine ⟨I, ?_⟩
      show f_L_law_18b L xs _ (nI i) I = _
      unfold f_L_law_18b
      rw [if_pos (lw_less hL (by omega) h)]
theorem pure_law (L : Nat) (xs : Nat → Int32) (hL : L ≤ 2560) : ∃ I', f_L_law_18 L xs xZ 0 I00 = some (1, I') :=
  lw_all xs hL L 0 xZ I00 (by omega) (by omega) (by unfold xZ; omega) R2_I00
