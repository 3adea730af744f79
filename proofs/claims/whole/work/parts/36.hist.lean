/-! ===== copies of States and of rows; the invariant of both heaps ===== -/
theorem xcp_cell {I : xI} {a a0 sp dp n k : Nat} (h : k ≠ a) : xcp I a a0 sp dp n k = I k := by funext j; simp [xcp, h]
theorem xcp_at0 {I : xI} {a a0 n j : Nat} (h : j < n) : xcp I a a0 0 0 n a j = I a0 j := by simp [xcp, h]
theorem ff_take {b0 b1 : Nat} (h : b1 + 5 < b0 ∨ b0 + 5 < b1) (I : xI) : ∃ I', f_X5_takeFrom b0 b1 I = some (0, I') ∧ EqS I b1 I' b0 ∧ ∀ k, (k < b0 ∨ b0 + 5 < k) → I' k = I k := by
  unfold f_X5_takeFrom
  generalize hI0 : (xup (xup (xup (xup I b0 0 (I b1 0)) b0 1 ((xup I b0 0 (I b1 0)) b1 1)) b0 2 ((xup (xup I b0 0 (I b1 0)) b0 1 ((xup I b0 0 (I b1 0)) b1 1)) b1 2)) b0 3 ((xup (xup (xup I b0 0 (I b1 0)) b0 1 ((xup I b0 0 (I b1 0)) b1 1)) b0 2 ((xup (xup I b0 0 (I b1 0)) b0 1 ((xup I b0 0 (I b1 0)) b1 1)) b1 2)) b1 3)) = I0
  have A : ∀ k, k ≠ b0 → I0 k = I k := fun k hk => by
    rw [← hI0]; funext j; rw [xup_cell hk, xup_cell hk, xup_cell hk, xup_cell hk]
  have hne : b1 ≠ b0 := by omega
  have B : ∀ j, j < 4 → I0 b0 j = I b1 j := fun j hj => by
    have : j = 0 ∨ j = 1 ∨ j = 2 ∨ j = 3 := by omega
    rw [← hI0]
    rcases this with rfl | rfl | rfl | rfl
    · rw [xup_slot (by omega), xup_slot (by omega), xup_slot (by omega), xup_at]
    · rw [xup_slot (by omega), xup_slot (by omega), xup_at, xup_cell hne]
    · rw [xup_slot (by omega), xup_at, xup_cell hne, xup_cell hne]
    · rw [xup_at, xup_cell hne, xup_cell hne, xup_cell hne]
  refine ⟨_, rfl, ⟨fun j hj => ?_, fun j hj => ?_, fun j hj => ?_, fun j hj => ?_, fun j hj => ?_, fun j hj => ?_⟩, fun k hk => ?_⟩
  · rw [xcp_cell (by omega), xcp_cell (by omega), xcp_cell (by omega), xcp_cell (by omega), xcp_cell (by omega)]; exact B j hj
  · rw [xcp_cell (by omega), xcp_cell (by omega), xcp_cell (by omega), xcp_cell (by omega), xcp_at0 hj, A _ (by omega)]
  · rw [xcp_cell (by omega), xcp_cell (by omega), xcp_cell (by omega), xcp_at0 hj, xcp_cell (by omega), A _ (by omega)]
  · rw [xcp_cell (by omega), xcp_cell (by omega), xcp_at0 hj, xcp_cell (by omega), xcp_cell (by omega), A _ (by omega)]
  · rw [xcp_cell (by omega), xcp_at0 hj, xcp_cell (by omega), xcp_cell (by omega), xcp_cell (by omega), A _ (by omega)]
  · rw [xcp_at0 hj, xcp_cell (by omega), xcp_cell (by omega), xcp_cell (by omega), xcp_cell (by omega), A _ (by omega)]
  · rw [xcp_cell (by omega), xcp_cell (by omega), xcp_cell (by omega), xcp_cell (by omega), xcp_cell (by omega), A _ (by omega)]
theorem lp_looks : ∀ (m i n : Nat) (J : xI), i + m = 742 → m < n → ∃ J1, f_X7_looks_2 n (nI i) J = some (0, J1) ∧ (∀ c, c ≠ 72 → J1 c = J c) ∧ (∀ j, j < i → J1 72 j = J 72 j) ∧ ∀ j, i ≤ j → j < 742 → J1 72 j = J 70 j := by
  intro m
  induction m with
  | zero =>
    intro i n J hi hn
    obtain ⟨n, rfl⟩ : ∃ n', n = n' + 1 := ⟨n - 1, by omega⟩
    refine ⟨J, ?_, fun _ _ => rfl, fun _ _ => rfl, fun j h1 h2 => absurd h1 (by omega)⟩
    show f_X7_looks_2b _ (nI i) J = _
    unfold f_X7_looks_2b
    rw [if_pos (show nI i ≥ (742 : Int32) by rw [show i = 742 by omega]; exact Int32.le_refl _)]
  | succ m ih =>
    intro i n J hi hn
    obtain ⟨n, rfl⟩ : ∃ n', n = n' + 1 := ⟨n - 1, by omega⟩
    obtain ⟨J1, g1, g2, g3, g4⟩ := ih (i + 1) n (xup J 72 i (J 70 i)) (by omega) (by omega)
    refine ⟨J1, ?_, fun c hc => (g2 c hc).trans (by funext x; exact xup_cell hc), fun j hj => (g3 j (by omega)).trans (xup_slot (by omega)), fun j h1 h2 => ?_⟩
    · show f_X7_looks_2b _ (nI i) J = _
      unfold f_X7_looks_2b
      rw [if_neg (show ¬ nI i ≥ (742 : Int32) from nI_ge (b := 742) (by omega) (by decide)), if_pos (xin_nI (by omega) (by decide)), if_pos (xin_nI (by omega) (by decide)), nI_clamp (by omega), nI_1]
      exact g1
    · by_cases z : j = i
      · subst z; rw [g3 j (by omega), xup_at]
      · rw [g4 j (by omega) h2, xup_cell (by decide)]
theorem lp_putAside : ∀ (m i n : Nat) (J : xI), i + m = 742 → m < n → ∃ J1, f_X7_putAside_2 n (nI i) J = some (0, J1) ∧ (∀ c, c ≠ 71 → J1 c = J c) ∧ (∀ j, j < i → J1 71 j = J 71 j) ∧ ∀ j, i ≤ j → j < 742 → J1 71 j = J 70 j := by
  intro m
  induction m with
  | zero =>
    intro i n J hi hn
    obtain ⟨n, rfl⟩ : ∃ n', n = n' + 1 := ⟨n - 1, by omega⟩
    refine ⟨J, ?_, fun _ _ => rfl, fun _ _ => rfl, fun j h1 h2 => absurd h1 (by omega)⟩
    show f_X7_putAside_2b _ (nI i) J = _
    unfold f_X7_putAside_2b
    rw [if_pos (show nI i ≥ (742 : Int32) by rw [show i = 742 by omega]; exact Int32.le_refl _)]
  | succ m ih =>
    intro i n J hi hn
    obtain ⟨n, rfl⟩ : ∃ n', n = n' + 1 := ⟨n - 1, by omega⟩
    obtain ⟨J1, g1, g2, g3, g4⟩ := ih (i + 1) n (xup J 71 i (J 70 i)) (by omega) (by omega)
    refine ⟨J1, ?_, fun c hc => (g2 c hc).trans (by funext x; exact xup_cell hc), fun j hj => (g3 j (by omega)).trans (xup_slot (by omega)), fun j h1 h2 => ?_⟩
    · show f_X7_putAside_2b _ (nI i) J = _
      unfold f_X7_putAside_2b
      rw [if_neg (show ¬ nI i ≥ (742 : Int32) from nI_ge (b := 742) (by omega) (by decide)), if_pos (xin_nI (by omega) (by decide)), if_pos (xin_nI (by omega) (by decide)), nI_clamp (by omega), nI_1]
      exact g1
    · by_cases z : j = i
      · subst z; rw [g3 j (by omega), xup_at]
      · rw [g4 j (by omega) h2, xup_cell (by decide)]
theorem lp_putBack : ∀ (m i n : Nat) (J : xI), i + m = 742 → m < n → ∃ J1, f_X7_putBack_2 n (nI i) J = some (0, J1) ∧ (∀ c, c ≠ 70 → J1 c = J c) ∧ (∀ j, j < i → J1 70 j = J 70 j) ∧ ∀ j, i ≤ j → j < 742 → J1 70 j = J 71 j := by
  intro m
  induction m with
  | zero =>
    intro i n J hi hn
    obtain ⟨n, rfl⟩ : ∃ n', n = n' + 1 := ⟨n - 1, by omega⟩
    refine ⟨J, ?_, fun _ _ => rfl, fun _ _ => rfl, fun j h1 h2 => absurd h1 (by omega)⟩
    show f_X7_putBack_2b _ (nI i) J = _
    unfold f_X7_putBack_2b
    rw [if_pos (show nI i ≥ (742 : Int32) by rw [show i = 742 by omega]; exact Int32.le_refl _)]
  | succ m ih =>
    intro i n J hi hn
    obtain ⟨n, rfl⟩ : ∃ n', n = n' + 1 := ⟨n - 1, by omega⟩
    obtain ⟨J1, g1, g2, g3, g4⟩ := ih (i + 1) n (xup J 70 i (J 71 i)) (by omega) (by omega)
    refine ⟨J1, ?_, fun c hc => (g2 c hc).trans (by funext x; exact xup_cell hc), fun j hj => (g3 j (by omega)).trans (xup_slot (by omega)), fun j h1 h2 => ?_⟩
    · show f_X7_putBack_2b _ (nI i) J = _
      unfold f_X7_putBack_2b
      rw [if_neg (show ¬ nI i ≥ (742 : Int32) from nI_ge (b := 742) (by omega) (by decide)), if_pos (xin_nI (by omega) (by decide)), if_pos (xin_nI (by omega) (by decide)), nI_clamp (by omega), nI_1]
      exact g1
    · by_cases z : j = i
      · subst z; rw [g3 j (by omega), xup_at]
      · rw [g4 j (by omega) h2, xup_cell (by decide)]
theorem lp_keep : ∀ (m i n : Nat) (J : xI), i + m = 742 → m < n → ∃ J1, f_X7_keep_2 n (nI i) J = some ((xup J1 69 4 (1 : Int32)) 70 0, xup J1 69 4 (1 : Int32)) ∧ (∀ c, c ≠ 73 → J1 c = J c) ∧ (∀ j, j < i → J1 73 j = J 73 j) ∧ ∀ j, i ≤ j → j < 742 → J1 73 j = J 70 j := by
  intro m
  induction m with
  | zero =>
    intro i n J hi hn
    obtain ⟨n, rfl⟩ : ∃ n', n = n' + 1 := ⟨n - 1, by omega⟩
    refine ⟨J, ?_, fun _ _ => rfl, fun _ _ => rfl, fun j h1 h2 => absurd h1 (by omega)⟩
    show f_X7_keep_2b _ (nI i) J = _
    unfold f_X7_keep_2b
    rw [if_pos (show nI i ≥ (742 : Int32) by rw [show i = 742 by omega]; exact Int32.le_refl _)]
  | succ m ih =>
    intro i n J hi hn
    obtain ⟨n, rfl⟩ : ∃ n', n = n' + 1 := ⟨n - 1, by omega⟩
    obtain ⟨J1, g1, g2, g3, g4⟩ := ih (i + 1) n (xup J 73 i (J 70 i)) (by omega) (by omega)
    refine ⟨J1, ?_, fun c hc => (g2 c hc).trans (by funext x; exact xup_cell hc), fun j hj => (g3 j (by omega)).trans (xup_slot (by omega)), fun j h1 h2 => ?_⟩
    · show f_X7_keep_2b _ (nI i) J = _
      unfold f_X7_keep_2b
      rw [if_neg (show ¬ nI i ≥ (742 : Int32) from nI_ge (b := 742) (by omega) (by decide)), if_pos (xin_nI (by omega) (by decide)), if_pos (xin_nI (by omega) (by decide)), nI_clamp (by omega), nI_1]
      exact g1
    · by_cases z : j = i
      · subst z; rw [g3 j (by omega), xup_at]
      · rw [g4 j (by omega) h2, xup_cell (by decide)]
theorem lp_restore : ∀ (m i n : Nat) (J : xI), i + m = 742 → m < n → ∃ J1, f_X7_restore_20 n (nI i) J = some (J1 70 0, J1) ∧ (∀ c, c ≠ 70 → J1 c = J c) ∧ (∀ j, j < i → J1 70 j = J 70 j) ∧ ∀ j, i ≤ j → j < 742 → J1 70 j = J 73 j := by
  intro m
  induction m with
  | zero =>
    intro i n J hi hn
    obtain ⟨n, rfl⟩ : ∃ n', n = n' + 1 := ⟨n - 1, by omega⟩
    refine ⟨J, ?_, fun _ _ => rfl, fun _ _ => rfl, fun j h1 h2 => absurd h1 (by omega)⟩
    show f_X7_restore_20b _ (nI i) J = _
    unfold f_X7_restore_20b
    rw [if_pos (show nI i ≥ (742 : Int32) by rw [show i = 742 by omega]; exact Int32.le_refl _)]
  | succ m ih =>
    intro i n J hi hn
    obtain ⟨n, rfl⟩ : ∃ n', n = n' + 1 := ⟨n - 1, by omega⟩
    obtain ⟨J1, g1, g2, g3, g4⟩ := ih (i + 1) n (xup J 70 i (J 73 i)) (by omega) (by omega)
    refine ⟨J1, ?_, fun c hc => (g2 c hc).trans (by funext x; exact xup_cell hc), fun j hj => (g3 j (by omega)).trans (xup_slot (by omega)), fun j h1 h2 => ?_⟩
    · show f_X7_restore_20b _ (nI i) J = _
      unfold f_X7_restore_20b
      rw [if_neg (show ¬ nI i ≥ (742 : Int32) from nI_ge (b := 742) (by omega) (by decide)), if_pos (xin_nI (by omega) (by decide)), if_pos (xin_nI (by omega) (by decide)), nI_clamp (by omega), nI_1]
      exact g1
    · by_cases z : j = i
      · subst z; rw [g3 j (by omega), xup_at]
      · rw [g4 j (by omega) h2, xup_cell (by decide)]
theorem gg_looks (J : xI) : ∃ J1, f_X7_looks J = some (0, J1) ∧ (∀ c, c ≠ 72 → J1 c = J c) ∧ EqR (J 70) (J1 72) := by
  obtain ⟨J1, h1, h2, -, h3⟩ := lp_looks 742 0 xZ J (by omega) (by unfold xZ; omega)
  exact ⟨J1, h1, h2, fun j hj => h3 j (Nat.zero_le _) hj⟩
theorem gg_putAside (J : xI) : ∃ J1, f_X7_putAside J = some (0, J1) ∧ (∀ c, c ≠ 71 → J1 c = J c) ∧ EqR (J 70) (J1 71) := by
  obtain ⟨J1, h1, h2, -, h3⟩ := lp_putAside 742 0 xZ J (by omega) (by unfold xZ; omega)
  exact ⟨J1, h1, h2, fun j hj => h3 j (Nat.zero_le _) hj⟩
theorem gg_putBack (J : xI) : ∃ J1, f_X7_putBack J = some (0, J1) ∧ (∀ c, c ≠ 70 → J1 c = J c) ∧ EqR (J 71) (J1 70) := by
  obtain ⟨J1, h1, h2, -, h3⟩ := lp_putBack 742 0 xZ J (by omega) (by unfold xZ; omega)
  exact ⟨J1, h1, h2, fun j hj => h3 j (Nat.zero_le _) hj⟩
theorem n742 (h i : Nat) : (742 : Int32) * nI h + nI i = nI (742 * h + i) := by
  rw [show (742 : Int32) = nI 742 from rfl, nI_mulc, nI_add]
theorem lp_undo {h : Nat} (hh : h < 4) : ∀ (m i n : Nat) (J : xI), i + m = 742 → m < n → J 69 6 = nI h → ∃ J1, f_X7_undo_22 n (nI i) J = some (nI h, J1) ∧ (∀ c, c ≠ 70 → J1 c = J c) ∧ (∀ j, j < i → J1 70 j = J 70 j) ∧ ∀ j, i ≤ j → j < 742 → J1 70 j = J 74 (742 * h + j) := by
  intro m
  induction m with
  | zero =>
    intro i n J hi hn h6
    obtain ⟨n, rfl⟩ : ∃ n', n = n' + 1 := ⟨n - 1, by omega⟩
    refine ⟨J, ?_, fun _ _ => rfl, fun _ _ => rfl, fun j h1 h2 => absurd h1 (by omega)⟩
    show f_X7_undo_22b _ (nI i) J = _
    unfold f_X7_undo_22b
    rw [if_pos (show nI i ≥ (742 : Int32) by rw [show i = 742 by omega]; exact Int32.le_refl _), h6]
  | succ m ih =>
    intro i n J hi hn h6
    obtain ⟨n, rfl⟩ : ∃ n', n = n' + 1 := ⟨n - 1, by omega⟩
    obtain ⟨J1, g1, g2, g3, g4⟩ := ih (i + 1) n (xup J 70 i (J 74 (742 * h + i))) (by omega) (by omega) (by rw [xup_cell (by decide)]; exact h6)
    refine ⟨J1, ?_, fun c hc => (g2 c hc).trans (by funext x; exact xup_cell hc), fun j hj => (g3 j (by omega)).trans (xup_slot (by omega)), fun j h1 h2 => ?_⟩
    · show f_X7_undo_22b _ (nI i) J = _
      unfold f_X7_undo_22b
      rw [if_neg (show ¬ nI i ≥ (742 : Int32) from nI_ge (b := 742) (by omega) (by decide)), h6, n742, if_pos (xin_nI (by omega) (by decide)), if_pos (xin_nI (by omega) (by decide)), nI_clamp (by omega), nI_clamp (by omega), nI_1]
      exact g1
    · by_cases z : j = i
      · subst z; rw [g3 j (by omega), xup_at]
      · rw [g4 j (by omega) h2, xup_cell (by decide)]
theorem lp_rec51 {h : Nat} (hh : h < 4) : ∀ (m i n : Nat) (J : xI), i + m = 742 → m < n → J 69 6 = nI h → ∃ J1, f_X7_records_51 n (nI i) J = some (0, J1) ∧ (∀ c, c ≠ 74 → c ≠ 69 → J1 c = J c) ∧ (∀ j, j ≠ 6 → J1 69 j = J 69 j) ∧ J1 69 6 = nI (h + 1) ∧ (∀ j, (j < 742 * h + i ∨ 742 * h + 742 ≤ j) → J1 74 j = J 74 j) ∧ ∀ j, i ≤ j → j < 742 → J1 74 (742 * h + j) = J 72 j := by
  intro m
  induction m with
  | zero =>
    intro i n J hi hn h6
    obtain ⟨n, rfl⟩ : ∃ n', n = n' + 1 := ⟨n - 1, by omega⟩
    refine ⟨xup J 69 6 (nI (h + 1)), ?_, fun c _ hc => by funext x; exact xup_cell hc, fun j hj => xup_slot hj, xup_at, fun j _ => xup_cell (by decide), fun j h1 h2 => absurd h1 (by omega)⟩
    show f_X7_records_51b _ (nI i) J = _
    unfold f_X7_records_51b
    rw [if_pos (show nI i ≥ (742 : Int32) by rw [show i = 742 by omega]; exact Int32.le_refl _), h6, nI_1]
  | succ m ih =>
    intro i n J hi hn h6
    obtain ⟨n, rfl⟩ : ∃ n', n = n' + 1 := ⟨n - 1, by omega⟩
    obtain ⟨J1, g1, g2, g5, g6, g3, g4⟩ := ih (i + 1) n (xup J 74 (742 * h + i) (J 72 i)) (by omega) (by omega) (by rw [xup_cell (by decide)]; exact h6)
    refine ⟨J1, ?_, fun c hc hc2 => (g2 c hc hc2).trans (by funext x; exact xup_cell hc), fun j hj => (g5 j hj).trans (xup_cell (by decide)), g6, fun j hj => (g3 j (by omega)).trans (xup_slot (by omega)), fun j h1 h2 => ?_⟩
    · show f_X7_records_51b _ (nI i) J = _
      unfold f_X7_records_51b
      rw [if_neg (show ¬ nI i ≥ (742 : Int32) from nI_ge (b := 742) (by omega) (by decide)), if_pos (xin_nI (by omega) (by decide)), h6, n742, if_pos (xin_nI (by omega) (by decide)), nI_clamp (by omega), nI_clamp (by omega), nI_1]
      exact g1
    · by_cases z : j = i
      · subst z; rw [g3 _ (by omega), xup_at]
      · rw [g4 j (by omega) h2, xup_cell (by decide)]
theorem lp_rec10 : ∀ (m i n : Nat) (J : xI), i + m = 2226 → m < n → ∃ J1, f_X7_records_10 n (nI i) J = f_X7_records_51 xZ (0 : Int32) (xup J1 69 6 (J1 69 6 - 1)) ∧ (∀ c, c ≠ 74 → J1 c = J c) ∧ (∀ j, (j < i ∨ 2226 ≤ j) → J1 74 j = J 74 j) ∧ ∀ j, i ≤ j → j < 2226 → J1 74 j = J 74 (742 + j) := by
  intro m
  induction m with
  | zero =>
    intro i n J hi hn
    obtain ⟨n, rfl⟩ : ∃ n', n = n' + 1 := ⟨n - 1, by omega⟩
    refine ⟨J, ?_, fun _ _ => rfl, fun _ _ => rfl, fun j h1 h2 => absurd h1 (by omega)⟩
    show f_X7_records_10b _ (nI i) J = _
    unfold f_X7_records_10b
    rw [if_pos (show nI i ≥ (2226 : Int32) by rw [show i = 2226 by omega]; exact Int32.le_refl _)]
  | succ m ih =>
    intro i n J hi hn
    obtain ⟨n, rfl⟩ : ∃ n', n = n' + 1 := ⟨n - 1, by omega⟩
    obtain ⟨J1, g1, g2, g3, g4⟩ := ih (i + 1) n (xup J 74 i (J 74 (742 + i))) (by omega) (by omega)
    refine ⟨J1, ?_, fun c hc => (g2 c hc).trans (by funext x; exact xup_cell hc), fun j hj => (g3 j (by omega)).trans (xup_slot (by omega)), fun j h1 h2 => ?_⟩
    · show f_X7_records_10b _ (nI i) J = _
      unfold f_X7_records_10b
      rw [if_neg (show ¬ nI i ≥ (2226 : Int32) from nI_ge (b := 2226) (by omega) (by decide)), show (742 : Int32) + nI i = nI (742 + i) from nI_add 742 i, if_pos (xin_nI (by omega) (by decide)), if_pos (xin_nI (by omega) (by decide)), nI_clamp (by omega), nI_clamp (by omega), nI_1]
      exact g1
    · by_cases z : j = i
      · subst z; rw [g3 j (by omega), xup_at]
      · rw [g4 j (by omega) h2, xup_slot (by omega)]
/-- the place behind the latest state -/
def BH (la : Nat) (v : Int32) : Prop := v = nI (la + 1) ∨ (la = 3 ∧ v = 0)
/-- the rows of acts: class and model -/
def HI (I J : xI) : Prop := ∃ h la, h ≤ 4 ∧ la < 4 ∧ I 19 2 = nI h ∧ J 69 6 = nI h ∧ BH la (I 19 1) ∧ ∀ i, i < h → RS I (21 + 6 * ((la + 4 - i) % 4)) (fun j => J 74 (742 * (h - 1 - i) + j))
theorem EqS.of {I I' : xI} {b : Nat} (h : ∀ k, b ≤ k → k ≤ b + 5 → I' k = I k) : EqS I b I' b :=
  ⟨fun j _ => by rw [h b (by omega) (by omega)], fun j _ => by rw [h _ (by omega) (by omega)], fun j _ => by rw [h _ (by omega) (by omega)], fun j _ => by rw [h _ (by omega) (by omega)], fun j _ => by rw [h _ (by omega) (by omega)], fun j _ => by rw [h _ (by omega) (by omega)]⟩
theorem EqR.rf (s : Nat → Int32) : EqR s s := fun _ _ => rfl
theorem HI.congr {I J I' J' : xI} (h : HI I J) (hI : ∀ k, 19 ≤ k → k ≤ 44 → I' k = I k) (h6 : J' 69 6 = J 69 6) (h74 : J' 74 = J 74) : HI I' J' := by
  obtain ⟨a, la, h1, h2, h3, h4, h5, h7⟩ := h
  refine ⟨a, la, h1, h2, by rw [hI 19 (by omega) (by omega)]; exact h3, h6.trans h4, by rw [hI 19 (by omega) (by omega)]; exact h5, fun i hi => ?_⟩
  rw [h74]
  exact (h7 i hi).congr (EqS.of (fun k k1 k2 => hI k (by omega) (by omega))) (EqR.rf _)
theorem tb8 : ∀ la, la < 4 → ∀ v, (v = nI (la + 1) ∨ (la = 3 ∧ v = 0)) → ∀ I : xI, f_J9_floorMod_7cf53 v (4 : Int32) I = some (nI ((la + 1) % 4), I) ∧ f_J9_floorMod_7cf53 (v - (1 : Int32)) (4 : Int32) I = some (nI la, I) := by
  intro la h v hv I
  have : (la = 0 ∧ v = 1) ∨ (la = 1 ∧ v = 2) ∨ (la = 2 ∧ v = 3) ∨ (la = 3 ∧ v = 4) ∨ (la = 3 ∧ v = 0) := by
    have hl : la = 0 ∨ la = 1 ∨ la = 2 ∨ la = 3 := by omega
    rcases hv with hv | hv
    · rcases hl with z | z | z | z <;> subst z
      · exact Or.inl ⟨rfl, hv⟩
      · exact Or.inr (Or.inl ⟨rfl, hv⟩)
      · exact Or.inr (Or.inr (Or.inl ⟨rfl, hv⟩))
      · exact Or.inr (Or.inr (Or.inr (Or.inl ⟨rfl, hv⟩)))
    · exact Or.inr (Or.inr (Or.inr (Or.inr hv)))
  unfold f_J9_floorMod_7cf53
  rcases this with ⟨z, y⟩ | ⟨z, y⟩ | ⟨z, y⟩ | ⟨z, y⟩ | ⟨z, y⟩ <;> subst z <;> subst y
  · exact ⟨by rw [if_pos (by decide), if_pos (by decide)]; rfl, by rw [if_pos (by decide), if_pos (by decide)]; rfl⟩
  · exact ⟨by rw [if_pos (by decide), if_pos (by decide)]; rfl, by rw [if_pos (by decide), if_pos (by decide)]; rfl⟩
  · exact ⟨by rw [if_pos (by decide), if_pos (by decide)]; rfl, by rw [if_pos (by decide), if_pos (by decide)]; rfl⟩
  · exact ⟨by rw [if_pos (by decide), if_pos (by decide)]; rfl, by rw [if_pos (by decide), if_pos (by decide)]; rfl⟩
  · exact ⟨by rw [if_pos (by decide), if_pos (by decide)]; rfl, by rw [if_pos (by decide), if_neg (by decide), if_neg (by decide)]; rfl⟩
theorem tb9 : ∀ h, h < 5 → (nI h ≥ (4 : Int32) ↔ h = 4) ∧ (nI h = (4 : Int32) ↔ h = 4) ∧ (nI h = 0 ↔ h = 0) ∧ (0 < h → nI h - 1 = nI (h - 1)) := by decide +kernel
/-- an act is recorded -/
theorem st_add {b : Nat} {I J : xI} (hb : b = 45 ∨ b = 51) (hH : HI I J) (hR : RS I b (J 72)) : ∃ I' J', f_X2_add b I = some (0, I') ∧ f_X7_records J = some (0, J') ∧ HI I' J' ∧ (∀ k, (k < 19 ∨ 44 < k) → I' k = I k) ∧ (∀ k, k ≠ 69 → k ≠ 74 → J' k = J k) ∧ ∀ j, j ≠ 6 → J' 69 j = J 69 j := by
  obtain ⟨h, la, h1, h2, h3, h4, h5, h7⟩ := hH
  have t8 := fun I => (tb8 la h2 _ h5 I).1
  have t9 := tb9 h (by omega)
  have hm : (la + 1) % 4 < 4 := by omega
  generalize hq : (la + 1) % 4 = q at hm t8
  obtain ⟨I1, a1, a2, a3⟩ := ff_take (b0 := 21 + 6 * q) (b1 := b) (by omega) I
  have hc : f_X2_add b I = some (0, if h = 4 then xup I1 19 1 (nI (q + 1)) else xup (xup I1 19 1 (nI (q + 1))) 19 2 (nI (h + 1))) := by
    unfold f_X2_add
    rw [t8, xb_some, if_pos (xin_nI hm (by decide)), nI_clamp (by omega), a1, xb_some, xup_slot (by omega), a3 19 (by omega), h3, nI_1 q]
    by_cases z : h = 4
    · rw [if_pos (t9.1.mpr z), if_pos z]
    · rw [if_neg (fun y => z (t9.1.mp y)), if_neg z, nI_1]
  -- the model's
  have hm2 : ∃ J1 h', h' = (if h = 4 then 3 else h) ∧ f_X7_records J = some (0, J1) ∧ (∀ c, c ≠ 74 → c ≠ 69 → J1 c = J c) ∧ (∀ j, j ≠ 6 → J1 69 j = J 69 j) ∧ J1 69 6 = nI (h' + 1) ∧ (∀ r j, r < h' → j < 742 → J1 74 (742 * r + j) = J 74 (742 * (r + (h - h')) + j)) ∧ ∀ j, j < 742 → J1 74 (742 * h' + j) = J 72 j := by
    by_cases z : h = 4
    · subst z
      obtain ⟨J0, e1, e2, e3, e4⟩ := lp_rec10 2226 0 xZ J (by omega) (by unfold xZ; omega)
      have e6 : J0 69 6 - 1 = nI 3 := by rw [e2 69 (by decide), h4]; decide
      obtain ⟨J1, g1, g2, g5, g6, g3, g4⟩ := lp_rec51 (h := 3) (by omega) 742 0 xZ (xup J0 69 6 (nI 3)) (by omega) (by unfold xZ; omega) xup_at
      refine ⟨J1, 3, by simp, ?_, fun c hc hc2 => (g2 c hc hc2).trans (by funext x; rw [xup_cell hc2, e2 c hc]), fun j hj => (g5 j hj).trans (by rw [xup_slot hj, e2 69 (by decide)]), g6, fun r j hr hj => ?_, fun j hj => ?_⟩
      · unfold f_X7_records
        rw [if_neg (fun y => y h4)]
        refine e1.trans ?_
        rw [e6]
        exact g1
      · rw [g3 _ (by omega), xup_cell (by decide), e4 _ (by omega) (by omega)]
        exact congrArg (J 74) (by omega)
      · rw [g4 j (by omega) hj, xup_cell (by decide), e2 72 (by decide)]
    · obtain ⟨J1, g1, g2, g5, g6, g3, g4⟩ := lp_rec51 (h := h) (by omega) 742 0 xZ J (by omega) (by unfold xZ; omega) h4
      refine ⟨J1, h, by rw [if_neg z], ?_, g2, g5, g6, fun r j hr hj => ?_, fun j hj => g4 j (by omega) hj⟩
      · unfold f_X7_records
        rw [h4, if_pos (fun y => z (t9.2.1.mp y))]
        exact g1
      · rw [g3 _ (by rw [Nat.add_zero]; have : 742 * (r + 1) ≤ 742 * h := Nat.mul_le_mul_left _ hr; omega), Nat.sub_self, Nat.add_zero]
  obtain ⟨J1, h', hh', k1, k2, k3, k4, k5, k6⟩ := hm2
  generalize hI2 : (if h = 4 then xup I1 19 1 (nI (q + 1)) else xup (xup I1 19 1 (nI (q + 1))) 19 2 (nI (h + 1))) = I2 at hc
  have hI2c : ∀ k, k ≠ 19 → I2 k = I1 k := fun k hk => by
    rw [← hI2]; split
    · funext x; exact xup_cell hk
    · funext x; rw [xup_cell hk, xup_cell hk]
  have hout : ∀ k, (k < 21 + 6 * q ∨ 21 + 6 * q + 5 < k) → k ≠ 19 → I2 k = I k := fun k hk h19 => by
    rw [hI2c k h19, a3 k hk]
  refine ⟨I2, J1, hc, k1, ⟨h' + 1, q, by split at hh' <;> omega, hm, ?_, k4, ?_, fun i hi => ?_⟩, fun k hk => hout k (by omega) (by omega), fun k ha hb => k2 k hb ha, k3⟩
  · rw [← hI2]
    by_cases z : h = 4
    · rw [if_pos z] at hh' ⊢
      rw [xup_slot (by omega), a3 19 (by omega), h3, hh', z]
    · rw [if_neg z] at hh' ⊢
      rw [xup_at, hh']
  · rw [← hI2]
    split
    · exact Or.inl xup_at
    · exact Or.inl (by rw [xup_slot (by omega), xup_at])
  · by_cases hi0 : i = 0
    · subst hi0
      have e : (q + 4 - 0) % 4 = q := by omega
      rw [e]
      refine hR.congr ?_ (fun j hj => ?_)
      · have E := a2
        obtain ⟨x0, x1, x2, x3, x4, x5⟩ := E
        refine ⟨fun j hj => ?_, fun j hj => ?_, fun j hj => ?_, fun j hj => ?_, fun j hj => ?_, fun j hj => ?_⟩
        · rw [hI2c _ (by omega), x0 j hj]
        · rw [hI2c _ (by omega), x1 j hj]
        · rw [hI2c _ (by omega), x2 j hj]
        · rw [hI2c _ (by omega), x3 j hj]
        · rw [hI2c _ (by omega), x4 j hj]
        · rw [hI2c _ (by omega), x5 j hj]
      · show J1 74 (742 * (h' + 1 - 1 - 0) + j) = J 72 j
        rw [show h' + 1 - 1 - 0 = h' by omega, k6 j hj]
    · have hh4 : h' ≤ 3 := by split at hh' <;> omega
      have hhh : h' = h ∨ (h = 4 ∧ h' = 3) := by split at hh' <;> omega
      have e : (q + 4 - i) % 4 = (la + 4 - (i - 1)) % 4 := by omega
      rw [e]
      refine (h7 (i - 1) (by omega)).congr (EqS.of (fun k c1 c2 => hout k (by omega) (by omega))) (fun j hj => ?_)
      show J1 74 (742 * (h' + 1 - 1 - i) + j) = J 74 (742 * (h - 1 - (i - 1)) + j)
      rw [k5 _ _ (by omega) hj]
      congr 2
      omega
/-- the last act is taken back -/
theorem st_undo {I J : xI} (hH : HI I J) : (f_X2_takeBack 45 I = some (-5, I) ∧ f_X7_undo J = some (-5, J)) ∨ ∃ r I' J', f_X2_takeBack 45 I = some (r, I') ∧ f_X7_undo J = some (r, J') ∧ HI I' J' ∧ RS I' 45 (J' 70) ∧ (∀ k, k ≠ 19 → (k < 45 ∨ 50 < k) → I' k = I k) ∧ (∀ k, k ≠ 69 → k ≠ 70 → J' k = J k) ∧ ∀ j, j ≠ 6 → J' 69 j = J 69 j := by
  obtain ⟨h, la, h1, h2, h3, h4, h5, h7⟩ := hH
  have t8 := fun I => (tb8 la h2 _ h5 I).2
  have t9 := tb9 h (by omega)
  by_cases z : h = 0
  · refine Or.inl ⟨?_, ?_⟩
    · unfold f_X2_takeBack
      rw [h3, if_neg (fun y => y (t9.2.2.1.mpr z))]
    · unfold f_X7_undo
      rw [h4, if_neg (fun y => y (t9.2.2.1.mpr z))]
  · obtain ⟨I1, a1, a2, a3⟩ := ff_take (b0 := 45) (b1 := 21 + 6 * la) (by omega) I
    obtain ⟨J1, g1, g2, -, g4⟩ := lp_undo (h := h - 1) (by omega) 742 0 xZ (xup J 69 6 (nI (h - 1))) (by omega) (by unfold xZ; omega) xup_at
    have h0 := h7 0 (by omega)
    rw [show (la + 4 - 0) % 4 = la by omega, show h - 1 - 0 = h - 1 by omega] at h0
    refine Or.inr ⟨nI (h - 1), xup (xup I1 19 1 (nI la)) 19 2 (nI (h - 1)), J1, ?_, ?_, ⟨h - 1, (la + 3) % 4, by omega, by omega, xup_at, ?_, ?_, fun i hi => ?_⟩, ?_, fun k hk hk2 => ?_, fun k hk hk2 => ?_, fun j hj => ?_⟩
    · unfold f_X2_takeBack
      rw [h3, if_pos (fun y => z (t9.2.2.1.mp y)), t8, xb_some, if_pos (xin_nI h2 (by decide)), nI_clamp (by omega), a1, xb_some, xup_slot (show 2 ≠ 1 by omega), a3 19 (by omega), h3, t9.2.2.2 (by omega), xup_at]
    · unfold f_X7_undo
      rw [h4, if_pos (fun y => z (t9.2.2.1.mp y)), t9.2.2.2 (by omega)]
      exact g1
    · rw [g2 69 (by decide), xup_at]
    · rw [xup_slot (by omega), xup_at]
      rcases Nat.eq_or_lt_of_le (Nat.zero_le la) with z0 | z0
      · exact Or.inr ⟨by rw [← z0], by rw [← z0]; rfl⟩
      · exact Or.inl (by congr 1; omega)
    · have e : ((la + 3) % 4 + 4 - i) % 4 = (la + 4 - (i + 1)) % 4 := by omega
      have := h7 (i + 1) (by omega)
      rw [e]
      refine this.congr (EqS.of (fun k c1 c2 => ?_)) (fun j hj => ?_)
      · funext x; rw [xup_cell (by omega), xup_cell (by omega), a3 k (by omega)]
      · show J1 74 (742 * (h - 1 - 1 - i) + j) = J 74 (742 * (h - 1 - (i + 1)) + j)
        rw [g2 74 (by decide), xup_cell (by decide)]
        congr 2
        omega
    · refine h0.congr ?_ (fun j hj => ?_)
      · obtain ⟨x0, x1, x2, x3, x4, x5⟩ := a2
        have y : ∀ k, k ≠ 19 → xup (xup I1 19 1 (nI la)) 19 2 (nI (h - 1)) k = I1 k := fun k hk => by funext x; rw [xup_cell hk, xup_cell hk]
        refine ⟨fun j hj => ?_, fun j hj => ?_, fun j hj => ?_, fun j hj => ?_, fun j hj => ?_, fun j hj => ?_⟩
        · rw [y 45 (by decide), x0 j hj]
        · rw [y (45 + 1) (by decide), x1 j hj]
        · rw [y (45 + 2) (by decide), x2 j hj]
        · rw [y (45 + 3) (by decide), x3 j hj]
        · rw [y (45 + 4) (by decide), x4 j hj]
        · rw [y (45 + 5) (by decide), x5 j hj]
      · show J1 70 j = J 74 (742 * (h - 1) + j)
        rw [g4 j (by omega) hj, xup_cell (by decide)]
    · funext x; rw [xup_cell hk, xup_cell hk, a3 k (by omega)]
    · rw [g2 k hk2]; funext x; exact xup_cell hk
    · rw [g2 69 (by decide), xup_slot hj]
