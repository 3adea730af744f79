/-! ===== numbers ===== -/
theorem nI_lit (n : Nat) : (OfNat.ofNat n : Int32) = nI n := rfl
theorem m5_toInt : (-5 : Int32).toInt = -5 := by decide +kernel
theorem nI_m5 {n : Nat} (h : n < 2 ^ 31) : ¬ nI n = -5 := by
  intro q
  have := nI_toInt h
  rw [q, m5_toInt] at this
  omega
theorem nI_m5' {n : Nat} (h : n < 2 ^ 31) : ¬ (-5 : Int32) = nI n := fun q => nI_m5 h q.symm
theorem nI_inj {a b : Nat} (ha : a < 2 ^ 31) (hb : b < 2 ^ 31) (h : nI a = nI b) : a = b := (nI_eq ha hb).mp h
theorem nI_mulc (a b : Nat) : nI a * nI b = nI (a * b) := by
  show Int32.ofNat a * Int32.ofNat b = Int32.ofNat (a * b)
  exact (Int32.ofNat_mul a b).symm
theorem xin_nI {n N : Nat} (h : n < N) (hN : N < 2 ^ 31) : xin (nI n) N := nI_in h hN
/-- an int is below 0, at or above n, or a number below n -/
theorem nI_cases (x : Int32) {n : Nat} (hn : n < 2 ^ 31) : x < 0 ∨ nI n ≤ x ∨ ∃ j : Nat, j < n ∧ x = nI j := by
  rcases Int32.lt_or_le x 0 with h | h
  · exact Or.inl h
  · rcases Int32.lt_or_le x (nI n) with h2 | h2
    · refine Or.inr (Or.inr ?_)
      obtain ⟨j, hj, rfl⟩ := nI_of (Int32.not_lt.mpr h)
      exact ⟨j, (nI_ltI hj hn).mp h2, rfl⟩
    · exact Or.inr (Or.inl h2)
theorem xup_at {I : xI} {k j : Nat} {x : Int32} : xup I k j x k j = x := by simp [xup]
theorem xup_ne {I : xI} {k j a c : Nat} {x : Int32} (h : ¬ (a = k ∧ c = j)) : xup I k j x a c = I a c := by
  unfold xup
  by_cases h1 : a = k
  · rw [if_pos h1, if_neg (fun h2 => h ⟨h1, h2⟩)]
  · rw [if_neg h1]
theorem xup_cell {I : xI} {k j a c : Nat} {x : Int32} (h : a ≠ k) : xup I k j x a c = I a c := xup_ne (fun q => h q.1)
theorem xup_slot {I : xI} {k j c : Nat} {x : Int32} (h : c ≠ j) : xup I k j x k c = I k c := xup_ne (fun q => h q.2)
/-! ===== the ground ===== -/
def eTl : List Nat := [99, 0, 1, 99, 99, 2, 3, 0, 99, 4, 5, 2, 99, 6, 7, 4, 99, 8, 9, 6, 99, 10, 11, 8, 99, 12, 13, 10, 99, 99, 14, 12, 1, 15, 16, 99, 3, 17, 18, 15, 5, 19, 20, 17, 7, 21, 22, 19, 9, 23, 24, 21, 11, 25, 26, 23, 13, 27, 28, 25, 14, 99, 29, 27, 16, 30, 31, 99, 18, 32, 33, 30, 20, 34, 35, 32, 22, 36, 37, 34, 24, 38, 39, 36, 26, 40, 41, 38, 28, 42, 43, 40, 29, 99, 44, 42, 31, 45, 46, 99, 33, 47, 48, 45, 35, 49, 50, 47, 37, 51, 52, 49, 39, 53, 54, 51, 41, 55, 56, 53, 43, 57, 58, 55, 44, 99, 59, 57, 46, 60, 61, 99, 48, 62, 63, 60, 50, 64, 65, 62, 52, 66, 67, 64, 54, 68, 69, 66, 56, 70, 71, 68, 58, 72, 73, 70, 59, 99, 74, 72, 61, 75, 99, 99, 63, 76, 99, 75, 65, 77, 99, 76, 67, 78, 99, 77, 69, 79, 99, 78, 71, 80, 99, 79, 73, 81, 99, 80, 74, 99, 99, 81]
def bTl : List Nat := [99, 1, 8, 99, 99, 2, 9, 0, 99, 3, 10, 1, 99, 4, 11, 2, 99, 5, 12, 3, 99, 6, 13, 4, 99, 7, 14, 5, 99, 99, 15, 6, 0, 9, 16, 99, 1, 10, 17, 8, 2, 11, 18, 9, 3, 12, 19, 10, 4, 13, 20, 11, 5, 14, 21, 12, 6, 15, 22, 13, 7, 99, 23, 14, 8, 17, 24, 99, 9, 18, 25, 16, 10, 19, 26, 17, 11, 20, 27, 18, 12, 21, 28, 19, 13, 22, 29, 20, 14, 23, 30, 21, 15, 99, 31, 22, 16, 25, 32, 99, 17, 26, 33, 24, 18, 27, 34, 25, 19, 28, 35, 26, 20, 29, 36, 27, 21, 30, 37, 28, 22, 31, 38, 29, 23, 99, 39, 30, 24, 33, 40, 99, 25, 34, 41, 32, 26, 35, 42, 33, 27, 36, 43, 34, 28, 37, 44, 35, 29, 38, 45, 36, 30, 39, 46, 37, 31, 99, 47, 38, 32, 41, 99, 99, 33, 42, 99, 40, 34, 43, 99, 41, 35, 44, 99, 42, 36, 45, 99, 43, 37, 46, 99, 44, 38, 47, 99, 45, 39, 99, 99, 46]
def neT : List Nat := [0, 0, 1, 1, 2, 2, 3, 3, 4, 4, 5, 5, 6, 6, 7, 8, 8, 9, 9, 10, 10, 11, 11, 12, 12, 13, 13, 14, 14, 15, 16, 16, 17, 17, 18, 18, 19, 19, 20, 20, 21, 21, 22, 22, 23, 24, 24, 25, 25, 26, 26, 27, 27, 28, 28, 29, 29, 30, 30, 31, 32, 32, 33, 33, 34, 34, 35, 35, 36, 36, 37, 37, 38, 38, 39, 40, 41, 42, 43, 44, 45, 46]
def faT : List Nat := [1, 8, 2, 9, 3, 10, 4, 11, 5, 12, 6, 13, 7, 14, 15, 9, 16, 10, 17, 11, 18, 12, 19, 13, 20, 14, 21, 15, 22, 23, 17, 24, 18, 25, 19, 26, 20, 27, 21, 28, 22, 29, 23, 30, 31, 25, 32, 26, 33, 27, 34, 28, 35, 29, 36, 30, 37, 31, 38, 39, 33, 40, 34, 41, 35, 42, 36, 43, 37, 44, 38, 45, 39, 46, 47, 41, 42, 43, 44, 45, 46, 47]
def peT : List Nat := [0, 42, 1, 43, 2, 44, 3, 45, 4, 46, 5, 47, 6, 48, 49, 7, 50, 8, 51, 9, 52, 10, 53, 11, 54, 12, 55, 13, 56, 57, 14, 58, 15, 59, 16, 60, 17, 61, 18, 62, 19, 63, 20, 64, 65, 21, 66, 22, 67, 23, 68, 24, 69, 25, 70, 26, 71, 27, 72, 73, 28, 74, 29, 75, 30, 76, 31, 77, 32, 78, 33, 79, 34, 80, 81, 35, 36, 37, 38, 39, 40, 41]
def eT (f g : Nat) : Nat := eTl.getD (f * 4 + g) 99
def bT (f g : Nat) : Nat := bTl.getD (f * 4 + g) 99
def nE (e : Nat) : Nat := neT.getD e 99
def fE (e : Nat) : Nat := faT.getD e 99
def pE (e : Nat) : Nat := peT.getD e 99
def tI (n m : Nat) : Int32 := if n < m then nI n else -5
/-- the ground's rows hold the tables -/
def GT (I : xI) : Prop := (∀ j, j < 192 → I 3 j = tI (eTl.getD j 99) 82) ∧ (∀ j, j < 192 → I 2 j = tI (bTl.getD j 99) 48) ∧ (∀ e, e < 82 → I 4 e = nI (nE e)) ∧ (∀ e, e < 82 → I 5 e = nI (fE e))
theorem GT_I00 : GT I00 := by
  unfold GT
  refine ⟨?_, ?_, ?_, ?_⟩
  · decide +kernel
  · decide +kernel
  · decide +kernel
  · decide +kernel
theorem ff_isEdge_yes {e : Nat} (h : e < 82) (I : xI) : f_X6_isEdge (nI e) I = some (1, I) := by
  unfold f_X6_isEdge
  rw [if_neg (nI_pos (by omega)), if_neg]
  exact nI_ge (b := 82) h (by decide)
theorem ff_isEdge_no (I : xI) : f_X6_isEdge (-5) I = some (0, I) := rfl
theorem ff_isField_yes {f : Nat} (h : f < 48) (I : xI) : f_X6_isField (nI f) I = some (1, I) := by
  unfold f_X6_isField
  rw [if_neg (nI_pos (by omega)), if_neg]
  exact nI_ge (b := 48) h (by decide)
theorem ff_isField_cases (x : Int32) (I : xI) : (∃ f, f < 48 ∧ x = nI f) ∨ (f_X6_isField x I = some (0, I)) := by
  rcases nI_cases x (n := 48) (by decide) with h | h | h
  · right; unfold f_X6_isField; rw [if_pos h]
  · right
    unfold f_X6_isField
    split
    · rfl
    · rw [if_pos]; exact h
  · exact Or.inl h
theorem ff_isPlayer_cases (x : Int32) (I : xI) : (∃ f, f < 2 ∧ x = nI f ∧ f_X6_isPlayer x I = some (1, I)) ∨ ((∀ f, f < 2 → x ≠ nI f) ∧ f_X6_isPlayer x I = some (0, I)) := by
  rcases nI_cases x (n := 2) (by decide) with h | h | ⟨f, hf, rfl⟩
  · right; refine ⟨fun f hf q => nI_pos (n := f) (by omega) (q ▸ h), ?_⟩; unfold f_X6_isPlayer; rw [if_pos h]
  · right
    refine ⟨fun f hf q => ?_, ?_⟩
    · subst q; exact nI_ge hf (by decide) h
    · unfold f_X6_isPlayer
      split
      · rfl
      · rw [if_pos]; exact h
  · refine Or.inl ⟨f, hf, rfl, ?_⟩
    unfold f_X6_isPlayer
    rw [if_neg (nI_pos (by omega)), if_neg]
    exact nI_ge (b := 2) hf (by decide)
/-- the model's ranges -/
theorem gg_in_yes {a b n : Nat} (h1 : a ≤ n) (h2 : n ≤ b) (hb : b < 2 ^ 31) (J : xI) : f_X7_in (nI n) (nI a) (nI b) J = some (1, J) := by
  unfold f_X7_in
  rw [if_neg (nI_nlt h1 (by omega)), if_neg]
  exact nI_nlt h2 hb
theorem gg_in_no {a b : Nat} {x : Int32} (ha : a ≤ b + 1) (hb : b + 1 < 2 ^ 31) (h : ∀ n, a ≤ n → n ≤ b → x ≠ nI n) (J : xI) : f_X7_in x (nI a) (nI b) J = some (0, J) := by
  unfold f_X7_in
  rcases nI_cases x (n := b + 1) hb with h1 | h1 | ⟨j, hj, rfl⟩
  · have : x < nI a := Int32.lt_of_lt_of_le h1 (nI_pos' (by omega))
    rw [if_pos this]
  · split
    · rfl
    · rw [if_pos]
      exact Int32.lt_of_lt_of_le (nI_lt (Nat.lt_succ_self b) hb) h1
  · have hja : j < a := by
      rcases Nat.lt_or_ge j a with q | q
      · exact q
      · exact absurd rfl (h j q (by omega))
    rw [if_pos (nI_lt hja (Nat.lt_of_le_of_lt ha hb))]
theorem gg_isField_yes {f : Nat} (h : f < 48) (J : xI) : f_X7_isField (nI f) J = some (1, J) := by
  unfold f_X7_isField
  rw [show f_X7_in (nI f) 0 47 J = some (1, J) from gg_in_yes (a := 0) (b := 47) (by omega) (by omega) (by decide) J]
  rfl
theorem gg_isField_no {x : Int32} (h : ∀ f, f < 48 → x ≠ nI f) (J : xI) : f_X7_isField x J = some (0, J) := by
  unfold f_X7_isField
  rw [show f_X7_in x 0 47 J = some (0, J) from gg_in_no (a := 0) (b := 47) (by decide) (by decide) (fun n _ hn => h n (by omega)) J]
  rfl
theorem gg_isPlayer_yes {f : Nat} (h : f < 2) (J : xI) : f_X7_isPlayer (nI f) J = some (1, J) := by
  unfold f_X7_isPlayer
  rw [show f_X7_in (nI f) 0 1 J = some (1, J) from gg_in_yes (a := 0) (b := 1) (by omega) (by omega) (by decide) J]
  rfl
theorem gg_isPlayer_no {x : Int32} (h : ∀ f, f < 2 → x ≠ nI f) (J : xI) : f_X7_isPlayer x J = some (0, J) := by
  unfold f_X7_isPlayer
  rw [show f_X7_in x 0 1 J = some (0, J) from gg_in_no (a := 0) (b := 1) (by decide) (by decide) (fun n _ hn => h n (by omega)) J]
  rfl
/-- the model's number of an edge, as a value -/
def mEv (l0 l1 : Int32) : Int32 := if l1 = 0 then (if (l0 / (8 : Int32)) ≤ 0 then -5 else ((42 : Int32) + l0) - (8 : Int32)) else if l1 = 1 then (if (l0 - l0 / (8 : Int32) * (8 : Int32)) ≥ (7 : Int32) then -5 else ((7 : Int32) * (l0 / (8 : Int32))) + (l0 - l0 / (8 : Int32) * (8 : Int32))) else if l1 = 2 then (if (l0 / (8 : Int32)) ≥ (5 : Int32) then -5 else (42 : Int32) + l0) else if l1 = 3 then (if (l0 - l0 / (8 : Int32) * (8 : Int32)) ≤ 0 then -5 else (((7 : Int32) * (l0 / (8 : Int32))) + (l0 - l0 / (8 : Int32) * (8 : Int32))) - (1 : Int32)) else -5
theorem gg_edgeAt_f {f : Nat} (h : f < 48) (x : Int32) (J : xI) : f_X7_edgeAt (nI f) x J = some (mEv (nI f) x, J) := by
  unfold f_X7_edgeAt
  rw [gg_isField_yes h, xb_some, if_pos (by decide)]
  unfold mEv
  repeat (split <;> try rfl)
theorem mEv_tab : ∀ f, f < 48 → ∀ g, g < 4 → mEv (nI f) (nI g) = if eT f g < 82 then nI (pE (eT f g)) else -5 := by decide +kernel
theorem mEv_out {x : Int32} (f : Int32) (h : ∀ g, g < 4 → x ≠ nI g) : mEv f x = -5 := by
  unfold mEv
  have h0 : ¬ x = (0 : Int32) := h 0 (by omega)
  have h1 : ¬ x = (1 : Int32) := h 1 (by omega)
  have h2 : ¬ x = (2 : Int32) := h 2 (by omega)
  have h3 : ¬ x = (3 : Int32) := h 3 (by omega)
  rw [if_neg h0, if_neg h1, if_neg h2, if_neg h3]
/-- edges: the class's number and the model's -/
theorem edge_yes {f g : Nat} (hf : f < 48) (hg : g < 4) (he : eT f g < 82) {I : xI} (G : GT I) (J : xI) : f_X1_edgeNumber (nI f) (nI g) I = some (nI (eT f g), I) ∧ f_X7_edgeAt (nI f) (nI g) J = some (nI (pE (eT f g)), J) := by
  refine ⟨?_, ?_⟩
  · unfold f_X1_edgeNumber
    have h4 : ¬ nI g < 0 := nI_pos (by omega)
    have h5 : nI g < (4 : Int32) := nI_lt (b := 4) hg (by decide)
    have e : nI f * (4 : Int32) + nI g = nI (f * 4 + g) := by
      rw [show (4 : Int32) = nI 4 from rfl, nI_mulc, nI_add]
    rw [ff_isField_yes hf, xb_some, if_neg (by decide), if_neg h4, if_pos h5, e, if_pos (xin_nI (by omega) (by decide)), nI_clamp (by omega), G.1 _ (by omega)]
    unfold eT at he
    rw [tI, if_pos he]
    rfl
  · rw [gg_edgeAt_f hf, mEv_tab f hf g hg, if_pos he]
theorem edge_no {f g : Nat} (hf : f < 48) (hg : g < 4) (he : ¬ eT f g < 82) {I : xI} (G : GT I) (J : xI) : f_X1_edgeNumber (nI f) (nI g) I = some (-5, I) ∧ f_X7_edgeAt (nI f) (nI g) J = some (-5, J) := by
  refine ⟨?_, ?_⟩
  · unfold f_X1_edgeNumber
    have h4 : ¬ nI g < 0 := nI_pos (by omega)
    have h5 : nI g < (4 : Int32) := nI_lt (b := 4) hg (by decide)
    have e : nI f * (4 : Int32) + nI g = nI (f * 4 + g) := by
      rw [show (4 : Int32) = nI 4 from rfl, nI_mulc, nI_add]
    rw [ff_isField_yes hf, xb_some, if_neg (by decide), if_neg h4, if_pos h5, e, if_pos (xin_nI (by omega) (by decide)), nI_clamp (by omega), G.1 _ (by omega)]
    unfold eT at he
    rw [tI, if_neg he]
  · rw [gg_edgeAt_f hf, mEv_tab f hf g hg, if_neg he]
theorem edge_cases (x y : Int32) {I : xI} (G : GT I) (J : xI) : (∃ f g, f < 48 ∧ g < 4 ∧ eT f g < 82 ∧ x = nI f ∧ y = nI g) ∨ (f_X1_edgeNumber x y I = some (-5, I) ∧ f_X7_edgeAt x y J = some (-5, J)) := by
  rcases ff_isField_cases x I with ⟨f, hf, rfl⟩ | h
  · rcases nI_cases y (n := 4) (by decide) with h4 | h4 | ⟨g, hg, rfl⟩
    · refine Or.inr ⟨?_, ?_⟩
      · unfold f_X1_edgeNumber
        rw [ff_isField_yes hf, xb_some, if_neg (by decide), if_pos h4]
      · rw [gg_edgeAt_f hf, mEv_out _ (fun g hg q => nI_pos (n := g) (by omega) (q ▸ h4))]
    · refine Or.inr ⟨?_, ?_⟩
      · unfold f_X1_edgeNumber
        rw [ff_isField_yes hf, xb_some, if_neg (by decide)]
        split
        · rfl
        · have h4' : ¬ y < (4 : Int32) := Int32.not_lt.mpr h4
          rw [if_neg h4']
      · rw [gg_edgeAt_f hf, mEv_out _ (fun g hg q => by subst q; exact nI_ge hg (by decide) h4)]
    · by_cases he : eT f g < 82
      · exact Or.inl ⟨f, g, hf, hg, he, rfl, rfl⟩
      · exact Or.inr (edge_no hf hg he G J)
  · by_cases hx : ∃ f, f < 48 ∧ x = nI f
    · obtain ⟨f, hf, rfl⟩ := hx
      rw [ff_isField_yes hf] at h
      cases h
    · refine Or.inr ⟨?_, ?_⟩
      · unfold f_X1_edgeNumber
        rw [h, xb_some, if_pos rfl]
      · unfold f_X7_edgeAt
        rw [gg_isField_no (fun f hf q => hx ⟨f, hf, q⟩), xb_some, if_neg (by decide)]
