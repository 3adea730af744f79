def qeT : List Nat := [0, 2, 4, 6, 8, 10, 12, 15, 17, 19, 21, 23, 25, 27, 30, 32, 34, 36, 38, 40, 42, 45, 47, 49, 51, 53, 55, 57, 60, 62, 64, 66, 68, 70, 72, 75, 76, 77, 78, 79, 80, 81, 1, 3, 5, 7, 9, 11, 13, 14, 16, 18, 20, 22, 24, 26, 28, 29, 31, 33, 35, 37, 39, 41, 43, 44, 46, 48, 50, 52, 54, 56, 58, 59, 61, 63, 65, 67, 69, 71, 73, 74]
def qE (e : Nat) : Nat := qeT.getD e 99
def sN (e : Nat) : Nat := if fE e = nE e + 1 then 1 else 2
def sF (e : Nat) : Nat := if fE e = nE e + 1 then 3 else 0
theorem tab1 : ∀ e, e < 82 → nE e < 48 ∧ fE e < 48 ∧ pE e < 82 ∧ qE e < 82 ∧ qE (pE e) = e ∧ pE (qE e) = e := by decide +kernel
theorem tab2 : ∀ f, f < 48 → ∀ g, g < 4 → eT f g < 82 → bT f g < 48 ∧ ((nE (eT f g) = f ∧ fE (eT f g) = bT f g) ∨ (fE (eT f g) = f ∧ nE (eT f g) = bT f g)) := by decide +kernel
theorem tab3 : ∀ e, e < 82 → (sN e < 4 ∧ eT (nE e) (sN e) = e ∧ bT (nE e) (sN e) = fE e) ∧ (sF e < 4 ∧ eT (fE e) (sF e) = e ∧ bT (fE e) (sF e) = nE e) := by decide +kernel
theorem tab4 : ∀ f, f < 48 → ∀ g, g < 4 → ¬ eT f g < 82 → ¬ bT f g < 48 := by decide +kernel
def mO (l0 : Int32) : Int32 := if l0 ≥ (42 : Int32) then l0 - 42 else (l0 / 7) * 8 + (l0 - l0 / 7 * 7)
theorem gg_oneOf_v (x : Int32) (J : xI) : f_X7_oneOf x J = some (mO x, J) := by
  unfold f_X7_oneOf mO
  split <;> rfl
theorem tab5 : ∀ e, e < 82 → mO (nI e) = nI (nE (qE e)) ∧ (if nI e ≥ (42 : Int32) then mO (nI e) + 8 else mO (nI e) + 1) = nI (fE (qE e)) := by decide +kernel
theorem gg_oneOf {e : Nat} (h : e < 82) (J : xI) : f_X7_oneOf (nI e) J = some (nI (nE (qE e)), J) := by rw [gg_oneOf_v, (tab5 e h).1]
theorem gg_otherOf {e : Nat} (h : e < 82) (J : xI) : f_X7_otherOf (nI e) J = some (nI (fE (qE e)), J) := by
  unfold f_X7_otherOf
  rw [gg_oneOf_v, xb_some, ← (tab5 e h).2]
  split <;> rfl
/-! ===== regions: what can be reached over open edges ===== -/
def Ad (E : Nat → Int32) (a b : Nat) : Prop := ∃ e, e < 82 ∧ E e = 0 ∧ ((nE e = a ∧ fE e = b) ∨ (fE e = a ∧ nE e = b))
def Rch (E : Nat → Int32) (a b : Nat) : Prop := ∀ P : Nat → Prop, P a → (∀ x y, P x → Ad E x y → P y) → P b
theorem Ad.symm {E : Nat → Int32} {a b : Nat} (h : Ad E a b) : Ad E b a := by
  obtain ⟨e, h1, h2, h3⟩ := h
  exact ⟨e, h1, h2, h3.elim (fun q => Or.inr ⟨q.2, q.1⟩) (fun q => Or.inl ⟨q.2, q.1⟩)⟩
theorem Ad.lt {E : Nat → Int32} {a b : Nat} (h : Ad E a b) : a < 48 ∧ b < 48 := by
  obtain ⟨e, h1, h2, h3⟩ := h
  have := tab1 e h1
  rcases h3 with ⟨rfl, rfl⟩ | ⟨rfl, rfl⟩
  · exact ⟨this.1, this.2.1⟩
  · exact ⟨this.2.1, this.1⟩
theorem Rch.rf {E : Nat → Int32} (a : Nat) : Rch E a a := fun _ h _ => h
theorem Rch.trans {E : Nat → Int32} {a b c : Nat} (h1 : Rch E a b) (h2 : Rch E b c) : Rch E a c := fun P hP hs => h2 P (h1 P hP hs) hs
theorem Rch.step {E : Nat → Int32} {a b c : Nat} (h1 : Rch E a b) (h2 : Ad E b c) : Rch E a c := fun P hP hs => hs b c (h1 P hP hs) h2
theorem Rch.symm {E : Nat → Int32} {a b : Nat} (h : Rch E a b) : Rch E b a := h (fun x => Rch E x a) (Rch.rf a) (fun x y hx hxy => (Rch.step (Rch.rf y) hxy.symm).trans hx)
theorem Rch.congr {E E' : Nat → Int32} (h : ∀ e, e < 82 → (E e = 0 ↔ E' e = 0)) {a b : Nat} (hr : Rch E a b) : Rch E' a b := fun P hP hs => hr P hP (fun x y hx hxy => hs x y hx (by
  obtain ⟨e, h1, h2, h3⟩ := hxy
  exact ⟨e, h1, (h e h1).mp h2, h3⟩))
noncomputable def rB (E : Nat → Int32) (a b : Nat) : Bool := @decide (Rch E a b) (Classical.propDecidable _)
theorem rB_iff {E : Nat → Int32} {a b : Nat} : rB E a b = true ↔ Rch E a b := by
  unfold rB
  exact @decide_eq_true_iff _ (Classical.propDecidable _)
theorem rB_congr {E E' : Nat → Int32} (h : ∀ e, e < 82 → (E e = 0 ↔ E' e = 0)) (a b : Nat) : rB E a b = rB E' a b := by
  rw [Bool.eq_iff_iff, rB_iff, rB_iff]
  exact ⟨Rch.congr h, Rch.congr (fun e he => (h e he).symm)⟩
noncomputable def siz (E : Nat → Int32) (f : Nat) : Nat := (List.range' 0 48).countP (rB E f)
noncomputable def fre (E T : Nat → Int32) (f : Nat) : Nat := (List.range' 0 48).countP (fun g => rB E f g && decide (T g = -5))
def IsLow (E : Nat → Int32) (f m : Nat) : Prop := m < 48 ∧ Rch E f m ∧ ∀ g, g < m → ¬ Rch E f g
theorem IsLow.uniq {E : Nat → Int32} {f m m' : Nat} (h : IsLow E f m) (h' : IsLow E f m') : m = m' := by
  rcases Nat.lt_trichotomy m m' with q | q | q
  · exact absurd h.2.1 (h'.2.2 m q)
  · exact q
  · exact absurd h'.2.1 (h.2.2 m' q)
/-! counting -/
theorem cP_insert {P P' : Nat → Bool} {x : Nat} : ∀ (m i : Nat), i ≤ x → x < i + m → P x = false → P' x = true → (∀ g, g ≠ x → P' g = P g) → (List.range' i m).countP P' = (List.range' i m).countP P + 1 := by
  intro m
  induction m with
  | zero => intro i h1 h2; omega
  | succ m ih =>
    intro i h1 h2 hP hP' he
    rw [List.range'_succ, List.countP_cons, List.countP_cons]
    by_cases hx : i = x
    · have hrest : (List.range' (i + 1) m).countP P' = (List.range' (i + 1) m).countP P := by
        apply List.countP_congr
        intro g hg
        have := List.mem_range'_1.mp hg
        rw [he g (by omega)]
      rw [hrest, hx, hP, hP']
      simp
    · rw [ih (i + 1) (by omega) (by omega) hP hP' he, he i hx]
      omega
theorem cP_le (P : Nat → Bool) (m i : Nat) : (List.range' i m).countP P ≤ m := by
  have := List.countP_le_length (p := P) (l := List.range' i m)
  rwa [List.length_range'] at this
theorem cP_congr {P P' : Nat → Bool} {m i : Nat} (h : ∀ g, i ≤ g → g < i + m → P' g = P g) : (List.range' i m).countP P' = (List.range' i m).countP P := by
  apply List.countP_congr
  intro g hg
  have := List.mem_range'_1.mp hg
  rw [h g this.1 this.2]
theorem cP_lt {P : Nat → Bool} {m i x : Nat} (h1 : i ≤ x) (h2 : x < i + m) (hP : P x = false) : (List.range' i m).countP P < m := by
  have h := cP_insert (P := P) (P' := fun g => P g || decide (g = x)) m i h1 h2 hP (by simp) (fun g hg => by simp [hg])
  have := cP_le (fun g => P g || decide (g = x)) m i
  omega
/-! ===== the model's mark ===== -/
def MkI (E : Nat → Int32) (f : Nat) (J : xI) : Prop := (∀ g, g < 48 → J 76 g = 0 ∨ J 76 g = 1) ∧ (∀ g, g < 48 → J 76 g = 1 → Rch E f g) ∧ J 76 f = 1
def mOnes (J : xI) : Nat := (List.range' 0 48).countP (fun g => decide (J 76 g = 1))
def fr76 (J J' : xI) : Prop := ∀ k, k ≠ 76 → J' k = J k
def mCl (J : xI) (i : Nat) : Prop := ∀ e, i ≤ e → e < 82 → J 70 (12 + e) = 0 → J 76 (nE (qE e)) = J 76 (fE (qE e))
theorem nar1 : vp_nar .boolean (1 : Int32) = 1 := by decide
theorem nar0 : vp_nar .boolean (0 : Int32) = 0 := by decide
theorem one_ne0 : ¬ (1 : Int32) = 0 := by decide
theorem lp_mark2 {f : Nat} (hf : f < 48) : ∀ (m i n : Nat) (J : xI), i + m = 48 → m < n → (∀ g, g < i → J 76 g = if g = f then 1 else 0) → ∃ J', f_X7_mark_2 n (nI f) (nI i) J = f_X7_mark_32 xZ 1 J' ∧ (∀ g, g < 48 → J' 76 g = if g = f then 1 else 0) ∧ fr76 J J' := by
  intro m
  induction m with
  | zero =>
    intro i n J hi hn hJ
    obtain ⟨n, rfl⟩ : ∃ n', n = n' + 1 := ⟨n - 1, by omega⟩
    refine ⟨J, ?_, fun g hg => hJ g (by omega), fun _ _ => rfl⟩
    show f_X7_mark_2b _ (nI f) (nI i) J = _
    unfold f_X7_mark_2b
    rw [if_pos (show nI i ≥ (48 : Int32) by rw [show i = 48 by omega]; exact Int32.le_refl _)]
  | succ m ih =>
    intro i n J hi hn hJ
    obtain ⟨n, rfl⟩ : ∃ n', n = n' + 1 := ⟨n - 1, by omega⟩
    have key : ∀ v : Int32, (v = if i = f then 1 else 0) → ∃ J', f_X7_mark_2 n (nI f) (nI (i + 1)) (xup J 76 i v) = f_X7_mark_32 xZ 1 J' ∧ (∀ g, g < 48 → J' 76 g = if g = f then 1 else 0) ∧ fr76 J J' := by
      intro v hv
      obtain ⟨J', h1, h2, h3⟩ := ih (i + 1) n (xup J 76 i v) (by omega) (by omega) (fun g hg => by
        rcases Nat.lt_or_ge g i with q | q
        · rw [xup_slot (by omega)]; exact hJ g q
        · rw [show g = i by omega, xup_at, hv])
      exact ⟨J', h1, h2, fun k hk => (h3 k hk).trans (by funext c; exact xup_cell hk)⟩
    show ∃ J', f_X7_mark_2b _ (nI f) (nI i) J = _ ∧ _
    unfold f_X7_mark_2b
    rw [if_neg (show ¬ nI i ≥ (48 : Int32) from nI_ge (b := 48) (by omega) (by decide)), nI_1, nar1, nar0, if_pos (xin_nI (by omega) (by decide)), if_pos (xin_nI (by omega) (by decide)), nI_clamp (by omega)]
    by_cases h : i = f
    · rw [if_neg (fun q => q (by rw [h]))]
      exact key 1 (by rw [if_pos h])
    · rw [if_pos (fun q => h (nI_inj (by omega) (by omega) q))]
      exact key 0 (by rw [if_neg h])
theorem lp_mark40 {E : Nat → Int32} {f : Nat} : ∀ (m i n : Nat) (l2 : Int32) (J : xI), i + m = 82 → m < n → (l2 = 0 ∨ l2 = 1) → (∀ e, e < 82 → (J 70 (12 + e) = 0 ↔ E (qE e) = 0)) → MkI E f J →
    ∃ l2' J', (∀ k, f_X7_mark_40 k n l2 (nI i) J = k l2' J') ∧ (l2' = 0 ∨ l2' = 1) ∧ MkI E f J' ∧ fr76 J J' ∧ mOnes J ≤ mOnes J' ∧ (l2' = 0 → l2 = 0 ∧ J' = J ∧ mCl J i) ∧ (l2' = 1 → l2 = 0 → mOnes J < mOnes J') := by
  intro m
  induction m with
  | zero =>
    intro i n l2 J hi hn hl hE hM
    obtain ⟨n, rfl⟩ : ∃ n', n = n' + 1 := ⟨n - 1, by omega⟩
    refine ⟨l2, J, fun k => ?_, hl, hM, fun _ _ => rfl, Nat.le_refl _, fun h => ⟨h, rfl, fun e h1 h2 => by omega⟩, fun h1 h0 => absurd (h0.symm.trans h1) (by decide)⟩
    show f_X7_mark_40b k _ l2 (nI i) J = _
    unfold f_X7_mark_40b
    rw [if_pos (show nI i ≥ (82 : Int32) by rw [show i = 82 by omega]; exact Int32.le_refl _)]
  | succ m ih =>
    intro i n l2 J hi hn hl hE hM
    obtain ⟨n, rfl⟩ : ∃ n', n = n' + 1 := ⟨n - 1, by omega⟩
    obtain ⟨t1, t2, -⟩ := tab1 (qE i) (tab1 i (by omega)).2.2.2.1
    -- the body, up to what it decides
    have body : ∀ k, f_X7_mark_40 k (n + 1) l2 (nI i) J = if J 70 (12 + i) = 0 ∧ ¬ J 76 (nE (qE i)) = J 76 (fE (qE i)) then f_X7_mark_40 k n 1 (nI (i + 1)) (xup (xup J 76 (nE (qE i)) 1) 76 (fE (qE i)) 1) else f_X7_mark_40 k n l2 (nI (i + 1)) J := by
      intro k
      show f_X7_mark_40b k _ l2 (nI i) J = _
      unfold f_X7_mark_40b
      rw [if_neg (show ¬ nI i ≥ (82 : Int32) from nI_ge (b := 82) (by omega) (by decide)), show (12 : Int32) + nI i = nI (12 + i) from nI_add 12 i, if_pos (xin_nI (by omega) (by decide)), nI_clamp (by omega), gg_oneOf (by omega), xb_some, if_pos (xin_nI t1 (by decide)), gg_otherOf (by omega), xb_some, if_pos (xin_nI t2 (by decide)), nI_clamp (by omega), nI_clamp (by omega)]
      unfold f_X7_mark_84
      rw [if_pos rfl, if_neg one_ne0, gg_oneOf (by omega), xb_some, if_pos (xin_nI t1 (by decide)), gg_otherOf (by omega), xb_some, if_pos (xin_nI t2 (by decide)), nI_clamp (by omega), nI_clamp (by omega), nar1, nI_1]
      by_cases h1 : J 70 (12 + i) = 0
      · rw [if_neg (fun q => q h1)]
        by_cases h2 : J 76 (nE (qE i)) = J 76 (fE (qE i))
        · rw [if_pos h2, if_neg (fun q => q.2 h2)]
        · rw [if_neg h2, if_pos ⟨h1, h2⟩]
      · rw [if_pos h1, if_neg (fun q => h1 q.1)]
    by_cases hc : J 70 (12 + i) = 0 ∧ ¬ J 76 (nE (qE i)) = J 76 (fE (qE i))
    · have hopen : E (qE i) = 0 := (hE i (by omega)).mp hc.1
      have had : Ad E (nE (qE i)) (fE (qE i)) := ⟨qE i, (tab1 i (by omega)).2.2.2.1, hopen, Or.inl ⟨rfl, rfl⟩⟩
      have hne : nE (qE i) ≠ fE (qE i) := fun q => hc.2 (by rw [q])
      have hr : Rch E f (nE (qE i)) ∧ Rch E f (fE (qE i)) := by
        rcases hM.1 _ t1 with a | a <;> rcases hM.1 _ t2 with b | b
        · exact absurd (a.trans b.symm) hc.2
        · exact ⟨(hM.2.1 _ t2 b).step had.symm, hM.2.1 _ t2 b⟩
        · exact ⟨hM.2.1 _ t1 a, (hM.2.1 _ t1 a).step had⟩
        · exact absurd (a.trans b.symm) hc.2
      generalize hJ1 : xup (xup J 76 (nE (qE i)) 1) 76 (fE (qE i)) 1 = J1
      have hv : ∀ g, J1 76 g = if g = fE (qE i) then 1 else if g = nE (qE i) then 1 else J 76 g := by
        intro g
        rw [← hJ1]
        simp [xup]
      have hfr : fr76 J J1 := fun k hk => by
        funext c
        rw [← hJ1, xup_cell hk, xup_cell hk]
      have hM1 : MkI E f J1 := by
        refine ⟨fun g hg => ?_, fun g hg h => ?_, ?_⟩
        · rw [hv g]
          split
          · exact Or.inr rfl
          · split
            · exact Or.inr rfl
            · exact hM.1 g hg
        · rw [hv g] at h
          split at h
          next q => rw [q]; exact hr.2
          next =>
            split at h
            next q => rw [q]; exact hr.1
            next => exact hM.2.1 g hg h
        · rw [hv f]
          split
          · rfl
          · split
            · rfl
            · exact hM.2.2
      have hlt : mOnes J < mOnes J1 := by
        unfold mOnes
        rcases hM.1 _ t1 with a | a
        · have b : J 76 (fE (qE i)) = 1 := (hM.1 _ t2).elim (fun z => absurd (a.trans z.symm) hc.2) id
          rw [cP_insert (P := fun g => decide (J 76 g = 1)) (P' := fun g => decide (J1 76 g = 1)) (x := nE (qE i)) 48 0 (by omega) (by omega) (by simp [a]) (by simp [hv]) (fun g hg => by
            have : J1 76 g = J 76 g := by
              rw [hv g]
              split
              next q => rw [q, b]
              next => rfl
            simp [this])]
          omega
        · have b : J 76 (fE (qE i)) = 0 := (hM.1 _ t2).elim id (fun z => absurd (a.trans z.symm) hc.2)
          rw [cP_insert (P := fun g => decide (J 76 g = 1)) (P' := fun g => decide (J1 76 g = 1)) (x := fE (qE i)) 48 0 (by omega) (by omega) (by simp [b]) (by simp [hv]) (fun g hg => by
            have : J1 76 g = J 76 g := by
              rw [hv g, if_neg hg]
              split
              next q => rw [q, a]
              next => rfl
            simp [this])]
          omega
      obtain ⟨l2', J', g1, g2, g3, g4, g5, g6, g7⟩ := ih (i + 1) n 1 J1 (by omega) (by omega) (Or.inr rfl) (fun e he => by rw [hfr 70 (by decide)]; exact hE e he) hM1
      refine ⟨l2', J', fun k => by rw [body k, if_pos hc, hJ1]; exact g1 k, g2, g3, fun k hk => (g4 k hk).trans (hfr k hk), by omega, fun h => absurd (g6 h).1 one_ne0, fun _ _ => by omega⟩
    · obtain ⟨l2', J', g1, g2, g3, g4, g5, g6, g7⟩ := ih (i + 1) n l2 J (by omega) (by omega) hl hE hM
      refine ⟨l2', J', fun k => by rw [body k, if_neg hc]; exact g1 k, g2, g3, g4, g5, fun h => ⟨(g6 h).1, (g6 h).2.1, fun e h1 h2 h3 => ?_⟩, g7⟩
      rcases Nat.eq_or_lt_of_le h1 with q | q
      · subst q
        exact Classical.byContradiction (fun z => hc ⟨h3, z⟩)
      · exact (g6 h).2.2 e q h2 h3
theorem lp_mark127 {J : xI} : ∀ (m i c n : Nat), i + m = 48 → m < n → (∀ g, g < 48 → J 76 g = 0 ∨ J 76 g = 1) → f_X7_mark_127 n (nI c) (nI i) J = some (nI (c + (List.range' i m).countP (fun g => decide (J 76 g = 1))), J) := by
  intro m
  induction m with
  | zero =>
    intro i c n hi hn hJ
    obtain ⟨n, rfl⟩ : ∃ n', n = n' + 1 := ⟨n - 1, by omega⟩
    show f_X7_mark_127b _ (nI c) (nI i) J = _
    unfold f_X7_mark_127b
    rw [if_pos (show nI i ≥ (48 : Int32) by rw [show i = 48 by omega]; exact Int32.le_refl _)]
    rfl
  | succ m ih =>
    intro i c n hi hn hJ
    obtain ⟨n, rfl⟩ : ∃ n', n = n' + 1 := ⟨n - 1, by omega⟩
    show f_X7_mark_127b _ (nI c) (nI i) J = _
    unfold f_X7_mark_127b
    rw [if_neg (show ¬ nI i ≥ (48 : Int32) from nI_ge (b := 48) (by omega) (by decide)), if_pos (xin_nI (by omega) (by decide)), nI_clamp (by omega), List.range'_succ, List.countP_cons, nI_p0, nI_1]
    rcases hJ i (by omega) with h | h
    · rw [if_pos h]
      refine (ih (i + 1) c n (by omega) (by omega) hJ).trans ?_
      rw [if_neg (by simp [h])]
      rfl
    · rw [if_neg (by rw [h]; exact one_ne0), show nI c + (1 : Int32) = nI (c + 1) from nI_1 c]
      refine (ih (i + 1) (c + 1) n (by omega) (by omega) hJ).trans ?_
      rw [if_pos (by simp [h])]
      congr 3
      omega
theorem lp_mark32 {E : Nat → Int32} {f : Nat} : ∀ (m n : Nat) (J : xI), 48 - mOnes J ≤ m → m + 2 ≤ n → (∀ e, e < 82 → (J 70 (12 + e) = 0 ↔ E (qE e) = 0)) → MkI E f J →
    ∃ J', f_X7_mark_32 n 1 J = some (nI (mOnes J'), J') ∧ MkI E f J' ∧ fr76 J J' ∧ mCl J' 0 := by
  intro m
  induction m with
  | zero =>
    intro n J hm hn hE hM
    obtain ⟨n, rfl⟩ : ∃ n', n = n' + 2 := ⟨n - 2, by omega⟩
    obtain ⟨l2', J', g1, g2, g3, g4, g5, g6, g7⟩ := lp_mark40 (E := E) (f := f) 82 0 xZ 0 J (by omega) (by unfold xZ; omega) (Or.inl rfl) hE hM
    have hb : mOnes J' ≤ 48 := cP_le _ 48 0
    rcases g2 with z | z
    · obtain ⟨-, rfl, hcl⟩ := g6 z
      refine ⟨J', ?_, g3, g4, hcl⟩
      show f_X7_mark_32b _ 1 J' = _
      unfold f_X7_mark_32b
      rw [if_neg one_ne0]
      refine (g1 _).trans ?_
      show f_X7_mark_32b _ l2' J' = _
      unfold f_X7_mark_32b
      rw [if_pos z]
      have := lp_mark127 (J := J') 48 0 0 xZ (by omega) (by unfold xZ; omega) g3.1
      rw [Nat.zero_add] at this
      exact this
    · have := g7 z rfl
      omega
  | succ m ih =>
    intro n J hm hn hE hM
    obtain ⟨n, rfl⟩ : ∃ n', n = n' + 2 := ⟨n - 2, by omega⟩
    obtain ⟨l2', J', g1, g2, g3, g4, g5, g6, g7⟩ := lp_mark40 (E := E) (f := f) 82 0 xZ 0 J (by omega) (by unfold xZ; omega) (Or.inl rfl) hE hM
    rcases g2 with z | z
    · obtain ⟨-, rfl, hcl⟩ := g6 z
      refine ⟨J', ?_, g3, g4, hcl⟩
      show f_X7_mark_32b _ 1 J' = _
      unfold f_X7_mark_32b
      rw [if_neg one_ne0]
      refine (g1 _).trans ?_
      show f_X7_mark_32b _ l2' J' = _
      unfold f_X7_mark_32b
      rw [if_pos z]
      have := lp_mark127 (J := J') 48 0 0 xZ (by omega) (by unfold xZ; omega) g3.1
      rw [Nat.zero_add] at this
      exact this
    · have hlt := g7 z rfl
      have hb : mOnes J' ≤ 48 := cP_le _ 48 0
      obtain ⟨J2, q1, q2, q3, q4⟩ := ih (n + 1) J' (by omega) (by omega) (fun e he => by rw [g4 70 (by decide)]; exact hE e he) g3
      refine ⟨J2, ?_, q2, fun k hk => (q3 k hk).trans (g4 k hk), q4⟩
      show f_X7_mark_32b _ 1 J = _
      unfold f_X7_mark_32b
      rw [if_neg one_ne0]
      refine (g1 _).trans ?_
      rw [z]
      exact q1
/-- the model's mark: isIn is the region of f, the answer its size -/
theorem gg_mark {E : Nat → Int32} {f : Nat} (hf : f < 48) {J : xI} (hE : ∀ e, e < 82 → (J 70 (12 + e) = 0 ↔ E (qE e) = 0)) : ∃ J', f_X7_mark (nI f) J = some (nI (siz E f), J') ∧ fr76 J J' ∧ (∀ g, g < 48 → J' 76 g = if rB E f g = true then 1 else 0) := by
  obtain ⟨J1, h1, h2, h3⟩ := lp_mark2 hf 48 0 xZ J (by omega) (by unfold xZ; omega) (fun g hg => absurd hg (by omega))
  have hM : MkI E f J1 := by
    refine ⟨fun g hg => ?_, fun g hg h => ?_, ?_⟩
    · rw [h2 g hg]; split
      · exact Or.inr rfl
      · exact Or.inl rfl
    · rw [h2 g hg] at h
      split at h
      next q => rw [q]; exact Rch.rf f
      next => exact absurd h (by decide)
    · rw [h2 f hf, if_pos rfl]
  obtain ⟨J2, g1, g2, g3, g4⟩ := lp_mark32 (E := E) (f := f) 48 xZ J1 (by omega) (by unfold xZ; omega) (fun e he => by rw [h3 70 (by decide)]; exact hE e he) hM
  have hcl : ∀ g, Rch E f g → J2 76 g = 1 := by
    intro g hg
    refine hg (fun x => J2 76 x = 1) g2.2.2 (fun x y hx hxy => ?_)
    obtain ⟨e, a1, a2, a3⟩ := hxy
    have tt := tab1 e a1
    have hq : J2 76 (nE e) = J2 76 (fE e) := by
      have := g4 (pE e) (Nat.zero_le _) tt.2.2.1 (by
        rw [g3 70 (by decide), h3 70 (by decide)]
        exact (hE (pE e) tt.2.2.1).mpr (by rw [tt.2.2.2.2.1]; exact a2))
      rwa [tt.2.2.2.2.1] at this
    rcases a3 with ⟨q1, q2⟩ | ⟨q1, q2⟩
    · rw [← q2, ← hq, q1]; exact hx
    · rw [← q2, hq, q1]; exact hx
  have hval : ∀ g, g < 48 → J2 76 g = if rB E f g = true then 1 else 0 := by
    intro g hg
    by_cases hr : Rch E f g
    · rw [if_pos (rB_iff.mpr hr)]; exact hcl g hr
    · rw [if_neg (fun z => hr (rB_iff.mp z))]
      exact (g2.1 g hg).elim id (fun z => absurd (g2.2.1 g hg z) hr)
  refine ⟨J2, ?_, fun k hk => (g3 k hk).trans (h3 k hk), hval⟩
  have hs : mOnes J2 = siz E f := by
    unfold mOnes siz
    refine cP_congr (fun g _ hg => ?_)
    rw [hval g (by omega)]
    cases rB E f g <;> simp
  rw [← hs, ← g1, ← h1]
  rfl
