/-! the heap: fields, arrays, what is made -/
def xCk (ci : Nat) (C : String) (T : u_T) (N : Nat) : Prop := vwCl[ci]? = some (C, T, N) ∧ N = xN ci ∧ (∀ w ∈ u_ws C T N, w ∈ xWd) ∧ (∀ k, k < N → parseFieldDescriptor (T k).2.2.1 = some (xTy ci k)) ∧ (∀ a, a < N → ∀ b, b < N → a ≠ b → (T a).2.1 ≠ (T b).2.1) ∧ (∀ j, j < N → defaultValue (xTy ci j) = if xRf (xTy ci j) = true then .null else .int 0)
theorem xfs_at {ad : Nat → Nat} {f : Nat → Option Nat} {r : Nat → Int32} {ci j : Nat} (hj : j < xN ci) : ((List.range (xN ci)).map (xfv ad f r ci))[j]? = some (xfv ad f r ci j) := by
  rw [List.getElem?_map, List.getElem?_range hj]; rfl
theorem xfs_setI {ad : Nat → Nat} {f : Nat → Option Nat} {r : Nat → Int32} {ci j : Nat} {x : Int32} (hr : xRf (xTy ci j) = false) : ((List.range (xN ci)).map (xfv ad f r ci)).set j (.int x) = (List.range (xN ci)).map (xfv ad f (fun c => if c = j then x else r c) ci) := by
  refine List.ext_getElem? (fun i => ?_)
  by_cases hi : i < xN ci
  · by_cases hj : i = j
    · subst hj
      rw [List.getElem?_set_self (by simpa using hi), xfs_at hi]
      simp [xfv, hr]
    · rw [List.getElem?_set_ne (Ne.symm hj), xfs_at hi, xfs_at hi]
      simp [xfv, hj]
  · rw [List.getElem?_eq_none (by simp; omega), List.getElem?_eq_none (by simp; omega)]
theorem xfs_setF {ad : Nat → Nat} {f : Nat → Option Nat} {r : Nat → Int32} {ci j : Nat} {x : Nat} (hr : xRf (xTy ci j) = true) : ((List.range (xN ci)).map (xfv ad f r ci)).set j (.ref (ad x)) = (List.range (xN ci)).map (xfv ad (fun c => if c = j then some x else f c) r ci) := by
  refine List.ext_getElem? (fun i => ?_)
  by_cases hi : i < xN ci
  · by_cases hj : i = j
    · subst hj
      rw [List.getElem?_set_self (by simpa using hi), xfs_at hi]
      simp [xfv, hr, va_rf]
    · rw [List.getElem?_set_ne (Ne.symm hj), xfs_at hi, xfs_at hi]
      simp [xfv, hj]
  · rw [List.getElem?_eq_none (by simp; omega), List.getElem?_eq_none (by simp; omega)]
section EXH
variable {X : Option (Nat × (Nat → Int32))} {M : xM} {pc : Nat} {ls : List (Option xV)} {st : List xV} {sh : List (Nat ⊕ (FieldType × Nat))} {F : xF} {I : xI} {o : Option (Option Int32 × xS)}
theorem Ex.getI {idx k j ci N : Nat} {C0 : String} {T : u_T} (hd : decode (xB M) pc = .ok (.getfield idx, 3)) (hc : xCk ci C0 T N) (hl0 : Cond.fieldLink (xY M).cls idx (T j).1 (T j).2.1 (T j).2.2.1 ∈ xWd) (hj : j < N) (hk : sh[k]? = some (.inl ci)) (hr : xRf (xTy ci j) = false)
    {pc2 : Nat} (hp : pc + 3 = pc2) (kk : Ex X M pc2 ls (.inl (I k j) :: st) (sh, F, I) o) : Ex X M pc ls (.inr (some k) :: st) (sh, F, I) o := by
  subst hp
  intro v σ' ho
  obtain ⟨h1, h2⟩ := kk v σ' ho
  refine ⟨h1, fun D dA A b ad LS C hcs hR hS hl K => ?_⟩
  obtain ⟨hx, hb, hml, hown, hts, hnw, hao, hin, hfr, hlo, hK, hA, hX⟩ := id C
  obtain ⟨q1, q2, q3, q4, q5, q6⟩ := hc
  subst q2
  exact va_get (cl := vwCl) hx hb hts q3 hown hK hR.1 k (xWs_some (σ := (sh, F, I)) hk) q1 j hj (hts _ hl0) (fun _ h => h) (v := .int (I k j)) (by rw [xfs_at hj]; simp [xfv, hr]) hd (h2 D dA A b ad LS C hcs hR hS hl K)
theorem Ex.getR {idx k j ci N r : Nat} {C0 : String} {T : u_T} (hd : decode (xB M) pc = .ok (.getfield idx, 3)) (hc : xCk ci C0 T N) (hl0 : Cond.fieldLink (xY M).cls idx (T j).1 (T j).2.1 (T j).2.2.1 ∈ xWd) (hj : j < N) (hk : sh[k]? = some (.inl ci)) (hr : xRf (xTy ci j) = true) (hv : F k j = some r)
    {pc2 : Nat} (hp : pc + 3 = pc2) (kk : Ex X M pc2 ls (.inr (some r) :: st) (sh, F, I) o) : Ex X M pc ls (.inr (some k) :: st) (sh, F, I) o := by
  subst hp
  intro v σ' ho
  obtain ⟨h1, h2⟩ := kk v σ' ho
  refine ⟨h1, fun D dA A b ad LS C hcs hR hS hl K => ?_⟩
  obtain ⟨hx, hb, hml, hown, hts, hnw, hao, hin, hfr, hlo, hK, hA, hX⟩ := id C
  obtain ⟨q1, q2, q3, q4, q5, q6⟩ := hc
  subst q2
  exact va_get (cl := vwCl) hx hb hts q3 hown hK hR.1 k (xWs_some (σ := (sh, F, I)) hk) q1 j hj (hts _ hl0) (fun _ h => h) (v := .ref (ad r)) (by rw [xfs_at hj]; simp [xfv, hr, hv, va_rf]) hd (h2 D dA A b ad LS C hcs hR hS hl K)
theorem Ex.putI {idx k j ci N : Nat} {C0 : String} {T : u_T} {x : Int32} (hd : decode (xB M) pc = .ok (.putfield idx, 3)) (hc : xCk ci C0 T N) (hl0 : Cond.fieldLink (xY M).cls idx (T j).1 (T j).2.1 (T j).2.2.1 ∈ xWd) (hj : j < N) (hk : sh[k]? = some (.inl ci)) (hr : xRf (xTy ci j) = false) (hfin : (T j).2.2.2 = false) (hn : narrow (xTy ci j) (.int x) = .int x ∧ fits (xTy ci j) (.int x) = true)
    {pc2 : Nat} (hp : pc + 3 = pc2) (kk : Ex X M pc2 ls st (sh, F, xup I k j x) o) : Ex X M pc ls (.inl x :: .inr (some k) :: st) (sh, F, I) o := by
  subst hp
  intro v σ' ho
  obtain ⟨h1, h2⟩ := kk v σ' ho
  refine ⟨h1, fun D dA A b ad LS C hcs hR hS hl K => ?_⟩
  obtain ⟨hx, hb, hml, hown, hts, hnw, hao, hin, hfr, hlo, hK, hA, hX⟩ := id C
  obtain ⟨q1, q2, q3, q4, q5, q6⟩ := hc
  subst q2
  refine va_put (cl := vwCl) hx hb hts q3 (xTy ci) q4 q5 hown hK hR.1 hR.2.1 hS k (xWs_some (σ := (sh, F, I)) hk) q1 j hj (hts _ hl0) (fun _ h => h) hfin (ty := xTy ci j) (v := .int x) (q4 j hj) hn.1 hn.2 (by simpa using hj) hd (fun H1 locs1 hP hD hS1 => ?_)
  rw [xfs_setI hr] at hP hD
  have e := xWs_upI (dA := dA) (ad := ad) (F := F) (I := I) (j := j) (x := x) hk
  have e2 : (xWs dA ad (sh, F, I)).set k (ad k, .inr (ci, (List.range (xN ci)).map (xfv ad (F k) (fun c => if c = j then x else I k c) ci))) = xWs dA ad (sh, F, xup I k j x) := e
  have hP : va_P D vwCl (xWs dA ad (sh, F, xup I k j x)) H1 := by rw [← e2]; exact hP
  have hD : va_D A (xWs dA ad (sh, F, xup I k j x)) := by rw [← e2]; exact hD
  exact h2 D dA A b ad LS C hcs ⟨hP, hD, hR.2.2⟩ hS1 hl K
theorem Ex.putR {idx k j ci N r : Nat} {C0 : String} {T : u_T} {kr : Nat ⊕ (FieldType × Nat)} (hd : decode (xB M) pc = .ok (.putfield idx, 3)) (hc : xCk ci C0 T N) (hl0 : Cond.fieldLink (xY M).cls idx (T j).1 (T j).2.1 (T j).2.2.1 ∈ xWd) (hj : j < N) (hk : sh[k]? = some (.inl ci)) (hr : xRf (xTy ci j) = true) (hrr : sh[r]? = some kr) (hfin : (T j).2.2.2 = true) (hin2 : (xY M).name = "<init>") (hdc : (T j).1 = (xY M).cls)
    {pc2 : Nat} (hp : pc + 3 = pc2) (kk : Ex X M pc2 ls st (sh, xup F k j (some r), I) o) : Ex X M pc ls (.inr (some r) :: .inr (some k) :: st) (sh, F, I) o := by
  subst hp
  intro v σ' ho
  obtain ⟨h1, h2⟩ := kk v σ' ho
  refine ⟨h1, fun D dA A b ad LS C hcs hR hS hl K => ?_⟩
  obtain ⟨hx, hb, hml, hown, hts, hnw, hao, hin, hfr, hlo, hK, hA, hX⟩ := id C
  obtain ⟨q1, q2, q3, q4, q5, q6⟩ := hc
  subst q2
  have hnar : narrow (xTy ci j) (.ref (ad r)) = .ref (ad r) ∧ fits (xTy ci j) (.ref (ad r)) = true := by
    revert hr
    cases xTy ci j <;> simp [xRf, narrow, fits]
  refine va_putF (cl := vwCl) hx hb hts q3 (xTy ci) q4 q5 hown hK hR.1 hR.2.1 hS k (xWs_some (σ := (sh, F, I)) hk) q1 j hj (hts _ hl0) (fun _ h => h) hfin (hin hin2) hdc (ty := xTy ci j) (v := .ref (ad r)) (q4 j hj) hnar.1 hnar.2 (by simpa using hj) hd (fun H1 locs1 hP hD hS1 => ?_)
  rw [xfs_setF hr] at hP hD
  have e := xWs_upF (dA := dA) (ad := ad) (F := F) (I := I) (j := j) (x := some r) hk
  have e2 : (xWs dA ad (sh, F, I)).set k (ad k, .inr (ci, (List.range (xN ci)).map (xfv ad (fun c => if c = j then some r else F k c) (I k) ci))) = xWs dA ad (sh, xup F k j (some r), I) := e
  have hP : va_P D vwCl (xWs dA ad (sh, xup F k j (some r), I)) H1 := by rw [← e2]; exact hP
  have hD : va_D A (xWs dA ad (sh, xup F k j (some r), I)) := by rw [← e2]; exact hD
  refine h2 D dA A b ad LS C hcs ⟨hP, hD, fun a c r' h => ?_⟩ hS1 hl K
  have h' : xup F k j (some r) a c = some r' := h
  unfold xup at h'
  by_cases ha : a = k
  · rw [if_pos ha] at h'
    by_cases hcj : c = j
    · rw [if_pos hcj] at h'
      cases h'
      exact ⟨by rw [ha]; exact (List.getElem?_eq_some_iff.mp hk).1, (List.getElem?_eq_some_iff.mp hrr).1⟩
    · rw [if_neg hcj] at h'
      exact hR.2.2 a c r' h'
  · rw [if_neg ha] at h'
    exact hR.2.2 a c r' h'
abbrev xin (i : Int32) (n : Nat) : Prop := ¬ (i < 0 ∨ n ≤ i.toNatClampNeg)
theorem Ex.iaload {k n : Nat} {i : Int32} (hd : decode (xB M) pc = .ok (.iaload, 1)) (hk : sh[k]? = some (.inr (.int, n))) (hi : xin i n) {pc2 : Nat} (hp : pc + 1 = pc2) (kk : Ex X M pc2 ls (.inl (I k i.toNatClampNeg) :: st) (sh, F, I) o) : Ex X M pc ls (.inl i :: .inr (some k) :: st) (sh, F, I) o := by
  subst hp
  intro v σ' ho
  obtain ⟨h1, h2⟩ := kk v σ' ho
  refine ⟨h1, fun D dA A b ad LS C hcs hR hS hl K => ?_⟩
  obtain ⟨hx, hb, hml, hown, hts, hnw, hao, hin, hfr, hlo, hK, hA, hX⟩ := id C
  exact va_iald (cl := vwCl) (f := I k) hx hb hK hR.1 k 0 (xWs_some (σ := (sh, F, I)) hk) rfl hi hd (h2 D dA A b ad LS C hcs hR hS hl K)
theorem Ex.caload {k n : Nat} {i : Int32} (hd : decode (xB M) pc = .ok (.caload, 1)) (hk : sh[k]? = some (.inr (.char, n))) (hi : xin i n) {pc2 : Nat} (hp : pc + 1 = pc2) (kk : Ex X M pc2 ls (.inl (I k i.toNatClampNeg) :: st) (sh, F, I) o) : Ex X M pc ls (.inl i :: .inr (some k) :: st) (sh, F, I) o := by
  subst hp
  intro v σ' ho
  obtain ⟨h1, h2⟩ := kk v σ' ho
  refine ⟨h1, fun D dA A b ad LS C hcs hR hS hl K => ?_⟩
  obtain ⟨hx, hb, hml, hown, hts, hnw, hao, hin, hfr, hlo, hK, hA, hX⟩ := id C
  exact va_cald (cl := vwCl) (f := I k) hx hb hK hR.1 k 1 (xWs_some (σ := (sh, F, I)) hk) rfl hi hd (h2 D dA A b ad LS C hcs hR hS hl K)
theorem Ex.baload {k n : Nat} {i : Int32} (hd : decode (xB M) pc = .ok (.baload, 1)) (hk : sh[k]? = some (.inr (.boolean, n))) (hi : xin i n) {pc2 : Nat} (hp : pc + 1 = pc2) (kk : Ex X M pc2 ls (.inl (I k i.toNatClampNeg) :: st) (sh, F, I) o) : Ex X M pc ls (.inl i :: .inr (some k) :: st) (sh, F, I) o := by
  subst hp
  intro v σ' ho
  obtain ⟨h1, h2⟩ := kk v σ' ho
  refine ⟨h1, fun D dA A b ad LS C hcs hR hS hl K => ?_⟩
  obtain ⟨hx, hb, hml, hown, hts, hnw, hao, hin, hfr, hlo, hK, hA, hX⟩ := id C
  exact va_zald (cl := vwCl) (f := I k) hx hb hK hR.1 k 2 (xWs_some (σ := (sh, F, I)) hk) rfl hi hd (h2 D dA A b ad LS C hcs hR hS hl K)
theorem xRel_up {D : va_G} {dA : FieldType → ClassId} {A : Nat → Prop} {ad : Nat → Nat} {H1 : Heap} {k j n : Nat} {ty : FieldType} {x : Int32} (hk : sh[k]? = some (.inr (ty, n))) (hty : xRf ty = false) (hFw : xFw (sh, F, I))
    (hP : va_P D vwCl ((xWs dA ad (sh, F, I)).set k (ad k, .inl (dA ty, n, .inl (fun c => if c = j then x else I k c)))) H1) (hD : va_D A ((xWs dA ad (sh, F, I)).set k (ad k, .inl (dA ty, n, .inl (fun c => if c = j then x else I k c))))) : xRel D dA A (sh, F, xup I k j x) ad H1 := by
  have e := xWs_upI (dA := dA) (ad := ad) (F := F) (I := I) (j := j) (x := x) hk
  have e3 : xE dA ad (F k) (fun c => if c = j then x else I k c) (.inr (ty, n)) = .inl (dA ty, n, .inl (fun c => if c = j then x else I k c)) := by simp [xE, hty]
  rw [e3] at e
  rw [e] at hP hD
  exact ⟨hP, hD, hFw⟩
theorem Ex.iastore {k n : Nat} {i x : Int32} (hd : decode (xB M) pc = .ok (.iastore, 1)) (hk : sh[k]? = some (.inr (.int, n))) (hi : xin i n) {pc2 : Nat} (hp : pc + 1 = pc2) (kk : Ex X M pc2 ls st (sh, F, xup I k i.toNatClampNeg x) o) : Ex X M pc ls (.inl x :: .inl i :: .inr (some k) :: st) (sh, F, I) o := by
  subst hp
  intro v σ' ho
  obtain ⟨h1, h2⟩ := kk v σ' ho
  refine ⟨h1, fun D dA A b ad LS C hcs hR hS hl K => ?_⟩
  obtain ⟨hx, hb, hml, hown, hts, hnw, hao, hin, hfr, hlo, hK, hA, hX⟩ := id C
  exact va_iast (cl := vwCl) (f := I k) hx hb hK hR.1 hR.2.1 hS k 0 (xWs_some (σ := (sh, F, I)) hk) rfl hi hd (fun H1 locs1 hP hD hS1 => h2 D dA A b ad LS C hcs (xRel_up hk rfl hR.2.2 hP hD) hS1 hl K)
theorem Ex.castore {k n : Nat} {i x : Int32} (hd : decode (xB M) pc = .ok (.castore, 1)) (hk : sh[k]? = some (.inr (.char, n))) (hi : xin i n) {pc2 : Nat} (hp : pc + 1 = pc2) (kk : Ex X M pc2 ls st (sh, F, xup I k i.toNatClampNeg (vp_nar .char x)) o) : Ex X M pc ls (.inl x :: .inl i :: .inr (some k) :: st) (sh, F, I) o := by
  subst hp
  intro v σ' ho
  obtain ⟨h1, h2⟩ := kk v σ' ho
  refine ⟨h1, fun D dA A b ad LS C hcs hR hS hl K => ?_⟩
  obtain ⟨hx, hb, hml, hown, hts, hnw, hao, hin, hfr, hlo, hK, hA, hX⟩ := id C
  exact va_cast (cl := vwCl) (f := I k) hx hb hK hR.1 hR.2.1 hS k 1 (xWs_some (σ := (sh, F, I)) hk) rfl hi hd (fun H1 locs1 hP hD hS1 => h2 D dA A b ad LS C hcs (xRel_up hk rfl hR.2.2 hP hD) hS1 hl K)
theorem Ex.bastore {k n : Nat} {i x : Int32} (hd : decode (xB M) pc = .ok (.bastore, 1)) (hk : sh[k]? = some (.inr (.boolean, n))) (hi : xin i n) {pc2 : Nat} (hp : pc + 1 = pc2) (kk : Ex X M pc2 ls st (sh, F, xup I k i.toNatClampNeg (vp_nar .boolean x)) o) : Ex X M pc ls (.inl x :: .inl i :: .inr (some k) :: st) (sh, F, I) o := by
  subst hp
  intro v σ' ho
  obtain ⟨h1, h2⟩ := kk v σ' ho
  refine ⟨h1, fun D dA A b ad LS C hcs hR hS hl K => ?_⟩
  obtain ⟨hx, hb, hml, hown, hts, hnw, hao, hin, hfr, hlo, hK, hA, hX⟩ := id C
  exact va_zast (cl := vwCl) (f := I k) hx hb hK hR.1 hR.2.1 hS k 2 (xWs_some (σ := (sh, F, I)) hk) rfl hi hd (fun H1 locs1 hP hD hS1 => h2 D dA A b ad LS C hcs (xRel_up hk rfl hR.2.2 hP hD) hS1 hl K)
theorem Ex.alenI {k n : Nat} {x : Int32} (hd : decode (xB M) pc = .ok (.arraylength, 1)) (hk : sh[k]? = some (.inr (.int, n))) (hv : Int32.ofNat n = x) {pc2 : Nat} (hp : pc + 1 = pc2) (kk : Ex X M pc2 ls (.inl x :: st) (sh, F, I) o) : Ex X M pc ls (.inr (some k) :: st) (sh, F, I) o := by
  subst hp
  intro v σ' ho
  obtain ⟨h1, h2⟩ := kk v σ' ho
  refine ⟨h1, fun D dA A b ad LS C hcs hR hS hl K => ?_⟩
  obtain ⟨hx, hb, hml, hown, hts, hnw, hao, hin, hfr, hlo, hK, hA, hX⟩ := id C
  exact va_alen (cl := vwCl) (x := (n, .inl (I k))) hx hb hK hR.1 k 0 (xWs_some (σ := (sh, F, I)) hk) rfl hv hd (h2 D dA A b ad LS C hcs hR hS hl K)
/-- the script -/
theorem Ex.sld {L : Nat} {xs : Nat → Int32} {i : Int32} (hX0 : X = some (L, xs)) (hd : decode (xB M) pc = .ok (.iaload, 1)) (hi : xin i L) {pc2 : Nat} (hp : pc + 1 = pc2) (kk : Ex X M pc2 ls (.inl (xs i.toNatClampNeg) :: st) (sh, F, I) o) : Ex X M pc ls (.inl i :: .inr none :: st) (sh, F, I) o := by
  subst hp
  intro v σ' ho
  obtain ⟨h1, h2⟩ := kk v σ' ho
  refine ⟨h1, fun D dA A b ad LS C hcs hR hS hl K => ?_⟩
  obtain ⟨hx, hb, hml, hown, hts, hnw, hao, hin, hfr, hlo, hK, hA, hX⟩ := id C
  obtain ⟨g1, g2, g3⟩ := hX L xs hX0
  exact va_sld hx hb g1 g2 g3 hS hi hd (h2 D dA A b ad LS C hcs hR hS hl K)
theorem Ex.slen {L : Nat} {xs : Nat → Int32} (hX0 : X = some (L, xs)) (hd : decode (xB M) pc = .ok (.arraylength, 1)) {pc2 : Nat} (hp : pc + 1 = pc2) (kk : Ex X M pc2 ls (.inl (Int32.ofNat L) :: st) (sh, F, I) o) : Ex X M pc ls (.inr none :: st) (sh, F, I) o := by
  subst hp
  intro v σ' ho
  obtain ⟨h1, h2⟩ := kk v σ' ho
  refine ⟨h1, fun D dA A b ad LS C hcs hR hS hl K => ?_⟩
  obtain ⟨hx, hb, hml, hown, hts, hnw, hao, hin, hfr, hlo, hK, hA, hX⟩ := id C
  obtain ⟨g1, g2, g3⟩ := hX L xs hX0
  exact va_slen hx hb g1 g2 g3 hS hd (h2 D dA A b ad LS C hcs hR hS hl K)
/-- an array of states -/
theorem Ex.aaload {k n r : Nat} {i : Int32} (hd : decode (xB M) pc = .ok (.aaload, 1)) (hk : sh[k]? = some (.inr (.object "FenceDuel$State", n))) (hi : xin i n) (hv : F k i.toNatClampNeg = some r) {pc2 : Nat} (hp : pc + 1 = pc2) (kk : Ex X M pc2 ls (.inr (some r) :: st) (sh, F, I) o) : Ex X M pc ls (.inl i :: .inr (some k) :: st) (sh, F, I) o := by
  subst hp
  intro v σ' ho
  obtain ⟨h1, h2⟩ := kk v σ' ho
  refine ⟨h1, fun D dA A b ad LS C hcs hR hS hl K => ?_⟩
  obtain ⟨hx, hb, hml, hown, hts, hnw, hao, hin, hfr, hlo, hK, hA, hX⟩ := id C
  refine va_aldq (cl := vwCl) (C := "FenceDuel$State") (f := fun j => (F k j).map ad) hx hb hK hR.1 k 3 (xWs_some (σ := (sh, F, I)) hk) rfl hi hd ?_
  rw [hv]
  exact h2 D dA A b ad LS C hcs hR hS hl K
theorem Ex.aastore {k n r : Nat} {i : Int32} (hd : decode (xB M) pc = .ok (.aastore, 1)) (hk : sh[k]? = some (.inr (.object "FenceDuel$State", n))) (hi : xin i n) (hr : sh[r]? = some (.inl 5)) {pc2 : Nat} (hp : pc + 1 = pc2) (kk : Ex X M pc2 ls st (sh, xup F k i.toNatClampNeg (some r), I) o) : Ex X M pc ls (.inr (some r) :: .inl i :: .inr (some k) :: st) (sh, F, I) o := by
  subst hp
  intro v σ' ho
  obtain ⟨h1, h2⟩ := kk v σ' ho
  refine ⟨h1, fun D dA A b ad LS C hcs hR hS hl K => ?_⟩
  obtain ⟨hx, hb, hml, hown, hts, hnw, hao, hin, hfr, hlo, hK, hA, hX⟩ := id C
  refine va_astq (cl := vwCl) (r := (RX5, TX5, 9)) (f := fun j => (F k j).map ad) hx hb hK hR.1 hR.2.1 hS k 3 r 5 (xWs_some (σ := (sh, F, I)) hk) rfl (xWs_some (σ := (sh, F, I)) hr) rfl hi hd (fun H1 locs1 hP hD hS1 => ?_)
  have e := xWs_upF (dA := dA) (ad := ad) (F := F) (I := I) (j := i.toNatClampNeg) (x := some r) hk
  have e3 : xE dA ad (fun c => if c = i.toNatClampNeg then some r else F k c) (I k) (.inr (.object "FenceDuel$State", n)) = .inl (dA (.object "FenceDuel$State"), n, .inr (.inr (.inr (.inr (va_up (fun j => (F k j).map ad) i.toNatClampNeg (some (ad r))))))) := by
    show Sum.inl (dA (.object "FenceDuel$State"), n, Sum.inr (Sum.inr (Sum.inr (Sum.inr (fun j => Option.map ad (if j = i.toNatClampNeg then some r else F k j)))))) = _
    congr 7
    funext j
    by_cases h : j = i.toNatClampNeg <;> simp [va_up, h]
  rw [e3] at e
  have hP : va_P D vwCl (xWs dA ad (sh, xup F k i.toNatClampNeg (some r), I)) H1 := by rw [← e]; exact hP
  have hD : va_D A (xWs dA ad (sh, xup F k i.toNatClampNeg (some r), I)) := by rw [← e]; exact hD
  refine h2 D dA A b ad LS C hcs ⟨hP, hD, fun a c r' h => ?_⟩ hS1 hl K
  have h' : xup F k i.toNatClampNeg (some r) a c = some r' := h
  unfold xup at h'
  by_cases ha : a = k
  · rw [if_pos ha] at h'
    by_cases hcj : c = i.toNatClampNeg
    · rw [if_pos hcj] at h'
      cases h'
      exact ⟨by rw [ha]; exact (List.getElem?_eq_some_iff.mp hk).1, (List.getElem?_eq_some_iff.mp hr).1⟩
    · rw [if_neg hcj] at h'
      exact hR.2.2 a c r' h'
  · rw [if_neg ha] at h'
    exact hR.2.2 a c r' h'
end EXH
