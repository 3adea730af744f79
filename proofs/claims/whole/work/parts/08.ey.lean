abbrev xto (M : xM) (r : Int32 × xI) : Option Int32 × xS := ((xT M).map (fun _ => r.1), (SH, FF, r.2))
/-- from pc the method comes to its end with o's answer and ints (0 where it returns nothing) -/
abbrev Ey (X : Option (Nat × (Nat → Int32))) (M : xM) (pc : Nat) (ls : List (Option xV)) (st : List xV) (I : xI) (o : Option (Int32 × xI)) : Prop := Ex X M pc ls st (SH, FF, I) (o.map (xto M))
def xb (o : Option (Int32 × xI)) (k : Int32 → xI → Option (Int32 × xI)) : Option (Int32 × xI) := o.bind (fun r => k r.1 r.2)
theorem xb_some (r : Int32) (I : xI) (k : Int32 → xI → Option (Int32 × xI)) : xb (some (r, I)) k = k r I := rfl
theorem xb_none (k : Int32 → xI → Option (Int32 × xI)) : xb none k = none := rfl
/-- fuel of loops -/
def xZ : Nat := 4000
section EY
variable {X : Option (Nat × (Nat → Int32))} {M : xM} {pc : Nat} {ls ls' : List (Option xV)} {st : List xV} {I : xI} {o : Option (Int32 × xI)}
theorem Ey.nil : Ey X M pc ls st I none := Ex.nil
theorem Ey.ite {c : Prop} [inst : Decidable c] {o1 o2 : Option (Int32 × xI)} (h1 : c → Ey X M pc ls st I o1) (h2 : ¬ c → Ey X M pc ls st I o2) : Ey X M pc ls st I (@_root_.ite _ c inst o1 o2) := by
  by_cases h : c
  · rw [if_pos h]; exact h1 h
  · rw [if_neg h]; exact h2 h
theorem Ey.guard {c : Prop} [inst : Decidable c] (h1 : c → Ey X M pc ls st I o) : Ey X M pc ls st I (@_root_.ite _ c inst o none) := Ey.ite h1 (fun _ => Ey.nil)
theorem Ey.ireturn {x : Int32} {ty : FieldType} (hd : decode (xB M) pc = .ok (.ireturn, 1)) (hT : xT M = some ty) (hn : narrow ty (.int x) = .int x) : Ey X M pc ls [.inl x] I (some (x, I)) := by
  have h := Ex.ireturn (X := X) (M := M) (ls := ls) (σ := (SH, FF, I)) hd hT hn
  show Ex X M pc ls [.inl x] (SH, FF, I) (some (xto M (x, I)))
  unfold xto
  rw [hT]
  exact h
theorem Ey.ret (hd : decode (xB M) pc = .ok (.return_, 1)) (hT : xT M = none) : Ey X M pc ls [] I (some (0, I)) := by
  have h := Ex.ret (X := X) (M := M) (ls := ls) (σ := (SH, FF, I)) hd hT
  show Ex X M pc ls [] (SH, FF, I) (some (xto M (0, I)))
  unfold xto
  rw [hT]
  exact h

theorem Ey.if_eq {x : Int32} {off : Int} {tgt : Nat} (hd : decode (xB M) pc = .ok (.ifCond .eq off, 3)) (ht : (pc : Int) + off = (tgt : Int)) {o1 o2 : Option (Int32 × xI)} (kt : x = 0 → Ey X M tgt ls st I o1) {pc2 : Nat} (hp : pc + 3 = pc2) (kf : ¬ (x = 0) → Ey X M pc2 ls st I o2) : Ey X M pc ls (.inl x :: st) I (if x = 0 then o1 else o2) := by
  unfold Ey
  rw [apply_ite (Option.map (xto M))]
  exact Ex.if_eq hd ht kt hp kf
theorem Ey.icmp_eq {x y : Int32} {off : Int} {tgt : Nat} (hd : decode (xB M) pc = .ok (.if_icmp .eq off, 3)) (ht : (pc : Int) + off = (tgt : Int)) {o1 o2 : Option (Int32 × xI)} (kt : x = y → Ey X M tgt ls st I o1) {pc2 : Nat} (hp : pc + 3 = pc2) (kf : ¬ (x = y) → Ey X M pc2 ls st I o2) : Ey X M pc ls (.inl y :: .inl x :: st) I (if x = y then o1 else o2) := by
  unfold Ey
  rw [apply_ite (Option.map (xto M))]
  exact Ex.icmp_eq hd ht kt hp kf
theorem Ey.if_ne {x : Int32} {off : Int} {tgt : Nat} (hd : decode (xB M) pc = .ok (.ifCond .ne off, 3)) (ht : (pc : Int) + off = (tgt : Int)) {o1 o2 : Option (Int32 × xI)} (kt : x ≠ 0 → Ey X M tgt ls st I o1) {pc2 : Nat} (hp : pc + 3 = pc2) (kf : ¬ (x ≠ 0) → Ey X M pc2 ls st I o2) : Ey X M pc ls (.inl x :: st) I (if x ≠ 0 then o1 else o2) := by
  unfold Ey
  rw [apply_ite (Option.map (xto M))]
  exact Ex.if_ne hd ht kt hp kf
theorem Ey.icmp_ne {x y : Int32} {off : Int} {tgt : Nat} (hd : decode (xB M) pc = .ok (.if_icmp .ne off, 3)) (ht : (pc : Int) + off = (tgt : Int)) {o1 o2 : Option (Int32 × xI)} (kt : x ≠ y → Ey X M tgt ls st I o1) {pc2 : Nat} (hp : pc + 3 = pc2) (kf : ¬ (x ≠ y) → Ey X M pc2 ls st I o2) : Ey X M pc ls (.inl y :: .inl x :: st) I (if x ≠ y then o1 else o2) := by
  unfold Ey
  rw [apply_ite (Option.map (xto M))]
  exact Ex.icmp_ne hd ht kt hp kf
theorem Ey.if_lt {x : Int32} {off : Int} {tgt : Nat} (hd : decode (xB M) pc = .ok (.ifCond .lt off, 3)) (ht : (pc : Int) + off = (tgt : Int)) {o1 o2 : Option (Int32 × xI)} (kt : x < 0 → Ey X M tgt ls st I o1) {pc2 : Nat} (hp : pc + 3 = pc2) (kf : ¬ (x < 0) → Ey X M pc2 ls st I o2) : Ey X M pc ls (.inl x :: st) I (if x < 0 then o1 else o2) := by
  unfold Ey
  rw [apply_ite (Option.map (xto M))]
  exact Ex.if_lt hd ht kt hp kf
theorem Ey.icmp_lt {x y : Int32} {off : Int} {tgt : Nat} (hd : decode (xB M) pc = .ok (.if_icmp .lt off, 3)) (ht : (pc : Int) + off = (tgt : Int)) {o1 o2 : Option (Int32 × xI)} (kt : x < y → Ey X M tgt ls st I o1) {pc2 : Nat} (hp : pc + 3 = pc2) (kf : ¬ (x < y) → Ey X M pc2 ls st I o2) : Ey X M pc ls (.inl y :: .inl x :: st) I (if x < y then o1 else o2) := by
  unfold Ey
  rw [apply_ite (Option.map (xto M))]
  exact Ex.icmp_lt hd ht kt hp kf
theorem Ey.if_ge {x : Int32} {off : Int} {tgt : Nat} (hd : decode (xB M) pc = .ok (.ifCond .ge off, 3)) (ht : (pc : Int) + off = (tgt : Int)) {o1 o2 : Option (Int32 × xI)} (kt : x ≥ 0 → Ey X M tgt ls st I o1) {pc2 : Nat} (hp : pc + 3 = pc2) (kf : ¬ (x ≥ 0) → Ey X M pc2 ls st I o2) : Ey X M pc ls (.inl x :: st) I (if x ≥ 0 then o1 else o2) := by
  unfold Ey
  rw [apply_ite (Option.map (xto M))]
  exact Ex.if_ge hd ht kt hp kf
theorem Ey.icmp_ge {x y : Int32} {off : Int} {tgt : Nat} (hd : decode (xB M) pc = .ok (.if_icmp .ge off, 3)) (ht : (pc : Int) + off = (tgt : Int)) {o1 o2 : Option (Int32 × xI)} (kt : x ≥ y → Ey X M tgt ls st I o1) {pc2 : Nat} (hp : pc + 3 = pc2) (kf : ¬ (x ≥ y) → Ey X M pc2 ls st I o2) : Ey X M pc ls (.inl y :: .inl x :: st) I (if x ≥ y then o1 else o2) := by
  unfold Ey
  rw [apply_ite (Option.map (xto M))]
  exact Ex.icmp_ge hd ht kt hp kf
theorem Ey.if_gt {x : Int32} {off : Int} {tgt : Nat} (hd : decode (xB M) pc = .ok (.ifCond .gt off, 3)) (ht : (pc : Int) + off = (tgt : Int)) {o1 o2 : Option (Int32 × xI)} (kt : x > 0 → Ey X M tgt ls st I o1) {pc2 : Nat} (hp : pc + 3 = pc2) (kf : ¬ (x > 0) → Ey X M pc2 ls st I o2) : Ey X M pc ls (.inl x :: st) I (if x > 0 then o1 else o2) := by
  unfold Ey
  rw [apply_ite (Option.map (xto M))]
  exact Ex.if_gt hd ht kt hp kf
theorem Ey.icmp_gt {x y : Int32} {off : Int} {tgt : Nat} (hd : decode (xB M) pc = .ok (.if_icmp .gt off, 3)) (ht : (pc : Int) + off = (tgt : Int)) {o1 o2 : Option (Int32 × xI)} (kt : x > y → Ey X M tgt ls st I o1) {pc2 : Nat} (hp : pc + 3 = pc2) (kf : ¬ (x > y) → Ey X M pc2 ls st I o2) : Ey X M pc ls (.inl y :: .inl x :: st) I (if x > y then o1 else o2) := by
  unfold Ey
  rw [apply_ite (Option.map (xto M))]
  exact Ex.icmp_gt hd ht kt hp kf
theorem Ey.if_le {x : Int32} {off : Int} {tgt : Nat} (hd : decode (xB M) pc = .ok (.ifCond .le off, 3)) (ht : (pc : Int) + off = (tgt : Int)) {o1 o2 : Option (Int32 × xI)} (kt : x ≤ 0 → Ey X M tgt ls st I o1) {pc2 : Nat} (hp : pc + 3 = pc2) (kf : ¬ (x ≤ 0) → Ey X M pc2 ls st I o2) : Ey X M pc ls (.inl x :: st) I (if x ≤ 0 then o1 else o2) := by
  unfold Ey
  rw [apply_ite (Option.map (xto M))]
  exact Ex.if_le hd ht kt hp kf
theorem Ey.icmp_le {x y : Int32} {off : Int} {tgt : Nat} (hd : decode (xB M) pc = .ok (.if_icmp .le off, 3)) (ht : (pc : Int) + off = (tgt : Int)) {o1 o2 : Option (Int32 × xI)} (kt : x ≤ y → Ey X M tgt ls st I o1) {pc2 : Nat} (hp : pc + 3 = pc2) (kf : ¬ (x ≤ y) → Ey X M pc2 ls st I o2) : Ey X M pc ls (.inl y :: .inl x :: st) I (if x ≤ y then o1 else o2) := by
  unfold Ey
  rw [apply_ite (Option.map (xto M))]
  exact Ex.icmp_le hd ht kt hp kf
theorem Ey.istore_n {k0 : Fin 4} {i : Nat} {x : Int32} (hd : decode (xB M) pc = .ok (.istore_n k0, 1)) (hi : (k0 : Nat) = i) (hn : i < xL M) (hs : ls.set i (some (.inl x)) = ls') {pc2 : Nat} (hp : pc + 1 = pc2) (k : Ey X M pc2 ls' st I o) : Ey X M pc ls (.inl x :: st) I o := by
  subst hp
  exact Ex.istore_n hd hi hn rfl (hs ▸ k)
theorem Ey.istore {i : Nat} {x : Int32} (hd : decode (xB M) pc = .ok (.istore i, 2)) (hn : i < xL M) (hs : ls.set i (some (.inl x)) = ls') {pc2 : Nat} (hp : pc + 2 = pc2) (k : Ey X M pc2 ls' st I o) : Ey X M pc ls (.inl x :: st) I o := by
  subst hp
  exact Ex.istore hd hn rfl (hs ▸ k)
theorem Ey.astore_n {k0 : Fin 4} {i r : Nat} (hd : decode (xB M) pc = .ok (.astore_n k0, 1)) (hi : (k0 : Nat) = i) (hn : i < xL M) (hs : ls.set i (some (.inr (some r))) = ls') {pc2 : Nat} (hp : pc + 1 = pc2) (k : Ey X M pc2 ls' st I o) : Ey X M pc ls (.inr (some r) :: st) I o := by
  subst hp
  exact Ex.astore_n hd hi hn rfl (hs ▸ k)
theorem Ey.astore {i r : Nat} (hd : decode (xB M) pc = .ok (.astore i, 2)) (hn : i < xL M) (hs : ls.set i (some (.inr (some r))) = ls') {pc2 : Nat} (hp : pc + 2 = pc2) (k : Ey X M pc2 ls' st I o) : Ey X M pc ls (.inr (some r) :: st) I o := by
  subst hp
  exact Ex.astore hd hn rfl (hs ▸ k)
theorem Ey.iinc {i : Nat} {n : Int} {x y : Int32} (hd : decode (xB M) pc = .ok (.iinc i n, 3)) (hg : ls[i]? = some (some (.inl x))) (hv : Int32.ofInt n = y) (hn : i < xL M) (hs : ls.set i (some (.inl (x + y))) = ls') {pc2 : Nat} (hp : pc + 3 = pc2) (k : Ey X M pc2 ls' st I o) : Ey X M pc ls st I o := by
  subst hp
  exact Ex.iinc hd hg hv hn rfl (hs ▸ k)
theorem Ey.iaload {k n j : Nat} {i : Int32} (hd : decode (xB M) pc = .ok (.iaload, 1)) (hk : SH[k]? = some (.inr (.int, n))) (hj : i.toNatClampNeg = j) (hi : xin i n) {pc2 : Nat} (hp : pc + 1 = pc2) (kk : Ey X M pc2 ls (.inl (I k j) :: st) I o) : Ey X M pc ls (.inl i :: .inr (some k) :: st) I o := by
  subst hj
  exact Ex.iaload hd hk hi hp kk
theorem Ey.caload {k n j : Nat} {i : Int32} (hd : decode (xB M) pc = .ok (.caload, 1)) (hk : SH[k]? = some (.inr (.char, n))) (hj : i.toNatClampNeg = j) (hi : xin i n) {pc2 : Nat} (hp : pc + 1 = pc2) (kk : Ey X M pc2 ls (.inl (I k j) :: st) I o) : Ey X M pc ls (.inl i :: .inr (some k) :: st) I o := by
  subst hj
  exact Ex.caload hd hk hi hp kk
theorem Ey.baload {k n j : Nat} {i : Int32} (hd : decode (xB M) pc = .ok (.baload, 1)) (hk : SH[k]? = some (.inr (.boolean, n))) (hj : i.toNatClampNeg = j) (hi : xin i n) {pc2 : Nat} (hp : pc + 1 = pc2) (kk : Ey X M pc2 ls (.inl (I k j) :: st) I o) : Ey X M pc ls (.inl i :: .inr (some k) :: st) I o := by
  subst hj
  exact Ex.baload hd hk hi hp kk
theorem Ey.iastore {k n j : Nat} {i x : Int32} (hd : decode (xB M) pc = .ok (.iastore, 1)) (hk : SH[k]? = some (.inr (.int, n))) (hj : i.toNatClampNeg = j) (hi : xin i n) {pc2 : Nat} (hp : pc + 1 = pc2) (kk : Ey X M pc2 ls st (xup I k j x) o) : Ey X M pc ls (.inl x :: .inl i :: .inr (some k) :: st) I o := by
  subst hj
  exact Ex.iastore hd hk hi hp kk
theorem Ey.castore {k n j : Nat} {i x : Int32} (hd : decode (xB M) pc = .ok (.castore, 1)) (hk : SH[k]? = some (.inr (.char, n))) (hj : i.toNatClampNeg = j) (hi : xin i n) {pc2 : Nat} (hp : pc + 1 = pc2) (kk : Ey X M pc2 ls st (xup I k j (vp_nar .char x)) o) : Ey X M pc ls (.inl x :: .inl i :: .inr (some k) :: st) I o := by
  subst hj
  exact Ex.castore hd hk hi hp kk
theorem Ey.bastore {k n j : Nat} {i x : Int32} (hd : decode (xB M) pc = .ok (.bastore, 1)) (hk : SH[k]? = some (.inr (.boolean, n))) (hj : i.toNatClampNeg = j) (hi : xin i n) {pc2 : Nat} (hp : pc + 1 = pc2) (kk : Ey X M pc2 ls st (xup I k j (vp_nar .boolean x)) o) : Ey X M pc ls (.inl x :: .inl i :: .inr (some k) :: st) I o := by
  subst hj
  exact Ex.bastore hd hk hi hp kk
theorem Ey.acopy {idx a a0 n N : Nat} {n' : Int32} (hd : decode (xB M) pc = .ok (.invokestatic idx, 3)) (hl1 : Cond.methodLink (xY M).cls idx arraycopyName ∈ xWd) (ha0 : SH[a0]? = some (.inr (.int, N))) (ha : SH[a]? = some (.inr (.int, N))) (q3 : ¬ n' < 0) (hn : n'.toNatClampNeg = n) (q4 : n ≤ N) (hf : 1 ≤ xFr M) (hlw : st.length + 18 ≤ xLo M)
    {pc2 : Nat} (hp : pc + 3 = pc2) (kk : Ey X M pc2 ls st (xcp I a a0 0 0 n) o) : Ey X M pc ls (.inl n' :: .inl 0 :: .inr (some a) :: .inl 0 :: .inr (some a0) :: st) I o := by
  subst hn
  exact Ex.acopy hd hl1 wd_ac1 wd_ac2 wd_ac3 ha0 ha (by decide) (by decide) q3 (by show 0 + _ ≤ _; omega) (by show 0 + _ ≤ _; omega) hf hlw hp kk
theorem Ey.conv {M' : xM} {f : Option (Int32 × xI)} {K : Int32 → xI → Option (Int32 × xI)} (hT : xT M' ≠ none) : (xb f K).map (xto M) = (f.map (xto M')).bind (fun r => ((r.1.map (fun x => K x r.2.2.2)).bind id).map (xto M)) := by
  cases f with
  | none => rfl
  | some r =>
    cases h : xT M' with
    | none => exact absurd h hT
    | some ty => simp [xb, xto, h]
theorem Ey.convV {M' : xM} {f : Option (Int32 × xI)} {K : Int32 → xI → Option (Int32 × xI)} (hT : xT M' = none) (h0 : ∀ r I', f = some (r, I') → r = 0) : (xb f K).map (xto M) = (f.map (xto M')).bind (fun r => (K 0 r.2.2.2).map (xto M)) := by
  cases f with
  | none => rfl
  | some r =>
    obtain ⟨r1, I1⟩ := r
    have := h0 r1 I1 rfl
    subst this
    simp [xb, xto]
theorem Ey.callVi {M' : xM} {idx n : Nat} {as rest st0 : List xV} {f : Option (Int32 × xI)} {K : Int32 → xI → Option (Int32 × xI)} {ty : FieldType} (hT : xT M' = some ty) (hd : decode (xB M) pc = .ok (.invokevirtual idx, 3)) (hM : xIsV M' n) (hl1 : Cond.methodLink (xY M).cls idx (xY M') ∈ xWd) {k ci N : Nat} {T : u_T} (hk : SH[k]? = some (.inl ci)) (hci : vwCl[ci]? = some ((xY M').cls, T, N)) (hn : as.length = n) (hroom : xFr M' + 1 ≤ xFr M ∧ 8 + (xL M' + 11) + xLo M' ≤ xLo M) (hst : st0 = as.reverse ++ .inr (some k) :: rest) (hr8 : rest.length ≤ 8) (hargs : as.length + 1 ≤ xL M')
    (h1 : Ey none M' 0 (xEnt (.inr (some k) :: as) (xL M')) [] I f) {pc2 : Nat} (hp : pc + 3 = pc2) (h2 : ∀ r I', Ey X M pc2 ls (.inl r :: rest) I' (K r I')) : Ey X M pc ls st0 I (xb f K) := by
  subst hn
  subst hp
  unfold Ey
  rw [Ey.conv (M' := M') (by rw [hT]; exact fun h => by cases h)]
  refine Ex.callV (K := fun v σ => ((v.map (fun x => K x σ.2.2)).bind id).map (xto M)) hd hM.1 hl1 hM.2.1 hM.2.2.1 hM.2.2.2 hroom hk hci hst hr8 hargs (Or.inl ?_) h1 ?_
  · intro v σ1 h
    cases f with
    | none => cases h
    | some r => cases h; rfl
  · intro v σ1 h
    cases f with
    | none => cases h
    | some r =>
      obtain ⟨r1, I1⟩ := r
      have h : some (xto M' (r1, I1)) = some (v, σ1) := h
      unfold xto at h
      rw [hT] at h
      cases h
      exact h2 r1 I1
theorem Ey.callVv {M' : xM} {idx n : Nat} {as rest st0 : List xV} {f : Option (Int32 × xI)} {K : xI → Option (Int32 × xI)} (hT : xT M' = none) (hd : decode (xB M) pc = .ok (.invokevirtual idx, 3)) (hM : xIsV M' n) (hl1 : Cond.methodLink (xY M).cls idx (xY M') ∈ xWd) {k ci N : Nat} {T : u_T} (hk : SH[k]? = some (.inl ci)) (hci : vwCl[ci]? = some ((xY M').cls, T, N)) (hn : as.length = n) (hroom : xFr M' + 1 ≤ xFr M ∧ 8 + (xL M' + 11) + xLo M' ≤ xLo M) (hst : st0 = as.reverse ++ .inr (some k) :: rest) (hr8 : rest.length ≤ 8) (hargs : as.length + 1 ≤ xL M')
    (h1 : Ey none M' 0 (xEnt (.inr (some k) :: as) (xL M')) [] I f) {pc2 : Nat} (hp : pc + 3 = pc2) (h2 : ∀ I', Ey X M pc2 ls rest I' (K I')) : Ey X M pc ls st0 I (xb f (fun _ I' => K I')) := by
  subst hn
  subst hp
  unfold Ey
  have e : (xb f (fun _ I' => K I')).map (xto M) = (f.map (xto M')).bind (fun r => (K r.2.2.2).map (xto M)) := by cases f <;> rfl
  rw [e]
  refine Ex.callV (K := fun _ σ => (K σ.2.2).map (xto M)) hd hM.1 hl1 hM.2.1 hM.2.2.1 hM.2.2.2 hroom hk hci hst hr8 hargs (Or.inl ?_) h1 ?_
  · intro v σ1 h
    cases f with
    | none => cases h
    | some r => cases h; rfl
  · intro v σ1 h
    cases f with
    | none => cases h
    | some r =>
      obtain ⟨r1, I1⟩ := r
      have h : some (xto M' (r1, I1)) = some (v, σ1) := h
      unfold xto at h
      rw [hT] at h
      cases h
      exact h2 I1
theorem Ey.callSi {M' : xM} {idx n : Nat} {as rest st0 : List xV} {f : Option (Int32 × xI)} {K : Int32 → xI → Option (Int32 × xI)} {ty : FieldType} (hT : xT M' = some ty) (hd : decode (xB M) pc = .ok (.invokestatic idx, 3)) (hM : xIsS M' n) (hl1 : Cond.methodLink (xY M).cls idx (xY M') ∈ xWd) (hn : as.length = n) (hroom : xFr M' + 1 ≤ xFr M ∧ 8 + (xL M' + 11) + xLo M' ≤ xLo M) (hst : st0 = as.reverse ++ rest) (hr8 : rest.length ≤ 8) (hargs : as.length ≤ xL M')
    (h1 : Ey none M' 0 (xEnt (as) (xL M')) [] I f) {pc2 : Nat} (hp : pc + 3 = pc2) (h2 : ∀ r I', Ey X M pc2 ls (.inl r :: rest) I' (K r I')) : Ey X M pc ls st0 I (xb f K) := by
  subst hn
  subst hp
  unfold Ey
  rw [Ey.conv (M' := M') (by rw [hT]; exact fun h => by cases h)]
  refine Ex.callS (K := fun v σ => ((v.map (fun x => K x σ.2.2)).bind id).map (xto M)) hd hM.1 hl1 hM.2.1 hM.2.2 hroom hst hr8 hargs (Or.inl ?_) h1 ?_
  · intro v σ1 h
    cases f with
    | none => cases h
    | some r => cases h; rfl
  · intro v σ1 h
    cases f with
    | none => cases h
    | some r =>
      obtain ⟨r1, I1⟩ := r
      have h : some (xto M' (r1, I1)) = some (v, σ1) := h
      unfold xto at h
      rw [hT] at h
      cases h
      exact h2 r1 I1
theorem Ey.callSv {M' : xM} {idx n : Nat} {as rest st0 : List xV} {f : Option (Int32 × xI)} {K : xI → Option (Int32 × xI)} (hT : xT M' = none) (hd : decode (xB M) pc = .ok (.invokestatic idx, 3)) (hM : xIsS M' n) (hl1 : Cond.methodLink (xY M).cls idx (xY M') ∈ xWd) (hn : as.length = n) (hroom : xFr M' + 1 ≤ xFr M ∧ 8 + (xL M' + 11) + xLo M' ≤ xLo M) (hst : st0 = as.reverse ++ rest) (hr8 : rest.length ≤ 8) (hargs : as.length ≤ xL M')
    (h1 : Ey none M' 0 (xEnt (as) (xL M')) [] I f) {pc2 : Nat} (hp : pc + 3 = pc2) (h2 : ∀ I', Ey X M pc2 ls rest I' (K I')) : Ey X M pc ls st0 I (xb f (fun _ I' => K I')) := by
  subst hn
  subst hp
  unfold Ey
  have e : (xb f (fun _ I' => K I')).map (xto M) = (f.map (xto M')).bind (fun r => (K r.2.2.2).map (xto M)) := by cases f <;> rfl
  rw [e]
  refine Ex.callS (K := fun _ σ => (K σ.2.2).map (xto M)) hd hM.1 hl1 hM.2.1 hM.2.2 hroom hst hr8 hargs (Or.inl ?_) h1 ?_
  · intro v σ1 h
    cases f with
    | none => cases h
    | some r => cases h; rfl
  · intro v σ1 h
    cases f with
    | none => cases h
    | some r =>
      obtain ⟨r1, I1⟩ := r
      have h : some (xto M' (r1, I1)) = some (v, σ1) := h
      unfold xto at h
      rw [hT] at h
      cases h
      exact h2 I1
theorem Ey.callSNi {M' : xM} {idx n : Nat} {as rest st0 : List xV} {f : Option (Int32 × xI)} {K : Int32 → xI → Option (Int32 × xI)} {ty : FieldType} (hT : xT M' = some ty) {host : String} (hd : decode (xB M) pc = .ok (.invokestatic idx, 3)) (hM : xIsS M' n) (hl1 : Cond.methodLinkNest (xY M).cls idx (xY M') host ∈ xNw) (hn : as.length = n) (hroom : xFr M' + 1 ≤ xFr M ∧ 8 + (xL M' + 11) + xLo M' ≤ xLo M) (hst : st0 = as.reverse ++ rest) (hr8 : rest.length ≤ 8) (hargs : as.length ≤ xL M')
    (h1 : Ey none M' 0 (xEnt (as) (xL M')) [] I f) {pc2 : Nat} (hp : pc + 3 = pc2) (h2 : ∀ r I', Ey X M pc2 ls (.inl r :: rest) I' (K r I')) : Ey X M pc ls st0 I (xb f K) := by
  subst hn
  subst hp
  unfold Ey
  rw [Ey.conv (M' := M') (by rw [hT]; exact fun h => by cases h)]
  refine Ex.callSN (K := fun v σ => ((v.map (fun x => K x σ.2.2)).bind id).map (xto M)) hd hM.1 hl1 hM.2.1 hM.2.2 hroom hst hr8 hargs (Or.inl ?_) h1 ?_
  · intro v σ1 h
    cases f with
    | none => cases h
    | some r => cases h; rfl
  · intro v σ1 h
    cases f with
    | none => cases h
    | some r =>
      obtain ⟨r1, I1⟩ := r
      have h : some (xto M' (r1, I1)) = some (v, σ1) := h
      unfold xto at h
      rw [hT] at h
      cases h
      exact h2 r1 I1
theorem Ey.callSNv {M' : xM} {idx n : Nat} {as rest st0 : List xV} {f : Option (Int32 × xI)} {K : xI → Option (Int32 × xI)} (hT : xT M' = none) {host : String} (hd : decode (xB M) pc = .ok (.invokestatic idx, 3)) (hM : xIsS M' n) (hl1 : Cond.methodLinkNest (xY M).cls idx (xY M') host ∈ xNw) (hn : as.length = n) (hroom : xFr M' + 1 ≤ xFr M ∧ 8 + (xL M' + 11) + xLo M' ≤ xLo M) (hst : st0 = as.reverse ++ rest) (hr8 : rest.length ≤ 8) (hargs : as.length ≤ xL M')
    (h1 : Ey none M' 0 (xEnt (as) (xL M')) [] I f) {pc2 : Nat} (hp : pc + 3 = pc2) (h2 : ∀ I', Ey X M pc2 ls rest I' (K I')) : Ey X M pc ls st0 I (xb f (fun _ I' => K I')) := by
  subst hn
  subst hp
  unfold Ey
  have e : (xb f (fun _ I' => K I')).map (xto M) = (f.map (xto M')).bind (fun r => (K r.2.2.2).map (xto M)) := by cases f <;> rfl
  rw [e]
  refine Ex.callSN (K := fun _ σ => (K σ.2.2).map (xto M)) hd hM.1 hl1 hM.2.1 hM.2.2 hroom hst hr8 hargs (Or.inl ?_) h1 ?_
  · intro v σ1 h
    cases f with
    | none => cases h
    | some r => cases h; rfl
  · intro v σ1 h
    cases f with
    | none => cases h
    | some r =>
      obtain ⟨r1, I1⟩ := r
      have h : some (xto M' (r1, I1)) = some (v, σ1) := h
      unfold xto at h
      rw [hT] at h
      cases h
      exact h2 I1
/-- switches: no case meets -/
theorem xOut {x : Int32} {n : Nat} {hi : Int} (hh : hi = (n : Int) - 1) (h : ∀ j : Nat, j < n → x.toInt ≠ (j : Int)) : x.toInt < 0 ∨ hi < x.toInt := by
  subst hh
  rcases Int.lt_or_le x.toInt 0 with h0 | h0
  · exact Or.inl h0
  · refine Or.inr ?_
    rcases Int.lt_or_le ((n : Int) - 1) x.toInt with h1 | h1
    · exact h1
    · exact absurd (by omega) (h x.toInt.toNat (by omega))
theorem xNe {x k : Int32} {a : Int} (h : ¬ x = k) (hk : k.toInt = a) : x.toInt ≠ a := fun q => h (Int32.toInt_inj.mp (by rw [hk]; exact q))
end EY
