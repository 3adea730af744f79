def sp00 : List xKd := SH.take 0
def sp01 : List xKd := SH.take 1
def sp02 : List xKd := SH.take 2
def sp03 : List xKd := SH.take 3
def sp04 : List xKd := SH.take 4
def sp05 : List xKd := SH.take 5
def sp06 : List xKd := SH.take 6
def sp07 : List xKd := SH.take 7
def sp08 : List xKd := SH.take 8
def sp09 : List xKd := SH.take 9
def sp10 : List xKd := SH.take 10
def sp11 : List xKd := SH.take 11
def sp12 : List xKd := SH.take 12
def sp13 : List xKd := SH.take 13
def sp14 : List xKd := SH.take 14
def sp15 : List xKd := SH.take 15
def sp16 : List xKd := SH.take 16
def sp17 : List xKd := SH.take 17
def sp18 : List xKd := SH.take 18
def sp19 : List xKd := SH.take 19
def sp20 : List xKd := SH.take 20
def sp21 : List xKd := SH.take 21
def sp22 : List xKd := SH.take 22
def sp23 : List xKd := SH.take 23
def sp24 : List xKd := SH.take 24
def sp25 : List xKd := SH.take 25
def sp26 : List xKd := SH.take 26
def sp27 : List xKd := SH.take 27
def sp28 : List xKd := SH.take 28
def sp29 : List xKd := SH.take 29
def sp30 : List xKd := SH.take 30
def sp31 : List xKd := SH.take 31
def sp32 : List xKd := SH.take 32
def sp33 : List xKd := SH.take 33
def sp34 : List xKd := SH.take 34
def sp35 : List xKd := SH.take 35
def sp36 : List xKd := SH.take 36
def sp37 : List xKd := SH.take 37
def sp38 : List xKd := SH.take 38
def sp39 : List xKd := SH.take 39
def sp40 : List xKd := SH.take 40
def sp41 : List xKd := SH.take 41
def sp42 : List xKd := SH.take 42
def sp43 : List xKd := SH.take 43
def sp44 : List xKd := SH.take 44
def sp45 : List xKd := SH.take 45
def sp46 : List xKd := SH.take 46
def sp47 : List xKd := SH.take 47
def sp48 : List xKd := SH.take 48
def sp49 : List xKd := SH.take 49
def sp50 : List xKd := SH.take 50
def sp51 : List xKd := SH.take 51
def sp52 : List xKd := SH.take 52
def sp53 : List xKd := SH.take 53
def sp54 : List xKd := SH.take 54
def sp55 : List xKd := SH.take 55
def sp56 : List xKd := SH.take 56
def sp57 : List xKd := SH.take 57
def sp58 : List xKd := SH.take 58
def sp59 : List xKd := SH.take 59
def sp60 : List xKd := SH.take 60
def sp61 : List xKd := SH.take 61
def sp62 : List xKd := SH.take 62
def sp63 : List xKd := SH.take 63
def sp64 : List xKd := SH.take 64
def sp65 : List xKd := SH.take 65
def sp66 : List xKd := SH.take 66
def sp67 : List xKd := SH.take 67
def sp68 : List xKd := SH.take 68
def sp69 : List xKd := SH.take 69
def sp70 : List xKd := SH.take 70
def sp71 : List xKd := SH.take 71
def sp72 : List xKd := SH.take 72
def sp73 : List xKd := SH.take 73
def sp74 : List xKd := SH.take 74
def sp75 : List xKd := SH.take 75
def sp76 : List xKd := SH.take 76
def sp77 : List xKd := SH.take 77
abbrev xtg (M : xM) (r : Int32 × xI) : Option Int32 × xS := ((xT M).map (fun _ => r.1), (sp06, FF04, r.2))
/-- from pc the method comes to its end with o's answer and ints (0 where it returns nothing) -/
abbrev Eg (X : Option (Nat × (Nat → Int32))) (M : xM) (pc : Nat) (ls : List (Option xV)) (st : List xV) (I : xI) (o : Option (Int32 × xI)) : Prop := Ex X M pc ls st (sp06, FF04, I) (o.map (xtg M))
section EY
variable {X : Option (Nat × (Nat → Int32))} {M : xM} {pc : Nat} {ls ls' : List (Option xV)} {st : List xV} {I : xI} {o : Option (Int32 × xI)}
theorem Eg.nil : Eg X M pc ls st I none := Ex.nil
theorem Eg.ite {c : Prop} [inst : Decidable c] {o1 o2 : Option (Int32 × xI)} (h1 : c → Eg X M pc ls st I o1) (h2 : ¬ c → Eg X M pc ls st I o2) : Eg X M pc ls st I (@_root_.ite _ c inst o1 o2) := by
  by_cases h : c
  · rw [if_pos h]; exact h1 h
  · rw [if_neg h]; exact h2 h
theorem Eg.guard {c : Prop} [inst : Decidable c] (h1 : c → Eg X M pc ls st I o) : Eg X M pc ls st I (@_root_.ite _ c inst o none) := Eg.ite h1 (fun _ => Eg.nil)
theorem Eg.ireturn {x : Int32} {ty : FieldType} (hd : decode (xB M) pc = .ok (.ireturn, 1)) (hT : xT M = some ty) (hn : narrow ty (.int x) = .int x) : Eg X M pc ls [.inl x] I (some (x, I)) := by
  have h := Ex.ireturn (X := X) (M := M) (ls := ls) (σ := (sp06, FF04, I)) hd hT hn
  show Ex X M pc ls [.inl x] (sp06, FF04, I) (some (xtg M (x, I)))
  unfold xtg
  rw [hT]
  exact h
theorem Eg.ret (hd : decode (xB M) pc = .ok (.return_, 1)) (hT : xT M = none) : Eg X M pc ls [] I (some (0, I)) := by
  have h := Ex.ret (X := X) (M := M) (ls := ls) (σ := (sp06, FF04, I)) hd hT
  show Ex X M pc ls [] (sp06, FF04, I) (some (xtg M (0, I)))
  unfold xtg
  rw [hT]
  exact h

theorem Eg.if_eq {x : Int32} {off : Int} {tgt : Nat} (hd : decode (xB M) pc = .ok (.ifCond .eq off, 3)) (ht : (pc : Int) + off = (tgt : Int)) {o1 o2 : Option (Int32 × xI)} (kt : x = 0 → Eg X M tgt ls st I o1) {pc2 : Nat} (hp : pc + 3 = pc2) (kf : ¬ (x = 0) → Eg X M pc2 ls st I o2) : Eg X M pc ls (.inl x :: st) I (if x = 0 then o1 else o2) := by
  unfold Eg
  rw [apply_ite (Option.map (xtg M))]
  exact Ex.if_eq hd ht kt hp kf
theorem Eg.icmp_eq {x y : Int32} {off : Int} {tgt : Nat} (hd : decode (xB M) pc = .ok (.if_icmp .eq off, 3)) (ht : (pc : Int) + off = (tgt : Int)) {o1 o2 : Option (Int32 × xI)} (kt : x = y → Eg X M tgt ls st I o1) {pc2 : Nat} (hp : pc + 3 = pc2) (kf : ¬ (x = y) → Eg X M pc2 ls st I o2) : Eg X M pc ls (.inl y :: .inl x :: st) I (if x = y then o1 else o2) := by
  unfold Eg
  rw [apply_ite (Option.map (xtg M))]
  exact Ex.icmp_eq hd ht kt hp kf
theorem Eg.if_ne {x : Int32} {off : Int} {tgt : Nat} (hd : decode (xB M) pc = .ok (.ifCond .ne off, 3)) (ht : (pc : Int) + off = (tgt : Int)) {o1 o2 : Option (Int32 × xI)} (kt : x ≠ 0 → Eg X M tgt ls st I o1) {pc2 : Nat} (hp : pc + 3 = pc2) (kf : ¬ (x ≠ 0) → Eg X M pc2 ls st I o2) : Eg X M pc ls (.inl x :: st) I (if x ≠ 0 then o1 else o2) := by
  unfold Eg
  rw [apply_ite (Option.map (xtg M))]
  exact Ex.if_ne hd ht kt hp kf
theorem Eg.icmp_ne {x y : Int32} {off : Int} {tgt : Nat} (hd : decode (xB M) pc = .ok (.if_icmp .ne off, 3)) (ht : (pc : Int) + off = (tgt : Int)) {o1 o2 : Option (Int32 × xI)} (kt : x ≠ y → Eg X M tgt ls st I o1) {pc2 : Nat} (hp : pc + 3 = pc2) (kf : ¬ (x ≠ y) → Eg X M pc2 ls st I o2) : Eg X M pc ls (.inl y :: .inl x :: st) I (if x ≠ y then o1 else o2) := by
  unfold Eg
  rw [apply_ite (Option.map (xtg M))]
  exact Ex.icmp_ne hd ht kt hp kf
theorem Eg.if_lt {x : Int32} {off : Int} {tgt : Nat} (hd : decode (xB M) pc = .ok (.ifCond .lt off, 3)) (ht : (pc : Int) + off = (tgt : Int)) {o1 o2 : Option (Int32 × xI)} (kt : x < 0 → Eg X M tgt ls st I o1) {pc2 : Nat} (hp : pc + 3 = pc2) (kf : ¬ (x < 0) → Eg X M pc2 ls st I o2) : Eg X M pc ls (.inl x :: st) I (if x < 0 then o1 else o2) := by
  unfold Eg
  rw [apply_ite (Option.map (xtg M))]
  exact Ex.if_lt hd ht kt hp kf
theorem Eg.icmp_lt {x y : Int32} {off : Int} {tgt : Nat} (hd : decode (xB M) pc = .ok (.if_icmp .lt off, 3)) (ht : (pc : Int) + off = (tgt : Int)) {o1 o2 : Option (Int32 × xI)} (kt : x < y → Eg X M tgt ls st I o1) {pc2 : Nat} (hp : pc + 3 = pc2) (kf : ¬ (x < y) → Eg X M pc2 ls st I o2) : Eg X M pc ls (.inl y :: .inl x :: st) I (if x < y then o1 else o2) := by
  unfold Eg
  rw [apply_ite (Option.map (xtg M))]
  exact Ex.icmp_lt hd ht kt hp kf
theorem Eg.if_ge {x : Int32} {off : Int} {tgt : Nat} (hd : decode (xB M) pc = .ok (.ifCond .ge off, 3)) (ht : (pc : Int) + off = (tgt : Int)) {o1 o2 : Option (Int32 × xI)} (kt : x ≥ 0 → Eg X M tgt ls st I o1) {pc2 : Nat} (hp : pc + 3 = pc2) (kf : ¬ (x ≥ 0) → Eg X M pc2 ls st I o2) : Eg X M pc ls (.inl x :: st) I (if x ≥ 0 then o1 else o2) := by
  unfold Eg
  rw [apply_ite (Option.map (xtg M))]
  exact Ex.if_ge hd ht kt hp kf
theorem Eg.icmp_ge {x y : Int32} {off : Int} {tgt : Nat} (hd : decode (xB M) pc = .ok (.if_icmp .ge off, 3)) (ht : (pc : Int) + off = (tgt : Int)) {o1 o2 : Option (Int32 × xI)} (kt : x ≥ y → Eg X M tgt ls st I o1) {pc2 : Nat} (hp : pc + 3 = pc2) (kf : ¬ (x ≥ y) → Eg X M pc2 ls st I o2) : Eg X M pc ls (.inl y :: .inl x :: st) I (if x ≥ y then o1 else o2) := by
  unfold Eg
  rw [apply_ite (Option.map (xtg M))]
  exact Ex.icmp_ge hd ht kt hp kf
theorem Eg.if_gt {x : Int32} {off : Int} {tgt : Nat} (hd : decode (xB M) pc = .ok (.ifCond .gt off, 3)) (ht : (pc : Int) + off = (tgt : Int)) {o1 o2 : Option (Int32 × xI)} (kt : x > 0 → Eg X M tgt ls st I o1) {pc2 : Nat} (hp : pc + 3 = pc2) (kf : ¬ (x > 0) → Eg X M pc2 ls st I o2) : Eg X M pc ls (.inl x :: st) I (if x > 0 then o1 else o2) := by
  unfold Eg
  rw [apply_ite (Option.map (xtg M))]
  exact Ex.if_gt hd ht kt hp kf
theorem Eg.icmp_gt {x y : Int32} {off : Int} {tgt : Nat} (hd : decode (xB M) pc = .ok (.if_icmp .gt off, 3)) (ht : (pc : Int) + off = (tgt : Int)) {o1 o2 : Option (Int32 × xI)} (kt : x > y → Eg X M tgt ls st I o1) {pc2 : Nat} (hp : pc + 3 = pc2) (kf : ¬ (x > y) → Eg X M pc2 ls st I o2) : Eg X M pc ls (.inl y :: .inl x :: st) I (if x > y then o1 else o2) := by
  unfold Eg
  rw [apply_ite (Option.map (xtg M))]
  exact Ex.icmp_gt hd ht kt hp kf
theorem Eg.if_le {x : Int32} {off : Int} {tgt : Nat} (hd : decode (xB M) pc = .ok (.ifCond .le off, 3)) (ht : (pc : Int) + off = (tgt : Int)) {o1 o2 : Option (Int32 × xI)} (kt : x ≤ 0 → Eg X M tgt ls st I o1) {pc2 : Nat} (hp : pc + 3 = pc2) (kf : ¬ (x ≤ 0) → Eg X M pc2 ls st I o2) : Eg X M pc ls (.inl x :: st) I (if x ≤ 0 then o1 else o2) := by
  unfold Eg
  rw [apply_ite (Option.map (xtg M))]
  exact Ex.if_le hd ht kt hp kf
theorem Eg.icmp_le {x y : Int32} {off : Int} {tgt : Nat} (hd : decode (xB M) pc = .ok (.if_icmp .le off, 3)) (ht : (pc : Int) + off = (tgt : Int)) {o1 o2 : Option (Int32 × xI)} (kt : x ≤ y → Eg X M tgt ls st I o1) {pc2 : Nat} (hp : pc + 3 = pc2) (kf : ¬ (x ≤ y) → Eg X M pc2 ls st I o2) : Eg X M pc ls (.inl y :: .inl x :: st) I (if x ≤ y then o1 else o2) := by
  unfold Eg
  rw [apply_ite (Option.map (xtg M))]
  exact Ex.icmp_le hd ht kt hp kf
theorem Eg.istore_n {k0 : Fin 4} {i : Nat} {x : Int32} (hd : decode (xB M) pc = .ok (.istore_n k0, 1)) (hi : (k0 : Nat) = i) (hn : i < xL M) (hs : ls.set i (some (.inl x)) = ls') {pc2 : Nat} (hp : pc + 1 = pc2) (k : Eg X M pc2 ls' st I o) : Eg X M pc ls (.inl x :: st) I o := by
  subst hp
  exact Ex.istore_n hd hi hn rfl (hs ▸ k)
theorem Eg.istore {i : Nat} {x : Int32} (hd : decode (xB M) pc = .ok (.istore i, 2)) (hn : i < xL M) (hs : ls.set i (some (.inl x)) = ls') {pc2 : Nat} (hp : pc + 2 = pc2) (k : Eg X M pc2 ls' st I o) : Eg X M pc ls (.inl x :: st) I o := by
  subst hp
  exact Ex.istore hd hn rfl (hs ▸ k)
theorem Eg.astore_n {k0 : Fin 4} {i r : Nat} (hd : decode (xB M) pc = .ok (.astore_n k0, 1)) (hi : (k0 : Nat) = i) (hn : i < xL M) (hs : ls.set i (some (.inr (some r))) = ls') {pc2 : Nat} (hp : pc + 1 = pc2) (k : Eg X M pc2 ls' st I o) : Eg X M pc ls (.inr (some r) :: st) I o := by
  subst hp
  exact Ex.astore_n hd hi hn rfl (hs ▸ k)
theorem Eg.astore {i r : Nat} (hd : decode (xB M) pc = .ok (.astore i, 2)) (hn : i < xL M) (hs : ls.set i (some (.inr (some r))) = ls') {pc2 : Nat} (hp : pc + 2 = pc2) (k : Eg X M pc2 ls' st I o) : Eg X M pc ls (.inr (some r) :: st) I o := by
  subst hp
  exact Ex.astore hd hn rfl (hs ▸ k)
theorem Eg.iinc {i : Nat} {n : Int} {x y : Int32} (hd : decode (xB M) pc = .ok (.iinc i n, 3)) (hg : ls[i]? = some (some (.inl x))) (hv : Int32.ofInt n = y) (hn : i < xL M) (hs : ls.set i (some (.inl (x + y))) = ls') {pc2 : Nat} (hp : pc + 3 = pc2) (k : Eg X M pc2 ls' st I o) : Eg X M pc ls st I o := by
  subst hp
  exact Ex.iinc hd hg hv hn rfl (hs ▸ k)
theorem Eg.iaload {k n j : Nat} {i : Int32} (hd : decode (xB M) pc = .ok (.iaload, 1)) (hk : sp06[k]? = some (.inr (.int, n))) (hj : i.toNatClampNeg = j) (hi : xin i n) {pc2 : Nat} (hp : pc + 1 = pc2) (kk : Eg X M pc2 ls (.inl (I k j) :: st) I o) : Eg X M pc ls (.inl i :: .inr (some k) :: st) I o := by
  subst hj
  exact Ex.iaload hd hk hi hp kk
theorem Eg.caload {k n j : Nat} {i : Int32} (hd : decode (xB M) pc = .ok (.caload, 1)) (hk : sp06[k]? = some (.inr (.char, n))) (hj : i.toNatClampNeg = j) (hi : xin i n) {pc2 : Nat} (hp : pc + 1 = pc2) (kk : Eg X M pc2 ls (.inl (I k j) :: st) I o) : Eg X M pc ls (.inl i :: .inr (some k) :: st) I o := by
  subst hj
  exact Ex.caload hd hk hi hp kk
theorem Eg.baload {k n j : Nat} {i : Int32} (hd : decode (xB M) pc = .ok (.baload, 1)) (hk : sp06[k]? = some (.inr (.boolean, n))) (hj : i.toNatClampNeg = j) (hi : xin i n) {pc2 : Nat} (hp : pc + 1 = pc2) (kk : Eg X M pc2 ls (.inl (I k j) :: st) I o) : Eg X M pc ls (.inl i :: .inr (some k) :: st) I o := by
  subst hj
  exact Ex.baload hd hk hi hp kk
theorem Eg.iastore {k n j : Nat} {i x : Int32} (hd : decode (xB M) pc = .ok (.iastore, 1)) (hk : sp06[k]? = some (.inr (.int, n))) (hj : i.toNatClampNeg = j) (hi : xin i n) {pc2 : Nat} (hp : pc + 1 = pc2) (kk : Eg X M pc2 ls st (xup I k j x) o) : Eg X M pc ls (.inl x :: .inl i :: .inr (some k) :: st) I o := by
  subst hj
  exact Ex.iastore hd hk hi hp kk
theorem Eg.castore {k n j : Nat} {i x : Int32} (hd : decode (xB M) pc = .ok (.castore, 1)) (hk : sp06[k]? = some (.inr (.char, n))) (hj : i.toNatClampNeg = j) (hi : xin i n) {pc2 : Nat} (hp : pc + 1 = pc2) (kk : Eg X M pc2 ls st (xup I k j (vp_nar .char x)) o) : Eg X M pc ls (.inl x :: .inl i :: .inr (some k) :: st) I o := by
  subst hj
  exact Ex.castore hd hk hi hp kk
theorem Eg.bastore {k n j : Nat} {i x : Int32} (hd : decode (xB M) pc = .ok (.bastore, 1)) (hk : sp06[k]? = some (.inr (.boolean, n))) (hj : i.toNatClampNeg = j) (hi : xin i n) {pc2 : Nat} (hp : pc + 1 = pc2) (kk : Eg X M pc2 ls st (xup I k j (vp_nar .boolean x)) o) : Eg X M pc ls (.inl x :: .inl i :: .inr (some k) :: st) I o := by
  subst hj
  exact Ex.bastore hd hk hi hp kk
theorem Eg.acopy {idx a a0 n N : Nat} {n' : Int32} (hd : decode (xB M) pc = .ok (.invokestatic idx, 3)) (hl1 : Cond.methodLink (xY M).cls idx arraycopyName ∈ xWd) (ha0 : sp06[a0]? = some (.inr (.int, N))) (ha : sp06[a]? = some (.inr (.int, N))) (q3 : ¬ n' < 0) (hn : n'.toNatClampNeg = n) (q4 : n ≤ N) (hf : 1 ≤ xFr M) (hlw : st.length + 18 ≤ xLo M)
    {pc2 : Nat} (hp : pc + 3 = pc2) (kk : Eg X M pc2 ls st (xcp I a a0 0 0 n) o) : Eg X M pc ls (.inl n' :: .inl 0 :: .inr (some a) :: .inl 0 :: .inr (some a0) :: st) I o := by
  subst hn
  exact Ex.acopy hd hl1 wd_ac1 wd_ac2 wd_ac3 ha0 ha (by decide) (by decide) q3 (by show 0 + _ ≤ _; omega) (by show 0 + _ ≤ _; omega) hf hlw hp kk
theorem Eg.conv {M' : xM} {f : Option (Int32 × xI)} {K : Int32 → xI → Option (Int32 × xI)} (hT : xT M' ≠ none) : (xb f K).map (xtg M) = (f.map (xtg M')).bind (fun r => ((r.1.map (fun x => K x r.2.2.2)).bind id).map (xtg M)) := by
  cases f with
  | none => rfl
  | some r =>
    cases h : xT M' with
    | none => exact absurd h hT
    | some ty => simp [xb, xtg, h]
theorem Eg.convV {M' : xM} {f : Option (Int32 × xI)} {K : Int32 → xI → Option (Int32 × xI)} (hT : xT M' = none) (h0 : ∀ r I', f = some (r, I') → r = 0) : (xb f K).map (xtg M) = (f.map (xtg M')).bind (fun r => (K 0 r.2.2.2).map (xtg M)) := by
  cases f with
  | none => rfl
  | some r =>
    obtain ⟨r1, I1⟩ := r
    have := h0 r1 I1 rfl
    subst this
    simp [xb, xtg]
theorem Eg.callVi {M' : xM} {idx n : Nat} {as rest st0 : List xV} {f : Option (Int32 × xI)} {K : Int32 → xI → Option (Int32 × xI)} {ty : FieldType} (hT : xT M' = some ty) (hd : decode (xB M) pc = .ok (.invokevirtual idx, 3)) (hM : xIsV M' n) (hl1 : Cond.methodLink (xY M).cls idx (xY M') ∈ xWd) {k ci N : Nat} {T : u_T} (hk : sp06[k]? = some (.inl ci)) (hci : vwCl[ci]? = some ((xY M').cls, T, N)) (hn : as.length = n) (hroom : xFr M' + 1 ≤ xFr M ∧ 8 + (xL M' + 11) + xLo M' ≤ xLo M) (hst : st0 = as.reverse ++ .inr (some k) :: rest) (hr8 : rest.length ≤ 8) (hargs : as.length + 1 ≤ xL M')
    (h1 : Eg none M' 0 (xEnt (.inr (some k) :: as) (xL M')) [] I f) {pc2 : Nat} (hp : pc + 3 = pc2) (h2 : ∀ r I', Eg X M pc2 ls (.inl r :: rest) I' (K r I')) : Eg X M pc ls st0 I (xb f K) := by
  subst hn
  subst hp
  unfold Eg
  rw [Eg.conv (M' := M') (by rw [hT]; exact fun h => by cases h)]
  refine Ex.callV (K := fun v σ => ((v.map (fun x => K x σ.2.2)).bind id).map (xtg M)) hd hM.1 hl1 hM.2.1 hM.2.2.1 hM.2.2.2 hroom hk hci hst hr8 hargs (Or.inl ?_) h1 ?_
  · intro v σ1 h
    cases f with
    | none => cases h
    | some r => cases h; rfl
  · intro v σ1 h
    cases f with
    | none => cases h
    | some r =>
      obtain ⟨r1, I1⟩ := r
      have h : some (xtg M' (r1, I1)) = some (v, σ1) := h
      unfold xtg at h
      rw [hT] at h
      cases h
      exact h2 r1 I1
theorem Eg.callVv {M' : xM} {idx n : Nat} {as rest st0 : List xV} {f : Option (Int32 × xI)} {K : xI → Option (Int32 × xI)} (hT : xT M' = none) (hd : decode (xB M) pc = .ok (.invokevirtual idx, 3)) (hM : xIsV M' n) (hl1 : Cond.methodLink (xY M).cls idx (xY M') ∈ xWd) {k ci N : Nat} {T : u_T} (hk : sp06[k]? = some (.inl ci)) (hci : vwCl[ci]? = some ((xY M').cls, T, N)) (hn : as.length = n) (hroom : xFr M' + 1 ≤ xFr M ∧ 8 + (xL M' + 11) + xLo M' ≤ xLo M) (hst : st0 = as.reverse ++ .inr (some k) :: rest) (hr8 : rest.length ≤ 8) (hargs : as.length + 1 ≤ xL M')
    (h1 : Eg none M' 0 (xEnt (.inr (some k) :: as) (xL M')) [] I f) {pc2 : Nat} (hp : pc + 3 = pc2) (h2 : ∀ I', Eg X M pc2 ls rest I' (K I')) : Eg X M pc ls st0 I (xb f (fun _ I' => K I')) := by
  subst hn
  subst hp
  unfold Eg
  have e : (xb f (fun _ I' => K I')).map (xtg M) = (f.map (xtg M')).bind (fun r => (K r.2.2.2).map (xtg M)) := by cases f <;> rfl
  rw [e]
  refine Ex.callV (K := fun _ σ => (K σ.2.2).map (xtg M)) hd hM.1 hl1 hM.2.1 hM.2.2.1 hM.2.2.2 hroom hk hci hst hr8 hargs (Or.inl ?_) h1 ?_
  · intro v σ1 h
    cases f with
    | none => cases h
    | some r => cases h; rfl
  · intro v σ1 h
    cases f with
    | none => cases h
    | some r =>
      obtain ⟨r1, I1⟩ := r
      have h : some (xtg M' (r1, I1)) = some (v, σ1) := h
      unfold xtg at h
      rw [hT] at h
      cases h
      exact h2 I1
theorem Eg.callSi {M' : xM} {idx n : Nat} {as rest st0 : List xV} {f : Option (Int32 × xI)} {K : Int32 → xI → Option (Int32 × xI)} {ty : FieldType} (hT : xT M' = some ty) (hd : decode (xB M) pc = .ok (.invokestatic idx, 3)) (hM : xIsS M' n) (hl1 : Cond.methodLink (xY M).cls idx (xY M') ∈ xWd) (hn : as.length = n) (hroom : xFr M' + 1 ≤ xFr M ∧ 8 + (xL M' + 11) + xLo M' ≤ xLo M) (hst : st0 = as.reverse ++ rest) (hr8 : rest.length ≤ 8) (hargs : as.length ≤ xL M')
    (h1 : Eg none M' 0 (xEnt (as) (xL M')) [] I f) {pc2 : Nat} (hp : pc + 3 = pc2) (h2 : ∀ r I', Eg X M pc2 ls (.inl r :: rest) I' (K r I')) : Eg X M pc ls st0 I (xb f K) := by
  subst hn
  subst hp
  unfold Eg
  rw [Eg.conv (M' := M') (by rw [hT]; exact fun h => by cases h)]
  refine Ex.callS (K := fun v σ => ((v.map (fun x => K x σ.2.2)).bind id).map (xtg M)) hd hM.1 hl1 hM.2.1 hM.2.2 hroom hst hr8 hargs (Or.inl ?_) h1 ?_
  · intro v σ1 h
    cases f with
    | none => cases h
    | some r => cases h; rfl
  · intro v σ1 h
    cases f with
    | none => cases h
    | some r =>
      obtain ⟨r1, I1⟩ := r
      have h : some (xtg M' (r1, I1)) = some (v, σ1) := h
      unfold xtg at h
      rw [hT] at h
      cases h
      exact h2 r1 I1
theorem Eg.callSv {M' : xM} {idx n : Nat} {as rest st0 : List xV} {f : Option (Int32 × xI)} {K : xI → Option (Int32 × xI)} (hT : xT M' = none) (hd : decode (xB M) pc = .ok (.invokestatic idx, 3)) (hM : xIsS M' n) (hl1 : Cond.methodLink (xY M).cls idx (xY M') ∈ xWd) (hn : as.length = n) (hroom : xFr M' + 1 ≤ xFr M ∧ 8 + (xL M' + 11) + xLo M' ≤ xLo M) (hst : st0 = as.reverse ++ rest) (hr8 : rest.length ≤ 8) (hargs : as.length ≤ xL M')
    (h1 : Eg none M' 0 (xEnt (as) (xL M')) [] I f) {pc2 : Nat} (hp : pc + 3 = pc2) (h2 : ∀ I', Eg X M pc2 ls rest I' (K I')) : Eg X M pc ls st0 I (xb f (fun _ I' => K I')) := by
  subst hn
  subst hp
  unfold Eg
  have e : (xb f (fun _ I' => K I')).map (xtg M) = (f.map (xtg M')).bind (fun r => (K r.2.2.2).map (xtg M)) := by cases f <;> rfl
  rw [e]
  refine Ex.callS (K := fun _ σ => (K σ.2.2).map (xtg M)) hd hM.1 hl1 hM.2.1 hM.2.2 hroom hst hr8 hargs (Or.inl ?_) h1 ?_
  · intro v σ1 h
    cases f with
    | none => cases h
    | some r => cases h; rfl
  · intro v σ1 h
    cases f with
    | none => cases h
    | some r =>
      obtain ⟨r1, I1⟩ := r
      have h : some (xtg M' (r1, I1)) = some (v, σ1) := h
      unfold xtg at h
      rw [hT] at h
      cases h
      exact h2 I1
theorem Eg.callSNi {M' : xM} {idx n : Nat} {as rest st0 : List xV} {f : Option (Int32 × xI)} {K : Int32 → xI → Option (Int32 × xI)} {ty : FieldType} (hT : xT M' = some ty) {host : String} (hd : decode (xB M) pc = .ok (.invokestatic idx, 3)) (hM : xIsS M' n) (hl1 : Cond.methodLinkNest (xY M).cls idx (xY M') host ∈ xNw) (hn : as.length = n) (hroom : xFr M' + 1 ≤ xFr M ∧ 8 + (xL M' + 11) + xLo M' ≤ xLo M) (hst : st0 = as.reverse ++ rest) (hr8 : rest.length ≤ 8) (hargs : as.length ≤ xL M')
    (h1 : Eg none M' 0 (xEnt (as) (xL M')) [] I f) {pc2 : Nat} (hp : pc + 3 = pc2) (h2 : ∀ r I', Eg X M pc2 ls (.inl r :: rest) I' (K r I')) : Eg X M pc ls st0 I (xb f K) := by
  subst hn
  subst hp
  unfold Eg
  rw [Eg.conv (M' := M') (by rw [hT]; exact fun h => by cases h)]
  refine Ex.callSN (K := fun v σ => ((v.map (fun x => K x σ.2.2)).bind id).map (xtg M)) hd hM.1 hl1 hM.2.1 hM.2.2 hroom hst hr8 hargs (Or.inl ?_) h1 ?_
  · intro v σ1 h
    cases f with
    | none => cases h
    | some r => cases h; rfl
  · intro v σ1 h
    cases f with
    | none => cases h
    | some r =>
      obtain ⟨r1, I1⟩ := r
      have h : some (xtg M' (r1, I1)) = some (v, σ1) := h
      unfold xtg at h
      rw [hT] at h
      cases h
      exact h2 r1 I1
theorem Eg.callSNv {M' : xM} {idx n : Nat} {as rest st0 : List xV} {f : Option (Int32 × xI)} {K : xI → Option (Int32 × xI)} (hT : xT M' = none) {host : String} (hd : decode (xB M) pc = .ok (.invokestatic idx, 3)) (hM : xIsS M' n) (hl1 : Cond.methodLinkNest (xY M).cls idx (xY M') host ∈ xNw) (hn : as.length = n) (hroom : xFr M' + 1 ≤ xFr M ∧ 8 + (xL M' + 11) + xLo M' ≤ xLo M) (hst : st0 = as.reverse ++ rest) (hr8 : rest.length ≤ 8) (hargs : as.length ≤ xL M')
    (h1 : Eg none M' 0 (xEnt (as) (xL M')) [] I f) {pc2 : Nat} (hp : pc + 3 = pc2) (h2 : ∀ I', Eg X M pc2 ls rest I' (K I')) : Eg X M pc ls st0 I (xb f (fun _ I' => K I')) := by
  subst hn
  subst hp
  unfold Eg
  have e : (xb f (fun _ I' => K I')).map (xtg M) = (f.map (xtg M')).bind (fun r => (K r.2.2.2).map (xtg M)) := by cases f <;> rfl
  rw [e]
  refine Ex.callSN (K := fun _ σ => (K σ.2.2).map (xtg M)) hd hM.1 hl1 hM.2.1 hM.2.2 hroom hst hr8 hargs (Or.inl ?_) h1 ?_
  · intro v σ1 h
    cases f with
    | none => cases h
    | some r => cases h; rfl
  · intro v σ1 h
    cases f with
    | none => cases h
    | some r =>
      obtain ⟨r1, I1⟩ := r
      have h : some (xtg M' (r1, I1)) = some (v, σ1) := h
      unfold xtg at h
      rw [hT] at h
      cases h
      exact h2 I1
end EY

theorem sg_0 : sp06[0]? = some (.inl 6) := rfl
theorem sg_1 : sp06[1]? = some (.inl 1) := rfl
theorem sg_2 : sp06[2]? = some (.inr (.int, 192)) := rfl
theorem sg_3 : sp06[3]? = some (.inr (.int, 192)) := rfl
theorem sg_4 : sp06[4]? = some (.inr (.int, 82)) := rfl
theorem sg_5 : sp06[5]? = some (.inr (.int, 82)) := rfl
theorem fg_1_0 : FF04 1 0 = some 2 := by decide +kernel
theorem fg_1_1 : FF04 1 1 = some 3 := by decide +kernel
theorem fg_1_2 : FF04 1 2 = some 4 := by decide +kernel
theorem fg_1_3 : FF04 1 3 = some 5 := by decide +kernel
theorem tg_X6_isEdge (l0 : Int32) (I : xI) : Eg none mX6_isEdge 0 [some (.inl l0)] [] I (f_X6_isEdge l0 I) := by
  unfold f_X6_isEdge
  refine Ex.iload_n (M := mX6_isEdge) (pc2 := 1) dX6_isEdge_0 rfl rfl rfl ?_
  refine Eg.if_lt (M := mX6_isEdge) (tgt := 14) (pc2 := 4) dX6_isEdge_1 rfl (fun _ => ?_) rfl (fun _ => ?_)
  · refine Ex.iconst (M := mX6_isEdge) (pc2 := 15) dX6_isEdge_14 ki_0 rfl ?_
    exact Eg.ireturn (M := mX6_isEdge) dX6_isEdge_15 rfl (by decide)
  · refine Ex.iload_n (M := mX6_isEdge) (pc2 := 5) dX6_isEdge_4 rfl rfl rfl ?_
    refine Ex.bipush (M := mX6_isEdge) (pc2 := 7) dX6_isEdge_5 kb_82 rfl ?_
    refine Eg.icmp_ge (M := mX6_isEdge) (tgt := 14) (pc2 := 10) dX6_isEdge_7 rfl (fun _ => ?_) rfl (fun _ => ?_)
    · refine Ex.iconst (M := mX6_isEdge) (pc2 := 15) dX6_isEdge_14 ki_0 rfl ?_
      exact Eg.ireturn (M := mX6_isEdge) dX6_isEdge_15 rfl (by decide)
    · refine Ex.iconst (M := mX6_isEdge) (pc2 := 11) dX6_isEdge_10 ki_1 rfl ?_
      refine Ex.goto (M := mX6_isEdge) (tgt := 15) dX6_isEdge_11 rfl ?_
      exact Eg.ireturn (M := mX6_isEdge) dX6_isEdge_15 rfl (by decide)
theorem tg_X6_isField (l0 : Int32) (I : xI) : Eg none mX6_isField 0 [some (.inl l0)] [] I (f_X6_isField l0 I) := by
  unfold f_X6_isField
  refine Ex.iload_n (M := mX6_isField) (pc2 := 1) dX6_isField_0 rfl rfl rfl ?_
  refine Eg.if_lt (M := mX6_isField) (tgt := 14) (pc2 := 4) dX6_isField_1 rfl (fun _ => ?_) rfl (fun _ => ?_)
  · refine Ex.iconst (M := mX6_isField) (pc2 := 15) dX6_isField_14 ki_0 rfl ?_
    exact Eg.ireturn (M := mX6_isField) dX6_isField_15 rfl (by decide)
  · refine Ex.iload_n (M := mX6_isField) (pc2 := 5) dX6_isField_4 rfl rfl rfl ?_
    refine Ex.bipush (M := mX6_isField) (pc2 := 7) dX6_isField_5 kb_48 rfl ?_
    refine Eg.icmp_ge (M := mX6_isField) (tgt := 14) (pc2 := 10) dX6_isField_7 rfl (fun _ => ?_) rfl (fun _ => ?_)
    · refine Ex.iconst (M := mX6_isField) (pc2 := 15) dX6_isField_14 ki_0 rfl ?_
      exact Eg.ireturn (M := mX6_isField) dX6_isField_15 rfl (by decide)
    · refine Ex.iconst (M := mX6_isField) (pc2 := 11) dX6_isField_10 ki_1 rfl ?_
      refine Ex.goto (M := mX6_isField) (tgt := 15) dX6_isField_11 rfl ?_
      exact Eg.ireturn (M := mX6_isField) dX6_isField_15 rfl (by decide)
def f_X1_layEdge_14 (l1 : Int32) (l2 : Int32) (l3 : Int32) (l4 : Int32) (s0 : Int32) (I : xI) : Option (Int32 × xI) :=
  xb (f_X6_isEdge l1 I) (fun r1 I1 => if r1 = 0 then some (0, I1) else xb (f_X6_isField l2 I1) (fun r2 I2 => if r2 = 0 then some (0, I2) else if s0 = 0 then some (0, I2) else xb (f_X6_isField l4 I2) (fun r3 I3 => if r3 ≠ 0 then if xin ((l2 * (4 : Int32)) + l3) 192 then if xin ((l4 * (4 : Int32)) + ((l3 + (2 : Int32)) - (l3 + (2 : Int32)) / (4 : Int32) * (4 : Int32))) 192 then if xin ((l2 * (4 : Int32)) + l3) 192 then if xin ((l4 * (4 : Int32)) + ((l3 + (2 : Int32)) - (l3 + (2 : Int32)) / (4 : Int32) * (4 : Int32))) 192 then if xin l1 82 then if xin l1 82 then some (0, (xup (xup (xup (xup (xup (xup I3 2 (((l2 * (4 : Int32)) + l3).toNatClampNeg) l4) 2 (((l4 * (4 : Int32)) + ((l3 + (2 : Int32)) - (l3 + (2 : Int32)) / (4 : Int32) * (4 : Int32))).toNatClampNeg) l2) 3 (((l2 * (4 : Int32)) + l3).toNatClampNeg) l1) 3 (((l4 * (4 : Int32)) + ((l3 + (2 : Int32)) - (l3 + (2 : Int32)) / (4 : Int32) * (4 : Int32))).toNatClampNeg) l1) 4 l1.toNatClampNeg l2) 5 l1.toNatClampNeg l4)) else none else none else none else none else none else none else some (0, I3))))
theorem tg_X1_layEdge_14 (l1 : Int32) (l2 : Int32) (l3 : Int32) (l4 : Int32) (d5 : Option xV) (d6 : Option xV) (d7 : Option xV) (s0 : Int32) (I : xI) : Eg none mX1_layEdge 14 [some (.inr (some 1)), some (.inl l1), some (.inl l2), some (.inl l3), some (.inl l4), d5, d6, d7] [.inl s0] I (f_X1_layEdge_14 l1 l2 l3 l4 s0 I) := by
  unfold f_X1_layEdge_14
  refine Eg.istore (M := mX1_layEdge) (pc2 := 16) dX1_layEdge_14 (Nat.le_of_ble_eq_true rfl) rfl rfl ?_
  refine Ex.iload_n (M := mX1_layEdge) (pc2 := 17) dX1_layEdge_16 rfl rfl rfl ?_
  refine Eg.callSNi (M := mX1_layEdge) (pc2 := 20) (as := [.inl l1]) (rest := []) rfl dX1_layEdge_17 isX6_isEdge lnX1_34  rfl ⟨(Nat.le_of_ble_eq_true rfl), (Nat.le_of_ble_eq_true rfl)⟩ rfl (Nat.le_of_ble_eq_true rfl) (Nat.le_of_ble_eq_true rfl) (tg_X6_isEdge l1 I) rfl (fun r1 I1 => ?_)
  refine Eg.if_eq (M := mX1_layEdge) (tgt := 43) (pc2 := 23) dX1_layEdge_20 rfl (fun _ => ?_) rfl (fun _ => ?_)
  · exact Eg.ret (M := mX1_layEdge) dX1_layEdge_43 rfl
  · refine Ex.iload_n (M := mX1_layEdge) (pc2 := 24) dX1_layEdge_23 rfl rfl rfl ?_
    refine Eg.callSNi (M := mX1_layEdge) (pc2 := 27) (as := [.inl l2]) (rest := []) rfl dX1_layEdge_24 isX6_isField lnX1_38  rfl ⟨(Nat.le_of_ble_eq_true rfl), (Nat.le_of_ble_eq_true rfl)⟩ rfl (Nat.le_of_ble_eq_true rfl) (Nat.le_of_ble_eq_true rfl) (tg_X6_isField l2 I1) rfl (fun r2 I2 => ?_)
    refine Eg.if_eq (M := mX1_layEdge) (tgt := 43) (pc2 := 30) dX1_layEdge_27 rfl (fun _ => ?_) rfl (fun _ => ?_)
    · exact Eg.ret (M := mX1_layEdge) dX1_layEdge_43 rfl
    · refine Ex.iload (M := mX1_layEdge) (pc2 := 32) dX1_layEdge_30 rfl rfl ?_
      refine Eg.if_eq (M := mX1_layEdge) (tgt := 43) (pc2 := 35) dX1_layEdge_32 rfl (fun _ => ?_) rfl (fun _ => ?_)
      · exact Eg.ret (M := mX1_layEdge) dX1_layEdge_43 rfl
      · refine Ex.iload (M := mX1_layEdge) (pc2 := 37) dX1_layEdge_35 rfl rfl ?_
        refine Eg.callSNi (M := mX1_layEdge) (pc2 := 40) (as := [.inl l4]) (rest := []) rfl dX1_layEdge_37 isX6_isField lnX1_38  rfl ⟨(Nat.le_of_ble_eq_true rfl), (Nat.le_of_ble_eq_true rfl)⟩ rfl (Nat.le_of_ble_eq_true rfl) (Nat.le_of_ble_eq_true rfl) (tg_X6_isField l4 I2) rfl (fun r3 I3 => ?_)
        refine Eg.if_ne (M := mX1_layEdge) (tgt := 44) (pc2 := 43) dX1_layEdge_40 rfl (fun _ => ?_) rfl (fun _ => ?_)
        · refine Ex.iload_n (M := mX1_layEdge) (pc2 := 45) dX1_layEdge_44 rfl rfl rfl ?_
          refine Ex.iconst (M := mX1_layEdge) (pc2 := 46) dX1_layEdge_45 ki_4 rfl ?_
          refine Ex.imul (M := mX1_layEdge) (pc2 := 47) dX1_layEdge_46 rfl ?_
          refine Ex.iload_n (M := mX1_layEdge) (pc2 := 48) dX1_layEdge_47 rfl rfl rfl ?_
          refine Ex.iadd (M := mX1_layEdge) (pc2 := 49) dX1_layEdge_48 rfl ?_
          refine Eg.istore (M := mX1_layEdge) (pc2 := 51) dX1_layEdge_49 (Nat.le_of_ble_eq_true rfl) rfl rfl ?_
          refine Ex.iload (M := mX1_layEdge) (pc2 := 53) dX1_layEdge_51 rfl rfl ?_
          refine Ex.iconst (M := mX1_layEdge) (pc2 := 54) dX1_layEdge_53 ki_4 rfl ?_
          refine Ex.imul (M := mX1_layEdge) (pc2 := 55) dX1_layEdge_54 rfl ?_
          refine Ex.iload_n (M := mX1_layEdge) (pc2 := 56) dX1_layEdge_55 rfl rfl rfl ?_
          refine Ex.iconst (M := mX1_layEdge) (pc2 := 57) dX1_layEdge_56 ki_2 rfl ?_
          refine Ex.iadd (M := mX1_layEdge) (pc2 := 58) dX1_layEdge_57 rfl ?_
          refine Ex.iconst (M := mX1_layEdge) (pc2 := 59) dX1_layEdge_58 ki_4 rfl ?_
          refine Ex.irem (M := mX1_layEdge) (pc2 := 60) dX1_layEdge_59 (by decide) rfl ?_
          refine Ex.iadd (M := mX1_layEdge) (pc2 := 61) dX1_layEdge_60 rfl ?_
          refine Eg.istore (M := mX1_layEdge) (pc2 := 63) dX1_layEdge_61 (Nat.le_of_ble_eq_true rfl) rfl rfl ?_
          refine Ex.aload_n (M := mX1_layEdge) (pc2 := 64) dX1_layEdge_63 rfl rfl rfl ?_
          refine Ex.getR (M := mX1_layEdge) (pc2 := 67) dX1_layEdge_64 xck1 lfX1_9 (Nat.le_of_ble_eq_true rfl) sg_1 rfl fg_1_0 rfl ?_
          refine Ex.iload (M := mX1_layEdge) (pc2 := 69) dX1_layEdge_67 rfl rfl ?_
          refine Ex.iload (M := mX1_layEdge) (pc2 := 71) dX1_layEdge_69 rfl rfl ?_
          refine Eg.guard (fun hz4 => ?_)
          refine Eg.iastore (M := mX1_layEdge) (pc2 := 72) dX1_layEdge_71 sg_2 rfl hz4 rfl ?_
          refine Ex.aload_n (M := mX1_layEdge) (pc2 := 73) dX1_layEdge_72 rfl rfl rfl ?_
          refine Ex.getR (M := mX1_layEdge) (pc2 := 76) dX1_layEdge_73 xck1 lfX1_9 (Nat.le_of_ble_eq_true rfl) sg_1 rfl fg_1_0 rfl ?_
          refine Ex.iload (M := mX1_layEdge) (pc2 := 78) dX1_layEdge_76 rfl rfl ?_
          refine Ex.iload_n (M := mX1_layEdge) (pc2 := 79) dX1_layEdge_78 rfl rfl rfl ?_
          refine Eg.guard (fun hz5 => ?_)
          refine Eg.iastore (M := mX1_layEdge) (pc2 := 80) dX1_layEdge_79 sg_2 rfl hz5 rfl ?_
          refine Ex.aload_n (M := mX1_layEdge) (pc2 := 81) dX1_layEdge_80 rfl rfl rfl ?_
          refine Ex.getR (M := mX1_layEdge) (pc2 := 84) dX1_layEdge_81 xck1 lfX1_15 (Nat.le_of_ble_eq_true rfl) sg_1 rfl fg_1_1 rfl ?_
          refine Ex.iload (M := mX1_layEdge) (pc2 := 86) dX1_layEdge_84 rfl rfl ?_
          refine Ex.iload_n (M := mX1_layEdge) (pc2 := 87) dX1_layEdge_86 rfl rfl rfl ?_
          refine Eg.guard (fun hz6 => ?_)
          refine Eg.iastore (M := mX1_layEdge) (pc2 := 88) dX1_layEdge_87 sg_3 rfl hz6 rfl ?_
          refine Ex.aload_n (M := mX1_layEdge) (pc2 := 89) dX1_layEdge_88 rfl rfl rfl ?_
          refine Ex.getR (M := mX1_layEdge) (pc2 := 92) dX1_layEdge_89 xck1 lfX1_15 (Nat.le_of_ble_eq_true rfl) sg_1 rfl fg_1_1 rfl ?_
          refine Ex.iload (M := mX1_layEdge) (pc2 := 94) dX1_layEdge_92 rfl rfl ?_
          refine Ex.iload_n (M := mX1_layEdge) (pc2 := 95) dX1_layEdge_94 rfl rfl rfl ?_
          refine Eg.guard (fun hz7 => ?_)
          refine Eg.iastore (M := mX1_layEdge) (pc2 := 96) dX1_layEdge_95 sg_3 rfl hz7 rfl ?_
          refine Ex.aload_n (M := mX1_layEdge) (pc2 := 97) dX1_layEdge_96 rfl rfl rfl ?_
          refine Ex.getR (M := mX1_layEdge) (pc2 := 100) dX1_layEdge_97 xck1 lfX1_18 (Nat.le_of_ble_eq_true rfl) sg_1 rfl fg_1_2 rfl ?_
          refine Ex.iload_n (M := mX1_layEdge) (pc2 := 101) dX1_layEdge_100 rfl rfl rfl ?_
          refine Ex.iload_n (M := mX1_layEdge) (pc2 := 102) dX1_layEdge_101 rfl rfl rfl ?_
          refine Eg.guard (fun hz8 => ?_)
          refine Eg.iastore (M := mX1_layEdge) (pc2 := 103) dX1_layEdge_102 sg_4 rfl hz8 rfl ?_
          refine Ex.aload_n (M := mX1_layEdge) (pc2 := 104) dX1_layEdge_103 rfl rfl rfl ?_
          refine Ex.getR (M := mX1_layEdge) (pc2 := 107) dX1_layEdge_104 xck1 lfX1_21 (Nat.le_of_ble_eq_true rfl) sg_1 rfl fg_1_3 rfl ?_
          refine Ex.iload_n (M := mX1_layEdge) (pc2 := 108) dX1_layEdge_107 rfl rfl rfl ?_
          refine Ex.iload (M := mX1_layEdge) (pc2 := 110) dX1_layEdge_108 rfl rfl ?_
          refine Eg.guard (fun hz9 => ?_)
          refine Eg.iastore (M := mX1_layEdge) (pc2 := 111) dX1_layEdge_110 sg_5 rfl hz9 rfl ?_
          exact Eg.ret (M := mX1_layEdge) dX1_layEdge_111 rfl
        · exact Eg.ret (M := mX1_layEdge) dX1_layEdge_43 rfl
def f_X1_layEdge (l1 : Int32) (l2 : Int32) (l3 : Int32) (l4 : Int32) (I : xI) : Option (Int32 × xI) :=
  if l3 < 0 then f_X1_layEdge_14 l1 l2 l3 l4 (0 : Int32) I else if l3 ≥ (4 : Int32) then f_X1_layEdge_14 l1 l2 l3 l4 (0 : Int32) I else f_X1_layEdge_14 l1 l2 l3 l4 (1 : Int32) I
theorem tg_X1_layEdge (l1 : Int32) (l2 : Int32) (l3 : Int32) (l4 : Int32) (I : xI) : Eg none mX1_layEdge 0 [some (.inr (some 1)), some (.inl l1), some (.inl l2), some (.inl l3), some (.inl l4), none, none, none] [] I (f_X1_layEdge l1 l2 l3 l4 I) := by
  unfold f_X1_layEdge
  refine Ex.iload_n (M := mX1_layEdge) (pc2 := 1) dX1_layEdge_0 rfl rfl rfl ?_
  refine Eg.if_lt (M := mX1_layEdge) (tgt := 13) (pc2 := 4) dX1_layEdge_1 rfl (fun _ => ?_) rfl (fun _ => ?_)
  · refine Ex.iconst (M := mX1_layEdge) (pc2 := 14) dX1_layEdge_13 ki_0 rfl ?_
    exact tg_X1_layEdge_14 _ _ _ _ _ _ _ _ _
  · refine Ex.iload_n (M := mX1_layEdge) (pc2 := 5) dX1_layEdge_4 rfl rfl rfl ?_
    refine Ex.iconst (M := mX1_layEdge) (pc2 := 6) dX1_layEdge_5 ki_4 rfl ?_
    refine Eg.icmp_ge (M := mX1_layEdge) (tgt := 13) (pc2 := 9) dX1_layEdge_6 rfl (fun _ => ?_) rfl (fun _ => ?_)
    · refine Ex.iconst (M := mX1_layEdge) (pc2 := 14) dX1_layEdge_13 ki_0 rfl ?_
      exact tg_X1_layEdge_14 _ _ _ _ _ _ _ _ _
    · refine Ex.iconst (M := mX1_layEdge) (pc2 := 10) dX1_layEdge_9 ki_1 rfl ?_
      refine Ex.goto (M := mX1_layEdge) (tgt := 14) dX1_layEdge_10 rfl ?_
      exact tg_X1_layEdge_14 _ _ _ _ _ _ _ _ _
def f_X1_init_88 (k60 : Int32 → Int32 → xI → Option (Int32 × xI)) (l1 : Int32) (l2 : Int32) (I : xI) : Option (Int32 × xI) :=
  if (l2 + (8 : Int32)) ≥ (48 : Int32) then k60 l1 (l2 + 1) I else xb (f_X1_layEdge l1 l2 (2 : Int32) (l2 + (8 : Int32)) I) (fun _ I1 => k60 (l1 + 1) (l2 + 1) I1)
theorem tg_X1_init_88 (k60 : Int32 → Int32 → xI → Option (Int32 × xI)) (hk60 : ∀ (l1 : Int32) (l2 : Int32) (I : xI), Eg none mX1_init 60 [some (.inr (some 1)), some (.inl l1), some (.inl l2)] [] I (k60 l1 l2 I)) (l1 : Int32) (l2 : Int32) (I : xI) : Eg none mX1_init 88 [some (.inr (some 1)), some (.inl l1), some (.inl l2)] [] I (f_X1_init_88 k60 l1 l2 I) := by
  unfold f_X1_init_88
  refine Ex.iload_n (M := mX1_init) (pc2 := 89) dX1_init_88 rfl rfl rfl ?_
  refine Ex.bipush (M := mX1_init) (pc2 := 91) dX1_init_89 kb_8 rfl ?_
  refine Ex.iadd (M := mX1_init) (pc2 := 92) dX1_init_91 rfl ?_
  refine Ex.bipush (M := mX1_init) (pc2 := 94) dX1_init_92 kb_48 rfl ?_
  refine Eg.icmp_ge (M := mX1_init) (tgt := 111) (pc2 := 97) dX1_init_94 rfl (fun _ => ?_) rfl (fun _ => ?_)
  · refine Eg.iinc (M := mX1_init) (pc2 := 114) dX1_init_111 rfl ki_1 (Nat.le_of_ble_eq_true rfl) rfl rfl ?_
    refine Ex.goto (M := mX1_init) (tgt := 60) dX1_init_114 rfl ?_
    exact hk60 _ _ _
  · refine Ex.aload_n (M := mX1_init) (pc2 := 98) dX1_init_97 rfl rfl rfl ?_
    refine Ex.iload_n (M := mX1_init) (pc2 := 99) dX1_init_98 rfl rfl rfl ?_
    refine Ex.iload_n (M := mX1_init) (pc2 := 100) dX1_init_99 rfl rfl rfl ?_
    refine Ex.iconst (M := mX1_init) (pc2 := 101) dX1_init_100 ki_2 rfl ?_
    refine Ex.iload_n (M := mX1_init) (pc2 := 102) dX1_init_101 rfl rfl rfl ?_
    refine Ex.bipush (M := mX1_init) (pc2 := 104) dX1_init_102 kb_8 rfl ?_
    refine Ex.iadd (M := mX1_init) (pc2 := 105) dX1_init_104 rfl ?_
    refine Eg.callVv (M := mX1_init) (pc2 := 108) (as := [.inl l1, .inl l2, .inl (2 : Int32), .inl (l2 + (8 : Int32))]) (rest := []) rfl dX1_init_105 isX1_layEdge lcX1_30 sg_1 rfl rfl ⟨(Nat.le_of_ble_eq_true rfl), (Nat.le_of_ble_eq_true rfl)⟩ rfl (Nat.le_of_ble_eq_true rfl) (Nat.le_of_ble_eq_true rfl) (tg_X1_layEdge l1 l2 (2 : Int32) (l2 + (8 : Int32)) I) rfl (fun I1 => ?_)
    refine Eg.iinc (M := mX1_init) (pc2 := 111) dX1_init_108 rfl ki_1 (Nat.le_of_ble_eq_true rfl) rfl rfl ?_
    refine Eg.iinc (M := mX1_init) (pc2 := 114) dX1_init_111 rfl ki_1 (Nat.le_of_ble_eq_true rfl) rfl rfl ?_
    refine Ex.goto (M := mX1_init) (tgt := 60) dX1_init_114 rfl ?_
    exact hk60 _ _ _
def f_X1_init_60b (k60 : Int32 → Int32 → xI → Option (Int32 × xI)) (l1 : Int32) (l2 : Int32) (I : xI) : Option (Int32 × xI) :=
  if l2 ≥ (48 : Int32) then some (0, I) else if (l2 - l2 / (8 : Int32) * (8 : Int32)) ≥ (7 : Int32) then f_X1_init_88 k60 l1 l2 I else xb (f_X1_layEdge l1 l2 (1 : Int32) (l2 + (1 : Int32)) I) (fun _ I2 => f_X1_init_88 k60 (l1 + 1) l2 I2)
theorem tg_X1_init_60b (k60 : Int32 → Int32 → xI → Option (Int32 × xI)) (hk60 : ∀ (l1 : Int32) (l2 : Int32) (I : xI), Eg none mX1_init 60 [some (.inr (some 1)), some (.inl l1), some (.inl l2)] [] I (k60 l1 l2 I)) (l1 : Int32) (l2 : Int32) (I : xI) : Eg none mX1_init 60 [some (.inr (some 1)), some (.inl l1), some (.inl l2)] [] I (f_X1_init_60b k60 l1 l2 I) := by
  unfold f_X1_init_60b
  refine Ex.iload_n (M := mX1_init) (pc2 := 61) dX1_init_60 rfl rfl rfl ?_
  refine Ex.bipush (M := mX1_init) (pc2 := 63) dX1_init_61 kb_48 rfl ?_
  refine Eg.icmp_ge (M := mX1_init) (tgt := 117) (pc2 := 66) dX1_init_63 rfl (fun _ => ?_) rfl (fun _ => ?_)
  · exact Eg.ret (M := mX1_init) dX1_init_117 rfl
  · refine Ex.iload_n (M := mX1_init) (pc2 := 67) dX1_init_66 rfl rfl rfl ?_
    refine Ex.bipush (M := mX1_init) (pc2 := 69) dX1_init_67 kb_8 rfl ?_
    refine Ex.irem (M := mX1_init) (pc2 := 70) dX1_init_69 (by decide) rfl ?_
    refine Ex.bipush (M := mX1_init) (pc2 := 72) dX1_init_70 kb_7 rfl ?_
    refine Eg.icmp_ge (M := mX1_init) (tgt := 88) (pc2 := 75) dX1_init_72 rfl (fun _ => ?_) rfl (fun _ => ?_)
    · exact tg_X1_init_88 k60 hk60 _ _ _
    · refine Ex.aload_n (M := mX1_init) (pc2 := 76) dX1_init_75 rfl rfl rfl ?_
      refine Ex.iload_n (M := mX1_init) (pc2 := 77) dX1_init_76 rfl rfl rfl ?_
      refine Ex.iload_n (M := mX1_init) (pc2 := 78) dX1_init_77 rfl rfl rfl ?_
      refine Ex.iconst (M := mX1_init) (pc2 := 79) dX1_init_78 ki_1 rfl ?_
      refine Ex.iload_n (M := mX1_init) (pc2 := 80) dX1_init_79 rfl rfl rfl ?_
      refine Ex.iconst (M := mX1_init) (pc2 := 81) dX1_init_80 ki_1 rfl ?_
      refine Ex.iadd (M := mX1_init) (pc2 := 82) dX1_init_81 rfl ?_
      refine Eg.callVv (M := mX1_init) (pc2 := 85) (as := [.inl l1, .inl l2, .inl (1 : Int32), .inl (l2 + (1 : Int32))]) (rest := []) rfl dX1_init_82 isX1_layEdge lcX1_30 sg_1 rfl rfl ⟨(Nat.le_of_ble_eq_true rfl), (Nat.le_of_ble_eq_true rfl)⟩ rfl (Nat.le_of_ble_eq_true rfl) (Nat.le_of_ble_eq_true rfl) (tg_X1_layEdge l1 l2 (1 : Int32) (l2 + (1 : Int32)) I) rfl (fun I2 => ?_)
      refine Eg.iinc (M := mX1_init) (pc2 := 88) dX1_init_85 rfl ki_1 (Nat.le_of_ble_eq_true rfl) rfl rfl ?_
      exact tg_X1_init_88 k60 hk60 _ _ _
def f_X1_init_60 : Nat → Int32 → Int32 → xI → Option (Int32 × xI)
  | 0, _, _, _ => none
  | n + 1, l1, l2, I => f_X1_init_60b (fun l1 l2 I => f_X1_init_60 n l1 l2 I) l1 l2 I
theorem tg_X1_init_60 : ∀ (n : Nat) (l1 : Int32) (l2 : Int32) (I : xI), Eg none mX1_init 60 [some (.inr (some 1)), some (.inl l1), some (.inl l2)] [] I (f_X1_init_60 n l1 l2 I)
  | 0, l1, l2, I => Eg.nil
  | n + 1, l1, l2, I => tg_X1_init_60b (fun l1 l2 I => f_X1_init_60 n l1 l2 I) (fun l1 l2 I => tg_X1_init_60 n l1 l2 I) l1 l2 I
def f_X7_init_103b (k103 : Int32 → xI → Option (Int32 × xI)) (l1 : Int32) (I : xI) : Option (Int32 × xI) :=
  if l1 ≥ (48 : Int32) then some (0, I) else if xin ((94 : Int32) + l1) 742 then k103 (l1 + 1) (xup I 70 (((94 : Int32) + l1).toNatClampNeg) (-5 : Int32)) else none
theorem t_X7_init_103b (k103 : Int32 → xI → Option (Int32 × xI)) (hk103 : ∀ (l1 : Int32) (I : xI), Ey none mX7_init 103 [some (.inr (some 69)), some (.inl l1)] [] I (k103 l1 I)) (l1 : Int32) (I : xI) : Ey none mX7_init 103 [some (.inr (some 69)), some (.inl l1)] [] I (f_X7_init_103b k103 l1 I) := by
  unfold f_X7_init_103b
  refine Ex.iload_n (M := mX7_init) (pc2 := 104) dX7_init_103 rfl rfl rfl ?_
  refine Ex.bipush (M := mX7_init) (pc2 := 106) dX7_init_104 kb_48 rfl ?_
  refine Ey.icmp_ge (M := mX7_init) (tgt := 126) (pc2 := 109) dX7_init_106 rfl (fun _ => ?_) rfl (fun _ => ?_)
  · exact Ey.ret (M := mX7_init) dX7_init_126 rfl
  · refine Ex.aload_n (M := mX7_init) (pc2 := 110) dX7_init_109 rfl rfl rfl ?_
    refine Ex.getR (M := mX7_init) (pc2 := 113) dX7_init_110 xck7 lfX7_7 (Nat.le_of_ble_eq_true rfl) sh_69 rfl ff_69_0 rfl ?_
    refine Ex.bipush (M := mX7_init) (pc2 := 115) dX7_init_113 kb_94 rfl ?_
    refine Ex.iload_n (M := mX7_init) (pc2 := 116) dX7_init_115 rfl rfl rfl ?_
    refine Ex.iadd (M := mX7_init) (pc2 := 117) dX7_init_116 rfl ?_
    refine Ex.bipush (M := mX7_init) (pc2 := 119) dX7_init_117 kb_m5 rfl ?_
    refine Ey.guard (fun hz1 => ?_)
    refine Ey.iastore (M := mX7_init) (pc2 := 120) dX7_init_119 sh_70 rfl hz1 rfl ?_
    refine Ey.iinc (M := mX7_init) (pc2 := 123) dX7_init_120 rfl ki_1 (Nat.le_of_ble_eq_true rfl) rfl rfl ?_
    refine Ex.goto (M := mX7_init) (tgt := 103) dX7_init_123 rfl ?_
    exact hk103 _ _
def f_X7_init_103 : Nat → Int32 → xI → Option (Int32 × xI)
  | 0, _, _ => none
  | n + 1, l1, I => f_X7_init_103b (fun l1 I => f_X7_init_103 n l1 I) l1 I
theorem t_X7_init_103 : ∀ (n : Nat) (l1 : Int32) (I : xI), Ey none mX7_init 103 [some (.inr (some 69)), some (.inl l1)] [] I (f_X7_init_103 n l1 I)
  | 0, l1, I => Ey.nil
  | n + 1, l1, I => t_X7_init_103b (fun l1 I => f_X7_init_103 n l1 I) (fun l1 I => t_X7_init_103 n l1 I) l1 I
section CON
variable {X : Option (Nat × (Nat → Int32))} {M : xM} {pc : Nat} {ls : List (Option xV)} {st : List xV} {sh sh' : List xKd} {F F' : xF} {I I' : xI} {σ : xS} {o : Option (Option Int32 × xS)}
theorem Ex.newc {idx ci N n : Nat} {C0 : String} {T : u_T} (hd : decode (xB M) pc = .ok (.new idx, 3)) (hc : xCk ci C0 T N) (hl1 : Cond.classLink (xY M).cls idx C0 ∈ xWd) (hl2 : Cond.instantiable C0 N ∈ xWd) (hl3 : Cond.initialized C0 ∈ xWd) (hn : sh.length = n) (hs : sh ++ [.inl ci] = sh') (hI : xzr I n = I') (hw1 : st.all (xwv n) = true) (hw2 : ls.all (xwo n) = true) {pc2 : Nat} (hp : pc + 3 = pc2)
    (kk : Ex X M pc2 ls (.inr (some n) :: st) (sh', F, I') o) : Ex X M pc ls st (sh, F, I) o := by
  subst hn; subst hs; subst hI; subst hp
  exact Ex.new hd hc hl1 hl2 hl3 hw1 hw2 kk
theorem Ex.newac {at0 : ArrayType} {ty : FieldType} {x : Int32} {N t0 n : Nat} (hd : decode (xB M) pc = .ok (.newarray at0, 2)) (hty : newarray.typeOf at0 = ty) (hq : (ty = .int ∧ t0 = 0) ∨ (ty = .char ∧ t0 = 1) ∨ (ty = .boolean ∧ t0 = 2)) (hl1 : Cond.arrayClass (newarray.typeOf at0) ∈ xWd) (hx : ¬ x < 0) (hN : x.toNatClampNeg = N) (hb1 : N * 8 ≤ 536870912) (hn : sh.length = n) (hs : sh ++ [.inr (ty, N)] = sh') (hI : xzr I n = I') (hw1 : st.all (xwv n) = true) (hw2 : ls.all (xwo n) = true) {pc2 : Nat} (hp : pc + 2 = pc2)
    (kk : Ex X M pc2 ls (.inr (some n) :: st) (sh', F, I') o) : Ex X M pc ls (.inl x :: st) (sh, F, I) o := by
  subst hn; subst hs; subst hI; subst hp
  exact Ex.newa hd hty hq hl1 hx hN hb1 hw1 hw2 kk
theorem Ex.newqc {idx : Nat} {x : Int32} {N n : Nat} (hd : decode (xB M) pc = .ok (.anewarray idx, 3)) (hl1 : Cond.classLink (xY M).cls idx "FenceDuel$State" ∈ xWd) (hx : ¬ x < 0) (hN : x.toNatClampNeg = N) (hb1 : N * 4 ≤ 536870912) (hn : sh.length = n) (hs : sh ++ [.inr (.object "FenceDuel$State", N)] = sh') (hI : xzr I n = I') (hw1 : st.all (xwv n) = true) (hw2 : ls.all (xwo n) = true) {pc2 : Nat} (hp : pc + 3 = pc2)
    (kk : Ex X M pc2 ls (.inr (some n) :: st) (sh', F, I') o) : Ex X M pc ls (.inl x :: st) (sh, F, I) o := by
  subst hn; subst hs; subst hI; subst hp
  exact Ex.newq hd hl1 hx hN hb1 hw1 hw2 kk
theorem Ex.castI (h : I = I') (k : Ex X M pc ls st (sh, F, I') o) : Ex X M pc ls st (sh, F, I) o := h ▸ k
theorem Ex.castF (h : F = F') (k : Ex X M pc ls st (sh, F', I) o) : Ex X M pc ls st (sh, F, I) o := h ▸ k
theorem Ex.castS (h : sh = sh') (k : Ex X M pc ls st (sh', F, I) o) : Ex X M pc ls st (sh, F, I) o := h ▸ k
theorem Ex.objInitc {idx : Nat} {r : Option Nat} (hd : decode (xB M) pc = .ok (.invokespecial idx, 3)) (hl1 : Cond.methodLink (xY M).cls idx objectInit ∈ xWd) (hf : 1 ≤ xFr M) (hlw : st.length + 12 ≤ xLo M) {pc2 : Nat} (hp : pc + 3 = pc2) (k : Ex X M pc2 ls st σ o) : Ex X M pc ls (.inr r :: st) σ o := by
  subst hp
  exact Ex.objInit hd hl1 wd_oi1 wd_oi2 hf hlw k
theorem Ex.callIc {M' : xM} {idx k n : Nat} {as rest st0 : List xV} {σ1 : xS} (hd : decode (xB M) pc = .ok (.invokespecial idx, 3)) (hM : xIsI M' n) (hl1 : Cond.methodLink (xY M).cls idx (xY M') ∈ xWd) (hn : as.length = n) (hroom : xFr M' + 1 ≤ xFr M ∧ 8 + (xL M' + 11) + xLo M' ≤ xLo M) (hst : st0 = as.reverse ++ .inr (some k) :: rest) (hr8 : rest.length ≤ 8) (hargs : as.length + 1 ≤ xL M') (hw1 : rest.all (xwv σ.1.length) = true) (hw2 : ls.all (xwo σ.1.length) = true)
    (h1 : Ex none M' 0 (xEnt (.inr (some k) :: as) (xL M')) [] σ (some (none, σ1))) {pc2 : Nat} (hp : pc + 3 = pc2) (h2 : Ex X M pc2 ls rest σ1 o) : Ex X M pc ls st0 σ o := by
  subst hn; subst hp
  exact Ex.callI (o1 := some (none, σ1)) (K := fun _ _ => o) hd hM.1 hM.2.1 hl1 hM.2.2.1 hM.2.2.2.1 hM.2.2.2.2 hroom hst hr8 hargs (Or.inr ⟨hw1, hw2⟩) h1 (fun v σ2 h => by cases h; exact h2)
theorem Ex.callINc {M' : xM} {host : String} {idx k n : Nat} {as rest st0 : List xV} {σ1 : xS} (hd : decode (xB M) pc = .ok (.invokespecial idx, 3)) (hM : xIsI M' n) (hl1 : Cond.methodLinkNest (xY M).cls idx (xY M') host ∈ xNw) (hn : as.length = n) (hroom : xFr M' + 1 ≤ xFr M ∧ 8 + (xL M' + 11) + xLo M' ≤ xLo M) (hst : st0 = as.reverse ++ .inr (some k) :: rest) (hr8 : rest.length ≤ 8) (hargs : as.length + 1 ≤ xL M') (hw1 : rest.all (xwv σ.1.length) = true) (hw2 : ls.all (xwo σ.1.length) = true)
    (h1 : Ex none M' 0 (xEnt (.inr (some k) :: as) (xL M')) [] σ (some (none, σ1))) {pc2 : Nat} (hp : pc + 3 = pc2) (h2 : Ex X M pc2 ls rest σ1 o) : Ex X M pc ls st0 σ o := by
  subst hn; subst hp
  exact Ex.callIN (o1 := some (none, σ1)) (K := fun _ _ => o) hd hM.1 hM.2.1 hl1 hM.2.2.1 hM.2.2.2.1 hM.2.2.2.2 hroom hst hr8 hargs (Or.inr ⟨hw1, hw2⟩) h1 (fun v σ2 h => by cases h; exact h2)
theorem Ex.callSc {M' : xM} {idx n : Nat} {as rest st0 : List xV} {σ1 : xS} (hd : decode (xB M) pc = .ok (.invokestatic idx, 3)) (hM : xIsS M' n) (hl1 : Cond.methodLink (xY M).cls idx (xY M') ∈ xWd) (hn : as.length = n) (hroom : xFr M' + 1 ≤ xFr M ∧ 8 + (xL M' + 11) + xLo M' ≤ xLo M) (hst : st0 = as.reverse ++ rest) (hr8 : rest.length ≤ 8) (hargs : as.length ≤ xL M') (hw1 : rest.all (xwv σ.1.length) = true) (hw2 : ls.all (xwo σ.1.length) = true)
    (h1 : Ex none M' 0 (xEnt as (xL M')) [] σ (some (none, σ1))) {pc2 : Nat} (hp : pc + 3 = pc2) (h2 : Ex X M pc2 ls rest σ1 o) : Ex X M pc ls st0 σ o := by
  subst hn; subst hp
  exact Ex.callS (o1 := some (none, σ1)) (K := fun _ _ => o) hd hM.1 hl1 hM.2.1 hM.2.2 hroom hst hr8 hargs (Or.inr ⟨hw1, hw2⟩) h1 (fun v σ2 h => by cases h; exact h2)
end CON
def IC000 : xI := fun _ _ => 0
theorem xSm {f : Option (Int32 × xI)} {I0 : xI} (h : f.isSome = true) (h0 : (match f with | some r => r.1 | none => 0) = 0) : f = some (0, match f with | some r => r.2 | none => I0) := by
  cases f with
  | none => cases h
  | some r =>
    obtain ⟨a, b⟩ := r
    have h0 : a = 0 := h0
    subst h0
    rfl
def IC001 : xI := xzr IC000 0
def IC002 : xI := xzr IC001 1
def IC003 : xI := xzr IC002 2
def IC004 : xI := xzr IC003 3
def IC005 : xI := xzr IC004 4
def IC006 : xI := xzr IC005 5
def IC007 : xI := xfill IC006 2 192 (-5 : Int32)
def IC008 : xI := xfill IC007 3 192 (-5 : Int32)
def IC009 : xI := match f_X1_init_60 xZ 0 0 IC008 with | some r => r.2 | none => IC008
set_option maxRecDepth 100000 in
theorem con_X1 : f_X1_init_60 xZ 0 0 IC008 = some (0, IC009) := xSm (I0 := IC008) (by decide +kernel) (by decide +kernel)
theorem xGl {I I2 : xI} {f : Option (Int32 × xI)} {ls : List (Option xV)} (h : f = some (0, I2)) (k : Eg none mX1_init 60 ls [] I f) : Ex none mX1_init 60 ls [] (sp06, FF04, I) (some (none, (sp06, FF04, I2))) := by
  subst h
  exact k
theorem c_X1_init_1 : Ex none mX1_init 0 [some (.inr (some 1)), none, none] [] (sp02, FF00, IC002) (some (none, (sp06, FF04, IC009))) := by
  refine Ex.aload_n (M := mX1_init) (pc2 := 1) dX1_init_0 rfl rfl rfl ?_
  refine Ex.objInitc (M := mX1_init) (pc2 := 4) dX1_init_1 lcX1_3 (Nat.le_of_ble_eq_true rfl) (Nat.le_of_ble_eq_true rfl) rfl ?_
  refine Ex.aload_n (M := mX1_init) (pc2 := 5) dX1_init_4 rfl rfl rfl ?_
  refine Ex.sipush (M := mX1_init) (pc2 := 8) dX1_init_5 ks_192 rfl ?_
  refine Ex.newac (M := mX1_init) (n := 2) (sh' := sp03) (I' := IC003) (pc2 := 10) dX1_init_8 rfl (Or.inl ⟨rfl, rfl⟩) wd_ar_int (by decide) kn_192 (by decide) rfl rfl rfl rfl rfl rfl ?_
  refine Ex.putR (M := mX1_init) (pc2 := 13) dX1_init_10 xck1 lfX1_9 (Nat.le_of_ble_eq_true rfl) rfl rfl rfl rfl rfl rfl rfl ?_
  refine Ex.castF (F' := FF01) rfl ?_
  refine Ex.aload_n (M := mX1_init) (pc2 := 14) dX1_init_13 rfl rfl rfl ?_
  refine Ex.sipush (M := mX1_init) (pc2 := 17) dX1_init_14 ks_192 rfl ?_
  refine Ex.newac (M := mX1_init) (n := 3) (sh' := sp04) (I' := IC004) (pc2 := 19) dX1_init_17 rfl (Or.inl ⟨rfl, rfl⟩) wd_ar_int (by decide) kn_192 (by decide) rfl rfl rfl rfl rfl rfl ?_
  refine Ex.putR (M := mX1_init) (pc2 := 22) dX1_init_19 xck1 lfX1_15 (Nat.le_of_ble_eq_true rfl) rfl rfl rfl rfl rfl rfl rfl ?_
  refine Ex.castF (F' := FF02) rfl ?_
  refine Ex.aload_n (M := mX1_init) (pc2 := 23) dX1_init_22 rfl rfl rfl ?_
  refine Ex.bipush (M := mX1_init) (pc2 := 25) dX1_init_23 kb_82 rfl ?_
  refine Ex.newac (M := mX1_init) (n := 4) (sh' := sp05) (I' := IC005) (pc2 := 27) dX1_init_25 rfl (Or.inl ⟨rfl, rfl⟩) wd_ar_int (by decide) kn_82 (by decide) rfl rfl rfl rfl rfl rfl ?_
  refine Ex.putR (M := mX1_init) (pc2 := 30) dX1_init_27 xck1 lfX1_18 (Nat.le_of_ble_eq_true rfl) rfl rfl rfl rfl rfl rfl rfl ?_
  refine Ex.castF (F' := FF03) rfl ?_
  refine Ex.aload_n (M := mX1_init) (pc2 := 31) dX1_init_30 rfl rfl rfl ?_
  refine Ex.bipush (M := mX1_init) (pc2 := 33) dX1_init_31 kb_82 rfl ?_
  refine Ex.newac (M := mX1_init) (n := 5) (sh' := sp06) (I' := IC006) (pc2 := 35) dX1_init_33 rfl (Or.inl ⟨rfl, rfl⟩) wd_ar_int (by decide) kn_82 (by decide) rfl rfl rfl rfl rfl rfl ?_
  refine Ex.putR (M := mX1_init) (pc2 := 38) dX1_init_35 xck1 lfX1_21 (Nat.le_of_ble_eq_true rfl) rfl rfl rfl rfl rfl rfl rfl ?_
  refine Ex.castF (F' := FF04) rfl ?_
  refine Ex.aload_n (M := mX1_init) (pc2 := 39) dX1_init_38 rfl rfl rfl ?_
  refine Ex.getR (M := mX1_init) (pc2 := 42) (r := 2) dX1_init_39 xck1 lfX1_9 (Nat.le_of_ble_eq_true rfl) rfl rfl rfl rfl ?_
  refine Ex.bipush (M := mX1_init) (pc2 := 44) dX1_init_42 kb_m5 rfl ?_
  refine Ex.callSc (M := mX1_init) (M' := mJ7_fill_53178) (as := [.inr (some 2), .inl (-5 : Int32)]) (rest := []) (σ1 := (sp06, FF04, IC007)) (pc2 := 47) dX1_init_44 isJ7_fill_53178 lcX1_24 rfl ⟨(Nat.le_of_ble_eq_true rfl), (Nat.le_of_ble_eq_true rfl)⟩ rfl (Nat.le_of_ble_eq_true rfl) (Nat.le_of_ble_eq_true rfl) rfl rfl (ex_fill (n := 192) rfl (by decide)) rfl ?_
  refine Ex.aload_n (M := mX1_init) (pc2 := 48) dX1_init_47 rfl rfl rfl ?_
  refine Ex.getR (M := mX1_init) (pc2 := 51) (r := 3) dX1_init_48 xck1 lfX1_15 (Nat.le_of_ble_eq_true rfl) rfl rfl rfl rfl ?_
  refine Ex.bipush (M := mX1_init) (pc2 := 53) dX1_init_51 kb_m5 rfl ?_
  refine Ex.callSc (M := mX1_init) (M' := mJ7_fill_53178) (as := [.inr (some 3), .inl (-5 : Int32)]) (rest := []) (σ1 := (sp06, FF04, IC008)) (pc2 := 56) dX1_init_53 isJ7_fill_53178 lcX1_24 rfl ⟨(Nat.le_of_ble_eq_true rfl), (Nat.le_of_ble_eq_true rfl)⟩ rfl (Nat.le_of_ble_eq_true rfl) (Nat.le_of_ble_eq_true rfl) rfl rfl (ex_fill (n := 192) rfl (by decide)) rfl ?_
  refine Ex.iconst (M := mX1_init) (pc2 := 57) dX1_init_56 ki_0 rfl ?_
  refine Ex.istore_n (M := mX1_init) (pc2 := 58) dX1_init_57 rfl (Nat.le_of_ble_eq_true rfl) rfl ?_
  refine Ex.iconst (M := mX1_init) (pc2 := 59) dX1_init_58 ki_0 rfl ?_
  refine Ex.istore_n (M := mX1_init) (pc2 := 60) dX1_init_59 rfl (Nat.le_of_ble_eq_true rfl) rfl ?_
  refine xGl ?_ (tg_X1_init_60 xZ 0 0 IC008)
  exact con_X1
def IC010 : xI := xzr IC009 6
def IC011 : xI := xzr IC010 7
def IC012 : xI := xzr IC011 8
def IC013 : xI := xzr IC012 9
def IC014 : xI := xzr IC013 10
def IC015 : xI := xzr IC014 11
theorem c_X4_init_1 : Ex none mX4_init 0 [some (.inr (some 6)), some (.inr (some 1))] [] (sp07, FF05, IC010) (some (none, (sp12, FF11, IC015))) := by
  refine Ex.aload_n (M := mX4_init) (pc2 := 1) dX4_init_0 rfl rfl rfl ?_
  refine Ex.objInitc (M := mX4_init) (pc2 := 4) dX4_init_1 lcX4_3 (Nat.le_of_ble_eq_true rfl) (Nat.le_of_ble_eq_true rfl) rfl ?_
  refine Ex.aload_n (M := mX4_init) (pc2 := 5) dX4_init_4 rfl rfl rfl ?_
  refine Ex.bipush (M := mX4_init) (pc2 := 7) dX4_init_5 kb_48 rfl ?_
  refine Ex.newac (M := mX4_init) (n := 7) (sh' := sp08) (I' := IC011) (pc2 := 9) dX4_init_7 rfl (Or.inl ⟨rfl, rfl⟩) wd_ar_int (by decide) kn_48 (by decide) rfl rfl rfl rfl rfl rfl ?_
  refine Ex.putR (M := mX4_init) (pc2 := 12) dX4_init_9 xck4 lfX4_9 (Nat.le_of_ble_eq_true rfl) rfl rfl rfl rfl rfl rfl rfl ?_
  refine Ex.castF (F' := FF06) rfl ?_
  refine Ex.aload_n (M := mX4_init) (pc2 := 13) dX4_init_12 rfl rfl rfl ?_
  refine Ex.bipush (M := mX4_init) (pc2 := 15) dX4_init_13 kb_48 rfl ?_
  refine Ex.newac (M := mX4_init) (n := 8) (sh' := sp09) (I' := IC012) (pc2 := 17) dX4_init_15 rfl (Or.inl ⟨rfl, rfl⟩) wd_ar_int (by decide) kn_48 (by decide) rfl rfl rfl rfl rfl rfl ?_
  refine Ex.putR (M := mX4_init) (pc2 := 20) dX4_init_17 xck4 lfX4_15 (Nat.le_of_ble_eq_true rfl) rfl rfl rfl rfl rfl rfl rfl ?_
  refine Ex.castF (F' := FF07) rfl ?_
  refine Ex.aload_n (M := mX4_init) (pc2 := 21) dX4_init_20 rfl rfl rfl ?_
  refine Ex.bipush (M := mX4_init) (pc2 := 23) dX4_init_21 kb_48 rfl ?_
  refine Ex.newac (M := mX4_init) (n := 9) (sh' := sp10) (I' := IC013) (pc2 := 25) dX4_init_23 rfl (Or.inl ⟨rfl, rfl⟩) wd_ar_int (by decide) kn_48 (by decide) rfl rfl rfl rfl rfl rfl ?_
  refine Ex.putR (M := mX4_init) (pc2 := 28) dX4_init_25 xck4 lfX4_18 (Nat.le_of_ble_eq_true rfl) rfl rfl rfl rfl rfl rfl rfl ?_
  refine Ex.castF (F' := FF08) rfl ?_
  refine Ex.aload_n (M := mX4_init) (pc2 := 29) dX4_init_28 rfl rfl rfl ?_
  refine Ex.bipush (M := mX4_init) (pc2 := 31) dX4_init_29 kb_48 rfl ?_
  refine Ex.newac (M := mX4_init) (n := 10) (sh' := sp11) (I' := IC014) (pc2 := 33) dX4_init_31 rfl (Or.inl ⟨rfl, rfl⟩) wd_ar_int (by decide) kn_48 (by decide) rfl rfl rfl rfl rfl rfl ?_
  refine Ex.putR (M := mX4_init) (pc2 := 36) dX4_init_33 xck4 lfX4_21 (Nat.le_of_ble_eq_true rfl) rfl rfl rfl rfl rfl rfl rfl ?_
  refine Ex.castF (F' := FF09) rfl ?_
  refine Ex.aload_n (M := mX4_init) (pc2 := 37) dX4_init_36 rfl rfl rfl ?_
  refine Ex.bipush (M := mX4_init) (pc2 := 39) dX4_init_37 kb_48 rfl ?_
  refine Ex.newac (M := mX4_init) (n := 11) (sh' := sp12) (I' := IC015) (pc2 := 41) dX4_init_39 rfl (Or.inl ⟨rfl, rfl⟩) wd_ar_int (by decide) kn_48 (by decide) rfl rfl rfl rfl rfl rfl ?_
  refine Ex.putR (M := mX4_init) (pc2 := 44) dX4_init_41 xck4 lfX4_24 (Nat.le_of_ble_eq_true rfl) rfl rfl rfl rfl rfl rfl rfl ?_
  refine Ex.castF (F' := FF10) rfl ?_
  refine Ex.aload_n (M := mX4_init) (pc2 := 45) dX4_init_44 rfl rfl rfl ?_
  refine Ex.aload_n (M := mX4_init) (pc2 := 46) dX4_init_45 rfl rfl rfl ?_
  refine Ex.putR (M := mX4_init) (pc2 := 49) dX4_init_46 xck4 lfX4_27 (Nat.le_of_ble_eq_true rfl) rfl rfl rfl rfl rfl rfl rfl ?_
  refine Ex.castF (F' := FF11) rfl ?_
  exact Ex.ret dX4_init_49 rfl
def IC016 : xI := xzr IC015 12
theorem c_X3_init_1 : Ex none mX3_init 0 [some (.inr (some 12)), some (.inr (some 1)), some (.inr (some 6))] [] (sp13, FF12, IC016) (some (none, (sp13, FF14, IC016))) := by
  refine Ex.aload_n (M := mX3_init) (pc2 := 1) dX3_init_0 rfl rfl rfl ?_
  refine Ex.objInitc (M := mX3_init) (pc2 := 4) dX3_init_1 lcX3_3 (Nat.le_of_ble_eq_true rfl) (Nat.le_of_ble_eq_true rfl) rfl ?_
  refine Ex.aload_n (M := mX3_init) (pc2 := 5) dX3_init_4 rfl rfl rfl ?_
  refine Ex.aload_n (M := mX3_init) (pc2 := 6) dX3_init_5 rfl rfl rfl ?_
  refine Ex.putR (M := mX3_init) (pc2 := 9) dX3_init_6 xck3 lfX3_9 (Nat.le_of_ble_eq_true rfl) rfl rfl rfl rfl rfl rfl rfl ?_
  refine Ex.castF (F' := FF13) rfl ?_
  refine Ex.aload_n (M := mX3_init) (pc2 := 10) dX3_init_9 rfl rfl rfl ?_
  refine Ex.aload_n (M := mX3_init) (pc2 := 11) dX3_init_10 rfl rfl rfl ?_
  refine Ex.putR (M := mX3_init) (pc2 := 14) dX3_init_11 xck3 lfX3_15 (Nat.le_of_ble_eq_true rfl) rfl rfl rfl rfl rfl rfl rfl ?_
  refine Ex.castF (F' := FF14) rfl ?_
  exact Ex.ret dX3_init_14 rfl
def IC017 : xI := xzr IC016 13
def IC018 : xI := xzr IC017 14
def IC019 : xI := xzr IC018 15
def IC020 : xI := xzr IC019 16
def IC021 : xI := xzr IC020 17
def IC022 : xI := xzr IC021 18
theorem c_X0_init_1 : Ex none mX0_init 0 [some (.inr (some 13))] [] (sp14, FF15, IC017) (some (none, (sp19, FF20, IC022))) := by
  refine Ex.aload_n (M := mX0_init) (pc2 := 1) dX0_init_0 rfl rfl rfl ?_
  refine Ex.objInitc (M := mX0_init) (pc2 := 4) dX0_init_1 lcX0_3 (Nat.le_of_ble_eq_true rfl) (Nat.le_of_ble_eq_true rfl) rfl ?_
  refine Ex.aload_n (M := mX0_init) (pc2 := 5) dX0_init_4 rfl rfl rfl ?_
  refine Ex.bipush (M := mX0_init) (pc2 := 7) dX0_init_5 kb_60 rfl ?_
  refine Ex.newac (M := mX0_init) (n := 14) (sh' := sp15) (I' := IC018) (pc2 := 9) dX0_init_7 rfl (Or.inr (Or.inl ⟨rfl, rfl⟩)) wd_ar_char (by decide) kn_60 (by decide) rfl rfl rfl rfl rfl rfl ?_
  refine Ex.putR (M := mX0_init) (pc2 := 12) dX0_init_9 xck0 lfX0_9 (Nat.le_of_ble_eq_true rfl) rfl rfl rfl rfl rfl rfl rfl ?_
  refine Ex.castF (F' := FF16) rfl ?_
  refine Ex.aload_n (M := mX0_init) (pc2 := 13) dX0_init_12 rfl rfl rfl ?_
  refine Ex.bipush (M := mX0_init) (pc2 := 15) dX0_init_13 kb_60 rfl ?_
  refine Ex.newac (M := mX0_init) (n := 15) (sh' := sp16) (I' := IC019) (pc2 := 17) dX0_init_15 rfl (Or.inl ⟨rfl, rfl⟩) wd_ar_int (by decide) kn_60 (by decide) rfl rfl rfl rfl rfl rfl ?_
  refine Ex.putR (M := mX0_init) (pc2 := 20) dX0_init_17 xck0 lfX0_15 (Nat.le_of_ble_eq_true rfl) rfl rfl rfl rfl rfl rfl rfl ?_
  refine Ex.castF (F' := FF17) rfl ?_
  refine Ex.aload_n (M := mX0_init) (pc2 := 21) dX0_init_20 rfl rfl rfl ?_
  refine Ex.bipush (M := mX0_init) (pc2 := 23) dX0_init_21 kb_60 rfl ?_
  refine Ex.newac (M := mX0_init) (n := 16) (sh' := sp17) (I' := IC020) (pc2 := 25) dX0_init_23 rfl (Or.inl ⟨rfl, rfl⟩) wd_ar_int (by decide) kn_60 (by decide) rfl rfl rfl rfl rfl rfl ?_
  refine Ex.putR (M := mX0_init) (pc2 := 28) dX0_init_25 xck0 lfX0_19 (Nat.le_of_ble_eq_true rfl) rfl rfl rfl rfl rfl rfl rfl ?_
  refine Ex.castF (F' := FF18) rfl ?_
  refine Ex.aload_n (M := mX0_init) (pc2 := 29) dX0_init_28 rfl rfl rfl ?_
  refine Ex.bipush (M := mX0_init) (pc2 := 31) dX0_init_29 kb_60 rfl ?_
  refine Ex.newac (M := mX0_init) (n := 17) (sh' := sp18) (I' := IC021) (pc2 := 33) dX0_init_31 rfl (Or.inl ⟨rfl, rfl⟩) wd_ar_int (by decide) kn_60 (by decide) rfl rfl rfl rfl rfl rfl ?_
  refine Ex.putR (M := mX0_init) (pc2 := 36) dX0_init_33 xck0 lfX0_22 (Nat.le_of_ble_eq_true rfl) rfl rfl rfl rfl rfl rfl rfl ?_
  refine Ex.castF (F' := FF19) rfl ?_
  refine Ex.aload_n (M := mX0_init) (pc2 := 37) dX0_init_36 rfl rfl rfl ?_
  refine Ex.bipush (M := mX0_init) (pc2 := 39) dX0_init_37 kb_60 rfl ?_
  refine Ex.newac (M := mX0_init) (n := 18) (sh' := sp19) (I' := IC022) (pc2 := 41) dX0_init_39 rfl (Or.inl ⟨rfl, rfl⟩) wd_ar_int (by decide) kn_60 (by decide) rfl rfl rfl rfl rfl rfl ?_
  refine Ex.putR (M := mX0_init) (pc2 := 44) dX0_init_41 xck0 lfX0_25 (Nat.le_of_ble_eq_true rfl) rfl rfl rfl rfl rfl rfl rfl ?_
  refine Ex.castF (F' := FF20) rfl ?_
  exact Ex.ret dX0_init_44 rfl
def IC023 : xI := xzr IC022 19
def IC024 : xI := xzr IC023 20
def IC025 : xI := xzr IC024 21
def IC026 : xI := xup IC025 21 3 (-5 : Int32)
def IC027 : xI := xzr IC026 22
def IC028 : xI := xup IC027 22 0 (3 : Int32)
def IC029 : xI := xup IC028 22 1 (9 : Int32)
def IC030 : xI := xzr IC029 23
def IC031 : xI := xzr IC030 24
def IC032 : xI := xzr IC031 25
def IC033 : xI := xzr IC032 26
def IC034 : xI := xfill IC033 25 48 (-5 : Int32)
theorem c_X5_init_1 : Ex none mX5_init 0 [some (.inr (some 21))] [] (sp22, FF21, IC025) (some (none, (sp27, FF26, IC034))) := by
  refine Ex.aload_n (M := mX5_init) (pc2 := 1) dX5_init_0 rfl rfl rfl ?_
  refine Ex.objInitc (M := mX5_init) (pc2 := 4) dX5_init_1 lcX5_3 (Nat.le_of_ble_eq_true rfl) (Nat.le_of_ble_eq_true rfl) rfl ?_
  refine Ex.aload_n (M := mX5_init) (pc2 := 5) dX5_init_4 rfl rfl rfl ?_
  refine Ex.bipush (M := mX5_init) (pc2 := 7) dX5_init_5 kb_m5 rfl ?_
  refine Ex.putI (M := mX5_init) (pc2 := 10) dX5_init_7 xck5 lfX5_9 (Nat.le_of_ble_eq_true rfl) rfl rfl rfl ⟨rfl, rfl⟩ rfl ?_
  refine Ex.castI (I' := IC026) rfl ?_
  refine Ex.aload_n (M := mX5_init) (pc2 := 11) dX5_init_10 rfl rfl rfl ?_
  refine Ex.iconst (M := mX5_init) (pc2 := 12) dX5_init_11 ki_2 rfl ?_
  refine Ex.newac (M := mX5_init) (n := 22) (sh' := sp23) (I' := IC027) (pc2 := 14) dX5_init_12 rfl (Or.inl ⟨rfl, rfl⟩) wd_ar_int (by decide) kn_2 (by decide) rfl rfl rfl rfl rfl rfl ?_
  refine Ex.dup (M := mX5_init) (pc2 := 15) dX5_init_14 rfl ?_
  refine Ex.iconst (M := mX5_init) (pc2 := 16) dX5_init_15 ki_0 rfl ?_
  refine Ex.iconst (M := mX5_init) (pc2 := 17) dX5_init_16 ki_3 rfl ?_
  refine Ex.iastore (M := mX5_init) (pc2 := 18) dX5_init_17 rfl (by decide) rfl ?_
  refine Ex.castI (I' := IC028) (by rw [kn_0]; rfl) ?_
  refine Ex.dup (M := mX5_init) (pc2 := 19) dX5_init_18 rfl ?_
  refine Ex.iconst (M := mX5_init) (pc2 := 20) dX5_init_19 ki_1 rfl ?_
  refine Ex.bipush (M := mX5_init) (pc2 := 22) dX5_init_20 kb_9 rfl ?_
  refine Ex.iastore (M := mX5_init) (pc2 := 23) dX5_init_22 rfl (by decide) rfl ?_
  refine Ex.castI (I' := IC029) (by rw [kn_1]; rfl) ?_
  refine Ex.putR (M := mX5_init) (pc2 := 26) dX5_init_23 xck5 lfX5_15 (Nat.le_of_ble_eq_true rfl) rfl rfl rfl rfl rfl rfl rfl ?_
  refine Ex.castF (F' := FF22) rfl ?_
  refine Ex.aload_n (M := mX5_init) (pc2 := 27) dX5_init_26 rfl rfl rfl ?_
  refine Ex.iconst (M := mX5_init) (pc2 := 28) dX5_init_27 ki_2 rfl ?_
  refine Ex.newac (M := mX5_init) (n := 23) (sh' := sp24) (I' := IC030) (pc2 := 30) dX5_init_28 rfl (Or.inl ⟨rfl, rfl⟩) wd_ar_int (by decide) kn_2 (by decide) rfl rfl rfl rfl rfl rfl ?_
  refine Ex.putR (M := mX5_init) (pc2 := 33) dX5_init_30 xck5 lfX5_19 (Nat.le_of_ble_eq_true rfl) rfl rfl rfl rfl rfl rfl rfl ?_
  refine Ex.castF (F' := FF23) rfl ?_
  refine Ex.aload_n (M := mX5_init) (pc2 := 34) dX5_init_33 rfl rfl rfl ?_
  refine Ex.bipush (M := mX5_init) (pc2 := 36) dX5_init_34 kb_82 rfl ?_
  refine Ex.newac (M := mX5_init) (n := 24) (sh' := sp25) (I' := IC031) (pc2 := 38) dX5_init_36 rfl (Or.inl ⟨rfl, rfl⟩) wd_ar_int (by decide) kn_82 (by decide) rfl rfl rfl rfl rfl rfl ?_
  refine Ex.putR (M := mX5_init) (pc2 := 41) dX5_init_38 xck5 lfX5_22 (Nat.le_of_ble_eq_true rfl) rfl rfl rfl rfl rfl rfl rfl ?_
  refine Ex.castF (F' := FF24) rfl ?_
  refine Ex.aload_n (M := mX5_init) (pc2 := 42) dX5_init_41 rfl rfl rfl ?_
  refine Ex.bipush (M := mX5_init) (pc2 := 44) dX5_init_42 kb_48 rfl ?_
  refine Ex.newac (M := mX5_init) (n := 25) (sh' := sp26) (I' := IC032) (pc2 := 46) dX5_init_44 rfl (Or.inl ⟨rfl, rfl⟩) wd_ar_int (by decide) kn_48 (by decide) rfl rfl rfl rfl rfl rfl ?_
  refine Ex.putR (M := mX5_init) (pc2 := 49) dX5_init_46 xck5 lfX5_25 (Nat.le_of_ble_eq_true rfl) rfl rfl rfl rfl rfl rfl rfl ?_
  refine Ex.castF (F' := FF25) rfl ?_
  refine Ex.aload_n (M := mX5_init) (pc2 := 50) dX5_init_49 rfl rfl rfl ?_
  refine Ex.sipush (M := mX5_init) (pc2 := 53) dX5_init_50 ks_600 rfl ?_
  refine Ex.newac (M := mX5_init) (n := 26) (sh' := sp27) (I' := IC033) (pc2 := 55) dX5_init_53 rfl (Or.inl ⟨rfl, rfl⟩) wd_ar_int (by decide) kn_600 (by decide) rfl rfl rfl rfl rfl rfl ?_
  refine Ex.putR (M := mX5_init) (pc2 := 58) dX5_init_55 xck5 lfX5_28 (Nat.le_of_ble_eq_true rfl) rfl rfl rfl rfl rfl rfl rfl ?_
  refine Ex.castF (F' := FF26) rfl ?_
  refine Ex.aload_n (M := mX5_init) (pc2 := 59) dX5_init_58 rfl rfl rfl ?_
  refine Ex.getR (M := mX5_init) (pc2 := 62) (r := 25) dX5_init_59 xck5 lfX5_25 (Nat.le_of_ble_eq_true rfl) rfl rfl rfl rfl ?_
  refine Ex.bipush (M := mX5_init) (pc2 := 64) dX5_init_62 kb_m5 rfl ?_
  refine Ex.callSc (M := mX5_init) (M' := mJ7_fill_53178) (as := [.inr (some 25), .inl (-5 : Int32)]) (rest := []) (σ1 := (sp27, FF26, IC034)) (pc2 := 67) dX5_init_64 isJ7_fill_53178 lcX5_31 rfl ⟨(Nat.le_of_ble_eq_true rfl), (Nat.le_of_ble_eq_true rfl)⟩ rfl (Nat.le_of_ble_eq_true rfl) (Nat.le_of_ble_eq_true rfl) rfl rfl (ex_fill (n := 48) rfl (by decide)) rfl ?_
  exact Ex.ret dX5_init_67 rfl
def IC035 : xI := xzr IC034 27
def IC036 : xI := xup IC035 27 3 (-5 : Int32)
def IC037 : xI := xzr IC036 28
def IC038 : xI := xup IC037 28 0 (3 : Int32)
def IC039 : xI := xup IC038 28 1 (9 : Int32)
def IC040 : xI := xzr IC039 29
def IC041 : xI := xzr IC040 30
def IC042 : xI := xzr IC041 31
def IC043 : xI := xzr IC042 32
def IC044 : xI := xfill IC043 31 48 (-5 : Int32)
theorem c_X5_init_2 : Ex none mX5_init 0 [some (.inr (some 27))] [] (sp28, FF27, IC035) (some (none, (sp33, FF32, IC044))) := by
  refine Ex.aload_n (M := mX5_init) (pc2 := 1) dX5_init_0 rfl rfl rfl ?_
  refine Ex.objInitc (M := mX5_init) (pc2 := 4) dX5_init_1 lcX5_3 (Nat.le_of_ble_eq_true rfl) (Nat.le_of_ble_eq_true rfl) rfl ?_
  refine Ex.aload_n (M := mX5_init) (pc2 := 5) dX5_init_4 rfl rfl rfl ?_
  refine Ex.bipush (M := mX5_init) (pc2 := 7) dX5_init_5 kb_m5 rfl ?_
  refine Ex.putI (M := mX5_init) (pc2 := 10) dX5_init_7 xck5 lfX5_9 (Nat.le_of_ble_eq_true rfl) rfl rfl rfl ⟨rfl, rfl⟩ rfl ?_
  refine Ex.castI (I' := IC036) rfl ?_
  refine Ex.aload_n (M := mX5_init) (pc2 := 11) dX5_init_10 rfl rfl rfl ?_
  refine Ex.iconst (M := mX5_init) (pc2 := 12) dX5_init_11 ki_2 rfl ?_
  refine Ex.newac (M := mX5_init) (n := 28) (sh' := sp29) (I' := IC037) (pc2 := 14) dX5_init_12 rfl (Or.inl ⟨rfl, rfl⟩) wd_ar_int (by decide) kn_2 (by decide) rfl rfl rfl rfl rfl rfl ?_
  refine Ex.dup (M := mX5_init) (pc2 := 15) dX5_init_14 rfl ?_
  refine Ex.iconst (M := mX5_init) (pc2 := 16) dX5_init_15 ki_0 rfl ?_
  refine Ex.iconst (M := mX5_init) (pc2 := 17) dX5_init_16 ki_3 rfl ?_
  refine Ex.iastore (M := mX5_init) (pc2 := 18) dX5_init_17 rfl (by decide) rfl ?_
  refine Ex.castI (I' := IC038) (by rw [kn_0]; rfl) ?_
  refine Ex.dup (M := mX5_init) (pc2 := 19) dX5_init_18 rfl ?_
  refine Ex.iconst (M := mX5_init) (pc2 := 20) dX5_init_19 ki_1 rfl ?_
  refine Ex.bipush (M := mX5_init) (pc2 := 22) dX5_init_20 kb_9 rfl ?_
  refine Ex.iastore (M := mX5_init) (pc2 := 23) dX5_init_22 rfl (by decide) rfl ?_
  refine Ex.castI (I' := IC039) (by rw [kn_1]; rfl) ?_
  refine Ex.putR (M := mX5_init) (pc2 := 26) dX5_init_23 xck5 lfX5_15 (Nat.le_of_ble_eq_true rfl) rfl rfl rfl rfl rfl rfl rfl ?_
  refine Ex.castF (F' := FF28) rfl ?_
  refine Ex.aload_n (M := mX5_init) (pc2 := 27) dX5_init_26 rfl rfl rfl ?_
  refine Ex.iconst (M := mX5_init) (pc2 := 28) dX5_init_27 ki_2 rfl ?_
  refine Ex.newac (M := mX5_init) (n := 29) (sh' := sp30) (I' := IC040) (pc2 := 30) dX5_init_28 rfl (Or.inl ⟨rfl, rfl⟩) wd_ar_int (by decide) kn_2 (by decide) rfl rfl rfl rfl rfl rfl ?_
  refine Ex.putR (M := mX5_init) (pc2 := 33) dX5_init_30 xck5 lfX5_19 (Nat.le_of_ble_eq_true rfl) rfl rfl rfl rfl rfl rfl rfl ?_
  refine Ex.castF (F' := FF29) rfl ?_
  refine Ex.aload_n (M := mX5_init) (pc2 := 34) dX5_init_33 rfl rfl rfl ?_
  refine Ex.bipush (M := mX5_init) (pc2 := 36) dX5_init_34 kb_82 rfl ?_
  refine Ex.newac (M := mX5_init) (n := 30) (sh' := sp31) (I' := IC041) (pc2 := 38) dX5_init_36 rfl (Or.inl ⟨rfl, rfl⟩) wd_ar_int (by decide) kn_82 (by decide) rfl rfl rfl rfl rfl rfl ?_
  refine Ex.putR (M := mX5_init) (pc2 := 41) dX5_init_38 xck5 lfX5_22 (Nat.le_of_ble_eq_true rfl) rfl rfl rfl rfl rfl rfl rfl ?_
  refine Ex.castF (F' := FF30) rfl ?_
  refine Ex.aload_n (M := mX5_init) (pc2 := 42) dX5_init_41 rfl rfl rfl ?_
  refine Ex.bipush (M := mX5_init) (pc2 := 44) dX5_init_42 kb_48 rfl ?_
  refine Ex.newac (M := mX5_init) (n := 31) (sh' := sp32) (I' := IC042) (pc2 := 46) dX5_init_44 rfl (Or.inl ⟨rfl, rfl⟩) wd_ar_int (by decide) kn_48 (by decide) rfl rfl rfl rfl rfl rfl ?_
  refine Ex.putR (M := mX5_init) (pc2 := 49) dX5_init_46 xck5 lfX5_25 (Nat.le_of_ble_eq_true rfl) rfl rfl rfl rfl rfl rfl rfl ?_
  refine Ex.castF (F' := FF31) rfl ?_
  refine Ex.aload_n (M := mX5_init) (pc2 := 50) dX5_init_49 rfl rfl rfl ?_
  refine Ex.sipush (M := mX5_init) (pc2 := 53) dX5_init_50 ks_600 rfl ?_
  refine Ex.newac (M := mX5_init) (n := 32) (sh' := sp33) (I' := IC043) (pc2 := 55) dX5_init_53 rfl (Or.inl ⟨rfl, rfl⟩) wd_ar_int (by decide) kn_600 (by decide) rfl rfl rfl rfl rfl rfl ?_
  refine Ex.putR (M := mX5_init) (pc2 := 58) dX5_init_55 xck5 lfX5_28 (Nat.le_of_ble_eq_true rfl) rfl rfl rfl rfl rfl rfl rfl ?_
  refine Ex.castF (F' := FF32) rfl ?_
  refine Ex.aload_n (M := mX5_init) (pc2 := 59) dX5_init_58 rfl rfl rfl ?_
  refine Ex.getR (M := mX5_init) (pc2 := 62) (r := 31) dX5_init_59 xck5 lfX5_25 (Nat.le_of_ble_eq_true rfl) rfl rfl rfl rfl ?_
  refine Ex.bipush (M := mX5_init) (pc2 := 64) dX5_init_62 kb_m5 rfl ?_
  refine Ex.callSc (M := mX5_init) (M' := mJ7_fill_53178) (as := [.inr (some 31), .inl (-5 : Int32)]) (rest := []) (σ1 := (sp33, FF32, IC044)) (pc2 := 67) dX5_init_64 isJ7_fill_53178 lcX5_31 rfl ⟨(Nat.le_of_ble_eq_true rfl), (Nat.le_of_ble_eq_true rfl)⟩ rfl (Nat.le_of_ble_eq_true rfl) (Nat.le_of_ble_eq_true rfl) rfl rfl (ex_fill (n := 48) rfl (by decide)) rfl ?_
  exact Ex.ret dX5_init_67 rfl
def IC045 : xI := xzr IC044 33
def IC046 : xI := xup IC045 33 3 (-5 : Int32)
def IC047 : xI := xzr IC046 34
def IC048 : xI := xup IC047 34 0 (3 : Int32)
def IC049 : xI := xup IC048 34 1 (9 : Int32)
def IC050 : xI := xzr IC049 35
def IC051 : xI := xzr IC050 36
def IC052 : xI := xzr IC051 37
def IC053 : xI := xzr IC052 38
def IC054 : xI := xfill IC053 37 48 (-5 : Int32)
theorem c_X5_init_3 : Ex none mX5_init 0 [some (.inr (some 33))] [] (sp34, FF33, IC045) (some (none, (sp39, FF38, IC054))) := by
  refine Ex.aload_n (M := mX5_init) (pc2 := 1) dX5_init_0 rfl rfl rfl ?_
  refine Ex.objInitc (M := mX5_init) (pc2 := 4) dX5_init_1 lcX5_3 (Nat.le_of_ble_eq_true rfl) (Nat.le_of_ble_eq_true rfl) rfl ?_
  refine Ex.aload_n (M := mX5_init) (pc2 := 5) dX5_init_4 rfl rfl rfl ?_
  refine Ex.bipush (M := mX5_init) (pc2 := 7) dX5_init_5 kb_m5 rfl ?_
  refine Ex.putI (M := mX5_init) (pc2 := 10) dX5_init_7 xck5 lfX5_9 (Nat.le_of_ble_eq_true rfl) rfl rfl rfl ⟨rfl, rfl⟩ rfl ?_
  refine Ex.castI (I' := IC046) rfl ?_
  refine Ex.aload_n (M := mX5_init) (pc2 := 11) dX5_init_10 rfl rfl rfl ?_
  refine Ex.iconst (M := mX5_init) (pc2 := 12) dX5_init_11 ki_2 rfl ?_
  refine Ex.newac (M := mX5_init) (n := 34) (sh' := sp35) (I' := IC047) (pc2 := 14) dX5_init_12 rfl (Or.inl ⟨rfl, rfl⟩) wd_ar_int (by decide) kn_2 (by decide) rfl rfl rfl rfl rfl rfl ?_
  refine Ex.dup (M := mX5_init) (pc2 := 15) dX5_init_14 rfl ?_
  refine Ex.iconst (M := mX5_init) (pc2 := 16) dX5_init_15 ki_0 rfl ?_
  refine Ex.iconst (M := mX5_init) (pc2 := 17) dX5_init_16 ki_3 rfl ?_
  refine Ex.iastore (M := mX5_init) (pc2 := 18) dX5_init_17 rfl (by decide) rfl ?_
  refine Ex.castI (I' := IC048) (by rw [kn_0]; rfl) ?_
  refine Ex.dup (M := mX5_init) (pc2 := 19) dX5_init_18 rfl ?_
  refine Ex.iconst (M := mX5_init) (pc2 := 20) dX5_init_19 ki_1 rfl ?_
  refine Ex.bipush (M := mX5_init) (pc2 := 22) dX5_init_20 kb_9 rfl ?_
  refine Ex.iastore (M := mX5_init) (pc2 := 23) dX5_init_22 rfl (by decide) rfl ?_
  refine Ex.castI (I' := IC049) (by rw [kn_1]; rfl) ?_
  refine Ex.putR (M := mX5_init) (pc2 := 26) dX5_init_23 xck5 lfX5_15 (Nat.le_of_ble_eq_true rfl) rfl rfl rfl rfl rfl rfl rfl ?_
  refine Ex.castF (F' := FF34) rfl ?_
  refine Ex.aload_n (M := mX5_init) (pc2 := 27) dX5_init_26 rfl rfl rfl ?_
  refine Ex.iconst (M := mX5_init) (pc2 := 28) dX5_init_27 ki_2 rfl ?_
  refine Ex.newac (M := mX5_init) (n := 35) (sh' := sp36) (I' := IC050) (pc2 := 30) dX5_init_28 rfl (Or.inl ⟨rfl, rfl⟩) wd_ar_int (by decide) kn_2 (by decide) rfl rfl rfl rfl rfl rfl ?_
  refine Ex.putR (M := mX5_init) (pc2 := 33) dX5_init_30 xck5 lfX5_19 (Nat.le_of_ble_eq_true rfl) rfl rfl rfl rfl rfl rfl rfl ?_
  refine Ex.castF (F' := FF35) rfl ?_
  refine Ex.aload_n (M := mX5_init) (pc2 := 34) dX5_init_33 rfl rfl rfl ?_
  refine Ex.bipush (M := mX5_init) (pc2 := 36) dX5_init_34 kb_82 rfl ?_
  refine Ex.newac (M := mX5_init) (n := 36) (sh' := sp37) (I' := IC051) (pc2 := 38) dX5_init_36 rfl (Or.inl ⟨rfl, rfl⟩) wd_ar_int (by decide) kn_82 (by decide) rfl rfl rfl rfl rfl rfl ?_
  refine Ex.putR (M := mX5_init) (pc2 := 41) dX5_init_38 xck5 lfX5_22 (Nat.le_of_ble_eq_true rfl) rfl rfl rfl rfl rfl rfl rfl ?_
  refine Ex.castF (F' := FF36) rfl ?_
  refine Ex.aload_n (M := mX5_init) (pc2 := 42) dX5_init_41 rfl rfl rfl ?_
  refine Ex.bipush (M := mX5_init) (pc2 := 44) dX5_init_42 kb_48 rfl ?_
  refine Ex.newac (M := mX5_init) (n := 37) (sh' := sp38) (I' := IC052) (pc2 := 46) dX5_init_44 rfl (Or.inl ⟨rfl, rfl⟩) wd_ar_int (by decide) kn_48 (by decide) rfl rfl rfl rfl rfl rfl ?_
  refine Ex.putR (M := mX5_init) (pc2 := 49) dX5_init_46 xck5 lfX5_25 (Nat.le_of_ble_eq_true rfl) rfl rfl rfl rfl rfl rfl rfl ?_
  refine Ex.castF (F' := FF37) rfl ?_
  refine Ex.aload_n (M := mX5_init) (pc2 := 50) dX5_init_49 rfl rfl rfl ?_
  refine Ex.sipush (M := mX5_init) (pc2 := 53) dX5_init_50 ks_600 rfl ?_
  refine Ex.newac (M := mX5_init) (n := 38) (sh' := sp39) (I' := IC053) (pc2 := 55) dX5_init_53 rfl (Or.inl ⟨rfl, rfl⟩) wd_ar_int (by decide) kn_600 (by decide) rfl rfl rfl rfl rfl rfl ?_
  refine Ex.putR (M := mX5_init) (pc2 := 58) dX5_init_55 xck5 lfX5_28 (Nat.le_of_ble_eq_true rfl) rfl rfl rfl rfl rfl rfl rfl ?_
  refine Ex.castF (F' := FF38) rfl ?_
  refine Ex.aload_n (M := mX5_init) (pc2 := 59) dX5_init_58 rfl rfl rfl ?_
  refine Ex.getR (M := mX5_init) (pc2 := 62) (r := 37) dX5_init_59 xck5 lfX5_25 (Nat.le_of_ble_eq_true rfl) rfl rfl rfl rfl ?_
  refine Ex.bipush (M := mX5_init) (pc2 := 64) dX5_init_62 kb_m5 rfl ?_
  refine Ex.callSc (M := mX5_init) (M' := mJ7_fill_53178) (as := [.inr (some 37), .inl (-5 : Int32)]) (rest := []) (σ1 := (sp39, FF38, IC054)) (pc2 := 67) dX5_init_64 isJ7_fill_53178 lcX5_31 rfl ⟨(Nat.le_of_ble_eq_true rfl), (Nat.le_of_ble_eq_true rfl)⟩ rfl (Nat.le_of_ble_eq_true rfl) (Nat.le_of_ble_eq_true rfl) rfl rfl (ex_fill (n := 48) rfl (by decide)) rfl ?_
  exact Ex.ret dX5_init_67 rfl
def IC055 : xI := xzr IC054 39
def IC056 : xI := xup IC055 39 3 (-5 : Int32)
def IC057 : xI := xzr IC056 40
def IC058 : xI := xup IC057 40 0 (3 : Int32)
def IC059 : xI := xup IC058 40 1 (9 : Int32)
def IC060 : xI := xzr IC059 41
def IC061 : xI := xzr IC060 42
def IC062 : xI := xzr IC061 43
def IC063 : xI := xzr IC062 44
def IC064 : xI := xfill IC063 43 48 (-5 : Int32)
theorem c_X5_init_4 : Ex none mX5_init 0 [some (.inr (some 39))] [] (sp40, FF39, IC055) (some (none, (sp45, FF44, IC064))) := by
  refine Ex.aload_n (M := mX5_init) (pc2 := 1) dX5_init_0 rfl rfl rfl ?_
  refine Ex.objInitc (M := mX5_init) (pc2 := 4) dX5_init_1 lcX5_3 (Nat.le_of_ble_eq_true rfl) (Nat.le_of_ble_eq_true rfl) rfl ?_
  refine Ex.aload_n (M := mX5_init) (pc2 := 5) dX5_init_4 rfl rfl rfl ?_
  refine Ex.bipush (M := mX5_init) (pc2 := 7) dX5_init_5 kb_m5 rfl ?_
  refine Ex.putI (M := mX5_init) (pc2 := 10) dX5_init_7 xck5 lfX5_9 (Nat.le_of_ble_eq_true rfl) rfl rfl rfl ⟨rfl, rfl⟩ rfl ?_
  refine Ex.castI (I' := IC056) rfl ?_
  refine Ex.aload_n (M := mX5_init) (pc2 := 11) dX5_init_10 rfl rfl rfl ?_
  refine Ex.iconst (M := mX5_init) (pc2 := 12) dX5_init_11 ki_2 rfl ?_
  refine Ex.newac (M := mX5_init) (n := 40) (sh' := sp41) (I' := IC057) (pc2 := 14) dX5_init_12 rfl (Or.inl ⟨rfl, rfl⟩) wd_ar_int (by decide) kn_2 (by decide) rfl rfl rfl rfl rfl rfl ?_
  refine Ex.dup (M := mX5_init) (pc2 := 15) dX5_init_14 rfl ?_
  refine Ex.iconst (M := mX5_init) (pc2 := 16) dX5_init_15 ki_0 rfl ?_
  refine Ex.iconst (M := mX5_init) (pc2 := 17) dX5_init_16 ki_3 rfl ?_
  refine Ex.iastore (M := mX5_init) (pc2 := 18) dX5_init_17 rfl (by decide) rfl ?_
  refine Ex.castI (I' := IC058) (by rw [kn_0]; rfl) ?_
  refine Ex.dup (M := mX5_init) (pc2 := 19) dX5_init_18 rfl ?_
  refine Ex.iconst (M := mX5_init) (pc2 := 20) dX5_init_19 ki_1 rfl ?_
  refine Ex.bipush (M := mX5_init) (pc2 := 22) dX5_init_20 kb_9 rfl ?_
  refine Ex.iastore (M := mX5_init) (pc2 := 23) dX5_init_22 rfl (by decide) rfl ?_
  refine Ex.castI (I' := IC059) (by rw [kn_1]; rfl) ?_
  refine Ex.putR (M := mX5_init) (pc2 := 26) dX5_init_23 xck5 lfX5_15 (Nat.le_of_ble_eq_true rfl) rfl rfl rfl rfl rfl rfl rfl ?_
  refine Ex.castF (F' := FF40) rfl ?_
  refine Ex.aload_n (M := mX5_init) (pc2 := 27) dX5_init_26 rfl rfl rfl ?_
  refine Ex.iconst (M := mX5_init) (pc2 := 28) dX5_init_27 ki_2 rfl ?_
  refine Ex.newac (M := mX5_init) (n := 41) (sh' := sp42) (I' := IC060) (pc2 := 30) dX5_init_28 rfl (Or.inl ⟨rfl, rfl⟩) wd_ar_int (by decide) kn_2 (by decide) rfl rfl rfl rfl rfl rfl ?_
  refine Ex.putR (M := mX5_init) (pc2 := 33) dX5_init_30 xck5 lfX5_19 (Nat.le_of_ble_eq_true rfl) rfl rfl rfl rfl rfl rfl rfl ?_
  refine Ex.castF (F' := FF41) rfl ?_
  refine Ex.aload_n (M := mX5_init) (pc2 := 34) dX5_init_33 rfl rfl rfl ?_
  refine Ex.bipush (M := mX5_init) (pc2 := 36) dX5_init_34 kb_82 rfl ?_
  refine Ex.newac (M := mX5_init) (n := 42) (sh' := sp43) (I' := IC061) (pc2 := 38) dX5_init_36 rfl (Or.inl ⟨rfl, rfl⟩) wd_ar_int (by decide) kn_82 (by decide) rfl rfl rfl rfl rfl rfl ?_
  refine Ex.putR (M := mX5_init) (pc2 := 41) dX5_init_38 xck5 lfX5_22 (Nat.le_of_ble_eq_true rfl) rfl rfl rfl rfl rfl rfl rfl ?_
  refine Ex.castF (F' := FF42) rfl ?_
  refine Ex.aload_n (M := mX5_init) (pc2 := 42) dX5_init_41 rfl rfl rfl ?_
  refine Ex.bipush (M := mX5_init) (pc2 := 44) dX5_init_42 kb_48 rfl ?_
  refine Ex.newac (M := mX5_init) (n := 43) (sh' := sp44) (I' := IC062) (pc2 := 46) dX5_init_44 rfl (Or.inl ⟨rfl, rfl⟩) wd_ar_int (by decide) kn_48 (by decide) rfl rfl rfl rfl rfl rfl ?_
  refine Ex.putR (M := mX5_init) (pc2 := 49) dX5_init_46 xck5 lfX5_25 (Nat.le_of_ble_eq_true rfl) rfl rfl rfl rfl rfl rfl rfl ?_
  refine Ex.castF (F' := FF43) rfl ?_
  refine Ex.aload_n (M := mX5_init) (pc2 := 50) dX5_init_49 rfl rfl rfl ?_
  refine Ex.sipush (M := mX5_init) (pc2 := 53) dX5_init_50 ks_600 rfl ?_
  refine Ex.newac (M := mX5_init) (n := 44) (sh' := sp45) (I' := IC063) (pc2 := 55) dX5_init_53 rfl (Or.inl ⟨rfl, rfl⟩) wd_ar_int (by decide) kn_600 (by decide) rfl rfl rfl rfl rfl rfl ?_
  refine Ex.putR (M := mX5_init) (pc2 := 58) dX5_init_55 xck5 lfX5_28 (Nat.le_of_ble_eq_true rfl) rfl rfl rfl rfl rfl rfl rfl ?_
  refine Ex.castF (F' := FF44) rfl ?_
  refine Ex.aload_n (M := mX5_init) (pc2 := 59) dX5_init_58 rfl rfl rfl ?_
  refine Ex.getR (M := mX5_init) (pc2 := 62) (r := 43) dX5_init_59 xck5 lfX5_25 (Nat.le_of_ble_eq_true rfl) rfl rfl rfl rfl ?_
  refine Ex.bipush (M := mX5_init) (pc2 := 64) dX5_init_62 kb_m5 rfl ?_
  refine Ex.callSc (M := mX5_init) (M' := mJ7_fill_53178) (as := [.inr (some 43), .inl (-5 : Int32)]) (rest := []) (σ1 := (sp45, FF44, IC064)) (pc2 := 67) dX5_init_64 isJ7_fill_53178 lcX5_31 rfl ⟨(Nat.le_of_ble_eq_true rfl), (Nat.le_of_ble_eq_true rfl)⟩ rfl (Nat.le_of_ble_eq_true rfl) (Nat.le_of_ble_eq_true rfl) rfl rfl (ex_fill (n := 48) rfl (by decide)) rfl ?_
  exact Ex.ret dX5_init_67 rfl
theorem c_X2_init_1 : Ex none mX2_init 0 [some (.inr (some 19))] [] (sp20, FF21, IC023) (some (none, (sp45, FF46, IC064))) := by
  refine Ex.aload_n (M := mX2_init) (pc2 := 1) dX2_init_0 rfl rfl rfl ?_
  refine Ex.objInitc (M := mX2_init) (pc2 := 4) dX2_init_1 lcX2_3 (Nat.le_of_ble_eq_true rfl) (Nat.le_of_ble_eq_true rfl) rfl ?_
  refine Ex.aload_n (M := mX2_init) (pc2 := 5) dX2_init_4 rfl rfl rfl ?_
  refine Ex.iconst (M := mX2_init) (pc2 := 6) dX2_init_5 ki_4 rfl ?_
  refine Ex.newqc (M := mX2_init) (n := 20) (sh' := sp21) (I' := IC024) (pc2 := 9) dX2_init_6 llX2_9 (by decide) kn_4 (by decide) rfl rfl rfl rfl rfl rfl ?_
  refine Ex.dup (M := mX2_init) (pc2 := 10) dX2_init_9 rfl ?_
  refine Ex.iconst (M := mX2_init) (pc2 := 11) dX2_init_10 ki_0 rfl ?_
  refine Ex.newc (M := mX2_init) (n := 21) (sh' := sp22) (I' := IC025) (pc2 := 14) dX2_init_11 xck5 llX2_9 wi5 wn5 rfl rfl rfl rfl rfl rfl ?_
  refine Ex.dup (M := mX2_init) (pc2 := 15) dX2_init_14 rfl ?_
  refine Ex.callIc (M := mX2_init) (as := []) (rest := [.inr (some 21), .inl (0 : Int32), .inr (some 20), .inr (some 20), .inr (some 19)]) (pc2 := 18) dX2_init_15 isX5_init lcX2_11 rfl ⟨(Nat.le_of_ble_eq_true rfl), (Nat.le_of_ble_eq_true rfl)⟩ rfl (Nat.le_of_ble_eq_true rfl) (Nat.le_of_ble_eq_true rfl) rfl rfl c_X5_init_1 rfl ?_
  refine Ex.aastore (M := mX2_init) (pc2 := 19) dX2_init_18 rfl (by decide) rfl rfl ?_
  refine Ex.castF (F' := FF27) (by rw [kn_0]; rfl) ?_
  refine Ex.dup (M := mX2_init) (pc2 := 20) dX2_init_19 rfl ?_
  refine Ex.iconst (M := mX2_init) (pc2 := 21) dX2_init_20 ki_1 rfl ?_
  refine Ex.newc (M := mX2_init) (n := 27) (sh' := sp28) (I' := IC035) (pc2 := 24) dX2_init_21 xck5 llX2_9 wi5 wn5 rfl rfl rfl rfl rfl rfl ?_
  refine Ex.dup (M := mX2_init) (pc2 := 25) dX2_init_24 rfl ?_
  refine Ex.callIc (M := mX2_init) (as := []) (rest := [.inr (some 27), .inl (1 : Int32), .inr (some 20), .inr (some 20), .inr (some 19)]) (pc2 := 28) dX2_init_25 isX5_init lcX2_11 rfl ⟨(Nat.le_of_ble_eq_true rfl), (Nat.le_of_ble_eq_true rfl)⟩ rfl (Nat.le_of_ble_eq_true rfl) (Nat.le_of_ble_eq_true rfl) rfl rfl c_X5_init_2 rfl ?_
  refine Ex.aastore (M := mX2_init) (pc2 := 29) dX2_init_28 rfl (by decide) rfl rfl ?_
  refine Ex.castF (F' := FF33) (by rw [kn_1]; rfl) ?_
  refine Ex.dup (M := mX2_init) (pc2 := 30) dX2_init_29 rfl ?_
  refine Ex.iconst (M := mX2_init) (pc2 := 31) dX2_init_30 ki_2 rfl ?_
  refine Ex.newc (M := mX2_init) (n := 33) (sh' := sp34) (I' := IC045) (pc2 := 34) dX2_init_31 xck5 llX2_9 wi5 wn5 rfl rfl rfl rfl rfl rfl ?_
  refine Ex.dup (M := mX2_init) (pc2 := 35) dX2_init_34 rfl ?_
  refine Ex.callIc (M := mX2_init) (as := []) (rest := [.inr (some 33), .inl (2 : Int32), .inr (some 20), .inr (some 20), .inr (some 19)]) (pc2 := 38) dX2_init_35 isX5_init lcX2_11 rfl ⟨(Nat.le_of_ble_eq_true rfl), (Nat.le_of_ble_eq_true rfl)⟩ rfl (Nat.le_of_ble_eq_true rfl) (Nat.le_of_ble_eq_true rfl) rfl rfl c_X5_init_3 rfl ?_
  refine Ex.aastore (M := mX2_init) (pc2 := 39) dX2_init_38 rfl (by decide) rfl rfl ?_
  refine Ex.castF (F' := FF39) (by rw [kn_2]; rfl) ?_
  refine Ex.dup (M := mX2_init) (pc2 := 40) dX2_init_39 rfl ?_
  refine Ex.iconst (M := mX2_init) (pc2 := 41) dX2_init_40 ki_3 rfl ?_
  refine Ex.newc (M := mX2_init) (n := 39) (sh' := sp40) (I' := IC055) (pc2 := 44) dX2_init_41 xck5 llX2_9 wi5 wn5 rfl rfl rfl rfl rfl rfl ?_
  refine Ex.dup (M := mX2_init) (pc2 := 45) dX2_init_44 rfl ?_
  refine Ex.callIc (M := mX2_init) (as := []) (rest := [.inr (some 39), .inl (3 : Int32), .inr (some 20), .inr (some 20), .inr (some 19)]) (pc2 := 48) dX2_init_45 isX5_init lcX2_11 rfl ⟨(Nat.le_of_ble_eq_true rfl), (Nat.le_of_ble_eq_true rfl)⟩ rfl (Nat.le_of_ble_eq_true rfl) (Nat.le_of_ble_eq_true rfl) rfl rfl c_X5_init_4 rfl ?_
  refine Ex.aastore (M := mX2_init) (pc2 := 49) dX2_init_48 rfl (by decide) rfl rfl ?_
  refine Ex.castF (F' := FF45) (by rw [kn_3]; rfl) ?_
  refine Ex.putR (M := mX2_init) (pc2 := 52) dX2_init_49 xck2 lfX2_12 (Nat.le_of_ble_eq_true rfl) rfl rfl rfl rfl rfl rfl rfl ?_
  refine Ex.castF (F' := FF46) rfl ?_
  exact Ex.ret dX2_init_52 rfl
def IC065 : xI := xzr IC064 45
def IC066 : xI := xup IC065 45 3 (-5 : Int32)
def IC067 : xI := xzr IC066 46
def IC068 : xI := xup IC067 46 0 (3 : Int32)
def IC069 : xI := xup IC068 46 1 (9 : Int32)
def IC070 : xI := xzr IC069 47
def IC071 : xI := xzr IC070 48
def IC072 : xI := xzr IC071 49
def IC073 : xI := xzr IC072 50
def IC074 : xI := xfill IC073 49 48 (-5 : Int32)
theorem c_X5_init_5 : Ex none mX5_init 0 [some (.inr (some 45))] [] (sp46, FF47, IC065) (some (none, (sp51, FF52, IC074))) := by
  refine Ex.aload_n (M := mX5_init) (pc2 := 1) dX5_init_0 rfl rfl rfl ?_
  refine Ex.objInitc (M := mX5_init) (pc2 := 4) dX5_init_1 lcX5_3 (Nat.le_of_ble_eq_true rfl) (Nat.le_of_ble_eq_true rfl) rfl ?_
  refine Ex.aload_n (M := mX5_init) (pc2 := 5) dX5_init_4 rfl rfl rfl ?_
  refine Ex.bipush (M := mX5_init) (pc2 := 7) dX5_init_5 kb_m5 rfl ?_
  refine Ex.putI (M := mX5_init) (pc2 := 10) dX5_init_7 xck5 lfX5_9 (Nat.le_of_ble_eq_true rfl) rfl rfl rfl ⟨rfl, rfl⟩ rfl ?_
  refine Ex.castI (I' := IC066) rfl ?_
  refine Ex.aload_n (M := mX5_init) (pc2 := 11) dX5_init_10 rfl rfl rfl ?_
  refine Ex.iconst (M := mX5_init) (pc2 := 12) dX5_init_11 ki_2 rfl ?_
  refine Ex.newac (M := mX5_init) (n := 46) (sh' := sp47) (I' := IC067) (pc2 := 14) dX5_init_12 rfl (Or.inl ⟨rfl, rfl⟩) wd_ar_int (by decide) kn_2 (by decide) rfl rfl rfl rfl rfl rfl ?_
  refine Ex.dup (M := mX5_init) (pc2 := 15) dX5_init_14 rfl ?_
  refine Ex.iconst (M := mX5_init) (pc2 := 16) dX5_init_15 ki_0 rfl ?_
  refine Ex.iconst (M := mX5_init) (pc2 := 17) dX5_init_16 ki_3 rfl ?_
  refine Ex.iastore (M := mX5_init) (pc2 := 18) dX5_init_17 rfl (by decide) rfl ?_
  refine Ex.castI (I' := IC068) (by rw [kn_0]; rfl) ?_
  refine Ex.dup (M := mX5_init) (pc2 := 19) dX5_init_18 rfl ?_
  refine Ex.iconst (M := mX5_init) (pc2 := 20) dX5_init_19 ki_1 rfl ?_
  refine Ex.bipush (M := mX5_init) (pc2 := 22) dX5_init_20 kb_9 rfl ?_
  refine Ex.iastore (M := mX5_init) (pc2 := 23) dX5_init_22 rfl (by decide) rfl ?_
  refine Ex.castI (I' := IC069) (by rw [kn_1]; rfl) ?_
  refine Ex.putR (M := mX5_init) (pc2 := 26) dX5_init_23 xck5 lfX5_15 (Nat.le_of_ble_eq_true rfl) rfl rfl rfl rfl rfl rfl rfl ?_
  refine Ex.castF (F' := FF48) rfl ?_
  refine Ex.aload_n (M := mX5_init) (pc2 := 27) dX5_init_26 rfl rfl rfl ?_
  refine Ex.iconst (M := mX5_init) (pc2 := 28) dX5_init_27 ki_2 rfl ?_
  refine Ex.newac (M := mX5_init) (n := 47) (sh' := sp48) (I' := IC070) (pc2 := 30) dX5_init_28 rfl (Or.inl ⟨rfl, rfl⟩) wd_ar_int (by decide) kn_2 (by decide) rfl rfl rfl rfl rfl rfl ?_
  refine Ex.putR (M := mX5_init) (pc2 := 33) dX5_init_30 xck5 lfX5_19 (Nat.le_of_ble_eq_true rfl) rfl rfl rfl rfl rfl rfl rfl ?_
  refine Ex.castF (F' := FF49) rfl ?_
  refine Ex.aload_n (M := mX5_init) (pc2 := 34) dX5_init_33 rfl rfl rfl ?_
  refine Ex.bipush (M := mX5_init) (pc2 := 36) dX5_init_34 kb_82 rfl ?_
  refine Ex.newac (M := mX5_init) (n := 48) (sh' := sp49) (I' := IC071) (pc2 := 38) dX5_init_36 rfl (Or.inl ⟨rfl, rfl⟩) wd_ar_int (by decide) kn_82 (by decide) rfl rfl rfl rfl rfl rfl ?_
  refine Ex.putR (M := mX5_init) (pc2 := 41) dX5_init_38 xck5 lfX5_22 (Nat.le_of_ble_eq_true rfl) rfl rfl rfl rfl rfl rfl rfl ?_
  refine Ex.castF (F' := FF50) rfl ?_
  refine Ex.aload_n (M := mX5_init) (pc2 := 42) dX5_init_41 rfl rfl rfl ?_
  refine Ex.bipush (M := mX5_init) (pc2 := 44) dX5_init_42 kb_48 rfl ?_
  refine Ex.newac (M := mX5_init) (n := 49) (sh' := sp50) (I' := IC072) (pc2 := 46) dX5_init_44 rfl (Or.inl ⟨rfl, rfl⟩) wd_ar_int (by decide) kn_48 (by decide) rfl rfl rfl rfl rfl rfl ?_
  refine Ex.putR (M := mX5_init) (pc2 := 49) dX5_init_46 xck5 lfX5_25 (Nat.le_of_ble_eq_true rfl) rfl rfl rfl rfl rfl rfl rfl ?_
  refine Ex.castF (F' := FF51) rfl ?_
  refine Ex.aload_n (M := mX5_init) (pc2 := 50) dX5_init_49 rfl rfl rfl ?_
  refine Ex.sipush (M := mX5_init) (pc2 := 53) dX5_init_50 ks_600 rfl ?_
  refine Ex.newac (M := mX5_init) (n := 50) (sh' := sp51) (I' := IC073) (pc2 := 55) dX5_init_53 rfl (Or.inl ⟨rfl, rfl⟩) wd_ar_int (by decide) kn_600 (by decide) rfl rfl rfl rfl rfl rfl ?_
  refine Ex.putR (M := mX5_init) (pc2 := 58) dX5_init_55 xck5 lfX5_28 (Nat.le_of_ble_eq_true rfl) rfl rfl rfl rfl rfl rfl rfl ?_
  refine Ex.castF (F' := FF52) rfl ?_
  refine Ex.aload_n (M := mX5_init) (pc2 := 59) dX5_init_58 rfl rfl rfl ?_
  refine Ex.getR (M := mX5_init) (pc2 := 62) (r := 49) dX5_init_59 xck5 lfX5_25 (Nat.le_of_ble_eq_true rfl) rfl rfl rfl rfl ?_
  refine Ex.bipush (M := mX5_init) (pc2 := 64) dX5_init_62 kb_m5 rfl ?_
  refine Ex.callSc (M := mX5_init) (M' := mJ7_fill_53178) (as := [.inr (some 49), .inl (-5 : Int32)]) (rest := []) (σ1 := (sp51, FF52, IC074)) (pc2 := 67) dX5_init_64 isJ7_fill_53178 lcX5_31 rfl ⟨(Nat.le_of_ble_eq_true rfl), (Nat.le_of_ble_eq_true rfl)⟩ rfl (Nat.le_of_ble_eq_true rfl) (Nat.le_of_ble_eq_true rfl) rfl rfl (ex_fill (n := 48) rfl (by decide)) rfl ?_
  exact Ex.ret dX5_init_67 rfl
def IC075 : xI := xzr IC074 51
def IC076 : xI := xup IC075 51 3 (-5 : Int32)
def IC077 : xI := xzr IC076 52
def IC078 : xI := xup IC077 52 0 (3 : Int32)
def IC079 : xI := xup IC078 52 1 (9 : Int32)
def IC080 : xI := xzr IC079 53
def IC081 : xI := xzr IC080 54
def IC082 : xI := xzr IC081 55
def IC083 : xI := xzr IC082 56
def IC084 : xI := xfill IC083 55 48 (-5 : Int32)
theorem c_X5_init_6 : Ex none mX5_init 0 [some (.inr (some 51))] [] (sp52, FF53, IC075) (some (none, (sp57, FF58, IC084))) := by
  refine Ex.aload_n (M := mX5_init) (pc2 := 1) dX5_init_0 rfl rfl rfl ?_
  refine Ex.objInitc (M := mX5_init) (pc2 := 4) dX5_init_1 lcX5_3 (Nat.le_of_ble_eq_true rfl) (Nat.le_of_ble_eq_true rfl) rfl ?_
  refine Ex.aload_n (M := mX5_init) (pc2 := 5) dX5_init_4 rfl rfl rfl ?_
  refine Ex.bipush (M := mX5_init) (pc2 := 7) dX5_init_5 kb_m5 rfl ?_
  refine Ex.putI (M := mX5_init) (pc2 := 10) dX5_init_7 xck5 lfX5_9 (Nat.le_of_ble_eq_true rfl) rfl rfl rfl ⟨rfl, rfl⟩ rfl ?_
  refine Ex.castI (I' := IC076) rfl ?_
  refine Ex.aload_n (M := mX5_init) (pc2 := 11) dX5_init_10 rfl rfl rfl ?_
  refine Ex.iconst (M := mX5_init) (pc2 := 12) dX5_init_11 ki_2 rfl ?_
  refine Ex.newac (M := mX5_init) (n := 52) (sh' := sp53) (I' := IC077) (pc2 := 14) dX5_init_12 rfl (Or.inl ⟨rfl, rfl⟩) wd_ar_int (by decide) kn_2 (by decide) rfl rfl rfl rfl rfl rfl ?_
  refine Ex.dup (M := mX5_init) (pc2 := 15) dX5_init_14 rfl ?_
  refine Ex.iconst (M := mX5_init) (pc2 := 16) dX5_init_15 ki_0 rfl ?_
  refine Ex.iconst (M := mX5_init) (pc2 := 17) dX5_init_16 ki_3 rfl ?_
  refine Ex.iastore (M := mX5_init) (pc2 := 18) dX5_init_17 rfl (by decide) rfl ?_
  refine Ex.castI (I' := IC078) (by rw [kn_0]; rfl) ?_
  refine Ex.dup (M := mX5_init) (pc2 := 19) dX5_init_18 rfl ?_
  refine Ex.iconst (M := mX5_init) (pc2 := 20) dX5_init_19 ki_1 rfl ?_
  refine Ex.bipush (M := mX5_init) (pc2 := 22) dX5_init_20 kb_9 rfl ?_
  refine Ex.iastore (M := mX5_init) (pc2 := 23) dX5_init_22 rfl (by decide) rfl ?_
  refine Ex.castI (I' := IC079) (by rw [kn_1]; rfl) ?_
  refine Ex.putR (M := mX5_init) (pc2 := 26) dX5_init_23 xck5 lfX5_15 (Nat.le_of_ble_eq_true rfl) rfl rfl rfl rfl rfl rfl rfl ?_
  refine Ex.castF (F' := FF54) rfl ?_
  refine Ex.aload_n (M := mX5_init) (pc2 := 27) dX5_init_26 rfl rfl rfl ?_
  refine Ex.iconst (M := mX5_init) (pc2 := 28) dX5_init_27 ki_2 rfl ?_
  refine Ex.newac (M := mX5_init) (n := 53) (sh' := sp54) (I' := IC080) (pc2 := 30) dX5_init_28 rfl (Or.inl ⟨rfl, rfl⟩) wd_ar_int (by decide) kn_2 (by decide) rfl rfl rfl rfl rfl rfl ?_
  refine Ex.putR (M := mX5_init) (pc2 := 33) dX5_init_30 xck5 lfX5_19 (Nat.le_of_ble_eq_true rfl) rfl rfl rfl rfl rfl rfl rfl ?_
  refine Ex.castF (F' := FF55) rfl ?_
  refine Ex.aload_n (M := mX5_init) (pc2 := 34) dX5_init_33 rfl rfl rfl ?_
  refine Ex.bipush (M := mX5_init) (pc2 := 36) dX5_init_34 kb_82 rfl ?_
  refine Ex.newac (M := mX5_init) (n := 54) (sh' := sp55) (I' := IC081) (pc2 := 38) dX5_init_36 rfl (Or.inl ⟨rfl, rfl⟩) wd_ar_int (by decide) kn_82 (by decide) rfl rfl rfl rfl rfl rfl ?_
  refine Ex.putR (M := mX5_init) (pc2 := 41) dX5_init_38 xck5 lfX5_22 (Nat.le_of_ble_eq_true rfl) rfl rfl rfl rfl rfl rfl rfl ?_
  refine Ex.castF (F' := FF56) rfl ?_
  refine Ex.aload_n (M := mX5_init) (pc2 := 42) dX5_init_41 rfl rfl rfl ?_
  refine Ex.bipush (M := mX5_init) (pc2 := 44) dX5_init_42 kb_48 rfl ?_
  refine Ex.newac (M := mX5_init) (n := 55) (sh' := sp56) (I' := IC082) (pc2 := 46) dX5_init_44 rfl (Or.inl ⟨rfl, rfl⟩) wd_ar_int (by decide) kn_48 (by decide) rfl rfl rfl rfl rfl rfl ?_
  refine Ex.putR (M := mX5_init) (pc2 := 49) dX5_init_46 xck5 lfX5_25 (Nat.le_of_ble_eq_true rfl) rfl rfl rfl rfl rfl rfl rfl ?_
  refine Ex.castF (F' := FF57) rfl ?_
  refine Ex.aload_n (M := mX5_init) (pc2 := 50) dX5_init_49 rfl rfl rfl ?_
  refine Ex.sipush (M := mX5_init) (pc2 := 53) dX5_init_50 ks_600 rfl ?_
  refine Ex.newac (M := mX5_init) (n := 56) (sh' := sp57) (I' := IC083) (pc2 := 55) dX5_init_53 rfl (Or.inl ⟨rfl, rfl⟩) wd_ar_int (by decide) kn_600 (by decide) rfl rfl rfl rfl rfl rfl ?_
  refine Ex.putR (M := mX5_init) (pc2 := 58) dX5_init_55 xck5 lfX5_28 (Nat.le_of_ble_eq_true rfl) rfl rfl rfl rfl rfl rfl rfl ?_
  refine Ex.castF (F' := FF58) rfl ?_
  refine Ex.aload_n (M := mX5_init) (pc2 := 59) dX5_init_58 rfl rfl rfl ?_
  refine Ex.getR (M := mX5_init) (pc2 := 62) (r := 55) dX5_init_59 xck5 lfX5_25 (Nat.le_of_ble_eq_true rfl) rfl rfl rfl rfl ?_
  refine Ex.bipush (M := mX5_init) (pc2 := 64) dX5_init_62 kb_m5 rfl ?_
  refine Ex.callSc (M := mX5_init) (M' := mJ7_fill_53178) (as := [.inr (some 55), .inl (-5 : Int32)]) (rest := []) (σ1 := (sp57, FF58, IC084)) (pc2 := 67) dX5_init_64 isJ7_fill_53178 lcX5_31 rfl ⟨(Nat.le_of_ble_eq_true rfl), (Nat.le_of_ble_eq_true rfl)⟩ rfl (Nat.le_of_ble_eq_true rfl) (Nat.le_of_ble_eq_true rfl) rfl rfl (ex_fill (n := 48) rfl (by decide)) rfl ?_
  exact Ex.ret dX5_init_67 rfl
def IC085 : xI := xzr IC084 57
def IC086 : xI := xup IC085 57 3 (-5 : Int32)
def IC087 : xI := xzr IC086 58
def IC088 : xI := xup IC087 58 0 (3 : Int32)
def IC089 : xI := xup IC088 58 1 (9 : Int32)
def IC090 : xI := xzr IC089 59
def IC091 : xI := xzr IC090 60
def IC092 : xI := xzr IC091 61
def IC093 : xI := xzr IC092 62
def IC094 : xI := xfill IC093 61 48 (-5 : Int32)
theorem c_X5_init_7 : Ex none mX5_init 0 [some (.inr (some 57))] [] (sp58, FF59, IC085) (some (none, (sp63, FF64, IC094))) := by
  refine Ex.aload_n (M := mX5_init) (pc2 := 1) dX5_init_0 rfl rfl rfl ?_
  refine Ex.objInitc (M := mX5_init) (pc2 := 4) dX5_init_1 lcX5_3 (Nat.le_of_ble_eq_true rfl) (Nat.le_of_ble_eq_true rfl) rfl ?_
  refine Ex.aload_n (M := mX5_init) (pc2 := 5) dX5_init_4 rfl rfl rfl ?_
  refine Ex.bipush (M := mX5_init) (pc2 := 7) dX5_init_5 kb_m5 rfl ?_
  refine Ex.putI (M := mX5_init) (pc2 := 10) dX5_init_7 xck5 lfX5_9 (Nat.le_of_ble_eq_true rfl) rfl rfl rfl ⟨rfl, rfl⟩ rfl ?_
  refine Ex.castI (I' := IC086) rfl ?_
  refine Ex.aload_n (M := mX5_init) (pc2 := 11) dX5_init_10 rfl rfl rfl ?_
  refine Ex.iconst (M := mX5_init) (pc2 := 12) dX5_init_11 ki_2 rfl ?_
  refine Ex.newac (M := mX5_init) (n := 58) (sh' := sp59) (I' := IC087) (pc2 := 14) dX5_init_12 rfl (Or.inl ⟨rfl, rfl⟩) wd_ar_int (by decide) kn_2 (by decide) rfl rfl rfl rfl rfl rfl ?_
  refine Ex.dup (M := mX5_init) (pc2 := 15) dX5_init_14 rfl ?_
  refine Ex.iconst (M := mX5_init) (pc2 := 16) dX5_init_15 ki_0 rfl ?_
  refine Ex.iconst (M := mX5_init) (pc2 := 17) dX5_init_16 ki_3 rfl ?_
  refine Ex.iastore (M := mX5_init) (pc2 := 18) dX5_init_17 rfl (by decide) rfl ?_
  refine Ex.castI (I' := IC088) (by rw [kn_0]; rfl) ?_
  refine Ex.dup (M := mX5_init) (pc2 := 19) dX5_init_18 rfl ?_
  refine Ex.iconst (M := mX5_init) (pc2 := 20) dX5_init_19 ki_1 rfl ?_
  refine Ex.bipush (M := mX5_init) (pc2 := 22) dX5_init_20 kb_9 rfl ?_
  refine Ex.iastore (M := mX5_init) (pc2 := 23) dX5_init_22 rfl (by decide) rfl ?_
  refine Ex.castI (I' := IC089) (by rw [kn_1]; rfl) ?_
  refine Ex.putR (M := mX5_init) (pc2 := 26) dX5_init_23 xck5 lfX5_15 (Nat.le_of_ble_eq_true rfl) rfl rfl rfl rfl rfl rfl rfl ?_
  refine Ex.castF (F' := FF60) rfl ?_
  refine Ex.aload_n (M := mX5_init) (pc2 := 27) dX5_init_26 rfl rfl rfl ?_
  refine Ex.iconst (M := mX5_init) (pc2 := 28) dX5_init_27 ki_2 rfl ?_
  refine Ex.newac (M := mX5_init) (n := 59) (sh' := sp60) (I' := IC090) (pc2 := 30) dX5_init_28 rfl (Or.inl ⟨rfl, rfl⟩) wd_ar_int (by decide) kn_2 (by decide) rfl rfl rfl rfl rfl rfl ?_
  refine Ex.putR (M := mX5_init) (pc2 := 33) dX5_init_30 xck5 lfX5_19 (Nat.le_of_ble_eq_true rfl) rfl rfl rfl rfl rfl rfl rfl ?_
  refine Ex.castF (F' := FF61) rfl ?_
  refine Ex.aload_n (M := mX5_init) (pc2 := 34) dX5_init_33 rfl rfl rfl ?_
  refine Ex.bipush (M := mX5_init) (pc2 := 36) dX5_init_34 kb_82 rfl ?_
  refine Ex.newac (M := mX5_init) (n := 60) (sh' := sp61) (I' := IC091) (pc2 := 38) dX5_init_36 rfl (Or.inl ⟨rfl, rfl⟩) wd_ar_int (by decide) kn_82 (by decide) rfl rfl rfl rfl rfl rfl ?_
  refine Ex.putR (M := mX5_init) (pc2 := 41) dX5_init_38 xck5 lfX5_22 (Nat.le_of_ble_eq_true rfl) rfl rfl rfl rfl rfl rfl rfl ?_
  refine Ex.castF (F' := FF62) rfl ?_
  refine Ex.aload_n (M := mX5_init) (pc2 := 42) dX5_init_41 rfl rfl rfl ?_
  refine Ex.bipush (M := mX5_init) (pc2 := 44) dX5_init_42 kb_48 rfl ?_
  refine Ex.newac (M := mX5_init) (n := 61) (sh' := sp62) (I' := IC092) (pc2 := 46) dX5_init_44 rfl (Or.inl ⟨rfl, rfl⟩) wd_ar_int (by decide) kn_48 (by decide) rfl rfl rfl rfl rfl rfl ?_
  refine Ex.putR (M := mX5_init) (pc2 := 49) dX5_init_46 xck5 lfX5_25 (Nat.le_of_ble_eq_true rfl) rfl rfl rfl rfl rfl rfl rfl ?_
  refine Ex.castF (F' := FF63) rfl ?_
  refine Ex.aload_n (M := mX5_init) (pc2 := 50) dX5_init_49 rfl rfl rfl ?_
  refine Ex.sipush (M := mX5_init) (pc2 := 53) dX5_init_50 ks_600 rfl ?_
  refine Ex.newac (M := mX5_init) (n := 62) (sh' := sp63) (I' := IC093) (pc2 := 55) dX5_init_53 rfl (Or.inl ⟨rfl, rfl⟩) wd_ar_int (by decide) kn_600 (by decide) rfl rfl rfl rfl rfl rfl ?_
  refine Ex.putR (M := mX5_init) (pc2 := 58) dX5_init_55 xck5 lfX5_28 (Nat.le_of_ble_eq_true rfl) rfl rfl rfl rfl rfl rfl rfl ?_
  refine Ex.castF (F' := FF64) rfl ?_
  refine Ex.aload_n (M := mX5_init) (pc2 := 59) dX5_init_58 rfl rfl rfl ?_
  refine Ex.getR (M := mX5_init) (pc2 := 62) (r := 61) dX5_init_59 xck5 lfX5_25 (Nat.le_of_ble_eq_true rfl) rfl rfl rfl rfl ?_
  refine Ex.bipush (M := mX5_init) (pc2 := 64) dX5_init_62 kb_m5 rfl ?_
  refine Ex.callSc (M := mX5_init) (M' := mJ7_fill_53178) (as := [.inr (some 61), .inl (-5 : Int32)]) (rest := []) (σ1 := (sp63, FF64, IC094)) (pc2 := 67) dX5_init_64 isJ7_fill_53178 lcX5_31 rfl ⟨(Nat.le_of_ble_eq_true rfl), (Nat.le_of_ble_eq_true rfl)⟩ rfl (Nat.le_of_ble_eq_true rfl) (Nat.le_of_ble_eq_true rfl) rfl rfl (ex_fill (n := 48) rfl (by decide)) rfl ?_
  exact Ex.ret dX5_init_67 rfl
def IC095 : xI := xzr IC094 63
def IC096 : xI := xup IC095 63 3 (-5 : Int32)
def IC097 : xI := xzr IC096 64
def IC098 : xI := xup IC097 64 0 (3 : Int32)
def IC099 : xI := xup IC098 64 1 (9 : Int32)
def IC100 : xI := xzr IC099 65
def IC101 : xI := xzr IC100 66
def IC102 : xI := xzr IC101 67
def IC103 : xI := xzr IC102 68
def IC104 : xI := xfill IC103 67 48 (-5 : Int32)
theorem c_X5_init_8 : Ex none mX5_init 0 [some (.inr (some 63))] [] (sp64, FF65, IC095) (some (none, (sp69, FF70, IC104))) := by
  refine Ex.aload_n (M := mX5_init) (pc2 := 1) dX5_init_0 rfl rfl rfl ?_
  refine Ex.objInitc (M := mX5_init) (pc2 := 4) dX5_init_1 lcX5_3 (Nat.le_of_ble_eq_true rfl) (Nat.le_of_ble_eq_true rfl) rfl ?_
  refine Ex.aload_n (M := mX5_init) (pc2 := 5) dX5_init_4 rfl rfl rfl ?_
  refine Ex.bipush (M := mX5_init) (pc2 := 7) dX5_init_5 kb_m5 rfl ?_
  refine Ex.putI (M := mX5_init) (pc2 := 10) dX5_init_7 xck5 lfX5_9 (Nat.le_of_ble_eq_true rfl) rfl rfl rfl ⟨rfl, rfl⟩ rfl ?_
  refine Ex.castI (I' := IC096) rfl ?_
  refine Ex.aload_n (M := mX5_init) (pc2 := 11) dX5_init_10 rfl rfl rfl ?_
  refine Ex.iconst (M := mX5_init) (pc2 := 12) dX5_init_11 ki_2 rfl ?_
  refine Ex.newac (M := mX5_init) (n := 64) (sh' := sp65) (I' := IC097) (pc2 := 14) dX5_init_12 rfl (Or.inl ⟨rfl, rfl⟩) wd_ar_int (by decide) kn_2 (by decide) rfl rfl rfl rfl rfl rfl ?_
  refine Ex.dup (M := mX5_init) (pc2 := 15) dX5_init_14 rfl ?_
  refine Ex.iconst (M := mX5_init) (pc2 := 16) dX5_init_15 ki_0 rfl ?_
  refine Ex.iconst (M := mX5_init) (pc2 := 17) dX5_init_16 ki_3 rfl ?_
  refine Ex.iastore (M := mX5_init) (pc2 := 18) dX5_init_17 rfl (by decide) rfl ?_
  refine Ex.castI (I' := IC098) (by rw [kn_0]; rfl) ?_
  refine Ex.dup (M := mX5_init) (pc2 := 19) dX5_init_18 rfl ?_
  refine Ex.iconst (M := mX5_init) (pc2 := 20) dX5_init_19 ki_1 rfl ?_
  refine Ex.bipush (M := mX5_init) (pc2 := 22) dX5_init_20 kb_9 rfl ?_
  refine Ex.iastore (M := mX5_init) (pc2 := 23) dX5_init_22 rfl (by decide) rfl ?_
  refine Ex.castI (I' := IC099) (by rw [kn_1]; rfl) ?_
  refine Ex.putR (M := mX5_init) (pc2 := 26) dX5_init_23 xck5 lfX5_15 (Nat.le_of_ble_eq_true rfl) rfl rfl rfl rfl rfl rfl rfl ?_
  refine Ex.castF (F' := FF66) rfl ?_
  refine Ex.aload_n (M := mX5_init) (pc2 := 27) dX5_init_26 rfl rfl rfl ?_
  refine Ex.iconst (M := mX5_init) (pc2 := 28) dX5_init_27 ki_2 rfl ?_
  refine Ex.newac (M := mX5_init) (n := 65) (sh' := sp66) (I' := IC100) (pc2 := 30) dX5_init_28 rfl (Or.inl ⟨rfl, rfl⟩) wd_ar_int (by decide) kn_2 (by decide) rfl rfl rfl rfl rfl rfl ?_
  refine Ex.putR (M := mX5_init) (pc2 := 33) dX5_init_30 xck5 lfX5_19 (Nat.le_of_ble_eq_true rfl) rfl rfl rfl rfl rfl rfl rfl ?_
  refine Ex.castF (F' := FF67) rfl ?_
  refine Ex.aload_n (M := mX5_init) (pc2 := 34) dX5_init_33 rfl rfl rfl ?_
  refine Ex.bipush (M := mX5_init) (pc2 := 36) dX5_init_34 kb_82 rfl ?_
  refine Ex.newac (M := mX5_init) (n := 66) (sh' := sp67) (I' := IC101) (pc2 := 38) dX5_init_36 rfl (Or.inl ⟨rfl, rfl⟩) wd_ar_int (by decide) kn_82 (by decide) rfl rfl rfl rfl rfl rfl ?_
  refine Ex.putR (M := mX5_init) (pc2 := 41) dX5_init_38 xck5 lfX5_22 (Nat.le_of_ble_eq_true rfl) rfl rfl rfl rfl rfl rfl rfl ?_
  refine Ex.castF (F' := FF68) rfl ?_
  refine Ex.aload_n (M := mX5_init) (pc2 := 42) dX5_init_41 rfl rfl rfl ?_
  refine Ex.bipush (M := mX5_init) (pc2 := 44) dX5_init_42 kb_48 rfl ?_
  refine Ex.newac (M := mX5_init) (n := 67) (sh' := sp68) (I' := IC102) (pc2 := 46) dX5_init_44 rfl (Or.inl ⟨rfl, rfl⟩) wd_ar_int (by decide) kn_48 (by decide) rfl rfl rfl rfl rfl rfl ?_
  refine Ex.putR (M := mX5_init) (pc2 := 49) dX5_init_46 xck5 lfX5_25 (Nat.le_of_ble_eq_true rfl) rfl rfl rfl rfl rfl rfl rfl ?_
  refine Ex.castF (F' := FF69) rfl ?_
  refine Ex.aload_n (M := mX5_init) (pc2 := 50) dX5_init_49 rfl rfl rfl ?_
  refine Ex.sipush (M := mX5_init) (pc2 := 53) dX5_init_50 ks_600 rfl ?_
  refine Ex.newac (M := mX5_init) (n := 68) (sh' := sp69) (I' := IC103) (pc2 := 55) dX5_init_53 rfl (Or.inl ⟨rfl, rfl⟩) wd_ar_int (by decide) kn_600 (by decide) rfl rfl rfl rfl rfl rfl ?_
  refine Ex.putR (M := mX5_init) (pc2 := 58) dX5_init_55 xck5 lfX5_28 (Nat.le_of_ble_eq_true rfl) rfl rfl rfl rfl rfl rfl rfl ?_
  refine Ex.castF (F' := FF70) rfl ?_
  refine Ex.aload_n (M := mX5_init) (pc2 := 59) dX5_init_58 rfl rfl rfl ?_
  refine Ex.getR (M := mX5_init) (pc2 := 62) (r := 67) dX5_init_59 xck5 lfX5_25 (Nat.le_of_ble_eq_true rfl) rfl rfl rfl rfl ?_
  refine Ex.bipush (M := mX5_init) (pc2 := 64) dX5_init_62 kb_m5 rfl ?_
  refine Ex.callSc (M := mX5_init) (M' := mJ7_fill_53178) (as := [.inr (some 67), .inl (-5 : Int32)]) (rest := []) (σ1 := (sp69, FF70, IC104)) (pc2 := 67) dX5_init_64 isJ7_fill_53178 lcX5_31 rfl ⟨(Nat.le_of_ble_eq_true rfl), (Nat.le_of_ble_eq_true rfl)⟩ rfl (Nat.le_of_ble_eq_true rfl) (Nat.le_of_ble_eq_true rfl) rfl rfl (ex_fill (n := 48) rfl (by decide)) rfl ?_
  exact Ex.ret dX5_init_67 rfl
theorem c_X6_init_1 : Ex none mX6_init 0 [some (.inr (some 0))] [] (sp01, FF00, IC001) (some (none, (sp69, FF71, IC104))) := by
  refine Ex.aload_n (M := mX6_init) (pc2 := 1) dX6_init_0 rfl rfl rfl ?_
  refine Ex.objInitc (M := mX6_init) (pc2 := 4) dX6_init_1 lcX6_1 (Nat.le_of_ble_eq_true rfl) (Nat.le_of_ble_eq_true rfl) rfl ?_
  refine Ex.aload_n (M := mX6_init) (pc2 := 5) dX6_init_4 rfl rfl rfl ?_
  refine Ex.newc (M := mX6_init) (n := 1) (sh' := sp02) (I' := IC002) (pc2 := 8) dX6_init_5 xck1 llX6_7 wi1 wn1 rfl rfl rfl rfl rfl rfl ?_
  refine Ex.dup (M := mX6_init) (pc2 := 9) dX6_init_8 rfl ?_
  refine Ex.callIc (M := mX6_init) (as := []) (rest := [.inr (some 1), .inr (some 0)]) (pc2 := 12) dX6_init_9 isX1_init lcX6_9 rfl ⟨(Nat.le_of_ble_eq_true rfl), (Nat.le_of_ble_eq_true rfl)⟩ rfl (Nat.le_of_ble_eq_true rfl) (Nat.le_of_ble_eq_true rfl) rfl rfl c_X1_init_1 rfl ?_
  refine Ex.putR (M := mX6_init) (pc2 := 15) dX6_init_12 xck6 lfX6_10 (Nat.le_of_ble_eq_true rfl) rfl rfl rfl rfl rfl rfl rfl ?_
  refine Ex.castF (F' := FF05) rfl ?_
  refine Ex.aload_n (M := mX6_init) (pc2 := 16) dX6_init_15 rfl rfl rfl ?_
  refine Ex.newc (M := mX6_init) (n := 6) (sh' := sp07) (I' := IC010) (pc2 := 19) dX6_init_16 xck4 llX6_16 wi4 wn4 rfl rfl rfl rfl rfl rfl ?_
  refine Ex.dup (M := mX6_init) (pc2 := 20) dX6_init_19 rfl ?_
  refine Ex.aload_n (M := mX6_init) (pc2 := 21) dX6_init_20 rfl rfl rfl ?_
  refine Ex.getR (M := mX6_init) (pc2 := 24) (r := 1) dX6_init_21 xck6 lfX6_10 (Nat.le_of_ble_eq_true rfl) rfl rfl rfl rfl ?_
  refine Ex.callIc (M := mX6_init) (as := [.inr (some 1)]) (rest := [.inr (some 6), .inr (some 0)]) (pc2 := 27) dX6_init_24 isX4_init lcX6_18 rfl ⟨(Nat.le_of_ble_eq_true rfl), (Nat.le_of_ble_eq_true rfl)⟩ rfl (Nat.le_of_ble_eq_true rfl) (Nat.le_of_ble_eq_true rfl) rfl rfl c_X4_init_1 rfl ?_
  refine Ex.putR (M := mX6_init) (pc2 := 30) dX6_init_27 xck6 lfX6_21 (Nat.le_of_ble_eq_true rfl) rfl rfl rfl rfl rfl rfl rfl ?_
  refine Ex.castF (F' := FF12) rfl ?_
  refine Ex.aload_n (M := mX6_init) (pc2 := 31) dX6_init_30 rfl rfl rfl ?_
  refine Ex.newc (M := mX6_init) (n := 12) (sh' := sp13) (I' := IC016) (pc2 := 34) dX6_init_31 xck3 llX6_25 wi3 wn3 rfl rfl rfl rfl rfl rfl ?_
  refine Ex.dup (M := mX6_init) (pc2 := 35) dX6_init_34 rfl ?_
  refine Ex.aload_n (M := mX6_init) (pc2 := 36) dX6_init_35 rfl rfl rfl ?_
  refine Ex.getR (M := mX6_init) (pc2 := 39) (r := 1) dX6_init_36 xck6 lfX6_10 (Nat.le_of_ble_eq_true rfl) rfl rfl rfl rfl ?_
  refine Ex.aload_n (M := mX6_init) (pc2 := 40) dX6_init_39 rfl rfl rfl ?_
  refine Ex.getR (M := mX6_init) (pc2 := 43) (r := 6) dX6_init_40 xck6 lfX6_21 (Nat.le_of_ble_eq_true rfl) rfl rfl rfl rfl ?_
  refine Ex.callIc (M := mX6_init) (as := [.inr (some 1), .inr (some 6)]) (rest := [.inr (some 12), .inr (some 0)]) (pc2 := 46) dX6_init_43 isX3_init lcX6_27 rfl ⟨(Nat.le_of_ble_eq_true rfl), (Nat.le_of_ble_eq_true rfl)⟩ rfl (Nat.le_of_ble_eq_true rfl) (Nat.le_of_ble_eq_true rfl) rfl rfl c_X3_init_1 rfl ?_
  refine Ex.putR (M := mX6_init) (pc2 := 49) dX6_init_46 xck6 lfX6_30 (Nat.le_of_ble_eq_true rfl) rfl rfl rfl rfl rfl rfl rfl ?_
  refine Ex.castF (F' := FF15) rfl ?_
  refine Ex.aload_n (M := mX6_init) (pc2 := 50) dX6_init_49 rfl rfl rfl ?_
  refine Ex.newc (M := mX6_init) (n := 13) (sh' := sp14) (I' := IC017) (pc2 := 53) dX6_init_50 xck0 llX6_34 wi0 wn0 rfl rfl rfl rfl rfl rfl ?_
  refine Ex.dup (M := mX6_init) (pc2 := 54) dX6_init_53 rfl ?_
  refine Ex.callINc (M := mX6_init) (as := []) (rest := [.inr (some 13), .inr (some 0)]) (pc2 := 57) dX6_init_54 isX0_init lnX6_36 rfl ⟨(Nat.le_of_ble_eq_true rfl), (Nat.le_of_ble_eq_true rfl)⟩ rfl (Nat.le_of_ble_eq_true rfl) (Nat.le_of_ble_eq_true rfl) rfl rfl c_X0_init_1 rfl ?_
  refine Ex.putR (M := mX6_init) (pc2 := 60) dX6_init_57 xck6 lfX6_37 (Nat.le_of_ble_eq_true rfl) rfl rfl rfl rfl rfl rfl rfl ?_
  refine Ex.castF (F' := FF21) rfl ?_
  refine Ex.aload_n (M := mX6_init) (pc2 := 61) dX6_init_60 rfl rfl rfl ?_
  refine Ex.newc (M := mX6_init) (n := 19) (sh' := sp20) (I' := IC023) (pc2 := 64) dX6_init_61 xck2 llX6_41 wi2 wn2 rfl rfl rfl rfl rfl rfl ?_
  refine Ex.dup (M := mX6_init) (pc2 := 65) dX6_init_64 rfl ?_
  refine Ex.callINc (M := mX6_init) (as := []) (rest := [.inr (some 19), .inr (some 0)]) (pc2 := 68) dX6_init_65 isX2_init lnX6_43 rfl ⟨(Nat.le_of_ble_eq_true rfl), (Nat.le_of_ble_eq_true rfl)⟩ rfl (Nat.le_of_ble_eq_true rfl) (Nat.le_of_ble_eq_true rfl) rfl rfl c_X2_init_1 rfl ?_
  refine Ex.putR (M := mX6_init) (pc2 := 71) dX6_init_68 xck6 lfX6_44 (Nat.le_of_ble_eq_true rfl) rfl rfl rfl rfl rfl rfl rfl ?_
  refine Ex.castF (F' := FF47) rfl ?_
  refine Ex.aload_n (M := mX6_init) (pc2 := 72) dX6_init_71 rfl rfl rfl ?_
  refine Ex.newc (M := mX6_init) (n := 45) (sh' := sp46) (I' := IC065) (pc2 := 75) dX6_init_72 xck5 llX6_48 wi5 wn5 rfl rfl rfl rfl rfl rfl ?_
  refine Ex.dup (M := mX6_init) (pc2 := 76) dX6_init_75 rfl ?_
  refine Ex.callIc (M := mX6_init) (as := []) (rest := [.inr (some 45), .inr (some 0)]) (pc2 := 79) dX6_init_76 isX5_init lcX6_50 rfl ⟨(Nat.le_of_ble_eq_true rfl), (Nat.le_of_ble_eq_true rfl)⟩ rfl (Nat.le_of_ble_eq_true rfl) (Nat.le_of_ble_eq_true rfl) rfl rfl c_X5_init_5 rfl ?_
  refine Ex.putR (M := mX6_init) (pc2 := 82) dX6_init_79 xck6 lfX6_51 (Nat.le_of_ble_eq_true rfl) rfl rfl rfl rfl rfl rfl rfl ?_
  refine Ex.castF (F' := FF53) rfl ?_
  refine Ex.aload_n (M := mX6_init) (pc2 := 83) dX6_init_82 rfl rfl rfl ?_
  refine Ex.newc (M := mX6_init) (n := 51) (sh' := sp52) (I' := IC075) (pc2 := 86) dX6_init_83 xck5 llX6_48 wi5 wn5 rfl rfl rfl rfl rfl rfl ?_
  refine Ex.dup (M := mX6_init) (pc2 := 87) dX6_init_86 rfl ?_
  refine Ex.callIc (M := mX6_init) (as := []) (rest := [.inr (some 51), .inr (some 0)]) (pc2 := 90) dX6_init_87 isX5_init lcX6_50 rfl ⟨(Nat.le_of_ble_eq_true rfl), (Nat.le_of_ble_eq_true rfl)⟩ rfl (Nat.le_of_ble_eq_true rfl) (Nat.le_of_ble_eq_true rfl) rfl rfl c_X5_init_6 rfl ?_
  refine Ex.putR (M := mX6_init) (pc2 := 93) dX6_init_90 xck6 lfX6_55 (Nat.le_of_ble_eq_true rfl) rfl rfl rfl rfl rfl rfl rfl ?_
  refine Ex.castF (F' := FF59) rfl ?_
  refine Ex.aload_n (M := mX6_init) (pc2 := 94) dX6_init_93 rfl rfl rfl ?_
  refine Ex.newc (M := mX6_init) (n := 57) (sh' := sp58) (I' := IC085) (pc2 := 97) dX6_init_94 xck5 llX6_48 wi5 wn5 rfl rfl rfl rfl rfl rfl ?_
  refine Ex.dup (M := mX6_init) (pc2 := 98) dX6_init_97 rfl ?_
  refine Ex.callIc (M := mX6_init) (as := []) (rest := [.inr (some 57), .inr (some 0)]) (pc2 := 101) dX6_init_98 isX5_init lcX6_50 rfl ⟨(Nat.le_of_ble_eq_true rfl), (Nat.le_of_ble_eq_true rfl)⟩ rfl (Nat.le_of_ble_eq_true rfl) (Nat.le_of_ble_eq_true rfl) rfl rfl c_X5_init_7 rfl ?_
  refine Ex.putR (M := mX6_init) (pc2 := 104) dX6_init_101 xck6 lfX6_58 (Nat.le_of_ble_eq_true rfl) rfl rfl rfl rfl rfl rfl rfl ?_
  refine Ex.castF (F' := FF65) rfl ?_
  refine Ex.aload_n (M := mX6_init) (pc2 := 105) dX6_init_104 rfl rfl rfl ?_
  refine Ex.newc (M := mX6_init) (n := 63) (sh' := sp64) (I' := IC095) (pc2 := 108) dX6_init_105 xck5 llX6_48 wi5 wn5 rfl rfl rfl rfl rfl rfl ?_
  refine Ex.dup (M := mX6_init) (pc2 := 109) dX6_init_108 rfl ?_
  refine Ex.callIc (M := mX6_init) (as := []) (rest := [.inr (some 63), .inr (some 0)]) (pc2 := 112) dX6_init_109 isX5_init lcX6_50 rfl ⟨(Nat.le_of_ble_eq_true rfl), (Nat.le_of_ble_eq_true rfl)⟩ rfl (Nat.le_of_ble_eq_true rfl) (Nat.le_of_ble_eq_true rfl) rfl rfl c_X5_init_8 rfl ?_
  refine Ex.putR (M := mX6_init) (pc2 := 115) dX6_init_112 xck6 lfX6_61 (Nat.le_of_ble_eq_true rfl) rfl rfl rfl rfl rfl rfl rfl ?_
  refine Ex.castF (F' := FF71) rfl ?_
  exact Ex.ret dX6_init_115 rfl
def IC105 : xI := xzr IC104 69
def IC106 : xI := xzr IC105 70
def IC107 : xI := xzr IC106 71
def IC108 : xI := xzr IC107 72
def IC109 : xI := xzr IC108 73
def IC110 : xI := xzr IC109 74
def IC111 : xI := xzr IC110 75
def IC112 : xI := xup IC111 69 9 (-5 : Int32)
def IC113 : xI := xup IC112 69 10 (-5 : Int32)
def IC114 : xI := xzr IC113 76
def IC115 : xI := xup IC114 70 4 (3 : Int32)
def IC116 : xI := xup IC115 70 5 (9 : Int32)
def IC117 : xI := xup IC116 70 8 (-5 : Int32)
def IC118 : xI := match f_X7_init_103 xZ 0 IC117 with | some r => r.2 | none => IC117
set_option maxRecDepth 100000 in
theorem con_X7 : f_X7_init_103 xZ 0 IC117 = some (0, IC118) := xSm (I0 := IC117) (by decide +kernel) (by decide +kernel)
theorem xGm {I I2 : xI} {f : Option (Int32 × xI)} {ls : List (Option xV)} (h : f = some (0, I2)) (k : Ey none mX7_init 103 ls [] I f) : Ex none mX7_init 103 ls [] (SH, FF, I) (some (none, (sp77, FF78, I2))) := by
  subst h
  exact k
theorem c_X7_init_1 : Ex none mX7_init 0 [some (.inr (some 69)), none] [] (sp70, FF71, IC105) (some (none, (sp77, FF78, IC118))) := by
  refine Ex.aload_n (M := mX7_init) (pc2 := 1) dX7_init_0 rfl rfl rfl ?_
  refine Ex.objInitc (M := mX7_init) (pc2 := 4) dX7_init_1 lcX7_1 (Nat.le_of_ble_eq_true rfl) (Nat.le_of_ble_eq_true rfl) rfl ?_
  refine Ex.aload_n (M := mX7_init) (pc2 := 5) dX7_init_4 rfl rfl rfl ?_
  refine Ex.sipush (M := mX7_init) (pc2 := 8) dX7_init_5 ks_742 rfl ?_
  refine Ex.newac (M := mX7_init) (n := 70) (sh' := sp71) (I' := IC106) (pc2 := 10) dX7_init_8 rfl (Or.inl ⟨rfl, rfl⟩) wd_ar_int (by decide) kn_742 (by decide) rfl rfl rfl rfl rfl rfl ?_
  refine Ex.putR (M := mX7_init) (pc2 := 13) dX7_init_10 xck7 lfX7_7 (Nat.le_of_ble_eq_true rfl) rfl rfl rfl rfl rfl rfl rfl ?_
  refine Ex.castF (F' := FF72) rfl ?_
  refine Ex.aload_n (M := mX7_init) (pc2 := 14) dX7_init_13 rfl rfl rfl ?_
  refine Ex.sipush (M := mX7_init) (pc2 := 17) dX7_init_14 ks_742 rfl ?_
  refine Ex.newac (M := mX7_init) (n := 71) (sh' := sp72) (I' := IC107) (pc2 := 19) dX7_init_17 rfl (Or.inl ⟨rfl, rfl⟩) wd_ar_int (by decide) kn_742 (by decide) rfl rfl rfl rfl rfl rfl ?_
  refine Ex.putR (M := mX7_init) (pc2 := 22) dX7_init_19 xck7 lfX7_13 (Nat.le_of_ble_eq_true rfl) rfl rfl rfl rfl rfl rfl rfl ?_
  refine Ex.castF (F' := FF73) rfl ?_
  refine Ex.aload_n (M := mX7_init) (pc2 := 23) dX7_init_22 rfl rfl rfl ?_
  refine Ex.sipush (M := mX7_init) (pc2 := 26) dX7_init_23 ks_742 rfl ?_
  refine Ex.newac (M := mX7_init) (n := 72) (sh' := sp73) (I' := IC108) (pc2 := 28) dX7_init_26 rfl (Or.inl ⟨rfl, rfl⟩) wd_ar_int (by decide) kn_742 (by decide) rfl rfl rfl rfl rfl rfl ?_
  refine Ex.putR (M := mX7_init) (pc2 := 31) dX7_init_28 xck7 lfX7_16 (Nat.le_of_ble_eq_true rfl) rfl rfl rfl rfl rfl rfl rfl ?_
  refine Ex.castF (F' := FF74) rfl ?_
  refine Ex.aload_n (M := mX7_init) (pc2 := 32) dX7_init_31 rfl rfl rfl ?_
  refine Ex.sipush (M := mX7_init) (pc2 := 35) dX7_init_32 ks_742 rfl ?_
  refine Ex.newac (M := mX7_init) (n := 73) (sh' := sp74) (I' := IC109) (pc2 := 37) dX7_init_35 rfl (Or.inl ⟨rfl, rfl⟩) wd_ar_int (by decide) kn_742 (by decide) rfl rfl rfl rfl rfl rfl ?_
  refine Ex.putR (M := mX7_init) (pc2 := 40) dX7_init_37 xck7 lfX7_19 (Nat.le_of_ble_eq_true rfl) rfl rfl rfl rfl rfl rfl rfl ?_
  refine Ex.castF (F' := FF75) rfl ?_
  refine Ex.aload_n (M := mX7_init) (pc2 := 41) dX7_init_40 rfl rfl rfl ?_
  refine Ex.sipush (M := mX7_init) (pc2 := 44) dX7_init_41 ks_2968 rfl ?_
  refine Ex.newac (M := mX7_init) (n := 74) (sh' := sp75) (I' := IC110) (pc2 := 46) dX7_init_44 rfl (Or.inl ⟨rfl, rfl⟩) wd_ar_int (by decide) kn_2968 (by decide) rfl rfl rfl rfl rfl rfl ?_
  refine Ex.putR (M := mX7_init) (pc2 := 49) dX7_init_46 xck7 lfX7_22 (Nat.le_of_ble_eq_true rfl) rfl rfl rfl rfl rfl rfl rfl ?_
  refine Ex.castF (F' := FF76) rfl ?_
  refine Ex.aload_n (M := mX7_init) (pc2 := 50) dX7_init_49 rfl rfl rfl ?_
  refine Ex.bipush (M := mX7_init) (pc2 := 52) dX7_init_50 kb_60 rfl ?_
  refine Ex.newac (M := mX7_init) (n := 75) (sh' := sp76) (I' := IC111) (pc2 := 54) dX7_init_52 rfl (Or.inl ⟨rfl, rfl⟩) wd_ar_int (by decide) kn_60 (by decide) rfl rfl rfl rfl rfl rfl ?_
  refine Ex.putR (M := mX7_init) (pc2 := 57) dX7_init_54 xck7 lfX7_25 (Nat.le_of_ble_eq_true rfl) rfl rfl rfl rfl rfl rfl rfl ?_
  refine Ex.castF (F' := FF77) rfl ?_
  refine Ex.aload_n (M := mX7_init) (pc2 := 58) dX7_init_57 rfl rfl rfl ?_
  refine Ex.bipush (M := mX7_init) (pc2 := 60) dX7_init_58 kb_m5 rfl ?_
  refine Ex.putI (M := mX7_init) (pc2 := 63) dX7_init_60 xck7 lfX7_28 (Nat.le_of_ble_eq_true rfl) rfl rfl rfl ⟨rfl, rfl⟩ rfl ?_
  refine Ex.castI (I' := IC112) rfl ?_
  refine Ex.aload_n (M := mX7_init) (pc2 := 64) dX7_init_63 rfl rfl rfl ?_
  refine Ex.bipush (M := mX7_init) (pc2 := 66) dX7_init_64 kb_m5 rfl ?_
  refine Ex.putI (M := mX7_init) (pc2 := 69) dX7_init_66 xck7 lfX7_32 (Nat.le_of_ble_eq_true rfl) rfl rfl rfl ⟨rfl, rfl⟩ rfl ?_
  refine Ex.castI (I' := IC113) rfl ?_
  refine Ex.aload_n (M := mX7_init) (pc2 := 70) dX7_init_69 rfl rfl rfl ?_
  refine Ex.bipush (M := mX7_init) (pc2 := 72) dX7_init_70 kb_48 rfl ?_
  refine Ex.newac (M := mX7_init) (n := 76) (sh' := sp77) (I' := IC114) (pc2 := 74) dX7_init_72 rfl (Or.inr (Or.inr ⟨rfl, rfl⟩)) wd_ar_boolean (by decide) kn_48 (by decide) rfl rfl rfl rfl rfl rfl ?_
  refine Ex.putR (M := mX7_init) (pc2 := 77) dX7_init_74 xck7 lfX7_35 (Nat.le_of_ble_eq_true rfl) rfl rfl rfl rfl rfl rfl rfl ?_
  refine Ex.castF (F' := FF78) rfl ?_
  refine Ex.aload_n (M := mX7_init) (pc2 := 78) dX7_init_77 rfl rfl rfl ?_
  refine Ex.getR (M := mX7_init) (pc2 := 81) (r := 70) dX7_init_78 xck7 lfX7_7 (Nat.le_of_ble_eq_true rfl) rfl rfl rfl rfl ?_
  refine Ex.iconst (M := mX7_init) (pc2 := 82) dX7_init_81 ki_4 rfl ?_
  refine Ex.iconst (M := mX7_init) (pc2 := 83) dX7_init_82 ki_3 rfl ?_
  refine Ex.iastore (M := mX7_init) (pc2 := 84) dX7_init_83 rfl (by decide) rfl ?_
  refine Ex.castI (I' := IC115) (by rw [kn_4]; rfl) ?_
  refine Ex.aload_n (M := mX7_init) (pc2 := 85) dX7_init_84 rfl rfl rfl ?_
  refine Ex.getR (M := mX7_init) (pc2 := 88) (r := 70) dX7_init_85 xck7 lfX7_7 (Nat.le_of_ble_eq_true rfl) rfl rfl rfl rfl ?_
  refine Ex.iconst (M := mX7_init) (pc2 := 89) dX7_init_88 ki_5 rfl ?_
  refine Ex.bipush (M := mX7_init) (pc2 := 91) dX7_init_89 kb_9 rfl ?_
  refine Ex.iastore (M := mX7_init) (pc2 := 92) dX7_init_91 rfl (by decide) rfl ?_
  refine Ex.castI (I' := IC116) (by rw [kn_5]; rfl) ?_
  refine Ex.aload_n (M := mX7_init) (pc2 := 93) dX7_init_92 rfl rfl rfl ?_
  refine Ex.getR (M := mX7_init) (pc2 := 96) (r := 70) dX7_init_93 xck7 lfX7_7 (Nat.le_of_ble_eq_true rfl) rfl rfl rfl rfl ?_
  refine Ex.bipush (M := mX7_init) (pc2 := 98) dX7_init_96 kb_8 rfl ?_
  refine Ex.bipush (M := mX7_init) (pc2 := 100) dX7_init_98 kb_m5 rfl ?_
  refine Ex.iastore (M := mX7_init) (pc2 := 101) dX7_init_100 rfl (by decide) rfl ?_
  refine Ex.castI (I' := IC117) (by rw [kn_8]; rfl) ?_
  refine Ex.iconst (M := mX7_init) (pc2 := 102) dX7_init_101 ki_0 rfl ?_
  refine Ex.istore_n (M := mX7_init) (pc2 := 103) dX7_init_102 rfl (Nat.le_of_ble_eq_true rfl) rfl ?_
  refine Ex.castS (sh' := SH) rfl ?_
  refine xGm ?_ (t_X7_init_103 xZ 0 IC117)
  exact con_X7
abbrev I00 : xI := IC118
theorem c_law {L : Nat} {xs : Nat → Int32} {o : Option (Option Int32 × xS)} (k : Ex (some (L, xs)) mL_law 18 [some (.inr none), some (.inr (some 0)), some (.inr (some 69)), some (.inl 0)] [] (SH, FF, I00) o) : Ex (some (L, xs)) mL_law 0 [some (.inr none), none, none, none] [] (sp00, FF00, IC000) o := by
  refine Ex.newc (M := mL_law) (n := 0) (sh' := sp01) (I' := IC001) (pc2 := 3) dL_law_0 xck6 llL_7 wi6 wn6 rfl rfl rfl rfl rfl rfl ?_
  refine Ex.dup (M := mL_law) (pc2 := 4) dL_law_3 rfl ?_
  refine Ex.callIc (M := mL_law) (as := []) (rest := [.inr (some 0)]) (pc2 := 7) dL_law_4 isX6_init lcL_9 rfl ⟨(Nat.le_of_ble_eq_true rfl), (Nat.le_of_ble_eq_true rfl)⟩ rfl (Nat.le_of_ble_eq_true rfl) (Nat.le_of_ble_eq_true rfl) rfl rfl c_X6_init_1 rfl ?_
  refine Ex.astore_n (M := mL_law) (pc2 := 8) dL_law_7 rfl (Nat.le_of_ble_eq_true rfl) rfl ?_
  refine Ex.newc (M := mL_law) (n := 69) (sh' := sp70) (I' := IC105) (pc2 := 11) dL_law_8 xck7 llL_10 wi7 wn7 rfl rfl rfl rfl rfl rfl ?_
  refine Ex.dup (M := mL_law) (pc2 := 12) dL_law_11 rfl ?_
  refine Ex.callIc (M := mL_law) (as := []) (rest := [.inr (some 69)]) (pc2 := 15) dL_law_12 isX7_init lcL_12 rfl ⟨(Nat.le_of_ble_eq_true rfl), (Nat.le_of_ble_eq_true rfl)⟩ rfl (Nat.le_of_ble_eq_true rfl) (Nat.le_of_ble_eq_true rfl) rfl rfl c_X7_init_1 rfl ?_
  refine Ex.astore_n (M := mL_law) (pc2 := 16) dL_law_15 rfl (Nat.le_of_ble_eq_true rfl) rfl ?_
  refine Ex.iconst (M := mL_law) (pc2 := 17) dL_law_16 ki_0 rfl ?_
  refine Ex.istore_n (M := mL_law) (pc2 := 18) dL_law_17 rfl (Nat.le_of_ble_eq_true rfl) rfl ?_
  exact k
