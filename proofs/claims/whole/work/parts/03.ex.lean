
/-! THE PICTURE: the world is a list of kinds (an object of a class, or an array of a type and a length), the references that cells hold, and the ints that cells hold.
A value is an int or a reference: none is the script, some k the cell k of the list. 'ad' gives the cells' addresses. -/
abbrev xV : Type := Int32 ⊕ Option Nat
abbrev xI : Type := Nat → Nat → Int32
abbrev xF : Type := Nat → Nat → Option Nat
abbrev xS : Type := List (Nat ⊕ (FieldType × Nat)) × xF × xI
/-- a method: name, bytes, locals, what it returns, frames and words of locals that its calls need -/
abbrev xM : Type := MethodName × ByteArray × Nat × Option FieldType × Nat × Nat
abbrev xY (M : xM) : MethodName := M.1
abbrev xB (M : xM) : ByteArray := M.2.1
abbrev xL (M : xM) : Nat := M.2.2.1
abbrev xT (M : xM) : Option FieldType := M.2.2.2.1
abbrev xFr (M : xM) : Nat := M.2.2.2.2.1
abbrev xLo (M : xM) : Nat := M.2.2.2.2.2
def xvm (b : Nat) (ad : Nat → Nat) : xV → Value
  | .inl x => .int x
  | .inr none => .ref b
  | .inr (some k) => .ref (ad k)
def xLv (g : xV → Value) (ls : List (Option xV)) : List (Nat × Value) := ls.zipIdx.filterMap (fun q => q.1.map (fun v => (q.2, g v)))
theorem xLv_mem {g : xV → Value} {ls : List (Option xV)} {q : Nat × Value} : q ∈ xLv g ls ↔ ∃ v, ls[q.1]? = some (some v) ∧ q.2 = g v := by
  unfold xLv
  rw [List.mem_filterMap]
  constructor
  · rintro ⟨⟨o, i⟩, h1, h2⟩
    rw [List.mem_zipIdx_iff_getElem?] at h1
    cases o with
    | none => simp at h2
    | some v =>
      simp only [Option.map_some, Option.some.injEq] at h2
      subst h2
      exact ⟨v, h1, rfl⟩
  · rintro ⟨v, h1, h2⟩
    refine ⟨(some v, q.1), ?_, ?_⟩
    · rw [List.mem_zipIdx_iff_getElem?]; exact h1
    · simp [← h2]
theorem lv_has_mono {ls : Array Slot} {n : Nat} {l l' : List (Nat × Value)} (h : lv_has ls n l) (hs : ∀ q ∈ l', q ∈ l) : lv_has ls n l' := ⟨h.1, h.2.1, fun q hq => h.2.2 q (hs q hq)⟩
theorem xvm_cat (b : Nat) (ad : Nat → Nat) (v : xV) : (xvm b ad v).category = 1 := by
  rcases v with x | (_ | k) <;> rfl
theorem xLv_at {LS : Array Slot} {n : Nat} {g : xV → Value} {ls : List (Option xV)} (h : lv_has LS n (xLv g ls)) {i : Nat} {v : xV} (hi : ls[i]? = some (some v)) : LS[i]? = some (.val (g v)) := h.2.2 (i, g v) (xLv_mem.mpr ⟨v, hi, rfl⟩)
theorem xLv_set {LS : Array Slot} {n i : Nat} {b : Nat} {ad : Nat → Nat} {ls : List (Option xV)} {v : xV} {w : Value} (hw : w = xvm b ad v)
    (h : lv_has LS n ((i, w) :: (xLv (xvm b ad) ls).filter (fun q => !(q.1 == i) && !(q.1 + 1 == i && q.2.category == 2)))) : lv_has LS n (xLv (xvm b ad) (ls.set i (some v))) := by
  subst hw
  refine lv_has_mono h (fun q hq => ?_)
  obtain ⟨u, h1, h2⟩ := xLv_mem.mp hq
  by_cases hj : q.1 = i
  · rw [hj] at h1
    rw [List.getElem?_set_self'] at h1
    cases hz : ls[i]? with
    | none => rw [hz] at h1; simp at h1
    | some z =>
      rw [hz] at h1
      simp at h1
      refine List.mem_cons.mpr (Or.inl ?_)
      obtain ⟨q1, q2⟩ := q
      simp only at hj h2
      rw [hj, h2, h1]
  · rw [List.getElem?_set_ne (Ne.symm hj)] at h1
    refine List.mem_cons.mpr (Or.inr (List.mem_filter.mpr ⟨xLv_mem.mpr ⟨u, h1, h2⟩, ?_⟩))
    have hc : q.2.category = 1 := by rw [h2]; exact xvm_cat b ad u
    simp [hj, hc]
/-! the cells -/
def xRf : FieldType → Bool
  | .object _ => true
  | .array _ => true
  | _ => false
def xTy (ci : Nat) : Nat → FieldType := match ci with
  | 0 => tyX0
  | 1 => tyX1
  | 2 => tyX2
  | 3 => tyX3
  | 4 => tyX4
  | 5 => tyX5
  | 6 => tyX6
  | _ => tyX7
def xN (ci : Nat) : Nat := match ci with
  | 0 => 8
  | 1 => 4
  | 2 => 3
  | 3 => 2
  | 4 => 6
  | 5 => 9
  | 6 => 13
  | _ => 19
def xfv (ad : Nat → Nat) (f : Nat → Option Nat) (r : Nat → Int32) (ci j : Nat) : Value := if xRf (xTy ci j) = true then va_rf ((f j).map ad) else .int (r j)
def xE (dA : FieldType → ClassId) (ad : Nat → Nat) (f : Nat → Option Nat) (r : Nat → Int32) : Nat ⊕ (FieldType × Nat) → va_E
  | .inl ci => .inr (ci, (List.range (xN ci)).map (xfv ad f r ci))
  | .inr q => .inl (dA q.1, q.2, if xRf q.1 = true then .inr (.inr (.inr (.inr (fun j => (f j).map ad)))) else .inl r)
def xWs (dA : FieldType → ClassId) (ad : Nat → Nat) (σ : xS) : va_W := σ.1.zipIdx.map (fun q => (ad q.2, xE dA ad (σ.2.1 q.2) (σ.2.2 q.2) q.1))
theorem xWs_at (dA : FieldType → ClassId) (ad : Nat → Nat) (σ : xS) (k : Nat) : (xWs dA ad σ)[k]? = (σ.1[k]?).map (fun kd => (ad k, xE dA ad (σ.2.1 k) (σ.2.2 k) kd)) := by
  unfold xWs
  rw [List.getElem?_map, List.getElem?_zipIdx]
  cases σ.1[k]? <;> simp
theorem xWs_some {dA : FieldType → ClassId} {ad : Nat → Nat} {σ : xS} {k : Nat} {kd : Nat ⊕ (FieldType × Nat)} (h : σ.1[k]? = some kd) : (xWs dA ad σ)[k]? = some (ad k, xE dA ad (σ.2.1 k) (σ.2.2 k) kd) := by rw [xWs_at, h]; rfl
theorem xWs_len (dA : FieldType → ClassId) (ad : Nat → Nat) (σ : xS) : (xWs dA ad σ).length = σ.1.length := by simp [xWs]
def xup {α : Type} (f : Nat → Nat → α) (k j : Nat) (x : α) : Nat → Nat → α := fun a c => if a = k then (if c = j then x else f a c) else f a c
theorem xup_row {α : Type} (f : Nat → Nat → α) (k j : Nat) (x : α) : xup f k j x k = fun c => if c = j then x else f k c := by funext c; simp [xup]
theorem xup_other {α : Type} (f : Nat → Nat → α) (k j : Nat) (x : α) {a : Nat} (h : ¬ a = k) : xup f k j x a = f a := by funext c; simp [xup, h]
theorem xWs_upI {dA : FieldType → ClassId} {ad : Nat → Nat} {sh : List (Nat ⊕ (FieldType × Nat))} {F : xF} {I : xI} {k j : Nat} {x : Int32} {kd : Nat ⊕ (FieldType × Nat)} (h : sh[k]? = some kd) :
    (xWs dA ad (sh, F, I)).set k (ad k, xE dA ad (F k) (fun c => if c = j then x else I k c) kd) = xWs dA ad (sh, F, xup I k j x) := by
  have hl : k < sh.length := (List.getElem?_eq_some_iff.mp h).1
  refine List.ext_getElem? (fun i => ?_)
  by_cases hi : i = k
  · subst hi
    rw [List.getElem?_set_self (by rw [xWs_len]; exact hl), xWs_some (σ := (sh, F, xup I i j x)) h]
    show _ = some (ad i, xE dA ad (F i) (xup I i j x i) kd)
    rw [xup_row]
  · rw [List.getElem?_set_ne (Ne.symm hi), xWs_at, xWs_at]
    show Option.map (fun kd => (ad i, xE dA ad (F i) (I i) kd)) sh[i]? = Option.map (fun kd => (ad i, xE dA ad (F i) (xup I k j x i) kd)) sh[i]?
    rw [xup_other _ _ _ _ hi]
theorem xWs_upF {dA : FieldType → ClassId} {ad : Nat → Nat} {sh : List (Nat ⊕ (FieldType × Nat))} {F : xF} {I : xI} {k j : Nat} {x : Option Nat} {kd : Nat ⊕ (FieldType × Nat)} (h : sh[k]? = some kd) :
    (xWs dA ad (sh, F, I)).set k (ad k, xE dA ad (fun c => if c = j then x else F k c) (I k) kd) = xWs dA ad (sh, xup F k j x, I) := by
  have hl : k < sh.length := (List.getElem?_eq_some_iff.mp h).1
  refine List.ext_getElem? (fun i => ?_)
  by_cases hi : i = k
  · subst hi
    rw [List.getElem?_set_self (by rw [xWs_len]; exact hl), xWs_some (σ := (sh, xup F i j x, I)) h]
    show _ = some (ad i, xE dA ad (xup F i j x i) (I i) kd)
    rw [xup_row]
  · rw [List.getElem?_set_ne (Ne.symm hi), xWs_at, xWs_at]
    show Option.map (fun kd => (ad i, xE dA ad (F i) (I i) kd)) sh[i]? = Option.map (fun kd => (ad i, xE dA ad (xup F k j x i) (I i) kd)) sh[i]?
    rw [xup_other _ _ _ _ hi]
/-- how many slots a world has -/
def xSz : Nat ⊕ (FieldType × Nat) → Nat
  | .inl ci => xN ci
  | .inr q => q.2
def xC (σ : xS) : Nat := σ.1.length
def xW (σ : xS) : Nat := (σ.1.map xSz).sum
/-- references lie in the world -/
def xFw (σ : xS) : Prop := ∀ k j r, σ.2.1 k j = some r → k < σ.1.length ∧ r < σ.1.length
/-! the words -/
def xWd : List Cond := lw_tbl.filter goodWord
theorem xWd_of {w : Cond} (i : Nat) (h : lw_tbl[i]? = some w) (hg : goodWord w = true) : w ∈ xWd := List.mem_filter.mpr ⟨List.mem_of_getElem? h, hg⟩
def xMw (M : xM) : List Cond := Cond.code (xY M) (xB M) (xL M) (xT M) :: xWd
/-- a method that can be called: its code, its class's start -/
def xGood (M : xM) : Prop := plainFor (xY M) = true ∧ Cond.code (xY M) (xB M) (xL M) (xT M) ∈ xWd ∧ Cond.initialized (xY M).cls ∈ xWd ∧ ((xY M).cls ≠ "java/lang/invoke/MethodHandle" ∧ (xY M).cls ≠ "java/lang/invoke/VarHandle")
theorem xMw_good {M : xM} (h : xGood M) : GoodIn xWd (xMw M) := by
  intro w hw
  rcases List.mem_cons.mp hw with e | e
  · rw [e]; exact ⟨h.2.1, good_of_word (List.mem_filter.mp h.2.1).2⟩
  · exact ⟨e, good_of_word (List.mem_filter.mp e).2⟩
/-- the calls of nest mates' private members -/
def xIsN : Cond → Bool
  | .methodLinkNest .. => true
  | _ => false
def xNw : List Cond := tables_1.filter xIsN
theorem xNw_tab {w : Cond} (h : w ∈ xNw) : ∃ a i y n, w = .methodLinkNest a i y n := by
  have h2 := (List.mem_filter.mp h).2
  cases w <;> first | exact ⟨_, _, _, _, rfl⟩ | cases h2
theorem xNw_of {w : Cond} (i : Nat) (h : tables_1[i]? = some w) (hg : xIsN w = true) : w ∈ xNw := List.mem_filter.mpr ⟨List.mem_of_getElem? h, hg⟩
def xTys (dA : FieldType → ClassId) : List (ClassId × FieldType) := [(dA .int, .int), (dA .char, .char), (dA .boolean, .boolean), (dA (.object "FenceDuel$State"), .object "FenceDuel$State")]
def xCtx (X : Option (Nat × (Nat → Int32))) (M : xM) (p : Program) (R : Room) (s : State) (m : MethodId) (args : Array Value) (meth : Method) (c : Code) (D : va_G) (dA : FieldType → ClassId) (A : Nat → Prop) (b : Nat) : Prop :=
  p.tables.exec = Jvm.exec ∧ c.code = xB M ∧ c.maxLocals = xL M ∧ s.vm.findClass (xY M).cls = some m.cls ∧ (∀ w ∈ xWd, w.before args s = true) ∧ (∀ w ∈ xNw, va_Nw w s) ∧ va_AO "FenceDuel$State" s ∧ ((xY M).name = "<init>" → meth.name = "<init>") ∧ xFr M ≤ R.frames ∧ xLo M ≤ R.locals ∧
  va_K D vwCl (xTys dA) s ∧ (∀ q, s.heap.size ≤ q → A q) ∧ (∀ L xs, X = some (L, xs) → va_X b L xs s s.heap ∧ b < s.heap.size ∧ ¬ A b)
def xRel (D : va_G) (dA : FieldType → ClassId) (A : Nat → Prop) (σ : xS) (ad : Nat → Nat) (H : Heap) : Prop := va_P D vwCl (xWs dA ad σ) H ∧ va_D A (xWs dA ad σ) ∧ xFw σ
def xEnd (M : xM) (pc : Nat) : Option Int32 → Prop
  | none => xT M = none ∧ decode (xB M) pc = .ok (.return_, 1)
  | some x => ∃ ty, xT M = some ty ∧ narrow ty (.int x) = .int x ∧ decode (xB M) pc = .ok (.ireturn, 1)
def xAg (σ σ' : xS) (ad ad' : Nat → Nat) : Prop := ∀ k, ¬ (σ.1.length ≤ k ∧ k < σ'.1.length) → ad' k = ad k
def xst (v : Option Int32) : List Value := (v.map Value.int).toList
/-- THE JUDGEMENT: from pc, with these locals and this stack over the world σ, the method comes to its end with o's answer and world (none: nothing is said) -/
def Ex (X : Option (Nat × (Nat → Int32))) (M : xM) (pc : Nat) (ls : List (Option xV)) (st : List xV) (σ : xS) (o : Option (Option Int32 × xS)) : Prop :=
  ∀ v σ', o = some (v, σ') → σ.1 <+: σ'.1 ∧
    ∀ {p : Program} {l : Launch} {e : Env} {R : Room} {s : State} {m : MethodId} {args : Array Value} {below : List Frame} {meth : Method} {c : Code} {H : Heap} {locs : List Loc} {cells slots : Nat} {Q : State → Prop} (D : va_G) (dA : FieldType → ClassId) (A : Nat → Prop) (b : Nat) (ad : Nat → Nat) (LS : Array Slot),
      xCtx X M p R s m args meth c D dA A b → cells + (xC σ' - xC σ) ≤ R.cells ∧ slots + (xW σ' - xW σ) ≤ R.slots → xRel D dA A σ ad H → va_S A s.heap H locs → lv_has LS (xL M) (xLv (xvm b ad) ls) →
      (∀ (pc' : Nat) (LS' : Array Slot) (H' : Heap) (locs' : List Loc) (ad' : Nat → Nat), xAg σ σ' ad ad' → xRel D dA A σ' ad' H' → va_S A s.heap H' locs' → xEnd M pc' v → W p l e R s m args below meth c H' locs' (cells + (xC σ' - xC σ)) (slots + (xW σ' - xW σ)) Q (F0 m pc' LS' (xst v))) →
      W p l e R s m args below meth c H locs cells slots Q (F0 m pc LS (st.map (xvm b ad)))
section EX
variable {X : Option (Nat × (Nat → Int32))} {M : xM} {pc : Nat} {ls : List (Option xV)} {st : List xV} {σ : xS} {o : Option (Option Int32 × xS)}
theorem Ex.nil : Ex X M pc ls st σ none := fun _ _ h => by cases h
theorem Ex.ite {c : Prop} (inst : Decidable c) {o1 o2 : Option (Option Int32 × xS)} (h1 : c → Ex X M pc ls st σ o1) (h2 : ¬ c → Ex X M pc ls st σ o2) : Ex X M pc ls st σ (@_root_.ite _ c inst o1 o2) := by
  by_cases h : c
  · rw [if_pos h]; exact h1 h
  · rw [if_neg h]; exact h2 h
theorem Ex.guard {c : Prop} (inst : Decidable c) (h1 : c → Ex X M pc ls st σ o) : Ex X M pc ls st σ (@_root_.ite _ c inst o Option.none) := Ex.ite inst h1 (fun _ => Ex.nil)

theorem Ex.iconst {pc2 : Nat} {n : Int} {x : Int32} (hd : decode (xB M) pc = .ok (.iconst n, 1)) (hv : Int32.ofInt n = x) (hp : pc + 1 = pc2) (k : Ex X M pc2 ls (.inl x :: st) σ o) : Ex X M pc ls (st) σ o := by
  subst hp
  intro v σ' ho
  obtain ⟨h1, h2⟩ := k v σ' ho
  refine ⟨h1, fun D dA A b ad LS C hcs hR hS hl K => ?_⟩
  exact lv_iconst C.1 C.2.1 hd hv (h2 D dA A b ad LS C hcs hR hS hl K)
theorem Ex.bipush {pc2 : Nat} {n : Int} {x : Int32} (hd : decode (xB M) pc = .ok (.bipush n, 2)) (hv : (Int8.ofInt n).toInt32 = x) (hp : pc + 2 = pc2) (k : Ex X M pc2 ls (.inl x :: st) σ o) : Ex X M pc ls (st) σ o := by
  subst hp
  intro v σ' ho
  obtain ⟨h1, h2⟩ := k v σ' ho
  refine ⟨h1, fun D dA A b ad LS C hcs hR hS hl K => ?_⟩
  exact lv_bipush C.1 C.2.1 hd hv (h2 D dA A b ad LS C hcs hR hS hl K)
theorem Ex.sipush {pc2 : Nat} {n : Int} {x : Int32} (hd : decode (xB M) pc = .ok (.sipush n, 3)) (hv : (Int16.ofInt n).toInt32 = x) (hp : pc + 3 = pc2) (k : Ex X M pc2 ls (.inl x :: st) σ o) : Ex X M pc ls (st) σ o := by
  subst hp
  intro v σ' ho
  obtain ⟨h1, h2⟩ := k v σ' ho
  refine ⟨h1, fun D dA A b ad LS C hcs hR hS hl K => ?_⟩
  exact lv_sipush C.1 C.2.1 hd hv (h2 D dA A b ad LS C hcs hR hS hl K)
theorem Ex.ldc {pc2 : Nat} {n : Nat} {x : Int32} (hd : decode (xB M) pc = .ok (.ldc n, 2)) (hw : Cond.constant (xY M).cls n x ∈ xWd) (hp : pc + 2 = pc2) (k : Ex X M pc2 ls (.inl x :: st) σ o) : Ex X M pc ls (st) σ o := by
  subst hp
  intro v σ' ho
  obtain ⟨h1, h2⟩ := k v σ' ho
  refine ⟨h1, fun D dA A b ad LS C hcs hR hS hl K => ?_⟩
  exact lv_ldc C.1 C.2.1 C.2.2.2.1 (C.2.2.2.2.1 _ hw) hd (h2 D dA A b ad LS C hcs hR hS hl K)
theorem Ex.iload_n {pc2 : Nat} {k0 : Fin 4} {i : Nat} {x : Int32} (hd : decode (xB M) pc = .ok (.iload_n k0, 1)) (hi : (k0 : Nat) = i) (hg : ls[i]? = some (some (.inl x))) (hp : pc + 1 = pc2) (k : Ex X M pc2 ls (.inl x :: st) σ o) : Ex X M pc ls (st) σ o := by
  subst hp
  intro v σ' ho
  obtain ⟨h1, h2⟩ := k v σ' ho
  refine ⟨h1, fun D dA A b ad LS C hcs hR hS hl K => ?_⟩
  exact lv_iload_n C.1 C.2.1 hd hi (xLv_at hl hg) (h2 D dA A b ad LS C hcs hR hS hl K)
theorem Ex.iload {pc2 : Nat} {i : Nat} {x : Int32} (hd : decode (xB M) pc = .ok (.iload i, 2)) (hg : ls[i]? = some (some (.inl x))) (hp : pc + 2 = pc2) (k : Ex X M pc2 ls (.inl x :: st) σ o) : Ex X M pc ls (st) σ o := by
  subst hp
  intro v σ' ho
  obtain ⟨h1, h2⟩ := k v σ' ho
  refine ⟨h1, fun D dA A b ad LS C hcs hR hS hl K => ?_⟩
  exact lv_iload C.1 C.2.1 hd (xLv_at hl hg) (h2 D dA A b ad LS C hcs hR hS hl K)
theorem Ex.aload_n {pc2 : Nat} {k0 : Fin 4} {i : Nat} {r : Option Nat} (hd : decode (xB M) pc = .ok (.aload_n k0, 1)) (hi : (k0 : Nat) = i) (hg : ls[i]? = some (some (.inr r))) (hp : pc + 1 = pc2) (k : Ex X M pc2 ls (.inr r :: st) σ o) : Ex X M pc ls (st) σ o := by
  subst hp
  intro v σ' ho
  obtain ⟨h1, h2⟩ := k v σ' ho
  refine ⟨h1, fun D dA A b ad LS C hcs hR hS hl K => ?_⟩
  exact (by cases r with | none => exact lv_aload_n C.1 C.2.1 hd hi (xLv_at hl hg) (h2 D dA A b ad LS C hcs hR hS hl K) | some r => exact lv_aload_n C.1 C.2.1 hd hi (xLv_at hl hg) (h2 D dA A b ad LS C hcs hR hS hl K))
theorem Ex.aload {pc2 : Nat} {i : Nat} {r : Option Nat} (hd : decode (xB M) pc = .ok (.aload i, 2)) (hg : ls[i]? = some (some (.inr r))) (hp : pc + 2 = pc2) (k : Ex X M pc2 ls (.inr r :: st) σ o) : Ex X M pc ls (st) σ o := by
  subst hp
  intro v σ' ho
  obtain ⟨h1, h2⟩ := k v σ' ho
  refine ⟨h1, fun D dA A b ad LS C hcs hR hS hl K => ?_⟩
  exact (by cases r with | none => exact lv_aload C.1 C.2.1 hd (xLv_at hl hg) (h2 D dA A b ad LS C hcs hR hS hl K) | some r => exact lv_aload C.1 C.2.1 hd (xLv_at hl hg) (h2 D dA A b ad LS C hcs hR hS hl K))
theorem Ex.iadd {pc2 : Nat} {x y : Int32} (hd : decode (xB M) pc = .ok (.iadd, 1)) (hp : pc + 1 = pc2) (k : Ex X M pc2 ls (.inl (x + y) :: st) σ o) : Ex X M pc ls (.inl y :: .inl x :: st) σ o := by
  subst hp
  intro v σ' ho
  obtain ⟨h1, h2⟩ := k v σ' ho
  refine ⟨h1, fun D dA A b ad LS C hcs hR hS hl K => ?_⟩
  exact lv_iadd C.1 C.2.1 hd (h2 D dA A b ad LS C hcs hR hS hl K)
theorem Ex.isub {pc2 : Nat} {x y : Int32} (hd : decode (xB M) pc = .ok (.isub, 1)) (hp : pc + 1 = pc2) (k : Ex X M pc2 ls (.inl (x - y) :: st) σ o) : Ex X M pc ls (.inl y :: .inl x :: st) σ o := by
  subst hp
  intro v σ' ho
  obtain ⟨h1, h2⟩ := k v σ' ho
  refine ⟨h1, fun D dA A b ad LS C hcs hR hS hl K => ?_⟩
  exact lv_isub C.1 C.2.1 hd (h2 D dA A b ad LS C hcs hR hS hl K)
theorem Ex.imul {pc2 : Nat} {x y : Int32} (hd : decode (xB M) pc = .ok (.imul, 1)) (hp : pc + 1 = pc2) (k : Ex X M pc2 ls (.inl (x * y) :: st) σ o) : Ex X M pc ls (.inl y :: .inl x :: st) σ o := by
  subst hp
  intro v σ' ho
  obtain ⟨h1, h2⟩ := k v σ' ho
  refine ⟨h1, fun D dA A b ad LS C hcs hR hS hl K => ?_⟩
  exact lv_imul C.1 C.2.1 hd (h2 D dA A b ad LS C hcs hR hS hl K)
theorem Ex.iand {pc2 : Nat} {x y : Int32} (hd : decode (xB M) pc = .ok (.iand, 1)) (hp : pc + 1 = pc2) (k : Ex X M pc2 ls (.inl (x &&& y) :: st) σ o) : Ex X M pc ls (.inl y :: .inl x :: st) σ o := by
  subst hp
  intro v σ' ho
  obtain ⟨h1, h2⟩ := k v σ' ho
  refine ⟨h1, fun D dA A b ad LS C hcs hR hS hl K => ?_⟩
  exact lv_iand C.1 C.2.1 hd (h2 D dA A b ad LS C hcs hR hS hl K)
theorem Ex.ior {pc2 : Nat} {x y : Int32} (hd : decode (xB M) pc = .ok (.ior, 1)) (hp : pc + 1 = pc2) (k : Ex X M pc2 ls (.inl (x ||| y) :: st) σ o) : Ex X M pc ls (.inl y :: .inl x :: st) σ o := by
  subst hp
  intro v σ' ho
  obtain ⟨h1, h2⟩ := k v σ' ho
  refine ⟨h1, fun D dA A b ad LS C hcs hR hS hl K => ?_⟩
  exact lv_ior C.1 C.2.1 hd (h2 D dA A b ad LS C hcs hR hS hl K)
theorem Ex.ixor {pc2 : Nat} {x y : Int32} (hd : decode (xB M) pc = .ok (.ixor, 1)) (hp : pc + 1 = pc2) (k : Ex X M pc2 ls (.inl (x ^^^ y) :: st) σ o) : Ex X M pc ls (.inl y :: .inl x :: st) σ o := by
  subst hp
  intro v σ' ho
  obtain ⟨h1, h2⟩ := k v σ' ho
  refine ⟨h1, fun D dA A b ad LS C hcs hR hS hl K => ?_⟩
  exact lv_ixor C.1 C.2.1 hd (h2 D dA A b ad LS C hcs hR hS hl K)
theorem Ex.ishl {pc2 : Nat} {x y : Int32} (hd : decode (xB M) pc = .ok (.ishl, 1)) (hp : pc + 1 = pc2) (k : Ex X M pc2 ls (.inl (x <<< (y &&& 31)) :: st) σ o) : Ex X M pc ls (.inl y :: .inl x :: st) σ o := by
  subst hp
  intro v σ' ho
  obtain ⟨h1, h2⟩ := k v σ' ho
  refine ⟨h1, fun D dA A b ad LS C hcs hR hS hl K => ?_⟩
  exact lv_ishl C.1 C.2.1 hd (h2 D dA A b ad LS C hcs hR hS hl K)
theorem Ex.ishr {pc2 : Nat} {x y : Int32} (hd : decode (xB M) pc = .ok (.ishr, 1)) (hp : pc + 1 = pc2) (k : Ex X M pc2 ls (.inl (x >>> (y &&& 31)) :: st) σ o) : Ex X M pc ls (.inl y :: .inl x :: st) σ o := by
  subst hp
  intro v σ' ho
  obtain ⟨h1, h2⟩ := k v σ' ho
  refine ⟨h1, fun D dA A b ad LS C hcs hR hS hl K => ?_⟩
  exact lv_ishr C.1 C.2.1 hd (h2 D dA A b ad LS C hcs hR hS hl K)
theorem Ex.ineg {pc2 : Nat} {x : Int32} (hd : decode (xB M) pc = .ok (.ineg, 1)) (hp : pc + 1 = pc2) (k : Ex X M pc2 ls (.inl (-x) :: st) σ o) : Ex X M pc ls (.inl x :: st) σ o := by
  subst hp
  intro v σ' ho
  obtain ⟨h1, h2⟩ := k v σ' ho
  refine ⟨h1, fun D dA A b ad LS C hcs hR hS hl K => ?_⟩
  exact lv_ineg C.1 C.2.1 hd (h2 D dA A b ad LS C hcs hR hS hl K)
theorem Ex.idiv {pc2 : Nat} {x y : Int32} (hd : decode (xB M) pc = .ok (.idiv, 1)) (hne : ¬ y = 0) (hp : pc + 1 = pc2) (k : Ex X M pc2 ls (.inl (x / y) :: st) σ o) : Ex X M pc ls (.inl y :: .inl x :: st) σ o := by
  subst hp
  intro v σ' ho
  obtain ⟨h1, h2⟩ := k v σ' ho
  refine ⟨h1, fun D dA A b ad LS C hcs hR hS hl K => ?_⟩
  exact lv_idiv C.1 C.2.1 hd hne (h2 D dA A b ad LS C hcs hR hS hl K)
theorem Ex.irem {pc2 : Nat} {x y : Int32} (hd : decode (xB M) pc = .ok (.irem, 1)) (hne : ¬ y = 0) (hp : pc + 1 = pc2) (k : Ex X M pc2 ls (.inl (x - x / y * y) :: st) σ o) : Ex X M pc ls (.inl y :: .inl x :: st) σ o := by
  subst hp
  intro v σ' ho
  obtain ⟨h1, h2⟩ := k v σ' ho
  refine ⟨h1, fun D dA A b ad LS C hcs hR hS hl K => ?_⟩
  exact lv_irem C.1 C.2.1 hd hne (h2 D dA A b ad LS C hcs hR hS hl K)
theorem Ex.i2c {pc2 : Nat} {x : Int32} (hd : decode (xB M) pc = .ok (.i2c, 1)) (hp : pc + 1 = pc2) (k : Ex X M pc2 ls (.inl ((x.toUInt32 % 65536).toInt32) :: st) σ o) : Ex X M pc ls (.inl x :: st) σ o := by
  subst hp
  intro v σ' ho
  obtain ⟨h1, h2⟩ := k v σ' ho
  refine ⟨h1, fun D dA A b ad LS C hcs hR hS hl K => ?_⟩
  exact lv_i2c C.1 C.2.1 hd rfl (h2 D dA A b ad LS C hcs hR hS hl K)
theorem Ex.dup {pc2 : Nat} {x : xV} (hd : decode (xB M) pc = .ok (.dup, 1)) (hp : pc + 1 = pc2) (k : Ex X M pc2 ls (x :: x :: st) σ o) : Ex X M pc ls (x :: st) σ o := by
  subst hp
  intro v σ' ho
  obtain ⟨h1, h2⟩ := k v σ' ho
  refine ⟨h1, fun D dA A b ad LS C hcs hR hS hl K => ?_⟩
  exact lv_dup C.1 C.2.1 hd (xvm_cat b ad x) (h2 D dA A b ad LS C hcs hR hS hl K)
theorem Ex.pop {pc2 : Nat} {x : xV} (hd : decode (xB M) pc = .ok (.pop, 1)) (hp : pc + 1 = pc2) (k : Ex X M pc2 ls (st) σ o) : Ex X M pc ls (x :: st) σ o := by
  subst hp
  intro v σ' ho
  obtain ⟨h1, h2⟩ := k v σ' ho
  refine ⟨h1, fun D dA A b ad LS C hcs hR hS hl K => ?_⟩
  exact lv_pop C.1 C.2.1 hd (xvm_cat b ad x) (h2 D dA A b ad LS C hcs hR hS hl K)
theorem Ex.dup2 {pc2 : Nat} {x y : xV} (hd : decode (xB M) pc = .ok (.dup2, 1)) (hp : pc + 1 = pc2) (k : Ex X M pc2 ls (x :: y :: x :: y :: st) σ o) : Ex X M pc ls (x :: y :: st) σ o := by
  subst hp
  intro v σ' ho
  obtain ⟨h1, h2⟩ := k v σ' ho
  refine ⟨h1, fun D dA A b ad LS C hcs hR hS hl K => ?_⟩
  exact lv_dup2_11 C.1 C.2.1 hd (xvm_cat b ad x) (xvm_cat b ad y) (h2 D dA A b ad LS C hcs hR hS hl K)
theorem Ex.istore_n {k0 : Fin 4} {i : Nat} {x : Int32} (hd : decode (xB M) pc = .ok (.istore_n k0, 1)) (hi : (k0 : Nat) = i) (hn : i < xL M) {pc2 : Nat} (hp : pc + 1 = pc2) (k : Ex X M pc2 (ls.set i (some (.inl x))) st σ o) : Ex X M pc ls (.inl x :: st) σ o := by
  subst hp
  intro v σ' ho
  obtain ⟨h1, h2⟩ := k v σ' ho
  refine ⟨h1, fun D dA A b ad LS C hcs hR hS hl K => ?_⟩
  exact lv_istore_n C.1 C.2.1 hd hi hl hn rfl (fun LS1 hl1 => h2 D dA A b ad LS1 C hcs hR hS (xLv_set rfl hl1) K)
theorem Ex.istore {i : Nat} {x : Int32} (hd : decode (xB M) pc = .ok (.istore i, 2)) (hn : i < xL M) {pc2 : Nat} (hp : pc + 2 = pc2) (k : Ex X M pc2 (ls.set i (some (.inl x))) st σ o) : Ex X M pc ls (.inl x :: st) σ o := by
  subst hp
  intro v σ' ho
  obtain ⟨h1, h2⟩ := k v σ' ho
  refine ⟨h1, fun D dA A b ad LS C hcs hR hS hl K => ?_⟩
  exact lv_istore C.1 C.2.1 hd hl hn rfl (fun LS1 hl1 => h2 D dA A b ad LS1 C hcs hR hS (xLv_set rfl hl1) K)
theorem Ex.astore_n {k0 : Fin 4} {i r : Nat} (hd : decode (xB M) pc = .ok (.astore_n k0, 1)) (hi : (k0 : Nat) = i) (hn : i < xL M) {pc2 : Nat} (hp : pc + 1 = pc2) (k : Ex X M pc2 (ls.set i (some (.inr (some r)))) st σ o) : Ex X M pc ls (.inr (some r) :: st) σ o := by
  subst hp
  intro v σ' ho
  obtain ⟨h1, h2⟩ := k v σ' ho
  refine ⟨h1, fun D dA A b ad LS C hcs hR hS hl K => ?_⟩
  exact lv_astore_n C.1 C.2.1 hd hi hl hn rfl (fun LS1 hl1 => h2 D dA A b ad LS1 C hcs hR hS (xLv_set rfl hl1) K)
theorem Ex.astore {i r : Nat} (hd : decode (xB M) pc = .ok (.astore i, 2)) (hn : i < xL M) {pc2 : Nat} (hp : pc + 2 = pc2) (k : Ex X M pc2 (ls.set i (some (.inr (some r)))) st σ o) : Ex X M pc ls (.inr (some r) :: st) σ o := by
  subst hp
  intro v σ' ho
  obtain ⟨h1, h2⟩ := k v σ' ho
  refine ⟨h1, fun D dA A b ad LS C hcs hR hS hl K => ?_⟩
  exact lv_astore C.1 C.2.1 hd hl hn rfl (fun LS1 hl1 => h2 D dA A b ad LS1 C hcs hR hS (xLv_set rfl hl1) K)
theorem Ex.iinc {i : Nat} {n : Int} {x y : Int32} (hd : decode (xB M) pc = .ok (.iinc i n, 3)) (hg : ls[i]? = some (some (.inl x))) (hv : Int32.ofInt n = y) (hn : i < xL M) {pc2 : Nat} (hp : pc + 3 = pc2) (k : Ex X M pc2 (ls.set i (some (.inl (x + y)))) st σ o) : Ex X M pc ls st σ o := by
  subst hp
  intro v σ' ho
  obtain ⟨h1, h2⟩ := k v σ' ho
  refine ⟨h1, fun D dA A b ad LS C hcs hR hS hl K => ?_⟩
  subst hv
  obtain ⟨kk, hk⟩ := List.getElem?_of_mem (xLv_mem (g := xvm b ad) (q := (i, .int x)).mpr ⟨.inl x, hg, rfl⟩)
  exact lv_iinc C.1 C.2.1 hd hl hk rfl hn rfl (fun LS1 hl1 => h2 D dA A b ad LS1 C hcs hR hS (xLv_set rfl hl1) K)
theorem Ex.if_eq {x : Int32} {off : Int} {tgt : Nat} (hd : decode (xB M) pc = .ok (.ifCond .eq off, 3)) (ht : (pc : Int) + off = (tgt : Int)) {o1 o2 : Option (Option Int32 × xS)} (kt : x = 0 → Ex X M tgt ls st σ o1) {pc2 : Nat} (hp : pc + 3 = pc2) (kf : ¬ (x = 0) → Ex X M pc2 ls st σ o2) : Ex X M pc ls (.inl x :: st) σ (if x = 0 then o1 else o2) := by
  subst hp
  refine Ex.ite _ (fun hc => ?_) (fun hc => ?_)
  · intro v σ' ho
    obtain ⟨h1, h2⟩ := kt hc v σ' ho
    refine ⟨h1, fun D dA A b ad LS C hcs hR hS hl K => ?_⟩
    exact lv_if_eq C.1 C.2.1 hd ht (fun _ => h2 D dA A b ad LS C hcs hR hS hl K) (fun q => absurd hc q)
  · intro v σ' ho
    obtain ⟨h1, h2⟩ := kf hc v σ' ho
    refine ⟨h1, fun D dA A b ad LS C hcs hR hS hl K => ?_⟩
    exact lv_if_eq C.1 C.2.1 hd ht (fun q => absurd q hc) (fun _ => h2 D dA A b ad LS C hcs hR hS hl K)
theorem Ex.icmp_eq {x y : Int32} {off : Int} {tgt : Nat} (hd : decode (xB M) pc = .ok (.if_icmp .eq off, 3)) (ht : (pc : Int) + off = (tgt : Int)) {o1 o2 : Option (Option Int32 × xS)} (kt : x = y → Ex X M tgt ls st σ o1) {pc2 : Nat} (hp : pc + 3 = pc2) (kf : ¬ (x = y) → Ex X M pc2 ls st σ o2) : Ex X M pc ls (.inl y :: .inl x :: st) σ (if x = y then o1 else o2) := by
  subst hp
  refine Ex.ite _ (fun hc => ?_) (fun hc => ?_)
  · intro v σ' ho
    obtain ⟨h1, h2⟩ := kt hc v σ' ho
    refine ⟨h1, fun D dA A b ad LS C hcs hR hS hl K => ?_⟩
    exact lv_icmp_eq C.1 C.2.1 hd ht (fun _ => h2 D dA A b ad LS C hcs hR hS hl K) (fun q => absurd hc q)
  · intro v σ' ho
    obtain ⟨h1, h2⟩ := kf hc v σ' ho
    refine ⟨h1, fun D dA A b ad LS C hcs hR hS hl K => ?_⟩
    exact lv_icmp_eq C.1 C.2.1 hd ht (fun q => absurd q hc) (fun _ => h2 D dA A b ad LS C hcs hR hS hl K)
theorem Ex.if_ne {x : Int32} {off : Int} {tgt : Nat} (hd : decode (xB M) pc = .ok (.ifCond .ne off, 3)) (ht : (pc : Int) + off = (tgt : Int)) {o1 o2 : Option (Option Int32 × xS)} (kt : x ≠ 0 → Ex X M tgt ls st σ o1) {pc2 : Nat} (hp : pc + 3 = pc2) (kf : ¬ (x ≠ 0) → Ex X M pc2 ls st σ o2) : Ex X M pc ls (.inl x :: st) σ (if x ≠ 0 then o1 else o2) := by
  subst hp
  refine Ex.ite _ (fun hc => ?_) (fun hc => ?_)
  · intro v σ' ho
    obtain ⟨h1, h2⟩ := kt hc v σ' ho
    refine ⟨h1, fun D dA A b ad LS C hcs hR hS hl K => ?_⟩
    exact lv_if_ne C.1 C.2.1 hd ht (fun _ => h2 D dA A b ad LS C hcs hR hS hl K) (fun q => absurd q hc)
  · intro v σ' ho
    obtain ⟨h1, h2⟩ := kf hc v σ' ho
    refine ⟨h1, fun D dA A b ad LS C hcs hR hS hl K => ?_⟩
    exact lv_if_ne C.1 C.2.1 hd ht (fun q => absurd q hc) (fun _ => h2 D dA A b ad LS C hcs hR hS hl K)
theorem Ex.icmp_ne {x y : Int32} {off : Int} {tgt : Nat} (hd : decode (xB M) pc = .ok (.if_icmp .ne off, 3)) (ht : (pc : Int) + off = (tgt : Int)) {o1 o2 : Option (Option Int32 × xS)} (kt : x ≠ y → Ex X M tgt ls st σ o1) {pc2 : Nat} (hp : pc + 3 = pc2) (kf : ¬ (x ≠ y) → Ex X M pc2 ls st σ o2) : Ex X M pc ls (.inl y :: .inl x :: st) σ (if x ≠ y then o1 else o2) := by
  subst hp
  refine Ex.ite _ (fun hc => ?_) (fun hc => ?_)
  · intro v σ' ho
    obtain ⟨h1, h2⟩ := kt hc v σ' ho
    refine ⟨h1, fun D dA A b ad LS C hcs hR hS hl K => ?_⟩
    exact lv_icmp_ne C.1 C.2.1 hd ht (fun _ => h2 D dA A b ad LS C hcs hR hS hl K) (fun q => absurd q hc)
  · intro v σ' ho
    obtain ⟨h1, h2⟩ := kf hc v σ' ho
    refine ⟨h1, fun D dA A b ad LS C hcs hR hS hl K => ?_⟩
    exact lv_icmp_ne C.1 C.2.1 hd ht (fun q => absurd q hc) (fun _ => h2 D dA A b ad LS C hcs hR hS hl K)
theorem Ex.if_lt {x : Int32} {off : Int} {tgt : Nat} (hd : decode (xB M) pc = .ok (.ifCond .lt off, 3)) (ht : (pc : Int) + off = (tgt : Int)) {o1 o2 : Option (Option Int32 × xS)} (kt : x < 0 → Ex X M tgt ls st σ o1) {pc2 : Nat} (hp : pc + 3 = pc2) (kf : ¬ (x < 0) → Ex X M pc2 ls st σ o2) : Ex X M pc ls (.inl x :: st) σ (if x < 0 then o1 else o2) := by
  subst hp
  refine Ex.ite _ (fun hc => ?_) (fun hc => ?_)
  · intro v σ' ho
    obtain ⟨h1, h2⟩ := kt hc v σ' ho
    refine ⟨h1, fun D dA A b ad LS C hcs hR hS hl K => ?_⟩
    exact lv_if_lt C.1 C.2.1 hd ht (fun _ => h2 D dA A b ad LS C hcs hR hS hl K) (fun q => absurd hc q)
  · intro v σ' ho
    obtain ⟨h1, h2⟩ := kf hc v σ' ho
    refine ⟨h1, fun D dA A b ad LS C hcs hR hS hl K => ?_⟩
    exact lv_if_lt C.1 C.2.1 hd ht (fun q => absurd q hc) (fun _ => h2 D dA A b ad LS C hcs hR hS hl K)
theorem Ex.icmp_lt {x y : Int32} {off : Int} {tgt : Nat} (hd : decode (xB M) pc = .ok (.if_icmp .lt off, 3)) (ht : (pc : Int) + off = (tgt : Int)) {o1 o2 : Option (Option Int32 × xS)} (kt : x < y → Ex X M tgt ls st σ o1) {pc2 : Nat} (hp : pc + 3 = pc2) (kf : ¬ (x < y) → Ex X M pc2 ls st σ o2) : Ex X M pc ls (.inl y :: .inl x :: st) σ (if x < y then o1 else o2) := by
  subst hp
  refine Ex.ite _ (fun hc => ?_) (fun hc => ?_)
  · intro v σ' ho
    obtain ⟨h1, h2⟩ := kt hc v σ' ho
    refine ⟨h1, fun D dA A b ad LS C hcs hR hS hl K => ?_⟩
    exact lv_icmp_lt C.1 C.2.1 hd ht (fun _ => h2 D dA A b ad LS C hcs hR hS hl K) (fun q => absurd hc q)
  · intro v σ' ho
    obtain ⟨h1, h2⟩ := kf hc v σ' ho
    refine ⟨h1, fun D dA A b ad LS C hcs hR hS hl K => ?_⟩
    exact lv_icmp_lt C.1 C.2.1 hd ht (fun q => absurd q hc) (fun _ => h2 D dA A b ad LS C hcs hR hS hl K)
theorem Ex.if_ge {x : Int32} {off : Int} {tgt : Nat} (hd : decode (xB M) pc = .ok (.ifCond .ge off, 3)) (ht : (pc : Int) + off = (tgt : Int)) {o1 o2 : Option (Option Int32 × xS)} (kt : x ≥ 0 → Ex X M tgt ls st σ o1) {pc2 : Nat} (hp : pc + 3 = pc2) (kf : ¬ (x ≥ 0) → Ex X M pc2 ls st σ o2) : Ex X M pc ls (.inl x :: st) σ (if x ≥ 0 then o1 else o2) := by
  subst hp
  refine Ex.ite _ (fun hc => ?_) (fun hc => ?_)
  · intro v σ' ho
    obtain ⟨h1, h2⟩ := kt hc v σ' ho
    refine ⟨h1, fun D dA A b ad LS C hcs hR hS hl K => ?_⟩
    exact lv_if_ge C.1 C.2.1 hd ht (fun _ => h2 D dA A b ad LS C hcs hR hS hl K) (fun q => absurd hc q)
  · intro v σ' ho
    obtain ⟨h1, h2⟩ := kf hc v σ' ho
    refine ⟨h1, fun D dA A b ad LS C hcs hR hS hl K => ?_⟩
    exact lv_if_ge C.1 C.2.1 hd ht (fun q => absurd q hc) (fun _ => h2 D dA A b ad LS C hcs hR hS hl K)
theorem Ex.icmp_ge {x y : Int32} {off : Int} {tgt : Nat} (hd : decode (xB M) pc = .ok (.if_icmp .ge off, 3)) (ht : (pc : Int) + off = (tgt : Int)) {o1 o2 : Option (Option Int32 × xS)} (kt : x ≥ y → Ex X M tgt ls st σ o1) {pc2 : Nat} (hp : pc + 3 = pc2) (kf : ¬ (x ≥ y) → Ex X M pc2 ls st σ o2) : Ex X M pc ls (.inl y :: .inl x :: st) σ (if x ≥ y then o1 else o2) := by
  subst hp
  refine Ex.ite _ (fun hc => ?_) (fun hc => ?_)
  · intro v σ' ho
    obtain ⟨h1, h2⟩ := kt hc v σ' ho
    refine ⟨h1, fun D dA A b ad LS C hcs hR hS hl K => ?_⟩
    exact lv_icmp_ge C.1 C.2.1 hd ht (fun _ => h2 D dA A b ad LS C hcs hR hS hl K) (fun q => absurd hc q)
  · intro v σ' ho
    obtain ⟨h1, h2⟩ := kf hc v σ' ho
    refine ⟨h1, fun D dA A b ad LS C hcs hR hS hl K => ?_⟩
    exact lv_icmp_ge C.1 C.2.1 hd ht (fun q => absurd q hc) (fun _ => h2 D dA A b ad LS C hcs hR hS hl K)
theorem Ex.if_gt {x : Int32} {off : Int} {tgt : Nat} (hd : decode (xB M) pc = .ok (.ifCond .gt off, 3)) (ht : (pc : Int) + off = (tgt : Int)) {o1 o2 : Option (Option Int32 × xS)} (kt : x > 0 → Ex X M tgt ls st σ o1) {pc2 : Nat} (hp : pc + 3 = pc2) (kf : ¬ (x > 0) → Ex X M pc2 ls st σ o2) : Ex X M pc ls (.inl x :: st) σ (if x > 0 then o1 else o2) := by
  subst hp
  refine Ex.ite _ (fun hc => ?_) (fun hc => ?_)
  · intro v σ' ho
    obtain ⟨h1, h2⟩ := kt hc v σ' ho
    refine ⟨h1, fun D dA A b ad LS C hcs hR hS hl K => ?_⟩
    exact lv_if_gt C.1 C.2.1 hd ht (fun _ => h2 D dA A b ad LS C hcs hR hS hl K) (fun q => absurd hc q)
  · intro v σ' ho
    obtain ⟨h1, h2⟩ := kf hc v σ' ho
    refine ⟨h1, fun D dA A b ad LS C hcs hR hS hl K => ?_⟩
    exact lv_if_gt C.1 C.2.1 hd ht (fun q => absurd q hc) (fun _ => h2 D dA A b ad LS C hcs hR hS hl K)
theorem Ex.icmp_gt {x y : Int32} {off : Int} {tgt : Nat} (hd : decode (xB M) pc = .ok (.if_icmp .gt off, 3)) (ht : (pc : Int) + off = (tgt : Int)) {o1 o2 : Option (Option Int32 × xS)} (kt : x > y → Ex X M tgt ls st σ o1) {pc2 : Nat} (hp : pc + 3 = pc2) (kf : ¬ (x > y) → Ex X M pc2 ls st σ o2) : Ex X M pc ls (.inl y :: .inl x :: st) σ (if x > y then o1 else o2) := by
  subst hp
  refine Ex.ite _ (fun hc => ?_) (fun hc => ?_)
  · intro v σ' ho
    obtain ⟨h1, h2⟩ := kt hc v σ' ho
    refine ⟨h1, fun D dA A b ad LS C hcs hR hS hl K => ?_⟩
    exact lv_icmp_gt C.1 C.2.1 hd ht (fun _ => h2 D dA A b ad LS C hcs hR hS hl K) (fun q => absurd hc q)
  · intro v σ' ho
    obtain ⟨h1, h2⟩ := kf hc v σ' ho
    refine ⟨h1, fun D dA A b ad LS C hcs hR hS hl K => ?_⟩
    exact lv_icmp_gt C.1 C.2.1 hd ht (fun q => absurd q hc) (fun _ => h2 D dA A b ad LS C hcs hR hS hl K)
theorem Ex.if_le {x : Int32} {off : Int} {tgt : Nat} (hd : decode (xB M) pc = .ok (.ifCond .le off, 3)) (ht : (pc : Int) + off = (tgt : Int)) {o1 o2 : Option (Option Int32 × xS)} (kt : x ≤ 0 → Ex X M tgt ls st σ o1) {pc2 : Nat} (hp : pc + 3 = pc2) (kf : ¬ (x ≤ 0) → Ex X M pc2 ls st σ o2) : Ex X M pc ls (.inl x :: st) σ (if x ≤ 0 then o1 else o2) := by
  subst hp
  refine Ex.ite _ (fun hc => ?_) (fun hc => ?_)
  · intro v σ' ho
    obtain ⟨h1, h2⟩ := kt hc v σ' ho
    refine ⟨h1, fun D dA A b ad LS C hcs hR hS hl K => ?_⟩
    exact lv_if_le C.1 C.2.1 hd ht (fun _ => h2 D dA A b ad LS C hcs hR hS hl K) (fun q => absurd hc q)
  · intro v σ' ho
    obtain ⟨h1, h2⟩ := kf hc v σ' ho
    refine ⟨h1, fun D dA A b ad LS C hcs hR hS hl K => ?_⟩
    exact lv_if_le C.1 C.2.1 hd ht (fun q => absurd q hc) (fun _ => h2 D dA A b ad LS C hcs hR hS hl K)
theorem Ex.icmp_le {x y : Int32} {off : Int} {tgt : Nat} (hd : decode (xB M) pc = .ok (.if_icmp .le off, 3)) (ht : (pc : Int) + off = (tgt : Int)) {o1 o2 : Option (Option Int32 × xS)} (kt : x ≤ y → Ex X M tgt ls st σ o1) {pc2 : Nat} (hp : pc + 3 = pc2) (kf : ¬ (x ≤ y) → Ex X M pc2 ls st σ o2) : Ex X M pc ls (.inl y :: .inl x :: st) σ (if x ≤ y then o1 else o2) := by
  subst hp
  refine Ex.ite _ (fun hc => ?_) (fun hc => ?_)
  · intro v σ' ho
    obtain ⟨h1, h2⟩ := kt hc v σ' ho
    refine ⟨h1, fun D dA A b ad LS C hcs hR hS hl K => ?_⟩
    exact lv_icmp_le C.1 C.2.1 hd ht (fun _ => h2 D dA A b ad LS C hcs hR hS hl K) (fun q => absurd hc q)
  · intro v σ' ho
    obtain ⟨h1, h2⟩ := kf hc v σ' ho
    refine ⟨h1, fun D dA A b ad LS C hcs hR hS hl K => ?_⟩
    exact lv_icmp_le C.1 C.2.1 hd ht (fun q => absurd q hc) (fun _ => h2 D dA A b ad LS C hcs hR hS hl K)
theorem Ex.goto {off : Int} {tgt : Nat} (hd : decode (xB M) pc = .ok (.goto off, 3)) (ht : (pc : Int) + off = (tgt : Int)) (k : Ex X M tgt ls st σ o) : Ex X M pc ls st σ o := by
  intro v σ' ho
  obtain ⟨h1, h2⟩ := k v σ' ho
  refine ⟨h1, fun D dA A b ad LS C hcs hR hS hl K => ?_⟩
  exact lv_goto C.1 C.2.1 hd ht (h2 D dA A b ad LS C hcs hR hS hl K)
theorem Ex.lookup {dflt : Int} {ps : Array (Int × Int)} {len : Nat} {x : Int32} {off : Int} {tgt : Nat} (hd : decode (xB M) pc = .ok (.lookupswitch dflt ps, len)) (hp : (ps.toList.zip (ps.toList.drop 1)).all (fun (a, next) => a.1 < next.1) = true) (ho : Op.lookupswitch.offset ps.toList dflt x.toInt = off) (ht : (pc : Int) + off = (tgt : Int)) (k : Ex X M tgt ls st σ o) : Ex X M pc ls (.inl x :: st) σ o := by
  intro v σ' ho99
  obtain ⟨h1, h2⟩ := k v σ' ho99
  refine ⟨h1, fun D dA A b ad LS C hcs hR hS hl K => ?_⟩
  exact lv_lookup C.1 C.2.1 hd hp ho ht (h2 D dA A b ad LS C hcs hR hS hl K)
theorem Ex.tableOut {dflt lo hi : Int} {offs : Array Int} {len : Nat} {x : Int32} {tgt : Nat} (hd : decode (xB M) pc = .ok (.tableswitch dflt lo hi offs, len)) (h : x.toInt < lo ∨ hi < x.toInt) (ht : (pc : Int) + dflt = (tgt : Int)) (k : Ex X M tgt ls st σ o) : Ex X M pc ls (.inl x :: st) σ o := by
  intro v σ' ho
  obtain ⟨h1, h2⟩ := k v σ' ho
  refine ⟨h1, fun D dA A b ad LS C hcs hR hS hl K => ?_⟩
  exact lv_tableOut C.1 C.2.1 hd h ht (h2 D dA A b ad LS C hcs hR hS hl K)
theorem Ex.tableIn {dflt lo hi : Int} {offs : Array Int} {len : Nat} {x : Int32} {off : Int} {tgt : Nat} (hd : decode (xB M) pc = .ok (.tableswitch dflt lo hi offs, len)) (g1 : ¬ x.toInt < lo) (g2 : ¬ hi < x.toInt) (ho : offs[(x.toInt - lo).toNat]? = some off) (ht : (pc : Int) + off = (tgt : Int)) (k : Ex X M tgt ls st σ o) : Ex X M pc ls (.inl x :: st) σ o := by
  intro v σ' ho99
  obtain ⟨h1, h2⟩ := k v σ' ho99
  refine ⟨h1, fun D dA A b ad LS C hcs hR hS hl K => ?_⟩
  exact lv_tableIn C.1 C.2.1 hd g1 g2 ho ht (h2 D dA A b ad LS C hcs hR hS hl K)
end EX
