/-! what is made, calls, a method's contract out of its run -/
theorem xW_le {a b : xS} (h : a.1 <+: b.1) : xC a ≤ xC b ∧ xW a ≤ xW b := by
  obtain ⟨t, ht⟩ := h
  unfold xC xW
  rw [← ht]
  simp
theorem xAg.trans {a b c : xS} {ad ad' ad'' : Nat → Nat} (h1 : a.1.length ≤ b.1.length) (h2 : b.1.length ≤ c.1.length) (g1 : xAg a b ad ad') (g2 : xAg b c ad' ad'') : xAg a c ad ad'' := by
  intro k hk
  rw [g2 k (by omega), g1 k (by omega)]
def xwv (n : Nat) : xV → Bool
  | .inr (some k) => decide (k < n)
  | _ => true
def xwo (n : Nat) : Option xV → Bool
  | some v => xwv n v
  | .none => true
theorem xwv_eq {n b : Nat} {ad ad' : Nat → Nat} (h : ∀ k, k < n → ad' k = ad k) {v : xV} (hv : xwv n v = true) : xvm b ad' v = xvm b ad v := by
  rcases v with x | (_ | k)
  · rfl
  · rfl
  · show Value.ref (ad' k) = Value.ref (ad k)
    rw [h k (by simpa [xwv] using hv)]
theorem xws_eq {n b : Nat} {ad ad' : Nat → Nat} (h : ∀ k, k < n → ad' k = ad k) {st : List xV} (hv : st.all (xwv n) = true) : st.map (xvm b ad') = st.map (xvm b ad) := by
  refine List.map_congr_left (fun v hm => xwv_eq h (List.all_eq_true.mp hv v hm))
theorem xwl_eq {n b nL : Nat} {ad ad' : Nat → Nat} (h : ∀ k, k < n → ad' k = ad k) {ls : List (Option xV)} (hv : ls.all (xwo n) = true) {LS : Array Slot} (hl : lv_has LS nL (xLv (xvm b ad) ls)) : lv_has LS nL (xLv (xvm b ad') ls) := by
  refine lv_has_mono hl (fun q hq => ?_)
  obtain ⟨v, h1, h2⟩ := xLv_mem.mp hq
  refine xLv_mem.mpr ⟨v, h1, ?_⟩
  rw [h2]
  exact xwv_eq h (by have := List.all_eq_true.mp hv (some v) (List.mem_of_getElem? h1); exact this)
/-- a cell more at the end of the world -/
theorem xWs_push {dA : FieldType → ClassId} {ad : Nat → Nat} {sh : List (Nat ⊕ (FieldType × Nat))} {F : xF} {I I' : xI} {kd : Nat ⊕ (FieldType × Nat)} {q : Nat} (hF : xFw (sh, F, I)) (hI : ∀ k, k < sh.length → I' k = I k) :
    xWs dA (fun k => if k = sh.length then q else ad k) (sh ++ [kd], F, I') = xWs dA ad (sh, F, I) ++ [(q, xE dA (fun k => if k = sh.length then q else ad k) (fun _ => .none) (I' sh.length) kd)] := by
  have hF0 : ∀ k j r, F k j = some r → k < sh.length ∧ r < sh.length := hF
  refine List.ext_getElem? (fun i => ?_)
  rw [xWs_at]
  by_cases hi : i < sh.length
  · refine Eq.trans ?_ (List.getElem?_append_left (by rw [xWs_len]; exact hi)).symm
    rw [xWs_at]
    show Option.map _ (sh ++ [kd])[i]? = Option.map _ sh[i]?
    rw [List.getElem?_append_left hi]
    cases sh[i]? with
    | none => rfl
    | some kd0 =>
      simp only [Option.map_some, Option.some.injEq, Prod.mk.injEq]
      refine ⟨by rw [if_neg (by omega)], ?_⟩
      rw [hI i hi]
      have hm : ∀ j, Option.map (fun k => if k = sh.length then q else ad k) (F i j) = Option.map ad (F i j) := by
        intro j
        cases h : F i j with
        | none => rfl
        | some r =>
          have := (hF0 i j r h).2
          simp only [Option.map_some, Option.some.injEq]
          rw [if_neg (by omega)]
      cases kd0 with
      | inl ci =>
        show Sum.inr (ci, _) = Sum.inr (ci, _)
        congr 2
        refine List.map_congr_left (fun j _ => ?_)
        unfold xfv
        rw [hm j]
      | inr p =>
        show Sum.inl (dA p.1, p.2, _) = Sum.inl (dA p.1, p.2, _)
        congr 3
        by_cases hp : xRf p.1 = true
        · simp only [hp, if_true]
          congr 4
          funext j
          exact hm j
        · simp only [hp]
          rfl
  · refine Eq.trans ?_ (List.getElem?_append_right (by rw [xWs_len]; show sh.length ≤ i; omega)).symm
    rw [xWs_len]
    show Option.map _ (sh ++ [kd])[i]? = _
    rw [List.getElem?_append_right (by omega)]
    by_cases hz : i = sh.length
    · subst hz
      have hf : F sh.length = fun _ => .none := by
        funext j
        cases h : F sh.length j with
        | none => rfl
        | some r => have := (hF0 _ j r h).1; omega
      simp [hf]
    · rw [List.getElem?_eq_none (by simp; omega), List.getElem?_eq_none (by simp; show 1 ≤ i - sh.length; omega)]
      rfl
theorem xsum_one : ∀ st : List xV, (st.map (fun _ => 1)).sum = st.length
  | [] => rfl
  | _ :: l => by
    have := xsum_one l
    simp only [List.map_cons, List.sum_cons, List.length_cons]
    omega
def xzr (I : xI) (n : Nat) : xI := fun a c => if a = n then 0 else I a c
section EXC
variable {X : Option (Nat × (Nat → Int32))} {M : xM} {pc : Nat} {ls : List (Option xV)} {st : List xV} {sh : List (Nat ⊕ (FieldType × Nat))} {F : xF} {I : xI} {σ : xS} {o : Option (Option Int32 × xS)}
theorem xFw_push {kd : Nat ⊕ (FieldType × Nat)} {I' : xI} (h : xFw (sh, F, I)) : xFw (sh ++ [kd], F, I') := by
  intro k j r hr
  obtain ⟨h1, h2⟩ := h k j r hr
  have h1 : k < sh.length := h1
  have h2 : r < sh.length := h2
  exact ⟨by simp; omega, by simp; omega⟩
/-- the frame of a making: what the rules of 'new' share -/
theorem Ex.made {kd : Nat ⊕ (FieldType × Nat)} {n pc' : Nat} {st' : List xV} (hn : xSz kd = n) (hw1 : st'.all (xwv sh.length) = true) (hw2 : ls.all (xwo sh.length) = true)
    (kk : Ex X M pc' ls (.inr (some sh.length) :: st') (sh ++ [kd], F, xzr I sh.length) o)
    (step : ∀ {p : Program} {l : Launch} {e : Env} {R : Room} {s : State} {m : MethodId} {args : Array Value} {below : List Frame} {meth : Method} {c : Code} {H : Heap} {locs : List Loc} {cells slots : Nat} {Q : State → Prop} (D : va_G) (dA : FieldType → ClassId) (A : Nat → Prop) (b : Nat) (ad : Nat → Nat) (LS : Array Slot),
      xCtx X M p R s m args meth c D dA A b → cells + 1 ≤ R.cells → slots + n ≤ R.slots → xRel D dA A (sh, F, I) ad H → va_S A s.heap H locs → lv_has LS (xL M) (xLv (xvm b ad) ls) →
      (∀ (q : Nat) (H1 : Heap), va_P D vwCl (xWs dA ad (sh, F, I) ++ [(q, xE dA (fun k => if k = sh.length then q else ad k) (fun _ => .none) (fun _ => 0) kd)]) H1 → va_D A (xWs dA ad (sh, F, I) ++ [(q, xE dA (fun k => if k = sh.length then q else ad k) (fun _ => .none) (fun _ => 0) kd)]) → va_S A s.heap H1 locs → W p l e R s m args below meth c H1 locs (cells + 1) (slots + n) Q (F0 m pc' LS (.ref q :: st'.map (xvm b ad)))) →
      W p l e R s m args below meth c H locs cells slots Q (F0 m pc LS (st.map (xvm b ad)))) : Ex X M pc ls st (sh, F, I) o := by
  intro v σ' ho
  obtain ⟨h1, h2⟩ := kk v σ' ho
  have hp : sh <+: σ'.1 := List.IsPrefix.trans ⟨[kd], rfl⟩ h1
  refine ⟨hp, fun {p l e R s m args below meth c H locs cells slots Q} D dA A b ad LS C hcs hR hS hl K => ?_⟩
  have z1 := xW_le (a := (sh ++ [kd], F, xzr I sh.length)) (b := σ') h1
  have e1 : xC (sh ++ [kd], F, xzr I sh.length) = xC (sh, F, I) + 1 := by simp [xC]
  have e2 : xW (sh ++ [kd], F, xzr I sh.length) = xW (sh, F, I) + n := by simp [xW, hn]
  rw [e1, e2] at z1
  refine step D dA A b ad LS C (by omega) (by omega) hR hS hl (fun q H1 hP hD hS1 => ?_)
  have ew := xWs_push (dA := dA) (ad := ad) (I' := xzr I sh.length) (kd := kd) (q := q) hR.2.2 (fun k hk => by funext c; simp [xzr]; omega)
  have er : xzr I sh.length sh.length = fun _ => 0 := by funext c; simp [xzr]
  rw [er] at ew
  have hag : ∀ k, k < sh.length → (fun k => if k = sh.length then q else ad k) k = ad k := fun k hk => if_neg (by omega)
  have key := h2 (p := p) (l := l) (e := e) (R := R) (s := s) (m := m) (args := args) (below := below) (meth := meth) (c := c) (H := H1) (locs := locs) (cells := cells + 1) (slots := slots + n) (Q := Q) D dA A b (fun k => if k = sh.length then q else ad k) LS C (by rw [e1, e2]; omega) ⟨by rw [ew]; exact hP, by rw [ew]; exact hD, xFw_push hR.2.2⟩ hS1 (xwl_eq hag hw2 hl)
    (fun pc2 LS2 H2 locs2 ad2 hg2 hR2 hS2 hE2 => by
      have := K pc2 LS2 H2 locs2 ad2 (fun k hk => ?_) hR2 hS2 hE2
      · rw [e1, e2]
        have a1 : cells + 1 + (xC σ' - (xC (sh, F, I) + 1)) = cells + (xC σ' - xC (sh, F, I)) := by omega
        have a2 : slots + n + (xW σ' - (xW (sh, F, I) + n)) = slots + (xW σ' - xW (sh, F, I)) := by omega
        rw [a1, a2]
        exact this
      · have hk : ¬ (sh.length ≤ k ∧ k < σ'.1.length) := hk
        have hlen : sh.length + 1 ≤ σ'.1.length := by have := h1.length_le; simpa using this
        rw [hg2 k (by simp; omega)]
        exact if_neg (by omega))
  have e3 : (Sum.inr (some sh.length) :: st').map (xvm b (fun k => if k = sh.length then q else ad k)) = .ref q :: st'.map (xvm b ad) := by
    rw [List.map_cons, xws_eq hag hw1]
    show Value.ref (if sh.length = sh.length then q else ad sh.length) :: _ = _
    rw [if_pos rfl]
  rw [e3] at key
  exact key
theorem Ex.new {idx ci N : Nat} {C0 : String} {T : u_T} (hd : decode (xB M) pc = .ok (.new idx, 3)) (hc : xCk ci C0 T N) (hl1 : Cond.classLink (xY M).cls idx C0 ∈ xWd) (hl2 : Cond.instantiable C0 N ∈ xWd) (hl3 : Cond.initialized C0 ∈ xWd) (hw1 : st.all (xwv sh.length) = true) (hw2 : ls.all (xwo sh.length) = true)
    (kk : Ex X M (pc + 3) ls (.inr (some sh.length) :: st) (sh ++ [.inl ci], F, xzr I sh.length) o) : Ex X M pc ls st (sh, F, I) o := by
  refine Ex.made (n := N) (by rw [hc.2.1]; rfl) hw1 hw2 kk ?_
  intro p l e R s m args below meth c H locs cells slots Q D dA A b ad LS C hcl hsl hR hS hl K
  obtain ⟨hx, hb, hml, hown, hts, hnw, hao, hin, hfr, hlo, hK, hA, hX⟩ := id C
  obtain ⟨q1, q2, q3, q4, q5, q6⟩ := hc
  subst q2
  refine va_new (cl := vwCl) (fs := (List.range (xN ci)).map (xfv ad (fun _ => .none) (fun _ => 0) ci)) hx hb hts q3 (xTy ci) q4 hown (hts _ hl1) (hts _ hl2) (hts _ hl3) hK hR.1 hR.2.1 hS hA q1 (fun j hj => ?_) hcl hsl hd (fun q H1 hP hD hS1 => ?_)
  · rw [q6 j hj]
    unfold vp_V
    rw [List.getD_eq_getElem?_getD, xfs_at hj]
    simp [xfv, va_rf]
  · have e : xE dA (fun k => if k = sh.length then q else ad k) (fun _ => .none) (fun _ => 0) (.inl ci) = .inr (ci, (List.range (xN ci)).map (xfv ad (fun _ => .none) (fun _ => 0) ci)) := rfl
    exact K q H1 (by rw [e]; exact hP) (by rw [e]; exact hD) hS1
theorem Ex.newa {at0 : ArrayType} {ty : FieldType} {n : Int32} {N t0 : Nat} (hd : decode (xB M) pc = .ok (.newarray at0, 2)) (hty : newarray.typeOf at0 = ty) (hp : (ty = .int ∧ t0 = 0) ∨ (ty = .char ∧ t0 = 1) ∨ (ty = .boolean ∧ t0 = 2)) (hl1 : Cond.arrayClass (newarray.typeOf at0) ∈ xWd) (hn : ¬ n < 0) (hN : n.toNatClampNeg = N) (hb1 : N * 8 ≤ 536870912) (hw1 : st.all (xwv sh.length) = true) (hw2 : ls.all (xwo sh.length) = true)
    (kk : Ex X M (pc + 2) ls (.inr (some sh.length) :: st) (sh ++ [.inr (ty, N)], F, xzr I sh.length) o) : Ex X M pc ls (.inl n :: st) (sh, F, I) o := by
  refine Ex.made (n := N) rfl hw1 hw2 kk ?_
  intro p l e R s m args below meth c H locs cells slots Q D dA A b ad LS C hcl hsl hR hS hl K
  obtain ⟨hx, hb, hml, hown, hts, hnw, hao, hin, hfr, hlo, hK, hA, hX⟩ := id C
  refine va_newa (cl := vwCl) (a0 := (N, .inl (fun _ => 0))) hx hb (hts _ hl1) hty hK hR.1 hR.2.1 hS hA (fun cA => ?_) hn hN (Nat.le_trans (Nat.mul_le_mul_left _ ?_) hb1) hcl hsl hd (fun q cA H1 hK1 hP hD hS1 => ?_)
  · rcases hp with ⟨rfl, -⟩ | ⟨rfl, -⟩ | ⟨rfl, -⟩ <;> rfl
  · rcases hp with ⟨rfl, -⟩ | ⟨rfl, -⟩ | ⟨rfl, -⟩ <;> decide
  · have hcA : cA = dA ty := by
      have h1 := (hK1.2 4 (cA, ty) rfl).2
      rcases hp with ⟨rfl, -⟩ | ⟨rfl, -⟩ | ⟨rfl, -⟩
      · exact Option.some.inj (h1.symm.trans (hK.2 0 _ rfl).2)
      · exact Option.some.inj (h1.symm.trans (hK.2 1 _ rfl).2)
      · exact Option.some.inj (h1.symm.trans (hK.2 2 _ rfl).2)
    have e : xE dA (fun k => if k = sh.length then q else ad k) (fun _ => .none) (fun _ => 0) (.inr (ty, N)) = .inl (cA, N, .inl (fun _ => 0)) := by
      rw [hcA]
      rcases hp with ⟨rfl, -⟩ | ⟨rfl, -⟩ | ⟨rfl, -⟩ <;> rfl
    exact K q H1 (by rw [e]; exact hP) (by rw [e]; exact hD) hS1
theorem Ex.newq {idx : Nat} {n : Int32} {N : Nat} (hd : decode (xB M) pc = .ok (.anewarray idx, 3)) (hl1 : Cond.classLink (xY M).cls idx "FenceDuel$State" ∈ xWd) (hn : ¬ n < 0) (hN : n.toNatClampNeg = N) (hb1 : N * 4 ≤ 536870912) (hw1 : st.all (xwv sh.length) = true) (hw2 : ls.all (xwo sh.length) = true)
    (kk : Ex X M (pc + 3) ls (.inr (some sh.length) :: st) (sh ++ [.inr (.object "FenceDuel$State", N)], F, xzr I sh.length) o) : Ex X M pc ls (.inl n :: st) (sh, F, I) o := by
  refine Ex.made (n := N) rfl hw1 hw2 kk ?_
  intro p l e R s m args below meth c H locs cells slots Q D dA A b ad LS C hcl hsl hR hS hl K
  obtain ⟨hx, hb, hml, hown, hts, hnw, hao, hin, hfr, hlo, hK, hA, hX⟩ := id C
  refine va_newq (cl := vwCl) hx hb hown (hts _ hl1) hao hK hR.1 hR.2.1 hS hA hn hN hb1 hcl hsl hd (fun q cA H1 hK1 hP hD hS1 => ?_)
  have hcA : cA = dA (.object "FenceDuel$State") := by
    obtain ⟨_, _, _, _, _, h1⟩ := (hK1.2 4 (cA, .object "FenceDuel$State") rfl).2
    obtain ⟨_, _, _, _, _, h2⟩ := (hK.2 3 (dA (.object "FenceDuel$State"), .object "FenceDuel$State") rfl).2
    exact Option.some.inj (h1.symm.trans h2)
  have e : xE dA (fun k => if k = sh.length then q else ad k) (fun _ => .none) (fun _ => 0) (.inr (.object "FenceDuel$State", N)) = .inl (cA, N, .inr (.inr (.inr (.inr (fun _ => .none))))) := by
    rw [hcA]; rfl
  exact K q H1 (by rw [e]; exact hP) (by rw [e]; exact hD) hS1
theorem Ex.objInit {idx : Nat} {r : Option Nat} (hd : decode (xB M) pc = .ok (.invokespecial idx, 3)) (hl1 : Cond.methodLink (xY M).cls idx objectInit ∈ xWd) (hl2 : Cond.instanceMethod objectInit ∈ xWd) (hl3 : Cond.code objectInit ⟨#[0xb1]⟩ 1 .none ∈ xWd) (hf : 1 ≤ xFr M) (hlw : st.length + 12 ≤ xLo M) (k : Ex X M (pc + 3) ls st σ o) : Ex X M pc ls (.inr r :: st) σ o := by
  intro v σ' ho
  obtain ⟨h1, h2⟩ := k v σ' ho
  refine ⟨h1, fun D dA A b ad LS C hcs hR hS hl K => ?_⟩
  obtain ⟨hx, hb, hml, hown, hts, hnw, hao, hin, hfr, hlo, hK, hA, hX⟩ := id C
  have hsum : ((st.map (xvm b ad)).map fun v => v.category).sum = st.length := by
    rw [List.map_map]
    have : (fun v => v.category) ∘ (xvm b ad) = fun _ => 1 := by funext v; exact xvm_cat b ad v
    rw [this]; exact xsum_one st
  cases r with
  | none => exact W.objInit hx hb hown (hts _ hl1) (hts _ hl2) (hts _ hl3) rfl (by show LS.size = _; rw [hml]; exact hl.1) rfl hd (Nat.le_trans hf hfr) (by rw [hsum]; show 2 * 0 + st.length + 12 ≤ _; omega) (h2 D dA A b ad LS C hcs hR hS hl K)
  | some r => exact W.objInit hx hb hown (hts _ hl1) (hts _ hl2) (hts _ hl3) rfl (by show LS.size = _; rw [hml]; exact hl.1) rfl hd (Nat.le_trans hf hfr) (by rw [hsum]; show 2 * 0 + st.length + 12 ≤ _; omega) (h2 D dA A b ad LS C hcs hR hS hl K)
end EXC
