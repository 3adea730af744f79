/-! a method's contract out of its run, and calls -/
def xEnt (as : List xV) (n : Nat) : List (Option xV) := as.map some ++ List.replicate (n - as.length) Option.none
theorem lv_args_x {b : Nat} {ad : Nat → Nat} : ∀ (as : List xV) (j i : Nat) (v : xV), as[i]? = some v → (j + i, xvm b ad v) ∈ lv_args j (as.map (xvm b ad))
  | [], _, i, _, h => by simp at h
  | a :: as, j, i, v, h => by
    have hc : ¬ (xvm b ad a).category = 2 := by rw [xvm_cat]; decide
    show _ ∈ (j, xvm b ad a) :: lv_args (if (xvm b ad a).category = 2 then j + 2 else j + 1) (as.map (xvm b ad))
    rw [if_neg hc]
    cases i with
    | zero =>
      simp at h
      subst h
      exact List.mem_cons_self
    | succ i =>
      have h2 : as[i]? = some v := by simpa using h
      have := lv_args_x (b := b) (ad := ad) as (j + 1) i v h2
      rw [show j + (i + 1) = j + 1 + i by omega]
      exact List.mem_cons_of_mem _ this
theorem lg_sl_x {b : Nat} {ad : Nat → Nat} : ∀ as : List xV, (lg_sl (as.map (xvm b ad))).length = as.length
  | [] => rfl
  | a :: as => by
    have hc : ¬ (xvm b ad a).category = 2 := by rw [xvm_cat]; decide
    have := lg_sl_x (b := b) (ad := ad) as
    unfold lg_sl at this ⊢
    rw [List.map_cons, List.flatMap_cons, if_neg hc, List.length_append, this, List.length_cons, List.length_cons, List.length_nil]
    omega
theorem xEnt_has {b n : Nat} {ad : Nat → Nat} {as : List xV} {LS : Array Slot} (h : lv_has LS n (lv_args 0 (as.map (xvm b ad)))) : lv_has LS n (xLv (xvm b ad) (xEnt as n)) := by
  refine lv_has_mono h (fun q hq => ?_)
  obtain ⟨v, h1, h2⟩ := xLv_mem.mp hq
  unfold xEnt at h1
  by_cases hi : q.1 < as.length
  · rw [List.getElem?_append_left (by simpa using hi), List.getElem?_map] at h1
    cases hz : as[q.1]? with
    | none => rw [hz] at h1; cases h1
    | some z =>
      rw [hz] at h1
      have hzv : z = v := by simpa using h1
      subst hzv
      have := lv_args_x (b := b) (ad := ad) as 0 q.1 z hz
      rw [Nat.zero_add] at this
      obtain ⟨q1, q2⟩ := q
      simp only at h2 this
      rw [h2]; exact this
  · rw [List.getElem?_append_right (by simp; omega)] at h1
    rw [List.getElem?_replicate] at h1
    split at h1 <;> simp at h1
def xPc (D : va_G) (dA : FieldType → ClassId) (b : Nat) (ad : Nat → Nat) (sz : Nat) (σ : xS) (as : List xV) : Array Value → State → Prop :=
  va_Pc (as.map (xvm b ad)) (fun U => U.heap.size = sz ∧ va_P D vwCl (xWs dA ad σ) U.heap ∧ va_K D vwCl (xTys dA) U ∧ va_D (fun _ => True) (xWs dA ad σ) ∧ (∀ w ∈ xNw, va_Nw w U) ∧ va_AO "FenceDuel$State" U)
def xQc (D : va_G) (dA : FieldType → ClassId) (σ σ1 : xS) (v1 : Option Int32) (ad : Nat → Nat) (sz : Nat) : Array Value → State → Outcome → State → Prop := fun _ st oc t =>
  oc = .returned (v1.map .int) ∧ (∃ ad', xAg σ σ1 ad ad' ∧ xRel D dA (va_A (xWs dA ad σ) sz) σ1 ad' t.heap) ∧ va_F (va_A (xWs dA ad σ) sz) st t
def xRm (M : xM) (σ σ1 : xS) : Room := { frames := xFr M, cells := xC σ1 - xC σ, slots := xW σ1 - xW σ, locals := xLo M }
theorem xNw_onT {w : Cond} (h : w ∈ xNw) : w.onTables = true := by
  obtain ⟨a, i, y, n, rfl⟩ := xNw_tab h
  rfl
theorem xPc_blind {D : va_G} {dA : FieldType → ClassId} {b : Nat} {ad : Nat → Nat} {sz : Nat} {σ : xS} {as : List xV} : FrameBlind (xPc D dA b ad sz σ as) := by
  intro a U g mk h
  obtain ⟨h1, h2, h3, h4, h5, h6, h7⟩ := h
  exact ⟨h1, h2, h3, va_K.moved (u := U) (U := U.calling g mk a) (Vm.Alike.refl U.vm) h4, h5, fun w hw => va_Nw.same (xNw_onT hw) (u := U) (U := U.calling g mk a) rfl (h6 w hw), va_AO.moved (u := U) (U := U.calling g mk a) (Vm.Alike.refl U.vm) h7⟩
/-- a contract out of a walk, of a method for which the table of natives has no row (java/lang/Math is among the classes whose names don't say so) -/
theorem xMetW {l : Launch} {y : MethodName} {ws ws' : List Cond} {rm : Room} {Pc : Array Value → State → Prop} {Qc : Array Value → State → Outcome → State → Prop} {mc ms : Nat} {free : Addr → Prop} {cc : ByteArray} {maxL : Nat} {ret : Option FieldType}
    (hy : plainFor y = true) (hw : ws = Cond.code y cc maxL ret :: ws')
    (body : ∀ p e s m args below meth c s₁, BodyLoose p l y (headSpec ws rm) cc maxL ret e s m args below meth c s₁ → c.maxLocals = maxL → Pc args s →
      W p l e (headSpec ws rm).room s m args below meth c s.heap [] 0 0 (MQ below Qc args s mc ms free) (entryFrame m args maxL)) : Met l y ws rm Pc Qc mc ms free := by
  refine MetFree.of_bodySF (code := cc) (maxLocals := maxL) (ret := ret) hy (fun args s m h hn => ?_) (fun p e s m args below meth c s₁ B hml hP _ => ?_)
  · have hc : (Cond.code y cc maxL ret).before args s = true := atoms_spec (ws := ws) h _ (hw ▸ List.mem_cons_self)
    obtain ⟨meth, c, h1, h2, h3, h4, h5, h6, -, -⟩ := Cond.code_spec hn hc
    exact ⟨meth, c, h1, h2, h3, h4, h5, h6⟩
  · have he : s₁.heap = s.heap := by rw [B.state]; rfl
    obtain ⟨t, a1, o, b1, b2, b3⟩ := body p e s m args below meth c s₁ B hml hP s₁ he (Stand.of_body B)
    exact ⟨t, o, a1, b1, b2, b3⟩
theorem xMet {M : xM} {as : List xV} {σ σ1 : xS} {v1 : Option Int32} (hG : xGood M) (hn : as.length ≤ xL M) (hFw : xFw σ) (h : Ex Option.none M 0 (xEnt as (xL M)) [] σ (some (v1, σ1))) (l : Launch) (D : va_G) (dA : FieldType → ClassId) (b : Nat) (ad : Nat → Nat) (sz : Nat) :
    Met l (xY M) (xMw M) (xRm M σ σ1) (xPc D dA b ad sz σ as) (xQc D dA σ σ1 v1 ad sz) (xC σ1 - xC σ) (xW σ1 - xW σ) (va_A (xWs dA ad σ) sz) := by
  obtain ⟨hpre, h2⟩ := h v1 σ1 rfl
  refine xMetW (cc := xB M) (maxL := xL M) (ret := xT M) hG.1 rfl ?_
  intro p e s m args below meth c s₁ B hml hv
  obtain ⟨rfl, hsz, hP, hK, hD0, hN, hO⟩ := hv
  have hx := B.exec
  have hb := B.bytes
  have hr := B.returns
  have hts0 := atoms_spec (ws := xMw M) B.pre
  have hts : ∀ w ∈ xWd, w.before ((as.map (xvm b ad)).toArray) s = true := fun w hw => hts0 w (List.mem_cons_of_mem _ hw)
  have hown : s.vm.findClass (xY M).cls = some m.cls := findClass_of_methodNamed B.named
  have hlocks := B.notSynchronized
  have hin : meth.name = (xY M).name := (name_of_methodNamed B.named B.method).1
  subst hsz
  have hD := hD0.self (sz := s.heap.size)
  have hl := lv_entry (as.map (xvm b ad)) (n := xL M) (by rw [lg_sl_x]; exact hn)
  rw [lg_entry_eq]
  generalize (lg_sl (as.map (xvm b ad)) ++ List.replicate (xL M - (lg_sl (as.map (xvm b ad))).length) Slot.unset).toArray = LS at hl ⊢
  have hS : va_S (va_A (xWs dA ad σ) s.heap.size) s.heap s.heap [] := va_S.rf
  have C : xCtx Option.none M p (headSpec (xMw M) (xRm M σ σ1)).room s m ((as.map (xvm b ad)).toArray) meth c D dA (va_A (xWs dA ad σ) s.heap.size) b :=
    ⟨hx, hb, hml, hown, hts, hN, hO, fun h => hin.trans h, Nat.le_refl _, Nat.le_refl _, hK, fun q hq => Or.inr hq, fun L xs h => by cases h⟩
  refine h2 D dA (va_A (xWs dA ad σ) s.heap.size) b ad LS C ⟨by rw [Nat.zero_add]; exact Nat.le_refl _, by rw [Nat.zero_add]; exact Nat.le_refl _⟩ ⟨hP, hD, hFw⟩ hS (xEnt_has hl) (fun pc' LS' H' locs' ad' hag hR' hS' hE => ?_)
  rw [Nat.zero_add, Nat.zero_add]
  cases v1 with
  | none => exact W.vret hx hb (hr.trans hE.1) (fun t ht hW => ⟨rfl, ⟨ad', hag, by rw [ht]; exact hR'⟩, hS'.F ht⟩) hS'.2.2 hE.2
  | some x =>
    obtain ⟨ty, hT, hnar, hdec⟩ := hE
    exact W.zret hx hb (hr.trans hT) hnar (fun t ht hW => ⟨rfl, ⟨ad', hag, by rw [ht]; exact hR'⟩, hS'.F ht⟩) hS'.2.2 hdec
section XCALL
variable {p : Program} {l : Launch} {e : Env} {R : Room} {s : State} {m : MethodId} {args : Array Value} {below : List Frame} {meth : Method} {c : Code} {H : Heap} {locs : List Loc} {cells slots : Nat} {Q : State → Prop}
theorem xCall {pc mc ms : Nat} {LS : Array Slot} {rest st0 : List Value} {a : Array Value} {A : Nat → Prop} {D : va_G} {dA : FieldType → ClassId} {σ σ1 : xS} {v1 : Option Int32} {ad : Nat → Nat}
    (hr : va_Run p l e R s m args below meth c H locs cells slots mc ms (F0 m pc LS st0) rest (xQc D dA σ σ1 v1 ad H.size a) (va_A (xWs dA ad σ) H.size)) (hS : va_S A s.heap H locs) (hsub : ∀ q, va_A (xWs dA ad σ) H.size q → A q)
    (kk : ∀ (ad' : Nat → Nat) (H1 : Heap) (locs1 : List Loc), xAg σ σ1 ad ad' → xRel D dA A σ1 ad' H1 → va_S A s.heap H1 locs1 → W p l e R s m args below meth c H1 locs1 (cells + mc) (slots + ms) Q (F0 m (pc + 3) LS (xst v1 ++ rest))) : W p l e R s m args below meth c H locs cells slots Q (F0 m pc LS st0) := by
  intro T hT X
  obtain ⟨v, st₀, t, T', L, h0, X', hL, e1, e2, ⟨hv, ⟨ad', hag, hP, hD, hF⟩, hz, hk⟩, st⟩ := hr T hT X
  have hvv : v = v1.map .int := by cases hv; rfl
  subst hvv
  rw [h0] at hz hk
  obtain ⟨t2, a1, b1⟩ := kk ad' T'.heap (locs ++ L) hag ⟨by rw [e1]; exact hP, hD.weaken (fun _ q _ h => hsub q.1 h), hF⟩
    ⟨Nat.le_trans hS.1 (by rw [e1]; exact hz), fun q h1 h2 => by rw [e1, hk q (Nat.lt_of_lt_of_le h1 hS.1) (fun z => h2 (hsub q z))]; exact hS.2.1 q h1 h2, fun q hq => by
      rcases List.mem_append.mp hq with h | h
      · exact hS.2.2 q h
      · exact hsub _ (hL q h)⟩ T' rfl X'
  exact ⟨t2, st t2 a1, b1⟩
end XCALL
theorem xSub {D : va_G} {dA : FieldType → ClassId} {A : Nat → Prop} {σ : xS} {ad : Nat → Nat} {H H0 : Heap} {locs : List Loc} (hR : xRel D dA A σ ad H) (hS : va_S A H0 H locs) (hA : ∀ q, H0.size ≤ q → A q) : ∀ q, va_A (xWs dA ad σ) H.size q → A q := by
  intro q h
  rcases h with ⟨k, e, h⟩ | h
  · exact hR.2.1.2 k (q, e) h
  · exact hA q (Nat.le_trans hS.1 h)
theorem xcats {b : Nat} {ad : Nat → Nat} (st : List xV) : ((st.map (xvm b ad)).map fun v => v.category).sum = st.length := by
  rw [List.map_map]
  have : (fun v => v.category) ∘ (xvm b ad) = fun _ => 1 := by funext v; exact xvm_cat b ad v
  rw [this]
  exact xsum_one st
theorem xroom {m : MethodId} {pc b : Nat} {LS : Array Slot} {ad : Nat → Nat} {sv : List Value} {st : List xV} (h : st.length ≤ 8) : 2 * (F0 m pc LS sv).monitorRoom + ((st.map (xvm b ad)).map fun v => v.category).sum ≤ 8 := by
  rw [xcats]
  show 2 * 0 + st.length ≤ 8
  omega
section EXCALL
variable {X : Option (Nat × (Nat → Int32))} {M : xM} {pc : Nat} {ls : List (Option xV)} {σ : xS}
/-- the frame of a call: what the rules share; 'run' is the machine's part -/
theorem Ex.called {M' : xM} {pc' : Nat} {as rest st0 : List xV} {o1 : Option (Option Int32 × xS)} {K : Option Int32 → xS → Option (Option Int32 × xS)} (hpc : pc' = pc + 3)
    (hwf : (∀ v σ1, o1 = some (v, σ1) → σ1.1.length = σ.1.length) ∨ (rest.all (xwv σ.1.length) = true ∧ ls.all (xwo σ.1.length) = true))
    (hG : xGood M') (hargs : as.length ≤ xL M') (h1 : Ex Option.none M' 0 (xEnt as (xL M')) [] σ o1)
    (h2 : ∀ v σ1, o1 = some (v, σ1) → Ex X M pc' ls ((v.map Sum.inl).toList ++ rest) σ1 (K v σ1))
    (run : ∀ {p : Program} {l : Launch} {e : Env} {R : Room} {s : State} {m : MethodId} {args : Array Value} {below : List Frame} {meth : Method} {c : Code} {H : Heap} {locs : List Loc} {cells slots : Nat} (D : va_G) (dA : FieldType → ClassId) (A : Nat → Prop) (b : Nat) (ad : Nat → Nat) (LS : Array Slot) (v1 : Option Int32) (σ1 : xS),
      xCtx X M p R s m args meth c D dA A b → cells + (xC σ1 - xC σ) ≤ R.cells ∧ slots + (xW σ1 - xW σ) ≤ R.slots → xRel D dA A σ ad H → va_S A s.heap H locs → lv_has LS (xL M) (xLv (xvm b ad) ls) →
      Met l (xY M') (xMw M') (xRm M' σ σ1) (xPc D dA b ad H.size σ as) (xQc D dA σ σ1 v1 ad H.size) (xC σ1 - xC σ) (xW σ1 - xW σ) (va_A (xWs dA ad σ) H.size) →
      (∀ U : State, U.heap = H → s.WarmedH U.vm → xPc D dA b ad H.size σ as (as.map (xvm b ad)).toArray U) →
      va_Run p l e R s m args below meth c H locs cells slots (xC σ1 - xC σ) (xW σ1 - xW σ) (F0 m pc LS (st0.map (xvm b ad))) (rest.map (xvm b ad)) (xQc D dA σ σ1 v1 ad H.size (as.map (xvm b ad)).toArray) (va_A (xWs dA ad σ) H.size)) :
    Ex X M pc ls st0 σ (o1.bind fun r => K r.1 r.2) := by
  subst hpc
  intro v σ' ho
  cases o1 with
  | none => cases ho
  | some r =>
    obtain ⟨v1, σ1⟩ := r
    have ho : K v1 σ1 = some (v, σ') := ho
    obtain ⟨g1, g2⟩ := h2 v1 σ1 rfl v σ' ho
    obtain ⟨f1, -⟩ := h1 v1 σ1 rfl
    have z1 := xW_le f1
    have z2 := xW_le g1
    have y1 : σ.1.length ≤ σ1.1.length := z1.1
    have y2 : σ1.1.length ≤ σ'.1.length := z2.1
    refine ⟨f1.trans g1, fun {p l e R s m args below meth c H locs cells slots Q} D dA A b ad LS C hcs hR hS hl Kk => ?_⟩
    have hA := C.2.2.2.2.2.2.2.2.2.2.2.1
    have hK := C.2.2.2.2.2.2.2.2.2.2.1
    have hN := C.2.2.2.2.2.1
    have hO := C.2.2.2.2.2.2.1
    refine xCall (run D dA A b ad LS v1 σ1 C (by omega) hR hS hl (xMet hG hargs hR.2.2 h1 l D dA b ad H.size) (fun U hU hW => ⟨rfl, by rw [hU], by rw [hU]; exact hR.1, va_K.moved hW.alike hK, hR.2.1.weaken (fun _ _ _ _ => trivial), fun w hw => by
      obtain ⟨a, i, y, n, rfl⟩ := xNw_tab hw
      exact va_Nw.warmM hW (hN _ hw), va_AO.moved hW.alike hO⟩)) hS (xSub hR hS hA) (fun ad' H1 locs1 hag hR1 hS1 => ?_)
    have heq : ∀ k, k < σ.1.length → ad' k = ad k := fun k hk => hag k (by omega)
    have hst : rest.map (xvm b ad') = rest.map (xvm b ad) ∧ lv_has LS (xL M) (xLv (xvm b ad') ls) := by
      rcases hwf with hw | ⟨hw1, hw2⟩
      · have : ad' = ad := by
          funext k
          exact hag k (by rw [hw v1 σ1 rfl]; omega)
        rw [this]
        exact ⟨rfl, hl⟩
      · exact ⟨xws_eq heq hw1, xwl_eq heq hw2 hl⟩
    have key := g2 (p := p) (l := l) (e := e) (R := R) (s := s) (m := m) (args := args) (below := below) (meth := meth) (c := c) (H := H1) (locs := locs1) (cells := cells + (xC σ1 - xC σ)) (slots := slots + (xW σ1 - xW σ)) (Q := Q) D dA A b ad' LS C (by omega) hR1 hS1 hst.2
      (fun pc2 LS2 H2 locs2 ad2 hg2 hR2 hS2 hE2 => by
        have := Kk pc2 LS2 H2 locs2 ad2 (xAg.trans y1 y2 hag hg2) hR2 hS2 hE2
        have a1 : cells + (xC σ1 - xC σ) + (xC σ' - xC σ1) = cells + (xC σ' - xC σ) := by omega
        have a2 : slots + (xW σ1 - xW σ) + (xW σ' - xW σ1) = slots + (xW σ' - xW σ) := by omega
        rw [a1, a2]
        exact this)
    have e3 : ((v1.map Sum.inl).toList ++ rest).map (xvm b ad') = xst v1 ++ rest.map (xvm b ad) := by
      rw [List.map_append, hst.1]
      congr 1
      cases v1 <;> rfl
    rw [e3] at key
    exact key
theorem xwords {M' : xM} {s : State} {args : Array Value} (hts : ∀ w ∈ xWd, w.before args s = true) (hG : xGood M') : GoodIn xWd (xMw M') ∧ (Cond.initialized (xY M').cls).before args s = true := ⟨xMw_good hG, hts _ hG.2.2.1⟩
theorem Ex.callV {M' : xM} {idx k : Nat} {ci : Nat} {T : u_T} {N : Nat} {as rest st0 : List xV} {o1 : Option (Option Int32 × xS)} {K : Option Int32 → xS → Option (Option Int32 × xS)}
    (hd : decode (xB M) pc = .ok (.invokevirtual idx, 3)) (hG : xGood M') (hl1 : Cond.methodLink (xY M).cls idx (xY M') ∈ xWd) (hl2 : Cond.instanceMethod (xY M') ∈ xWd) (hl3 : Cond.selects (xY M').cls (xY M') (xY M') ∈ xWd)
    (hn : (parseMethodDescriptor (xY M').desc).map (fun d => d.parameters.length) = some as.length) (hroom : xFr M' + 1 ≤ xFr M ∧ 8 + (xL M' + 11) + xLo M' ≤ xLo M)
    (hk : σ.1[k]? = some (.inl ci)) (hci : vwCl[ci]? = some ((xY M').cls, T, N)) (hst : st0 = as.reverse ++ .inr (some k) :: rest) (hr8 : rest.length ≤ 8) (hargs : as.length + 1 ≤ xL M')
    (hwf : (∀ v σ1, o1 = some (v, σ1) → σ1.1.length = σ.1.length) ∨ (rest.all (xwv σ.1.length) = true ∧ ls.all (xwo σ.1.length) = true))
    (h1 : Ex Option.none M' 0 (xEnt (.inr (some k) :: as) (xL M')) [] σ o1) (h2 : ∀ v σ1, o1 = some (v, σ1) → Ex X M (pc + 3) ls ((v.map Sum.inl).toList ++ rest) σ1 (K v σ1)) :
    Ex X M pc ls st0 σ (o1.bind fun r => K r.1 r.2) := by
  refine Ex.called (as := .inr (some k) :: as) (rest := rest) rfl hwf hG (by simpa using hargs) h1 h2 ?_
  intro p l e R s m args below meth c H locs cells slots D dA A b ad LS v1 σ1 C hcs hR hS hl hM hP
  obtain ⟨hx, hb, hml, hown, hts, hnw, hao, hin, hfr, hlo, hK, hA, hX⟩ := id C
  obtain ⟨w1, w2⟩ := xwords hts hG
  subst hst
  obtain ⟨ob, hob⟩ : ∃ fs, (xWs dA ad σ)[k]? = some (ad k, .inr (ci, fs)) := ⟨_, xWs_some hk⟩
  have hrm : (xRm M' σ σ1).frames + 1 ≤ R.frames ∧ 8 + (xL M' + 11) + (xRm M' σ σ1).locals ≤ R.locals := ⟨Nat.le_trans hroom.1 hfr, Nat.le_trans hroom.2 hlo⟩
  exact va_runV (As := as.map (xvm b ad)) (C := (xY M').cls) (n := as.length) (ws := xMw M') ⟨hx, hb, hml, hown, hts⟩ hM
    ⟨callB_of as.length hts w1 rfl rfl rfl w2 (hts _ hl1) ⟨hG.2.2.2.1, hG.2.2.2.2, hn⟩ hrm, hts _ hl2, hts _ hl3⟩
    ⟨xPc_blind, va_recv hK hR.1 hci hob, hP⟩ rfl (by simp) hl.1 (by simp [List.map_append, List.map_reverse, xvm]) (xroom hr8) hd hcs
theorem Ex.callS {M' : xM} {idx : Nat} {as rest st0 : List xV} {o1 : Option (Option Int32 × xS)} {K : Option Int32 → xS → Option (Option Int32 × xS)}
    (hd : decode (xB M) pc = .ok (.invokestatic idx, 3)) (hG : xGood M') (hl1 : Cond.methodLink (xY M).cls idx (xY M') ∈ xWd) (hl2 : Cond.static (xY M') ∈ xWd)
    (hn : (parseMethodDescriptor (xY M').desc).map (fun d => d.parameters.length) = some as.length) (hroom : xFr M' + 1 ≤ xFr M ∧ 8 + (xL M' + 11) + xLo M' ≤ xLo M)
    (hst : st0 = as.reverse ++ rest) (hr8 : rest.length ≤ 8) (hargs : as.length ≤ xL M')
    (hwf : (∀ v σ1, o1 = some (v, σ1) → σ1.1.length = σ.1.length) ∨ (rest.all (xwv σ.1.length) = true ∧ ls.all (xwo σ.1.length) = true))
    (h1 : Ex Option.none M' 0 (xEnt as (xL M')) [] σ o1) (h2 : ∀ v σ1, o1 = some (v, σ1) → Ex X M (pc + 3) ls ((v.map Sum.inl).toList ++ rest) σ1 (K v σ1)) :
    Ex X M pc ls st0 σ (o1.bind fun r => K r.1 r.2) := by
  refine Ex.called (as := as) (rest := rest) rfl hwf hG hargs h1 h2 ?_
  intro p l e R s m args below meth c H locs cells slots D dA A b ad LS v1 σ1 C hcs hR hS hl hM hP
  obtain ⟨hx, hb, hml, hown, hts, hnw, hao, hin, hfr, hlo, hK, hA, hX⟩ := id C
  obtain ⟨w1, w2⟩ := xwords hts hG
  subst hst
  have hrm : (xRm M' σ σ1).frames + 1 ≤ R.frames ∧ 8 + (xL M' + 11) + (xRm M' σ σ1).locals ≤ R.locals := ⟨Nat.le_trans hroom.1 hfr, Nat.le_trans hroom.2 hlo⟩
  exact va_runS (As := as.map (xvm b ad)) (n := as.length) (ws := xMw M') ⟨hx, hb, hml, hown, hts⟩ hM
    ⟨callB_of as.length hts w1 rfl rfl rfl w2 (hts _ hl1) ⟨hG.2.2.2.1, hG.2.2.2.2, hn⟩ hrm, hts _ hl2⟩
    ⟨xPc_blind, hP⟩ rfl (by simp) hl.1 (by simp [List.map_append, List.map_reverse]) (xroom hr8) hd hcs
theorem Ex.callSN {M' : xM} {idx : Nat} {host : String} {as rest st0 : List xV} {o1 : Option (Option Int32 × xS)} {K : Option Int32 → xS → Option (Option Int32 × xS)}
    (hd : decode (xB M) pc = .ok (.invokestatic idx, 3)) (hG : xGood M') (hl1 : Cond.methodLinkNest (xY M).cls idx (xY M') host ∈ xNw) (hl2 : Cond.static (xY M') ∈ xWd)
    (hn : (parseMethodDescriptor (xY M').desc).map (fun d => d.parameters.length) = some as.length) (hroom : xFr M' + 1 ≤ xFr M ∧ 8 + (xL M' + 11) + xLo M' ≤ xLo M)
    (hst : st0 = as.reverse ++ rest) (hr8 : rest.length ≤ 8) (hargs : as.length ≤ xL M')
    (hwf : (∀ v σ1, o1 = some (v, σ1) → σ1.1.length = σ.1.length) ∨ (rest.all (xwv σ.1.length) = true ∧ ls.all (xwo σ.1.length) = true))
    (h1 : Ex Option.none M' 0 (xEnt as (xL M')) [] σ o1) (h2 : ∀ v σ1, o1 = some (v, σ1) → Ex X M (pc + 3) ls ((v.map Sum.inl).toList ++ rest) σ1 (K v σ1)) :
    Ex X M pc ls st0 σ (o1.bind fun r => K r.1 r.2) := by
  refine Ex.called (as := as) (rest := rest) rfl hwf hG hargs h1 h2 ?_
  intro p l e R s m args below meth c H locs cells slots D dA A b ad LS v1 σ1 C hcs hR hS hl hM hP
  obtain ⟨hx, hb, hml, hown, hts, hnw, hao, hin, hfr, hlo, hK, hA, hX⟩ := id C
  obtain ⟨w1, w2⟩ := xwords hts hG
  subst hst
  have hrm : (xRm M' σ σ1).frames + 1 ≤ R.frames ∧ 8 + (xL M' + 11) + (xRm M' σ σ1).locals ≤ R.locals := ⟨Nat.le_trans hroom.1 hfr, Nat.le_trans hroom.2 hlo⟩
  exact va_runSN (As := as.map (xvm b ad)) (n := as.length) (ws := xMw M') ⟨hx, hb, hml, hown, hts⟩ hM
    ⟨va_cnB as.length hts w1 rfl rfl rfl (hnw _ hl1) w2 ⟨hG.2.2.2.1, hG.2.2.2.2, hn⟩ hrm, hts _ hl2, trivial⟩
    ⟨xPc_blind, hP⟩ rfl (by simp) hl.1 (by simp [List.map_append, List.map_reverse]) (xroom hr8) hd hcs
theorem Ex.callI {M' : xM} {idx k : Nat} {as rest st0 : List xV} {o1 : Option (Option Int32 × xS)} {K : Option Int32 → xS → Option (Option Int32 × xS)}
    (hd : decode (xB M) pc = .ok (.invokespecial idx, 3)) (hG : xGood M') (hret : xT M' = Option.none) (hl1 : Cond.methodLink (xY M).cls idx (xY M') ∈ xWd) (hl2 : Cond.instanceMethod (xY M') ∈ xWd) (hnm : (xY M').name = "<init>")
    (hn : (parseMethodDescriptor (xY M').desc).map (fun d => d.parameters.length) = some as.length) (hroom : xFr M' + 1 ≤ xFr M ∧ 8 + (xL M' + 11) + xLo M' ≤ xLo M)
    (hst : st0 = as.reverse ++ .inr (some k) :: rest) (hr8 : rest.length ≤ 8) (hargs : as.length + 1 ≤ xL M')
    (hwf : (∀ v σ1, o1 = some (v, σ1) → σ1.1.length = σ.1.length) ∨ (rest.all (xwv σ.1.length) = true ∧ ls.all (xwo σ.1.length) = true))
    (h1 : Ex Option.none M' 0 (xEnt (.inr (some k) :: as) (xL M')) [] σ o1) (h2 : ∀ v σ1, o1 = some (v, σ1) → Ex X M (pc + 3) ls ((v.map Sum.inl).toList ++ rest) σ1 (K v σ1)) :
    Ex X M pc ls st0 σ (o1.bind fun r => K r.1 r.2) := by
  refine Ex.called (as := .inr (some k) :: as) (rest := rest) rfl hwf hG (by simpa using hargs) h1 h2 ?_
  intro p l e R s m args below meth c H locs cells slots D dA A b ad LS v1 σ1 C hcs hR hS hl hM hP
  obtain ⟨hx, hb, hml, hown, hts, hnw, hao, hin, hfr, hlo, hK, hA, hX⟩ := id C
  obtain ⟨w1, w2⟩ := xwords hts hG
  subst hst
  have hrm : (xRm M' σ σ1).frames + 1 ≤ R.frames ∧ 8 + (xL M' + 11) + (xRm M' σ σ1).locals ≤ R.locals := ⟨Nat.le_trans hroom.1 hfr, Nat.le_trans hroom.2 hlo⟩
  have hw : xMw M' = Cond.code (xY M') (xB M') (xL M') Option.none :: xWd := by unfold xMw; rw [hret]
  exact va_runI (As := as.map (xvm b ad)) (n := as.length) (ws := xMw M') ⟨hx, hb, hml, hown, hts⟩ hM
    ⟨callB_of as.length hts w1 hw rfl rfl w2 (hts _ hl1) ⟨hG.2.2.2.1, hG.2.2.2.2, hn⟩ hrm, hnm, hts _ hl2⟩
    ⟨xPc_blind, hP⟩ rfl (by simp) hl.1 (by simp [List.map_append, List.map_reverse, xvm]) (xroom hr8) hd hcs
theorem Ex.callIN {M' : xM} {idx k : Nat} {host : String} {as rest st0 : List xV} {o1 : Option (Option Int32 × xS)} {K : Option Int32 → xS → Option (Option Int32 × xS)}
    (hd : decode (xB M) pc = .ok (.invokespecial idx, 3)) (hG : xGood M') (hret : xT M' = Option.none) (hl1 : Cond.methodLinkNest (xY M).cls idx (xY M') host ∈ xNw) (hl2 : Cond.instanceMethod (xY M') ∈ xWd) (hnm : (xY M').name = "<init>")
    (hn : (parseMethodDescriptor (xY M').desc).map (fun d => d.parameters.length) = some as.length) (hroom : xFr M' + 1 ≤ xFr M ∧ 8 + (xL M' + 11) + xLo M' ≤ xLo M)
    (hst : st0 = as.reverse ++ .inr (some k) :: rest) (hr8 : rest.length ≤ 8) (hargs : as.length + 1 ≤ xL M')
    (hwf : (∀ v σ1, o1 = some (v, σ1) → σ1.1.length = σ.1.length) ∨ (rest.all (xwv σ.1.length) = true ∧ ls.all (xwo σ.1.length) = true))
    (h1 : Ex Option.none M' 0 (xEnt (.inr (some k) :: as) (xL M')) [] σ o1) (h2 : ∀ v σ1, o1 = some (v, σ1) → Ex X M (pc + 3) ls ((v.map Sum.inl).toList ++ rest) σ1 (K v σ1)) :
    Ex X M pc ls st0 σ (o1.bind fun r => K r.1 r.2) := by
  refine Ex.called (as := .inr (some k) :: as) (rest := rest) rfl hwf hG (by simpa using hargs) h1 h2 ?_
  intro p l e R s m args below meth c H locs cells slots D dA A b ad LS v1 σ1 C hcs hR hS hl hM hP
  obtain ⟨hx, hb, hml, hown, hts, hnw, hao, hin, hfr, hlo, hK, hA, hX⟩ := id C
  obtain ⟨w1, w2⟩ := xwords hts hG
  subst hst
  have hrm : (xRm M' σ σ1).frames + 1 ≤ R.frames ∧ 8 + (xL M' + 11) + (xRm M' σ σ1).locals ≤ R.locals := ⟨Nat.le_trans hroom.1 hfr, Nat.le_trans hroom.2 hlo⟩
  have hw : xMw M' = Cond.code (xY M') (xB M') (xL M') Option.none :: xWd := by unfold xMw; rw [hret]
  exact va_runIN (As := as.map (xvm b ad)) (n := as.length) (ws := xMw M') ⟨hx, hb, hml, hown, hts⟩ hM
    ⟨va_cnB as.length hts w1 hw rfl rfl (hnw _ hl1) w2 ⟨hG.2.2.2.1, hG.2.2.2.2, hn⟩ hrm, hnm, hts _ hl2⟩
    ⟨xPc_blind, hP⟩ rfl (by simp) hl.1 (by simp [List.map_append, List.map_reverse, xvm]) (xroom hr8) hd hcs
end EXCALL
section EXR
variable {X : Option (Nat × (Nat → Int32))} {M : xM} {pc : Nat} {ls : List (Option xV)} {st : List xV} {sh : List (Nat ⊕ (FieldType × Nat))} {F : xF} {I : xI} {σ : xS} {o : Option (Option Int32 × xS)}
theorem Ex.ireturn {x : Int32} {ty : FieldType} (hd : decode (xB M) pc = .ok (.ireturn, 1)) (hT : xT M = some ty) (hn : narrow ty (.int x) = .int x) : Ex X M pc ls [.inl x] σ (some (some x, σ)) := by
  intro v σ' ho
  have e1 : some x = v ∧ σ = σ' := by simpa using ho
  obtain ⟨rfl, rfl⟩ := e1
  refine ⟨List.prefix_refl _, fun {p l e R s m args below meth c H locs cells slots Q} D dA A b ad LS C hcs hR hS hl K => ?_⟩
  have := K pc LS H locs ad (fun _ _ => rfl) hR hS ⟨ty, hT, hn, hd⟩
  rw [Nat.sub_self, Nat.sub_self] at this
  exact this
theorem Ex.ret (hd : decode (xB M) pc = .ok (.return_, 1)) (hT : xT M = Option.none) : Ex X M pc ls [] σ (some (Option.none, σ)) := by
  intro v σ' ho
  have e1 : Option.none = v ∧ σ = σ' := by simpa using ho
  obtain ⟨rfl, rfl⟩ := e1
  refine ⟨List.prefix_refl _, fun {p l e R s m args below meth c H locs cells slots Q} D dA A b ad LS C hcs hR hS hl K => ?_⟩
  have := K pc LS H locs ad (fun _ _ => rfl) hR hS ⟨hT, hd⟩
  rw [Nat.sub_self, Nat.sub_self] at this
  exact this
def xcp (I : xI) (a a0 sp dp n : Nat) : xI := fun k j => if k = a then (if dp ≤ j ∧ j < dp + n then I a0 (sp + (j - dp)) else I a j) else I k j
theorem Ex.acopy {idx a a0 n0 n1 : Nat} {sp dp n : Int32} (hd : decode (xB M) pc = .ok (.invokestatic idx, 3)) (hl1 : Cond.methodLink (xY M).cls idx arraycopyName ∈ xWd) (hl2 : Cond.native arraycopyName ∈ xWd) (hl3 : Cond.static arraycopyName ∈ xWd) (hl4 : Cond.initialized "java/lang/System" ∈ xWd)
    (ha0 : sh[a0]? = some (.inr (.int, n0))) (ha : sh[a]? = some (.inr (.int, n1))) (q1 : ¬ sp < 0) (q2 : ¬ dp < 0) (q3 : ¬ n < 0) (q4 : sp.toNatClampNeg + n.toNatClampNeg ≤ n0) (q5 : dp.toNatClampNeg + n.toNatClampNeg ≤ n1) (hf : 1 ≤ xFr M) (hlw : st.length + 18 ≤ xLo M)
    {pc2 : Nat} (hp : pc + 3 = pc2) (kk : Ex X M pc2 ls st (sh, F, xcp I a a0 sp.toNatClampNeg dp.toNatClampNeg n.toNatClampNeg) o) : Ex X M pc ls (.inl n :: .inl dp :: .inr (some a) :: .inl sp :: .inr (some a0) :: st) (sh, F, I) o := by
  subst hp
  intro v σ' ho
  obtain ⟨h1, h2⟩ := kk v σ' ho
  refine ⟨h1, fun D dA A b ad LS C hcs hR hS hl K => ?_⟩
  obtain ⟨hx, hb, hml, hown, hts, hnw, hao, hin, hfr, hlo, hK, hA, hX⟩ := id C
  refine va_copyi (cl := vwCl) (f := I a0) (g := I a) (ty := .int) hx hb (by rw [hml]; exact hl.1.symm) hown (hts _ hl1) (hts _ hl2) (hts _ hl3) (hts _ hl4) hK hR.1 hR.2.1 hS a0 a 0 0 (xWs_some (σ := (sh, F, I)) ha0) (xWs_some (σ := (sh, F, I)) ha) rfl rfl rfl q1 q2 q3 q4 q5 (fun _ _ => rfl) (Nat.le_trans hf hfr) (by rw [xcats]; show st.length + 18 ≤ _; omega) hd (fun H1 locs1 hP hD hS1 => ?_)
  have hl0 : a < sh.length := (List.getElem?_eq_some_iff.mp ha).1
  have e : (xWs dA ad (sh, F, I)).set a (ad a, .inl (dA .int, n1, .inl (va_cpy (I a0) (I a) sp.toNatClampNeg dp.toNatClampNeg n.toNatClampNeg))) = xWs dA ad (sh, F, xcp I a a0 sp.toNatClampNeg dp.toNatClampNeg n.toNatClampNeg) := by
    refine List.ext_getElem? (fun i => ?_)
    by_cases hi : i = a
    · subst hi
      rw [List.getElem?_set_self (by rw [xWs_len]; exact hl0), xWs_some (σ := (sh, F, xcp I i a0 sp.toNatClampNeg dp.toNatClampNeg n.toNatClampNeg)) ha]
      have er : xcp I i a0 sp.toNatClampNeg dp.toNatClampNeg n.toNatClampNeg i = va_cpy (I a0) (I i) sp.toNatClampNeg dp.toNatClampNeg n.toNatClampNeg := by
        funext j
        simp [xcp, va_cpy]
      show _ = some (ad i, xE dA ad (F i) (xcp I i a0 sp.toNatClampNeg dp.toNatClampNeg n.toNatClampNeg i) _)
      rw [er]
      rfl
    · rw [List.getElem?_set_ne (Ne.symm hi), xWs_at, xWs_at]
      have er : xcp I a a0 sp.toNatClampNeg dp.toNatClampNeg n.toNatClampNeg i = I i := by
        funext j
        simp [xcp, hi]
      show Option.map _ sh[i]? = Option.map (fun kd => (ad i, xE dA ad (F i) (xcp I a a0 sp.toNatClampNeg dp.toNatClampNeg n.toNatClampNeg i) kd)) sh[i]?
      rw [er]
  rw [e] at hP hD
  exact h2 D dA A b ad LS C hcs ⟨hP, hD, hR.2.2⟩ hS1 hl K
end EXR
