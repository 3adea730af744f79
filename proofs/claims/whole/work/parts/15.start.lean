def R_law : String := "FenceDuelLaw"
def lw_P (b : Addr) (xs : List Int32) (args : Array Value) (s : State) : Prop := args = #[.ref b] ∧ s.IntsAt b xs ∧ xs.length ≤ 2560 ∧ (Jvm.Cond.and given_1 narrow_1).before args s = true
def lw_Q (_ : Array Value) (s : State) (o : Outcome) (t : State) : Prop := o = .returned (some (.int 1)) ∧ Framed s o t [] 77 13135
def lw_Z (below : List Frame) (a : Array Value) (s : State) : State → Prop := fun t => ∃ o, t.status = .running ∧ Ended t below o ∧ lw_Q a s o t
/-- the law's own end, with 1 on the stack, nothing written that was there before, its room as the claim has it -/
theorem lw_ret {p : Program} {l : Launch} {e : Env} {s : State} {m : MethodId} {below : List Frame} {meth : Method} {c : Code} {b : Nat} (hx : p.tables.exec = Jvm.exec) (hb : c.code = code) (hr : meth.sig.returnType = ret) (hlocks : meth.locks = false) {pc : Nat} {H : Heap} {ls : Array Slot} (hdg : decode code pc = .ok (.ireturn, 1)) : W p l e room_1 s m #[Value.ref b] below meth c H [] 77 13135 (lw_Z below #[Value.ref b] s) (F0 m pc ls [.int 1]) := by
  intro T hT X
  obtain ⟨fs, hret, hrun, hended, hW, hframe⟩ := X.leave (v := some (.int 1)) (hlocks := hlocks) (fun h => by rw [hr] at h; cases h)
  have hmeth' : T.vm.method? m = some meth := X.method'
  refine ⟨T.setFrames fs, ?_, .returned (some (.int 1)), hrun, hended, rfl, ⟨_, rfl⟩, hW, hframe⟩
  jvm_step X.here [X.here.top, hx, hb, hdg, hmeth', hr, ret, narrow_b1]
  (try refine ⟨rfl, ?_⟩); (try refine ⟨rfl, ?_⟩)
  first | (intro acts; rw [hret _ acts rfl rfl rfl]) | rw [hret _ _ rfl rfl rfl]
  exact Steps.refl _
/-- what holds at the law's entry: the machine, the code, the tables' words (any of lw_tbl by 'hts w (by decide +kernel)'), the script of L ints xs at the cell b, what the Statement gives of the start (any of its parts by flat_of_before) -/
def lw_At (p : Program) (s : State) (m : MethodId) (meth : Method) (c : Code) (b L : Nat) (xs : Nat → Int32) : Prop :=
  p.tables.exec = Jvm.exec ∧ c.code = code ∧ meth.sig.returnType = ret ∧ c.maxLocals = 4 ∧ s.vm.findClass R_law = some m.cls ∧ (∀ w ∈ lw_tbl, w.before #[Value.ref b] s = true) ∧ va_X b L xs s s.heap ∧ b < s.heap.size ∧ meth.locks = false ∧ (Jvm.Cond.and given_1 narrow_1).before #[Value.ref b] s = true
theorem wd_ao : Cond.arrayOver (.object "FenceDuel$State") ∈ lw_tbl := List.mem_of_getElem? (i := 200) (by decide +kernel)

theorem xw_all : (SH.map xSz).sum - (sp00.map xSz).sum = 13135 := by decide +kernel
theorem xsub_tbl {C : String} {T : u_T} {N ci : Nat} (h : xCk ci C T N) : ∀ w ∈ u_ws C T N, w ∈ lw_tbl := fun w hw => (List.mem_filter.mp (h.2.2.1 w hw)).1
theorem xarr {s : State} {args : Array Value} {ty : FieldType} (hty : ty = .int ∨ ty = .char ∨ ty = .boolean) (h : (Cond.arrayClass ty).before args s = true) : ∃ c : ClassId, ArrOfT s c ty ∧ va_RA s c ty := by
  obtain ⟨c, k, comp, h1, h2, h3⟩ := Cond.arrayClass_spec h
  refine ⟨c, fun n z => ⟨fun k h => (by cases h), k, h2, comp, h3⟩, ?_⟩
  rcases hty with rfl | rfl | rfl <;> exact h1
theorem xarrO {s : State} {args : Array Value} {C : String} (h : (Cond.arrayOver (.object C)).before args s = true) : ∃ c : ClassId, ArrOfT s c (.object C) ∧ va_RA s c (.object C) := by
  obtain ⟨comp, c, k, h1, h2, h3, h4, h5⟩ := Cond.arrayOver_spec h
  exact ⟨c, fun n z => ⟨fun k h => (by cases h), k, h3, comp, h4⟩, k, comp, h3, h4, h1, h5⟩
set_option maxHeartbeats 4000000 in
theorem xstart_K {s : State} {args : Array Value} (hts : ∀ w ∈ lw_tbl, w.before args s = true) : ∃ (D : va_G) (dA : FieldType → ClassId), va_K D vwCl (xTys dA) s := by
  have hx : ∀ w ∈ xWd, w.before args s = true := fun w hw => hts w (List.mem_filter.mp hw).1
  obtain ⟨c0, iS0, hK0⟩ := u_known (C := RX0) (T := TX0) (N := 8) (n := 8) hts (xsub_tbl xck0) (hx _ wi0)
  obtain ⟨c1, iS1, hK1⟩ := u_known (C := RX1) (T := TX1) (N := 4) (n := 4) hts (xsub_tbl xck1) (hx _ wi1)
  obtain ⟨c2, iS2, hK2⟩ := u_known (C := RX2) (T := TX2) (N := 3) (n := 3) hts (xsub_tbl xck2) (hx _ wi2)
  obtain ⟨c3, iS3, hK3⟩ := u_known (C := RX3) (T := TX3) (N := 2) (n := 2) hts (xsub_tbl xck3) (hx _ wi3)
  obtain ⟨c4, iS4, hK4⟩ := u_known (C := RX4) (T := TX4) (N := 6) (n := 6) hts (xsub_tbl xck4) (hx _ wi4)
  obtain ⟨c5, iS5, hK5⟩ := u_known (C := RX5) (T := TX5) (N := 9) (n := 9) hts (xsub_tbl xck5) (hx _ wi5)
  obtain ⟨c6, iS6, hK6⟩ := u_known (C := RX6) (T := TX6) (N := 13) (n := 13) hts (xsub_tbl xck6) (hx _ wi6)
  obtain ⟨c7, iS7, hK7⟩ := u_known (C := RX7) (T := TX7) (N := 19) (n := 19) hts (xsub_tbl xck7) (hx _ wi7)
  obtain ⟨aI, hI⟩ := xarr (Or.inl rfl) (hx _ wd_ar_int)
  obtain ⟨aC, hC⟩ := xarr (Or.inr (Or.inl rfl)) (hx _ wd_ar_char)
  obtain ⟨aZ, hZ⟩ := xarr (Or.inr (Or.inr rfl)) (hx _ wd_ar_boolean)
  obtain ⟨aO, hO⟩ := xarrO (hts _ wd_ao)
  refine ⟨(fun k => match k with | 0 => c0 | 1 => c1 | 2 => c2 | 3 => c3 | 4 => c4 | 5 => c5 | 6 => c6 | _ => c7, fun k => match k with | 0 => iS0 | 1 => iS1 | 2 => iS2 | 3 => iS3 | 4 => iS4 | 5 => iS5 | 6 => iS6 | _ => iS7), fun ty => match ty with | .int => aI | .char => aC | .boolean => aZ | _ => aO, ?_, ?_⟩
  · intro k q hq
    match k, hq with
    | 0, hq => cases hq; exact hK0
    | 1, hq => cases hq; exact hK1
    | 2, hq => cases hq; exact hK2
    | 3, hq => cases hq; exact hK3
    | 4, hq => cases hq; exact hK4
    | 5, hq => cases hq; exact hK5
    | 6, hq => cases hq; exact hK6
    | 7, hq => cases hq; exact hK7
    | k + 8, hq => simp [vwCl] at hq
  · intro k q hq
    match k, hq with
    | 0, hq => cases hq; exact hI
    | 1, hq => cases hq; exact hC
    | 2, hq => cases hq; exact hZ
    | 3, hq => cases hq; exact hO
    | k + 4, hq => simp [xTys] at hq
theorem xstart_law {L : Nat} {xs : Nat → Int32} {I' : xI} (hf : f_L_law_18 L xs xZ 0 I00 = some (1, I')) : Ex (some (L, xs)) mL_law 0 [some (.inr none), none, none, none] [] (sp00, FF00, IC000) (some (some 1, (SH, FF, I'))) := by
  have h := c_law (t_L_law_18 L xs xZ 0 I00)
  rw [hf] at h
  exact h
set_option maxHeartbeats 4000000 in
theorem whole_of {p : Program} {e : Env} {s : State} {m : MethodId} {below : List Frame} {meth : Method} {c : Code} (l : Launch) {b L : Nat} {xs : Nat → Int32} (C0 : lw_At p s m meth c b L xs) {I' : xI} (hf : f_L_law_18 L xs xZ 0 I00 = some (1, I')) : W p l e room_1 s m #[Value.ref b] below meth c s.heap [] 0 0 (lw_Z below #[Value.ref b] s) (entryFrame m ([Value.ref b] : List Value).toArray 4) := by
  obtain ⟨hx, hb, hr, hml, hown, hts, hX, hbl, hlocks, hgv⟩ := id C0
  obtain ⟨D, dA, hK⟩ := xstart_K hts
  obtain ⟨-, h2⟩ := xstart_law hf _ _ rfl
  have hl := lv_entry ([.ref b]) (n := 4) (Nat.le_of_ble_eq_true rfl)
  rw [lg_entry_eq]
  generalize (lg_sl ([.ref b]) ++ List.replicate (4 - (lg_sl ([.ref b])).length) Slot.unset).toArray = LS at hl ⊢
  have hnw : ∀ w ∈ xNw, va_Nw w s := fun w hw => va_Nw.of (xNw_onT hw) (hts w (List.mem_append_right _ (List.mem_filter.mp hw).1))
  have C : xCtx (some (L, xs)) mL_law p room_1 s m #[Value.ref b] meth c D dA (fun q : Nat => s.heap.size ≤ q) b :=
    ⟨hx, hb, hml, hown, fun w hw => hts w (List.mem_filter.mp hw).1, hnw, va_AO.of (hts _ wd_ao), fun h => absurd h (by decide +kernel), Nat.le_refl _, Nat.le_refl _, hK, fun q hq => hq, fun L' xs' h => by
      have h1 : L = L' ∧ xs = xs' := by simpa using h
      obtain ⟨rfl, rfl⟩ := h1
      exact ⟨hX, hbl, Nat.not_le.mpr hbl⟩⟩
  have e1 : xC (SH, FF, I') - xC (sp00, FF00, IC000) = 77 := rfl
  have e2 : xW (SH, FF, I') - xW (sp00, FF00, IC000) = 13135 := xw_all
  have key := h2 (p := p) (l := l) (e := e) (R := room_1) (s := s) (m := m) (args := #[Value.ref b]) (below := below) (meth := meth) (c := c) (H := s.heap) (locs := []) (cells := 0) (slots := 0) (Q := lw_Z below #[Value.ref b] s) D dA (fun q : Nat => s.heap.size ≤ q) b (fun _ => 0) LS C (by rw [e1, e2]; exact ⟨Nat.le_refl _, Nat.le_refl _⟩)
    ⟨fun k q h => by simp [xWs, sp00] at h, ⟨fun i j x y h => by simp [xWs, sp00] at h, fun k q h => by simp [xWs, sp00] at h⟩, fun k j r h => by cases h⟩ va_S.rf (xEnt_has (as := [.inr none]) (n := 4) hl)
    (fun pc' LS' H' locs' ad' hag hR' hS' hE => by
      obtain ⟨ty, -, -, hdec⟩ := hE
      rw [e1, e2]
      exact va_forget (fun q hq => hS'.2.2 q hq) (lw_ret hx hb hr hlocks hdec))
  exact key
