theorem xin_lt {i : Int32} {n : Nat} (h : xin i n) : i.toNatClampNeg < n := Nat.not_le.mp fun q => h (Or.inr q)
theorem xbool {x : Int32} (h : x = 0 ∨ x = 1) : narrow .boolean (.int x) = .int x ∧ fits .boolean (.int x) = true := by
  rcases h with rfl | rfl <;> exact ⟨by decide, by decide⟩
section EYC
variable {X : Option (Nat × (Nat → Int32))} {M : xM} {pc : Nat} {ls : List (Option xV)} {st : List xV} {I : xI} {o : Option (Int32 × xI)}
theorem Ey.tcase {dflt lo hi : Int} {offs : Array Int} {len : Nat} {x c : Int32} {off : Int} {tgt : Nat} (hx : x = c) (hd : decode (xB M) pc = .ok (.tableswitch dflt lo hi offs, len)) (g1 : ¬ c.toInt < lo) (g2 : ¬ hi < c.toInt) (ho : offs[(c.toInt - lo).toNat]? = some off) (ht : (pc : Int) + off = (tgt : Int)) (k : Ey X M tgt ls st I o) : Ey X M pc ls (.inl x :: st) I o := by
  subst hx
  exact Ex.tableIn hd g1 g2 ho ht k
theorem Ey.lcase {dflt : Int} {ps : Array (Int × Int)} {len : Nat} {x c : Int32} {off : Int} {tgt : Nat} (hx : x = c) (hd : decode (xB M) pc = .ok (.lookupswitch dflt ps, len)) (hp : (ps.toList.zip (ps.toList.drop 1)).all (fun (a, next) => a.1 < next.1) = true) (ho : Op.lookupswitch.offset ps.toList dflt c.toInt = off) (ht : (pc : Int) + off = (tgt : Int)) (k : Ey X M tgt ls st I o) : Ey X M pc ls (.inl x :: st) I o := by
  subst hx
  exact Ex.lookup hd hp ho ht k
end EYC
/-! Arrays.fill over an int row -/
def xfill (I : xI) (a n : Nat) (v : Int32) : xI := fun k j => if k = a ∧ j < n then v else I k j
theorem xfill_0 (I : xI) (a : Nat) (v : Int32) : xfill I a 0 v = I := by
  funext k j
  simp [xfill]
theorem xfill_succ (I : xI) (a i : Nat) (v : Int32) : xup (xfill I a i v) a i v = xfill I a (i + 1) v := by
  funext k j
  unfold xup xfill
  by_cases hk : k = a
  · by_cases hj : j = i
    · simp [hk, hj]
    · simp only [hk, if_true, true_and, if_neg hj]
      by_cases h : j < i
      · rw [if_pos h, if_pos (by omega)]
      · rw [if_neg h, if_neg (by omega)]
  · simp [hk]
theorem ex_fill_loop {sh : List xKd} {F : xF} {I : xI} {a n : Nat} {v : Int32} (ha : sh[a]? = some (.inr (.int, n))) (hn : n < 2 ^ 31) :
    ∀ (m i : Nat), i + m = n → Ex none mJ7_fill_53178 5 [some (.inr (some a)), some (.inl v), some (.inl (nI i)), some (.inl (nI n))] [] (sh, F, xfill I a i v) (some (none, (sh, F, xfill I a n v))) := by
  intro m
  induction m with
  | zero =>
    intro i hi
    have hi : i = n := by omega
    subst hi
    refine Ex.iload_n (pc2 := 6) dJ7_fill_53178_5 rfl rfl rfl ?_
    refine Ex.iload_n (pc2 := 7) dJ7_fill_53178_6 rfl rfl rfl ?_
    have h := Ex.icmp_ge (X := none) (M := mJ7_fill_53178) (pc := 7) (ls := [some (.inr (some a)), some (.inl v), some (.inl (nI i)), some (.inl (nI i))]) (st := []) (σ := (sh, F, xfill I a i v)) (x := nI i) (y := nI i) (tgt := 20) (pc2 := 10) dJ7_fill_53178_7 rfl (o1 := some (none, (sh, F, xfill I a i v))) (o2 := some (none, (sh, F, xfill I a i v))) (fun _ => Ex.ret dJ7_fill_53178_20 rfl) rfl (fun h => absurd (Int32.le_refl _) h)
    rw [ite_self] at h
    exact h
  | succ m ih =>
    intro i hi
    refine Ex.iload_n (pc2 := 6) dJ7_fill_53178_5 rfl rfl rfl ?_
    refine Ex.iload_n (pc2 := 7) dJ7_fill_53178_6 rfl rfl rfl ?_
    have h := Ex.icmp_ge (X := none) (M := mJ7_fill_53178) (pc := 7) (ls := [some (.inr (some a)), some (.inl v), some (.inl (nI i)), some (.inl (nI n))]) (st := []) (σ := (sh, F, xfill I a i v)) (x := nI i) (y := nI n) (tgt := 20) (pc2 := 10) dJ7_fill_53178_7 rfl (o1 := some (none, (sh, F, xfill I a n v))) (o2 := some (none, (sh, F, xfill I a n v))) (fun h => absurd h (nI_ge (by omega) hn)) rfl (fun _ => ?_)
    · rw [ite_self] at h
      exact h
    · refine Ex.aload_n (pc2 := 11) dJ7_fill_53178_10 rfl rfl rfl ?_
      refine Ex.iload_n (pc2 := 12) dJ7_fill_53178_11 rfl rfl rfl ?_
      refine Ex.iload_n (pc2 := 13) dJ7_fill_53178_12 rfl rfl rfl ?_
      refine Ex.iastore (pc2 := 14) dJ7_fill_53178_13 ha (nI_in (by omega) hn) rfl ?_
      refine Ex.iinc (pc2 := 17) dJ7_fill_53178_14 (hg := rfl) (hv := ki_1) (hn := Nat.le_of_ble_eq_true rfl) (hp := rfl) ?_
      refine Ex.goto (tgt := 5) dJ7_fill_53178_17 rfl ?_
      have e : [some (Sum.inr (some a)), some (Sum.inl v), some (Sum.inl (nI i)), some (Sum.inl (nI n))].set 2 (some (.inl (nI i + 1))) = ([some (.inr (some a)), some (.inl v), some (.inl (nI (i + 1))), some (.inl (nI n))] : List (Option xV)) := by
        rw [nI_1]; rfl
      rw [e, nI_clamp (by omega), xfill_succ]
      exact ih (i + 1) (by omega)
theorem ex_fill {sh : List xKd} {F : xF} {I : xI} {a n : Nat} {v : Int32} (ha : sh[a]? = some (.inr (.int, n))) (hn : n < 2 ^ 31) :
    Ex none mJ7_fill_53178 0 [some (.inr (some a)), some (.inl v), none, none] [] (sh, F, I) (some (none, (sh, F, xfill I a n v))) := by
  refine Ex.iconst (pc2 := 1) dJ7_fill_53178_0 ki_0 rfl ?_
  refine Ex.istore_n (pc2 := 2) dJ7_fill_53178_1 rfl (Nat.le_of_ble_eq_true rfl) rfl ?_
  refine Ex.aload_n (pc2 := 3) dJ7_fill_53178_2 rfl rfl rfl ?_
  refine Ex.alenI (pc2 := 4) (x := nI n) dJ7_fill_53178_3 ha rfl rfl ?_
  refine Ex.istore_n (pc2 := 5) dJ7_fill_53178_4 rfl (Nat.le_of_ble_eq_true rfl) rfl ?_
  have h := ex_fill_loop (F := F) (I := I) (v := v) ha hn n 0 (by omega)
  rw [xfill_0, nI_0] at h
  exact h
def f_fill (a n : Nat) (v : Int32) (I : xI) : Option (Int32 × xI) := some (0, xfill I a n v)
theorem t_fill {a n : Nat} (v : Int32) (I : xI) (ha : SH[a]? = some (.inr (.int, n))) (hn : n < 2 ^ 31) : Ey none mJ7_fill_53178 0 [some (.inr (some a)), some (.inl v), none, none] [] I (f_fill a n v I) := ex_fill ha hn
