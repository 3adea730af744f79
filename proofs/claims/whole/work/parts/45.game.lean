/-! ===== games: both go through the text ===== -/
theorem Fa.le {T : Nat → Int32} {L p q : Nat} (h : Fa T L p q) (hp : p ≤ L) : q ≤ L := by
  rcases h with ⟨h, -⟩ | ⟨h, h2, -⟩ | ⟨pl, h1, -, -, ⟨h2, -⟩ | ⟨kd, k1, ⟨-, h2, -⟩ | ⟨-, h2, -⟩ | ⟨-, ⟨h2, -⟩ | ⟨p2, v, n1, h2, -⟩⟩⟩⟩
  · omega
  · omega
  · omega
  · have := k1.1; omega
  · have := k1.1; omega
  · have := k1.1; omega
  · have := n1.le; omega
def Row (R : xI) (i kd pl nu sd : Nat) : Prop := R 15 i = nI kd ∧ R 17 i = nI nu ∧ (kd ≠ 4 → R 16 i = nI pl) ∧ (kd < 2 → R 18 i = nI sd)
/-- a game of m things stands from p on; the rows R hold them from i on -/
def Gm (T : Nat → Int32) (L : Nat) (R : xI) : Nat → Nat → Nat → Prop
  | 0, _, _ => False
  | m + 1, i, p => ∃ p' kd pl nu sd, Th T L p p' kd pl nu sd ∧ Row R i kd pl nu sd ∧ ((m = 0 ∧ p' = L) ∨ (p' < L ∧ T p' = nI 59 ∧ Gm T L R m (i + 1) (p' + 1)))
/-- a game from p on has its fault at q -/
def Gf (T : Nat → Int32) (L : Nat) : Nat → Nat → Nat → Prop
  | 0, _, _ => False
  | m + 1, p, q => Fa T L p q ∨ ∃ p' kd pl nu sd, Th T L p p' kd pl nu sd ∧ p' < L ∧ ((T p' ≠ nI 59 ∧ q = p') ∨ (T p' = nI 59 ∧ Gf T L m (p' + 1) q))
def frY (i : Nat) (I I' : xI) : Prop := (∀ k, (k < 13 ∨ k = 14 ∨ 18 < k) → I' k = I k) ∧ (∀ j, j ≠ 2 → j ≠ 3 → I' 13 j = I 13 j) ∧ ∀ k, 15 ≤ k → k ≤ 18 → ∀ j, j < i → I' k j = I k j
theorem ff_fault {T : Nat → Int32} {L : Nat} (hL : L ≤ 60) : ∀ (m i p n : Nat) (I : xI), L - p ≤ m → m + 1 < n → 2 * i ≤ p → p ≤ L → Tc T L p I → I 13 3 = nI i →
    (∃ c I', Gm T L I' c i p ∧ f_X0_findFault_12 n (nI i) I = some (-5, I') ∧ I' 13 3 = nI (i + c) ∧ frY i I I' ∧ c ≤ 60) ∨ (∃ q c I', Gf T L c p q ∧ f_X0_findFault_12 n (nI i) I = some (nI q, I') ∧ frY i I I' ∧ q ≤ L ∧ c ≤ m + 1) := by
  intro m
  induction m with
  | zero =>
    intro i p n I hm hn hi hp hT h3
    obtain ⟨n, rfl⟩ : ∃ n', n = n' + 1 := ⟨n - 1, by omega⟩
    have hpL : p = L := by omega
    have hunf : f_X0_findFault_12 (n + 1) (nI i) I = xb (f_X0_readThing (nI i) I) (fun r1 I1 => if r1 ≠ 0 then if ((xup I1 13 3 ((I1 13 3) + (1 : Int32))) 13 2) ≠ ((xup I1 13 3 ((I1 13 3) + (1 : Int32))) 13 1) then xb (f_X0_look (xup I1 13 3 ((I1 13 3) + (1 : Int32)))) (fun r2 I2 => if r2 = (59 : Int32) then f_X0_findFault_12 n (nI i + 1) (xup I2 13 2 ((I2 13 2) + (1 : Int32))) else some ((I2 13 2), I2)) else some ((-5 : Int32), (xup I1 13 3 ((I1 13 3) + (1 : Int32)))) else some ((I1 13 2), I1)) := by
      show f_X0_findFault_12b _ (nI i) I = _
      unfold f_X0_findFault_12b
      rw [if_neg (show ¬ nI i ≥ (60 : Int32) from nI_ge (b := 60) (by omega) (by decide))]
    rcases ff_thing (i := i) hT hL hp (by omega) with ⟨p', kd, pl, nu, sd, I', t1, -⟩ | ⟨q, I', t1, t2, t3, t4⟩
    · have := t1.le; omega
    · refine Or.inr ⟨q, 1, I', Or.inl t1, by rw [hunf, t2, xb_some, if_neg (fun q => q rfl), t4], ⟨t3.1, fun j a _ => t3.2.1 j a, fun k a b j hj => t3.2.2 k a b j (by omega)⟩, ?_, by omega⟩
      exact t1.le hp
  | succ m ih =>
    intro i p n I hm hn hi hp hT h3
    obtain ⟨n, rfl⟩ : ∃ n', n = n' + 1 := ⟨n - 1, by omega⟩
    have hunf : f_X0_findFault_12 (n + 1) (nI i) I = xb (f_X0_readThing (nI i) I) (fun r1 I1 => if r1 ≠ 0 then if ((xup I1 13 3 ((I1 13 3) + (1 : Int32))) 13 2) ≠ ((xup I1 13 3 ((I1 13 3) + (1 : Int32))) 13 1) then xb (f_X0_look (xup I1 13 3 ((I1 13 3) + (1 : Int32)))) (fun r2 I2 => if r2 = (59 : Int32) then f_X0_findFault_12 n (nI i + 1) (xup I2 13 2 ((I2 13 2) + (1 : Int32))) else some ((I2 13 2), I2)) else some ((-5 : Int32), (xup I1 13 3 ((I1 13 3) + (1 : Int32)))) else some ((I1 13 2), I1)) := by
      show f_X0_findFault_12b _ (nI i) I = _
      unfold f_X0_findFault_12b
      rw [if_neg (show ¬ nI i ≥ (60 : Int32) from nI_ge (b := 60) (by omega) (by decide))]
    rcases ff_thing (i := i) hT hL hp (by omega) with ⟨p', kd, pl, nu, sd, I1, t1, t2, t3, t4, t5, t6, t7, t8⟩ | ⟨q, I', t1, t2, t3, t4⟩
    · have hle := t1.le
      have h31 : I1 13 3 = nI i := (t3.2.1 3 (by omega)).trans h3
      rw [t2, xb_some, if_pos one_ne0, h31, nI_1, xup_slot (show 2 ≠ 3 by omega), xup_slot (show 1 ≠ 3 by omega), t4, (t3.2.1 1 (by omega)).trans hT.1] at hunf
      have T1 : Tc T L p' (xup I1 13 3 (nI (i + 1))) := by
        have := hT.mv t3 t4
        exact ⟨(xup_slot (by omega)).trans this.1, fun j hj => (xup_cell (by omega)).trans (this.2.1 j hj), (xup_slot (by omega)).trans this.2.2⟩
      have fr1 : frY i I (xup I1 13 3 (nI (i + 1))) := ⟨fun k hk => by funext x; rw [xup_cell (by omega), t3.1 k hk], fun j a b => by rw [xup_slot b, t3.2.1 j a], fun k a b j hj => by rw [xup_cell (by omega), t3.2.2 k a b j (by omega)]⟩
      have rw1 : Row (xup I1 13 3 (nI (i + 1))) i kd pl nu sd := ⟨by rw [xup_cell (by decide)]; exact t5, by rw [xup_cell (by decide)]; exact t6, fun q => by rw [xup_cell (by decide)]; exact t7 q, fun q => by rw [xup_cell (by decide)]; exact t8 q⟩
      have h33 : xup I1 13 3 (nI (i + 1)) 13 3 = nI (i + 1) := xup_at
      generalize xup I1 13 3 (nI (i + 1)) = I2 at hunf T1 fr1 rw1 h33
      by_cases hend : p' = L
      · subst hend
        rw [if_neg (fun q => q rfl)] at hunf
        exact Or.inl ⟨1, I2, ⟨p', kd, pl, nu, sd, t1, rw1, Or.inl ⟨rfl, rfl⟩⟩, hunf, h33, fr1, by omega⟩
      · have hlt : p' < L := by omega
        rw [if_pos (show nI p' ≠ nI L from fun q => hend (nI_inj (by omega) (by omega) q)), ff_look T1 hL hle.2, xb_some, show ch T L p' = T p' by unfold ch; rw [if_pos hlt], T1.2.2, nI_1] at hunf
        by_cases hs : T p' = nI 59
        · rw [if_pos (show T p' = 59 from hs)] at hunf
          have T2 : Tc T L (p' + 1) (xup I2 13 2 (nI (p' + 1))) := T1.mv (i := i) (frX.pos i I2 _) xup_at
          have fr2 : frY i I (xup I2 13 2 (nI (p' + 1))) := ⟨fun k hk => by funext x; rw [xup_cell (by omega), fr1.1 k hk], fun j a b => by rw [xup_slot a, fr1.2.1 j a b], fun k a b j hj => by rw [xup_cell (by omega), fr1.2.2 k a b j hj]⟩
          rcases ih (i + 1) (p' + 1) n (xup I2 13 2 (nI (p' + 1))) (by omega) (by omega) (by omega) (by omega) T2 ((xup_slot (by omega)).trans h33) with ⟨c, I', g1, g2, g3, g4, g5⟩ | ⟨q, c, I', g1, g2, g4, g5, g6⟩
          · have hi60 : c + 1 ≤ 60 := by
              rcases Nat.lt_or_ge c 60 with y | y
              · omega
              · exfalso
                have : ∀ c i p, Gm T L I' c i p → p + c ≤ L := by
                  intro c
                  induction c with
                  | zero => intro i p h; exact h.elim
                  | succ c ihc =>
                    rintro i p ⟨p', kd, pl, nu, sd, k1, -, ⟨k2, k3⟩ | ⟨k2, -, k3⟩⟩
                    · have := k1.le; omega
                    · have := k1.le; have := ihc _ _ k3; omega
                have := this _ _ _ g1
                omega
            refine Or.inl ⟨c + 1, I', ⟨p', kd, pl, nu, sd, t1, ?_, Or.inr ⟨hlt, hs, g1⟩⟩, hunf.trans g2, by rw [g3]; congr 1; omega, ⟨fun k hk => (g4.1 k hk).trans (fr2.1 k hk), fun j a b => (g4.2.1 j a b).trans (fr2.2.1 j a b), fun k a b j hj => (g4.2.2 k a b j (by omega)).trans (fr2.2.2 k a b j hj)⟩, hi60⟩
            have e : ∀ k, 15 ≤ k → k ≤ 18 → I' k i = I2 k i := fun k a b => (g4.2.2 k a b i (by omega)).trans (xup_cell (by omega))
            exact ⟨(e 15 (by omega) (by omega)).trans rw1.1, (e 17 (by omega) (by omega)).trans rw1.2.1, fun q => (e 16 (by omega) (by omega)).trans (rw1.2.2.1 q), fun q => (e 18 (by omega) (by omega)).trans (rw1.2.2.2 q)⟩
          · exact Or.inr ⟨q, c + 1, I', Or.inr ⟨p', kd, pl, nu, sd, t1, hlt, Or.inr ⟨hs, g1⟩⟩, hunf.trans g2, ⟨fun k hk => (g4.1 k hk).trans (fr2.1 k hk), fun j a b => (g4.2.1 j a b).trans (fr2.2.1 j a b), fun k a b j hj => (g4.2.2 k a b j (by omega)).trans (fr2.2.2 k a b j hj)⟩, g5, by omega⟩
        · rw [if_neg (show ¬ T p' = 59 from hs)] at hunf
          exact Or.inr ⟨p', 1, I2, Or.inr ⟨p', kd, pl, nu, sd, t1, hlt, Or.inl ⟨hs, rfl⟩⟩, hunf, fr1, hle.2, by omega⟩
    · refine Or.inr ⟨q, 1, I', Or.inl t1, by rw [hunf, t2, xb_some, if_neg (fun q => q rfl), t4], ⟨t3.1, fun j a _ => t3.2.1 j a, fun k a b j hj => t3.2.2 k a b j (by omega)⟩, ?_, by omega⟩
      exact t1.le hp
/-! the reference goes through the text -/
def frP (J J' : xI) : Prop := (∀ k, k ≠ 69 → k ≠ 70 → k ≠ 76 → J' k = J k) ∧ ∀ j, (j < 12 ∨ 18 < j) → J' 69 j = J 69 j
theorem frP.rf (J : xI) : frP J J := ⟨fun _ _ _ _ => rfl, fun _ _ => rfl⟩
theorem frP.trans {J J' J'' : xI} (h1 : frP J J') (h2 : frP J' J'') : frP J J'' := ⟨fun k a b c => (h2.1 k a b c).trans (h1.1 k a b c), fun j a => (h2.2 j a).trans (h1.2 j a)⟩
theorem frU.p {J J' : xI} (h : frU J J') : frP J J' := ⟨fun k a _ _ => h.1 k a, fun j hj => h.2 j (by omega)⟩
theorem frM.p {J J' : xI} (h : frM J J') : frP J J' := ⟨fun k _ a b => h k a b, fun j _ => by rw [h 69 (by decide) (by decide)]⟩
theorem frP.up (J : xI) {j : Nat} (h : 12 ≤ j ∧ j ≤ 18) (v : Int32) : frP J (xup J 69 j v) := ⟨fun k hk _ _ => by funext x; exact xup_cell hk, fun i hi => xup_slot (by omega)⟩
/-- behind a thing that was done, or only read -/
theorem rn_105 {T : Nat → Int32} {L p : Nat} {J : xI} (hL : L ≤ 60) (hp : p ≤ L) (l1 : Int32) (c n : Nat) (k19 : Int32 → Int32 → Int32 → xI → Option (Int32 × xI)) :
    (Mt T L p 1 J → f_X7_runs_75 k19 l1 (nI c) 0 J = k19 l1 (nI (c + 1)) 0 (xup J 69 18 0)) ∧
    (Mt T L p 0 J → (p = L → f_X7_runs_75 k19 l1 (nI c) 0 J = k19 l1 (nI (c + 1)) 0 (xup J 69 18 0)) ∧
      (p < L → T p = nI 59 → ∃ J', f_X7_runs_75 k19 l1 (nI c) 0 J = k19 l1 (nI (c + 1)) 1 J' ∧ Mt T L (p + 1) 0 J' ∧ frP J J' ∧ J' 69 18 = 0 ∧ ∀ k, k ≠ 69 → J' k = J k) ∧
      (p < L → T p ≠ nI 59 → ∃ J', f_X7_runs_75 k19 l1 (nI c) 0 J = k19 l1 (nI (c + 1)) 0 J' ∧ Mt T L p 1 J' ∧ frP J J' ∧ J' 69 18 = 0 ∧ ∀ k, k ≠ 69 → J' k = J k)) := by
  have e0 : f_X7_runs_75 k19 l1 (nI c) 0 J = f_X7_runs_105 k19 l1 1 (nI c) (xup J 69 18 0) := by
    unfold f_X7_runs_75 f_X7_runs_89
    rw [if_pos (Int32.le_refl 0), xup_at, if_pos (Int32.le_refl 0)]
  have e105 : f_X7_runs_105 k19 l1 1 (nI c) (xup J 69 18 0) = if J 69 13 ≠ 0 then k19 l1 (nI (c + 1)) 0 (xup J 69 18 0) else if J 69 12 ≥ J 69 8 then k19 l1 (nI (c + 1)) 0 (xup J 69 18 0) else xb (f_X7_takes (nI 59) (nI 59) (xup J 69 18 0)) (fun r1 I1 => if (I1 69 13) ≠ 0 then k19 l1 (nI (c + 1)) (0 : Int32) I1 else k19 l1 (nI (c + 1)) (1 : Int32) I1) := by
    unfold f_X7_runs_105 f_X7_runs_137
    rw [xup_at, if_neg (fun q => q rfl), xup_slot (show 13 ≠ 18 by omega), xup_slot (show 12 ≠ 18 by omega), xup_slot (show 8 ≠ 18 by omega), nI_1, if_pos rfl, if_neg one_ne0]
    rfl
  refine ⟨fun h => ?_, fun h => ⟨fun hpL => ?_, fun hlt hs => ?_, fun hlt hs => ?_⟩⟩
  · rw [e0, e105, if_pos (by rw [h.2.2.2]; exact one_ne0)]
  · rw [e0, e105, if_neg (fun q => q h.2.2.2), h.2.2.1, h.1, if_pos (show nI p ≥ nI L by rw [hpL]; exact Int32.le_refl _)]
  · have M1 : Mt T L p 0 (xup J 69 18 0) := h.slot (by omega) _
    have hT := (gg_takes (a := 59) (b := 59) M1 hL hp (by omega) (by omega) (by omega)).1 59 (ran1.1 ⟨hlt, hs⟩)
    refine ⟨_, ?_, M1.up (p + 1) 0, (frP.up J (by omega) _).trans (frT.up _ _ _).u.p, ?_, fun k hk => by funext x; rw [xup_cell hk, xup_cell hk, xup_cell hk]⟩
    · rw [e0, e105, if_neg (fun q => q h.2.2.2), h.2.2.1, h.1, if_neg (nI_ge hlt (by omega)), hT, xb_some, if_neg]
      rw [xup_slot (by omega), xup_at]; exact fun q => q rfl
    · rw [xup_slot (by omega), xup_slot (by omega), xup_at]
  · have M1 : Mt T L p 0 (xup J 69 18 0) := h.slot (by omega) _
    obtain ⟨v, hT⟩ := (gg_takes (a := 59) (b := 59) M1 hL hp (by omega) (by omega) (by omega)).2 (fun c hc => hs (ran1.2 c hc).2)
    refine ⟨_, ?_, M1.up p 1, (frP.up J (by omega) _).trans (frT.up _ _ _).u.p, ?_, fun k hk => by funext x; rw [xup_cell hk, xup_cell hk, xup_cell hk]⟩
    · rw [e0, e105, if_neg (fun q => q h.2.2.2), h.2.2.1, h.1, if_neg (nI_ge hlt (by omega)), hT, xb_some, if_pos]
      rw [xup_slot (by omega), xup_at]; exact one_ne0
    · rw [xup_slot (by omega), xup_slot (by omega), xup_at]
theorem rn_end (n : Nat) (l1 l2 : Int32) (J : xI) : f_X7_runs_19 (n + 1) l1 l2 0 J = some (l2, J) := by
  show f_X7_runs_19b _ l1 l2 0 J = _
  unfold f_X7_runs_19b
  rw [if_pos rfl]
theorem rn_read (n : Nat) (l2 : Int32) {J J1 : xI} (h : f_X7_readThing J = some (0, J1)) : f_X7_runs_19 (n + 1) 0 l2 1 J = f_X7_runs_75 (fun l1 l2 l3 I => f_X7_runs_19 n l1 l2 l3 I) 0 l2 0 J1 := by
  show f_X7_runs_19b _ 0 l2 1 J = _
  unfold f_X7_runs_19b
  rw [if_neg one_ne0, h, xb_some, if_neg (fun q => q rfl)]
theorem gg_run0 {T : Nat → Int32} {L : Nat} {R : xI} (hL : L ≤ 60) : ∀ (m i p c n : Nat) (J : xI), m + 1 < n → p ≤ L → Gm T L R m i p → Mt T L p 0 J → ∃ v J', f_X7_runs_19 n 0 (nI c) 1 J = some (v, J') ∧ J' 69 13 = 0 ∧ frP J J' ∧ ∀ k, k ≠ 69 → J' k = J k := by
  intro m
  induction m with
  | zero => intro i p c n J _ _ h; exact h.elim
  | succ m ih =>
    intro i p c n J hn hp h hM
    obtain ⟨n, rfl⟩ : ∃ n', n = n' + 2 := ⟨n - 2, by omega⟩
    obtain ⟨p', kd, pl, nu, sd, t1, t2, t3⟩ := h
    have hle := t1.le
    obtain ⟨J1, r1, r2, r3, r4⟩ := (gg_thing hM hL hp).1 _ _ _ _ _ t1
    have e := rn_read (n + 1) (nI c) r1
    have R5 := (rn_105 (T := T) (L := L) (p := p') (J := J1) hL hle.2 0 c n (fun l1 l2 l3 I => f_X7_runs_19 (n + 1) l1 l2 l3 I)).2 r2
    rcases t3 with ⟨-, hend⟩ | ⟨hlt, hs, hg⟩
    · refine ⟨_, xup J1 69 18 0, e.trans ((R5.1 hend).trans (rn_end n _ _ _)), (xup_slot (by omega)).trans r2.2.2.2, r3.p.trans (frP.up J1 (by omega) _), fun k hk => by funext x; rw [xup_cell hk, r3.1 k hk]⟩
    · obtain ⟨J2, s1, s2, s3, s4, s5⟩ := R5.2.1 hlt hs
      obtain ⟨v, J', g1, g2, g3, g4⟩ := ih (i + 1) (p' + 1) (c + 1) (n + 1) J2 (by omega) (by omega) hg s2
      exact ⟨v, J', e.trans (s1.trans g1), g2, (r3.p.trans s3).trans g3, fun k hk => (g4 k hk).trans ((s5 k hk).trans (r3.1 k hk))⟩
theorem gg_runF {T : Nat → Int32} {L q : Nat} (hL : L ≤ 60) : ∀ (m p c n : Nat) (J : xI), m + 1 < n → p ≤ L → Gf T L m p q → Mt T L p 0 J → ∃ v J', f_X7_runs_19 n 0 (nI c) 1 J = some (v, J') ∧ J' 69 13 = 1 ∧ J' 69 12 = nI q ∧ frP J J' ∧ ∀ k, k ≠ 69 → J' k = J k := by
  intro m
  induction m with
  | zero => intro p c n J _ _ h; exact h.elim
  | succ m ih =>
    intro p c n J hn hp h hM
    obtain ⟨n, rfl⟩ : ∃ n', n = n' + 2 := ⟨n - 2, by omega⟩
    rcases h with hf | ⟨p', kd, pl, nu, sd, t1, hlt, t3⟩
    · obtain ⟨J1, r1, r2, r3⟩ := (gg_thing hM hL hp).2 _ hf
      have e := rn_read (n + 1) (nI c) r1
      have R5 := (rn_105 (T := T) (L := L) (p := q) (J := J1) hL (hf.le hp) 0 c n (fun l1 l2 l3 I => f_X7_runs_19 (n + 1) l1 l2 l3 I)).1 r2
      exact ⟨_, xup J1 69 18 0, e.trans (R5.trans (rn_end n _ _ _)), (xup_slot (by omega)).trans r2.2.2.2, (xup_slot (by omega)).trans r2.2.2.1, r3.p.trans (frP.up J1 (by omega) _), fun k hk => by funext x; rw [xup_cell hk, r3.1 k hk]⟩
    · have hle := t1.le
      obtain ⟨J1, r1, r2, r3, r4⟩ := (gg_thing hM hL hp).1 _ _ _ _ _ t1
      have e := rn_read (n + 1) (nI c) r1
      have R5 := (rn_105 (T := T) (L := L) (p := p') (J := J1) hL hle.2 0 c n (fun l1 l2 l3 I => f_X7_runs_19 (n + 1) l1 l2 l3 I)).2 r2
      rcases t3 with ⟨hs, hq⟩ | ⟨hs, hg⟩
      · obtain ⟨J2, s1, s2, s3, s4, s5⟩ := R5.2.2 hlt hs
        exact ⟨_, J2, e.trans (s1.trans (rn_end n _ _ _)), s2.2.2.2, by rw [hq]; exact s2.2.2.1, r3.p.trans s3, fun k hk => (s5 k hk).trans (r3.1 k hk)⟩
      · obtain ⟨J2, s1, s2, s3, s4, s5⟩ := R5.2.1 hlt hs
        obtain ⟨v, J', g1, g2, g3, g4, g5⟩ := ih (p' + 1) (c + 1) (n + 1) J2 (by omega) (by omega) hg s2
        exact ⟨v, J', e.trans (s1.trans g1), g2, g3, (r3.p.trans s3).trans g4, fun k hk => (g5 k hk).trans ((s5 k hk).trans (r3.1 k hk))⟩
