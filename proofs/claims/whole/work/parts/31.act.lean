/-! ===== a letter comes: loops over fields, taken bits ===== -/
def frC (b : Nat) (I I' : xI) : Prop := ∀ k, (k < b ∨ b + 5 < k) → k ≠ 7 → k ≠ 8 → k ≠ 9 → k ≠ 10 → I' k = I k
def frM (J J' : xI) : Prop := ∀ k, k ≠ 70 → k ≠ 76 → J' k = J k
theorem frC.rf (b : Nat) (I : xI) : frC b I I := fun _ _ _ _ _ _ => rfl
theorem frM.rf (J : xI) : frM J J := fun _ _ _ => rfl
theorem frC.trans {b : Nat} {I I' I'' : xI} (h1 : frC b I I') (h2 : frC b I' I'') : frC b I I'' := fun k a c d e f => (h2 k a c d e f).trans (h1 k a c d e f)
theorem frM.trans {J J' J'' : xI} (h1 : frM J J') (h2 : frM J' J'') : frM J J'' := fun k a c => (h2 k a c).trans (h1 k a c)
theorem frC.up (b : Nat) (I : xI) {a n : Nat} {v : Int32} (h : b ≤ a ∧ a ≤ b + 5) : frC b I (xup I a n v) := fun k hk _ _ _ _ => by
  funext c
  exact xup_cell (by omega)
theorem frM.up (J : xI) {n : Nat} {v : Int32} : frM J (xup J 70 n v) := fun k hk _ => by
  funext c
  exact xup_cell hk
theorem frC.GT {b : Nat} {I I' : xI} (hb : 11 ≤ b) (h : frC b I I') (G : GT I) : GT I' := GT_fr (fun k hk => h k (by omega) (by omega) (by omega) (by omega) (by omega)) G
theorem RC.fm {w : Nat} {I : xI} {b : Nat} {s : Nat → Int32} (h : RC w I b s) {k j : Nat} (hk : k < w) (hj : j < 10) : s (142 + 10 * k + j) = FC I b k j := by
  have hw := h.1.2.1
  rw [show 142 + 10 * k + j = 142 + (10 * k + j) by omega, h.2.2.2.2.2.2.2.2.1 _ (by omega)]
  rfl
theorem RC.cT {w : Nat} {I : xI} {b : Nat} {s : Nat → Int32} (h : RC w I b s) {k j : Nat} (hk : k < w) (hj : j < 10) : f_X5_told b (nI k) (nI j) I = some (FC I b k j, I) := ff_told h.1.1 h.1.2.1 hk hj
theorem RC.mT {w : Nat} {I : xI} {b : Nat} {J : xI} (h : RC w I b (J 70)) {k j : Nat} (hk : k < w) (hj : j < 10) : f_X7_of (nI k) (nI j) J = some (FC I b k j, J) := by
  have hw := h.1.2.1
  rw [gg_of (by omega) hj, h.fm hk hj]
theorem cOn {b e : Nat} (h : e < 82) (I : xI) : f_X5_onEdge b (nI e) I = some (I (b + 3) e, I) := by
  unfold f_X5_onEdge
  rw [ff_isEdge_yes h, xb_some, if_neg one_ne0, if_pos (xin_nI h (by decide)), nI_clamp (by omega)]
theorem cPut {b e : Nat} (h : e < 82) (v : Int32) (I : xI) : f_X5_putOnEdge b (nI e) v I = some (0, xup I (b + 3) e v) := by
  unfold f_X5_putOnEdge
  rw [ff_isEdge_yes h, xb_some, if_neg one_ne0, if_pos (xin_nI h (by decide)), nI_clamp (by omega)]
theorem RC.cEdge {w : Nat} {I : xI} {b : Nat} {s : Nat → Int32} (h : RC w I b s) (G : GT I) {k f g : Nat} (hk : k < w) (hf : f < 48) (hg : g < 4) (he : eT f g < 82) (h2 : FC I b k 2 = nI f) (h3 : FC I b k 3 = nI g) : f_X3_edgeOf b (nI k) I = some (nI (eT f g), I) := by
  unfold f_X3_edgeOf
  rw [show f_X5_told b (nI k) (2 : Int32) I = _ from h.cT (j := 2) hk (by omega), xb_some, show f_X5_told b (nI k) (3 : Int32) I = _ from h.cT (j := 3) hk (by omega), xb_some, h2, h3, (edge_yes hf hg he G I).1, xb_some]
theorem RC.mEdge {w : Nat} {I : xI} {b : Nat} {J : xI} (h : RC w I b (J 70)) (G : GT I) {k f g : Nat} (hk : k < w) (hf : f < 48) (hg : g < 4) (he : eT f g < 82) (h2 : FC I b k 2 = nI f) (h3 : FC I b k 3 = nI g) : f_X7_edgeOf (nI k) J = some (nI (12 + pE (eT f g)), J) := by
  unfold f_X7_edgeOf
  rw [show f_X7_of (nI k) (2 : Int32) J = _ from h.mT (j := 2) hk (by omega), xb_some, show f_X7_of (nI k) (3 : Int32) J = _ from h.mT (j := 3) hk (by omega), xb_some, h2, h3, (edge_yes hf hg he G J).2, xb_some, show (12 : Int32) = nI 12 from rfl, nI_add]
/-! taken bits -/
theorem tb1 : ∀ f, f < 48 → (10 : Int32) + nI f / (24 : Int32) = nI (10 + f / 24) ∧ nI f - nI f / (24 : Int32) * (24 : Int32) = nI (f % 24) := by decide +kernel
theorem tb2 : ∀ m, m < 24 → ∀ m', m' < 24 → (((1 : Int32) <<< (nI m &&& 31)) >>> (nI m' &&& 31)) &&& (1 : Int32) = if m = m' then 1 else 0 := by decide +kernel
theorem tb3 : ∀ m, m < 24 → ¬ (((0 : Int32) >>> (nI m &&& 31)) &&& (1 : Int32) = 1) := by decide +kernel
theorem tb4 (x y m : Int32) : ((x ||| y) >>> m) &&& (1 : Int32) = (x >>> m &&& 1) ||| (y >>> m &&& 1) := by
  apply Int32.toBitVec_inj.mp
  simp only [Int32.toBitVec_and, Int32.toBitVec_or, Int32.toBitVec_shiftRight]
  ext i hi
  simp [BitVec.getElem_sshiftRight]
  split <;> exact Bool.and_or_distrib_right _ _ _
theorem tb5 (x : Int32) : x &&& (1 : Int32) = 0 ∨ x &&& (1 : Int32) = 1 := by
  have h : (x &&& (1 : Int32)).toBitVec.toNat = x.toBitVec.toNat % 2 := by
    rw [Int32.toBitVec_and, BitVec.toNat_and]
    exact Nat.and_one_is_mod _
  have : x.toBitVec.toNat % 2 = 0 ∨ x.toBitVec.toNat % 2 = 1 := by omega
  rcases this with z | z
  · left
    apply Int32.toBitVec_inj.mp
    apply BitVec.eq_of_toNat_eq
    rw [h, z]; rfl
  · right
    apply Int32.toBitVec_inj.mp
    apply BitVec.eq_of_toNat_eq
    rw [h, z]; rfl
theorem tb6 (x y : Int32) (hx : x = 0 ∨ x = 1) (hy : y = 0 ∨ y = 1) : x ||| y = 1 ↔ x = 1 ∨ y = 1 := by
  rcases hx with rfl | rfl <;> rcases hy with rfl | rfl <;> decide
theorem tkB_none {s : Nat → Int32} (h0 : s 10 = 0) (h1 : s 11 = 0) {f : Nat} (hf : f < 48) : ¬ tkB s f := by
  unfold tkB
  have : f / 24 = 0 ∨ f / 24 = 1 := by omega
  rcases this with z | z <;> rw [z]
  · rw [show s (10 + 0) = 0 from h0]; exact tb3 _ (by omega)
  · rw [show s (10 + 1) = 0 from h1]; exact tb3 _ (by omega)
theorem tkB_add {s s' : Nat → Int32} {f : Nat} (hf : f < 48) (h1 : s' (10 + f / 24) = s (10 + f / 24) ||| ((1 : Int32) <<< (nI (f % 24) &&& 31))) (h2 : ∀ t, t < 2 → t ≠ f / 24 → s' (10 + t) = s (10 + t)) {f' : Nat} (hf' : f' < 48) : tkB s' f' ↔ tkB s f' ∨ f' = f := by
  unfold tkB
  by_cases hd : f' / 24 = f / 24
  · rw [hd, h1, tb4, tb6 _ _ (tb5 _) (tb5 _), tb2 _ (by omega) _ (by omega)]
    by_cases hm : f % 24 = f' % 24
    · rw [if_pos hm]
      have : f' = f := by omega
      simp [this]
    · rw [if_neg hm]
      have : ¬ f' = f := fun q => hm (by rw [q])
      simp [this]
  · rw [h2 _ (by omega) hd]
    have : ¬ f' = f := fun q => hd (by rw [q])
    simp [this]
theorem gg_isTaken {f : Nat} (hf : f < 48) (J : xI) : (tkB (J 70) f → f_X7_isTaken (nI f) J = some (1, J)) ∧ (¬ tkB (J 70) f → f_X7_isTaken (nI f) J = some (0, J)) := by
  unfold f_X7_isTaken tkB
  rw [(tb1 f hf).1, (tb1 f hf).2, if_pos (xin_nI (by omega) (by decide)), nI_clamp (by omega)]
  exact ⟨fun h => if_neg (fun q => q h), fun h => if_pos h⟩
/-! the class's loops -/
theorem lp_take {b k : Nat} {lab : Int32} (hb : 11 ≤ b) : ∀ (m i n : Nat) (I : xI), i + m = 48 → m < n → ∃ I', f_X3_takeRegion_17 b n (nI k) lab (nI i) I = some (0, I') ∧ (∀ c, c ≠ b + 4 → I' c = I c) ∧ ∀ f, f < 48 → I' (b + 4) f = if i ≤ f ∧ I 7 f = lab ∧ I (b + 4) f = -5 then nI k else I (b + 4) f := by
  intro m
  induction m with
  | zero =>
    intro i n I hi hn
    obtain ⟨n, rfl⟩ : ∃ n', n = n' + 1 := ⟨n - 1, by omega⟩
    refine ⟨I, ?_, fun _ _ => rfl, fun f hf => by rw [if_neg (by omega)]⟩
    show f_X3_takeRegion_17b b _ (nI k) lab (nI i) I = _
    unfold f_X3_takeRegion_17b
    rw [if_pos (show nI i ≥ (48 : Int32) by rw [show i = 48 by omega]; exact Int32.le_refl _)]
  | succ m ih =>
    intro i n I hi hn
    obtain ⟨n, rfl⟩ : ∃ n', n = n' + 1 := ⟨n - 1, by omega⟩
    have hlow : f_X4_lowestAround (nI i) I = some (I 7 i, I) := by
      unfold f_X4_lowestAround
      rw [ff_isField_yes (by omega), xb_some, if_neg one_ne0, if_pos (xin_nI (by omega) (by decide)), nI_clamp (by omega)]
    have hstep : ∀ I1, (f_X3_takeRegion_17 b (n + 1) (nI k) lab (nI i) I = f_X3_takeRegion_17 b n (nI k) lab (nI (i + 1)) I1) → (∀ c, c ≠ b + 4 → I1 c = I c) → (∀ f, f < 48 → I1 (b + 4) f = if f = i ∧ I 7 f = lab ∧ I (b + 4) f = -5 then nI k else I (b + 4) f) → ∃ I', f_X3_takeRegion_17 b (n + 1) (nI k) lab (nI i) I = some (0, I') ∧ (∀ c, c ≠ b + 4 → I' c = I c) ∧ ∀ f, f < 48 → I' (b + 4) f = if i ≤ f ∧ I 7 f = lab ∧ I (b + 4) f = -5 then nI k else I (b + 4) f := by
      intro I1 e1 e2 e3
      obtain ⟨I', g1, g2, g3⟩ := ih (i + 1) n I1 (by omega) (by omega)
      refine ⟨I', e1.trans g1, fun c hc => (g2 c hc).trans (e2 c hc), fun f hf => ?_⟩
      rw [g3 f hf, e2 7 (by omega), e3 f hf]
      by_cases hfi : f = i
      · subst hfi
        rw [if_neg (show ¬ (f + 1 ≤ f ∧ _) from fun q => absurd q.1 (by omega))]
        by_cases hc : I 7 f = lab ∧ I (b + 4) f = -5
        · rw [if_pos ⟨rfl, hc⟩, if_pos ⟨Nat.le_refl _, hc⟩]
        · rw [if_neg (fun q => hc q.2), if_neg (fun q => hc q.2)]
      · rw [if_neg (show ¬ (f = i ∧ _) from fun q => hfi q.1)]
        by_cases hc : i ≤ f ∧ I 7 f = lab ∧ I (b + 4) f = -5
        · rw [if_pos hc, if_pos ⟨by omega, hc.2⟩]
        · rw [if_neg hc, if_neg (fun q => hc ⟨by omega, q.2⟩)]
    have hunf : f_X3_takeRegion_17 b (n + 1) (nI k) lab (nI i) I = if I 7 i ≠ lab then f_X3_takeRegion_17 b n (nI k) lab (nI (i + 1)) I else if I (b + 4) i ≠ -5 then f_X3_takeRegion_17 b n (nI k) lab (nI (i + 1)) I else f_X3_takeRegion_17 b n (nI k) lab (nI (i + 1)) (xup I (b + 4) i (nI k)) := by
      show f_X3_takeRegion_17b b _ (nI k) lab (nI i) I = _
      unfold f_X3_takeRegion_17b
      rw [if_neg (show ¬ nI i ≥ (48 : Int32) from nI_ge (b := 48) (by omega) (by decide)), hlow, xb_some, if_pos (xin_nI (by omega) (by decide)), if_pos (xin_nI (by omega) (by decide)), nI_clamp (by omega), nI_1]
    by_cases h1 : I 7 i = lab
    · by_cases h2 : I (b + 4) i = -5
      · refine hstep (xup I (b + 4) i (nI k)) (by rw [hunf, if_neg (fun q => q h1), if_neg (fun q => q h2)]) (fun c hc => by funext x; exact xup_cell hc) (fun f hf => ?_)
        by_cases hfi : f = i
        · subst hfi; rw [xup_at, if_pos ⟨rfl, h1, h2⟩]
        · rw [xup_slot hfi, if_neg (fun q => hfi q.1)]
      · refine hstep I (by rw [hunf, if_neg (fun q => q h1), if_pos h2]) (fun _ _ => rfl) (fun f hf => ?_)
        rw [if_neg]; rintro ⟨rfl, -, q⟩; exact h2 q
    · refine hstep I (by rw [hunf, if_pos h1]) (fun _ _ => rfl) (fun f hf => ?_)
      rw [if_neg]; rintro ⟨rfl, q, -⟩; exact h1 q
theorem lp_give {b : Nat} {v : Int32} : ∀ (m i n : Nat) (I : xI), i + m = 48 → m < n → ∃ I', f_X5_giveBackFieldsOf_2 b n v (nI i) I = some (0, I') ∧ (∀ c, c ≠ b + 4 → I' c = I c) ∧ ∀ f, f < 48 → I' (b + 4) f = if i ≤ f ∧ I (b + 4) f = v then -5 else I (b + 4) f := by
  intro m
  induction m with
  | zero =>
    intro i n I hi hn
    obtain ⟨n, rfl⟩ : ∃ n', n = n' + 1 := ⟨n - 1, by omega⟩
    refine ⟨I, ?_, fun _ _ => rfl, fun f hf => by rw [if_neg (by omega)]⟩
    show f_X5_giveBackFieldsOf_2b b _ v (nI i) I = _
    unfold f_X5_giveBackFieldsOf_2b
    rw [if_pos (show nI i ≥ (48 : Int32) by rw [show i = 48 by omega]; exact Int32.le_refl _)]
  | succ m ih =>
    intro i n I hi hn
    obtain ⟨n, rfl⟩ : ∃ n', n = n' + 1 := ⟨n - 1, by omega⟩
    have hunf : f_X5_giveBackFieldsOf_2 b (n + 1) v (nI i) I = if I (b + 4) i ≠ v then f_X5_giveBackFieldsOf_2 b n v (nI (i + 1)) I else f_X5_giveBackFieldsOf_2 b n v (nI (i + 1)) (xup I (b + 4) i (-5)) := by
      show f_X5_giveBackFieldsOf_2b b _ v (nI i) I = _
      unfold f_X5_giveBackFieldsOf_2b
      rw [if_neg (show ¬ nI i ≥ (48 : Int32) from nI_ge (b := 48) (by omega) (by decide)), if_pos (xin_nI (by omega) (by decide)), if_pos (xin_nI (by omega) (by decide)), nI_clamp (by omega), nI_1]
    have hstep : ∀ I1, (f_X5_giveBackFieldsOf_2 b (n + 1) v (nI i) I = f_X5_giveBackFieldsOf_2 b n v (nI (i + 1)) I1) → (∀ c, c ≠ b + 4 → I1 c = I c) → (∀ f, f < 48 → I1 (b + 4) f = if f = i ∧ I (b + 4) f = v then -5 else I (b + 4) f) → ∃ I', f_X5_giveBackFieldsOf_2 b (n + 1) v (nI i) I = some (0, I') ∧ (∀ c, c ≠ b + 4 → I' c = I c) ∧ ∀ f, f < 48 → I' (b + 4) f = if i ≤ f ∧ I (b + 4) f = v then -5 else I (b + 4) f := by
      intro I1 e1 e2 e3
      obtain ⟨I', g1, g2, g3⟩ := ih (i + 1) n I1 (by omega) (by omega)
      refine ⟨I', e1.trans g1, fun c hc => (g2 c hc).trans (e2 c hc), fun f hf => ?_⟩
      rw [g3 f hf, e3 f hf]
      by_cases hfi : f = i
      · subst hfi
        rw [if_neg (show ¬ (f + 1 ≤ f ∧ _) from fun q => absurd q.1 (by omega))]
        by_cases hc : I (b + 4) f = v
        · rw [if_pos ⟨rfl, hc⟩, if_pos ⟨Nat.le_refl _, hc⟩]
        · rw [if_neg (fun q => hc q.2), if_neg (fun q => hc q.2)]
      · rw [if_neg (show ¬ (f = i ∧ _) from fun q => hfi q.1)]
        by_cases hc : i ≤ f ∧ I (b + 4) f = v
        · rw [if_pos hc, if_pos ⟨by omega, hc.2⟩]
        · rw [if_neg hc, if_neg (fun q => hc ⟨by omega, q.2⟩)]
    by_cases h1 : I (b + 4) i = v
    · refine hstep (xup I (b + 4) i (-5)) (by rw [hunf, if_neg (fun q => q h1)]) (fun c hc => by funext x; exact xup_cell hc) (fun f hf => ?_)
      by_cases hfi : f = i
      · subst hfi; rw [xup_at, if_pos ⟨rfl, h1⟩]
      · rw [xup_slot hfi, if_neg (fun q => hfi q.1)]
    · refine hstep I (by rw [hunf, if_pos h1]) (fun _ _ => rfl) (fun f hf => ?_)
      rw [if_neg]; rintro ⟨rfl, q⟩; exact h1 q
/-! the reference's loops -/
theorem n94 (i : Nat) : (94 : Int32) + nI i = nI (94 + i) := nI_add 94 i
theorem lp_does {p : Int32} (hp : p ≠ -5) : ∀ (m i n : Nat) (J : xI), i + m = 48 → m < n → ∃ J', f_X7_does_134 n p 0 (nI i) J = some (0, J') ∧ (∀ c, c ≠ 70 → J' c = J c) ∧ (∀ c, (c < 94 ∨ 142 ≤ c) → c ≠ 10 → c ≠ 11 → J' 70 c = J 70 c) ∧ ∀ f, f < 48 → (J' 70 (94 + f) = if i ≤ f ∧ J 76 f ≠ 0 ∧ J 70 (94 + f) = -5 then p else J 70 (94 + f)) ∧ (tkB (J' 70) f ↔ tkB (J 70) f ∨ (i ≤ f ∧ J 76 f ≠ 0 ∧ J 70 (94 + f) = -5)) := by
  intro m
  induction m with
  | zero =>
    intro i n J hi hn
    obtain ⟨n, rfl⟩ : ∃ n', n = n' + 1 := ⟨n - 1, by omega⟩
    refine ⟨J, ?_, fun _ _ => rfl, fun _ _ _ _ => rfl, fun f hf => ⟨by rw [if_neg (by omega)], ⟨Or.inl, fun q => q.elim id (fun q => absurd q.1 (by omega))⟩⟩⟩
    show f_X7_does_134b _ p 0 (nI i) J = _
    unfold f_X7_does_134b
    rw [if_pos (show nI i ≥ (48 : Int32) by rw [show i = 48 by omega]; exact Int32.le_refl _)]
  | succ m ih =>
    intro i n J hi hn
    obtain ⟨n, rfl⟩ : ∃ n', n = n' + 1 := ⟨n - 1, by omega⟩
    have hunf : f_X7_does_134 (n + 1) p 0 (nI i) J = if J 76 i = 0 then f_X7_does_134 n p 0 (nI (i + 1)) J else if J 70 (94 + i) ≠ -5 then f_X7_does_134 n p 0 (nI (i + 1)) J else f_X7_does_134 n p 0 (nI (i + 1)) (xup (xup J 70 (94 + i) p) 70 (10 + i / 24) (xup J 70 (94 + i) p 70 (10 + i / 24) ||| ((1 : Int32) <<< (nI (i % 24) &&& 31)))) := by
      show f_X7_does_134b _ p 0 (nI i) J = _
      unfold f_X7_does_134b
      rw [if_neg (show ¬ nI i ≥ (48 : Int32) from nI_ge (b := 48) (by omega) (by decide)), if_neg (show ¬ (0 : Int32) ≠ 0 from fun q => q rfl), if_pos (xin_nI (by omega) (by decide)), n94, (tb1 i (by omega)).1, (tb1 i (by omega)).2, if_pos (xin_nI (by omega) (by decide)), if_pos (xin_nI (by omega) (by decide)), if_pos (xin_nI (by omega) (by decide)), if_pos (xin_nI (by omega) (by decide)), nI_clamp (by omega), nI_clamp (by omega), nI_clamp (by omega), nI_1]
    have hstep : ∀ J1, (f_X7_does_134 (n + 1) p 0 (nI i) J = f_X7_does_134 n p 0 (nI (i + 1)) J1) → (∀ c, c ≠ 70 → J1 c = J c) → (∀ c, (c < 94 ∨ 142 ≤ c) → c ≠ 10 → c ≠ 11 → J1 70 c = J 70 c) → (∀ f, f < 48 → (J1 70 (94 + f) = if f = i ∧ J 76 f ≠ 0 ∧ J 70 (94 + f) = -5 then p else J 70 (94 + f)) ∧ (tkB (J1 70) f ↔ tkB (J 70) f ∨ (f = i ∧ J 76 f ≠ 0 ∧ J 70 (94 + f) = -5))) → ∃ J', f_X7_does_134 (n + 1) p 0 (nI i) J = some (0, J') ∧ (∀ c, c ≠ 70 → J' c = J c) ∧ (∀ c, (c < 94 ∨ 142 ≤ c) → c ≠ 10 → c ≠ 11 → J' 70 c = J 70 c) ∧ ∀ f, f < 48 → (J' 70 (94 + f) = if i ≤ f ∧ J 76 f ≠ 0 ∧ J 70 (94 + f) = -5 then p else J 70 (94 + f)) ∧ (tkB (J' 70) f ↔ tkB (J 70) f ∨ (i ≤ f ∧ J 76 f ≠ 0 ∧ J 70 (94 + f) = -5)) := by
      intro J1 e1 e2 e4 e3
      obtain ⟨J', g1, g2, g4, g3⟩ := ih (i + 1) n J1 (by omega) (by omega)
      refine ⟨J', e1.trans g1, fun c hc => (g2 c hc).trans (e2 c hc), fun c a b d => (g4 c a b d).trans (e4 c a b d), fun f hf => ?_⟩
      have G := g3 f hf
      have E := e3 f hf
      rw [G.1, G.2, e2 76 (by decide), E.1, E.2]
      by_cases hfi : f = i
      · subst hfi
        have hn : ¬ f + 1 ≤ f := by omega
        have hl : f ≤ f := Nat.le_refl f
        simp only [hn, hl, false_and, true_and, if_false, or_false]
      · have hl : i + 1 ≤ f ↔ i ≤ f := by omega
        simp only [hfi, hl, false_and, if_false, or_false]
        exact ⟨trivial, trivial⟩
    by_cases h1 : J 76 i = 0
    · refine hstep J (by rw [hunf, if_pos h1]) (fun _ _ => rfl) (fun _ _ _ _ => rfl) (fun f hf => ?_)
      have : ¬ (f = i ∧ J 76 f ≠ 0 ∧ J 70 (94 + f) = -5) := by rintro ⟨rfl, q, -⟩; exact q h1
      rw [if_neg this]
      exact ⟨rfl, ⟨Or.inl, fun q => q.elim id (fun q => absurd q this)⟩⟩
    · by_cases h2 : J 70 (94 + i) = -5
      · refine hstep _ (by rw [hunf, if_neg h1, if_neg (fun q => q h2)]) (fun c hc => by funext x; rw [xup_cell hc, xup_cell hc]) (fun c a b d => ?_) (fun f hf => ?_)
        · rw [xup_slot (by omega), xup_slot (by omega)]
        · refine ⟨?_, ?_⟩
          · rw [xup_slot (by omega)]
            by_cases hfi : f = i
            · subst hfi; rw [xup_at, if_pos ⟨rfl, h1, h2⟩]
            · rw [xup_slot (by omega), if_neg (fun q => hfi q.1)]
          · rw [tkB_add (s := J 70) (f := i) (by omega) (by rw [xup_at, xup_slot (by omega)]) (fun t ht hne => by rw [xup_slot (by omega), xup_slot (by omega)]) hf]
            constructor
            · rintro (q | rfl)
              · exact Or.inl q
              · exact Or.inr ⟨rfl, h1, h2⟩
            · rintro (q | q)
              · exact Or.inl q
              · exact Or.inr q.1
      · refine hstep J (by rw [hunf, if_neg h1, if_pos h2]) (fun _ _ => rfl) (fun _ _ _ _ => rfl) (fun f hf => ?_)
        have : ¬ (f = i ∧ J 76 f ≠ 0 ∧ J 70 (94 + f) = -5) := by rintro ⟨rfl, -, q⟩; exact h2 q
        rw [if_neg this]
        exact ⟨rfl, ⟨Or.inl, fun q => q.elim id (fun q => absurd q this)⟩⟩
theorem lp_void : ∀ (m i n : Nat) (J : xI), i + m = 48 → m < n → ∃ J', f_X7_doesSecond_111 n (nI i) J = some (6, J') ∧ (∀ c, c ≠ 70 → J' c = J c) ∧ (∀ c, (c < 94 ∨ 142 ≤ c) → J' 70 c = J 70 c) ∧ ∀ f, f < 48 → (i ≤ f ∧ tkB (J 70) f → J' 70 (94 + f) = -5) ∧ (¬ (i ≤ f ∧ tkB (J 70) f) → J' 70 (94 + f) = J 70 (94 + f)) := by
  intro m
  induction m with
  | zero =>
    intro i n J hi hn
    obtain ⟨n, rfl⟩ : ∃ n', n = n' + 1 := ⟨n - 1, by omega⟩
    refine ⟨J, ?_, fun _ _ => rfl, fun _ _ => rfl, fun f hf => ⟨fun q => absurd q.1 (by omega), fun _ => rfl⟩⟩
    show f_X7_doesSecond_111b _ (nI i) J = _
    unfold f_X7_doesSecond_111b
    rw [if_pos (show nI i ≥ (48 : Int32) by rw [show i = 48 by omega]; exact Int32.le_refl _)]
  | succ m ih =>
    intro i n J hi hn
    obtain ⟨n, rfl⟩ : ∃ n', n = n' + 1 := ⟨n - 1, by omega⟩
    have hunf : ∀ r, f_X7_isTaken (nI i) J = some (r, J) → f_X7_doesSecond_111 (n + 1) (nI i) J = if r = 0 then f_X7_doesSecond_111 n (nI (i + 1)) (xup J 70 (94 + i) (J 70 (94 + i))) else f_X7_doesSecond_111 n (nI (i + 1)) (xup J 70 (94 + i) (-5)) := by
      intro r hr
      show f_X7_doesSecond_111b _ (nI i) J = _
      unfold f_X7_doesSecond_111b
      rw [if_neg (show ¬ nI i ≥ (48 : Int32) from nI_ge (b := 48) (by omega) (by decide)), hr, xb_some, n94, if_pos (xin_nI (by omega) (by decide)), if_pos (xin_nI (by omega) (by decide)), if_pos (xin_nI (by omega) (by decide)), nI_clamp (by omega), nI_1]
    have hstep : ∀ v, (f_X7_doesSecond_111 (n + 1) (nI i) J = f_X7_doesSecond_111 n (nI (i + 1)) (xup J 70 (94 + i) v)) → ((tkB (J 70) i → v = -5) ∧ (¬ tkB (J 70) i → v = J 70 (94 + i))) → ∃ J', f_X7_doesSecond_111 (n + 1) (nI i) J = some (6, J') ∧ (∀ c, c ≠ 70 → J' c = J c) ∧ (∀ c, (c < 94 ∨ 142 ≤ c) → J' 70 c = J 70 c) ∧ ∀ f, f < 48 → (i ≤ f ∧ tkB (J 70) f → J' 70 (94 + f) = -5) ∧ (¬ (i ≤ f ∧ tkB (J 70) f) → J' 70 (94 + f) = J 70 (94 + f)) := by
      intro v e1 e2
      obtain ⟨J', g1, g2, g4, g3⟩ := ih (i + 1) n (xup J 70 (94 + i) v) (by omega) (by omega)
      refine ⟨J', e1.trans g1, fun c hc => (g2 c hc).trans (by funext x; exact xup_cell hc), fun c a => (g4 c a).trans (xup_slot (by omega)), fun f hf => ?_⟩
      have G := g3 f hf
      rw [tkB_congr (s := J 70) (s' := xup J 70 (94 + i) v 70) ⟨xup_slot (by omega), xup_slot (by omega)⟩ hf] at G
      by_cases hfi : f = i
      · subst hfi
        rw [G.2 (fun q => absurd q.1 (by omega)), xup_at]
        exact ⟨fun q => e2.1 q.2, fun q => e2.2 (fun z => q ⟨Nat.le_refl _, z⟩)⟩
      · refine ⟨fun q => G.1 ⟨by omega, q.2⟩, fun q => (G.2 (fun z => q ⟨by omega, z.2⟩)).trans (xup_slot (by omega))⟩
    by_cases h : tkB (J 70) i
    · refine hstep (-5) (by rw [hunf 1 ((gg_isTaken (by omega) J).1 h), if_neg one_ne0]) ⟨fun _ => rfl, fun q => absurd h q⟩
    · refine hstep (J 70 (94 + i)) (by rw [hunf 0 ((gg_isTaken (by omega) J).2 h), if_pos rfl]) ⟨fun q => absurd q h, fun _ => rfl⟩
