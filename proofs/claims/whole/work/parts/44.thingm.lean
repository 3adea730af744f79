/-! ===== the reference reads a thing ===== -/
def frU (J J' : xI) : Prop := (∀ k, k ≠ 69 → J' k = J k) ∧ ∀ j, (j < 12 ∨ 17 < j) → J' 69 j = J 69 j
theorem frU.rf (J : xI) : frU J J := ⟨fun _ _ => rfl, fun _ _ => rfl⟩
theorem frU.trans {J J' J'' : xI} (h1 : frU J J') (h2 : frU J' J'') : frU J J'' := ⟨fun k hk => (h2.1 k hk).trans (h1.1 k hk), fun j a => (h2.2 j a).trans (h1.2 j a)⟩
theorem frT.u {J J' : xI} (h : frT J J') : frU J J' := ⟨h.1, fun j hj => h.2 j (by omega) (by omega)⟩
theorem frU.up (J : xI) {j : Nat} (h : 12 ≤ j ∧ j ≤ 17) (v : Int32) : frU J (xup J 69 j v) := ⟨fun k hk => by funext x; exact xup_cell hk, fun i hi => xup_slot (by omega)⟩
theorem Mt.slot {T : Nat → Int32} {L p : Nat} {z : Int32} {J : xI} (h : Mt T L p z J) {j : Nat} (hj : 14 ≤ j) (v : Int32) : Mt T L p z (xup J 69 j v) := ⟨(xup_slot (by omega)).trans h.1, fun i hi => (xup_cell (by decide)).trans (h.2.1 i hi), (xup_slot (by omega)).trans h.2.2.1, (xup_slot (by omega)).trans h.2.2.2⟩
/-- what the reference has read -/
def RdM (kd pl nu sd : Nat) (J : xI) : Prop := (kd = 4 ∧ J 69 14 = -5 ∧ J 69 17 = nI nu) ∨ (J 69 14 = nI pl ∧ J 69 15 = nI kd ∧ ((kd = 2 ∧ J 69 16 = nI nu ∧ J 69 17 = -5) ∨ (kd = 3 ∧ J 69 16 = -5 ∧ J 69 17 = nI nu) ∨ (kd < 2 ∧ J 69 16 = nI nu ∧ J 69 17 = nI sd)))
theorem ran1 {T : Nat → Int32} {L p a : Nat} : (p < L ∧ T p = nI a → Ran T L p a a a) ∧ ∀ c, Ran T L p a a c → p < L ∧ T p = nI a :=
  ⟨fun h => ⟨h.1, Nat.le_refl _, Nat.le_refl _, h.2⟩, fun c h => ⟨h.1, by rw [h.2.2.2, show c = a by have := h.2.1; have := h.2.2.1; omega]⟩⟩
theorem ranP {T : Nat → Int32} {L p c : Nat} (h : Ran T L p 48 49 c) : p < L ∧ c - 48 < 2 ∧ T p = nI (48 + (c - 48)) :=
  ⟨h.1, by have := h.2.2.1; omega, by rw [h.2.2.2, show 48 + (c - 48) = c by have := h.2.1; omega]⟩
/-- behind player and kind -/
theorem gg_70 {T : Nat → Int32} {L p : Nat} {J : xI} {kd : Nat} (hL : L ≤ 60) (hp : p ≤ L) (h : Mt T L p 0 J) (hk : kd < 4) :
    ∃ J3, Mt T L p 0 J3 ∧ frU J J3 ∧ J3 69 14 = J 69 14 ∧ J3 69 15 = nI kd ∧ J3 69 16 = -5 ∧ J3 69 17 = -5 ∧ f_X7_readThing_70 (nI kd) J = if nI kd ≠ 3 then xb (f_X7_takesNumber (nI 0) (nI 47) J3) (fun r1 I1 => if ((xup I1 69 16 r1) 69 15) ≠ (2 : Int32) then xb (f_X7_takesSign (2004051310 : Int32) (4 : Int32) (xup I1 69 16 r1)) (fun r2 I2 => some (0, (xup I2 69 17 r2))) else some (0, (xup (xup I1 69 16 r1) 69 17 (-5 : Int32)))) else xb (f_X7_takesNumber (nI 1) (nI 99) J3) (fun r3 I3 => some (0, (xup I3 69 17 r3))) := by
  have e15 : xup (xup (xup J 69 15 (nI kd)) 69 16 (-5)) 69 17 (-5) 69 15 = nI kd := by rw [xup_slot (by omega), xup_slot (by omega), xup_at]
  refine ⟨xup (xup (xup J 69 15 (nI kd)) 69 16 (-5)) 69 17 (-5), ((h.slot (by omega) _).slot (by omega) _).slot (by omega) _, ((frU.up J (by omega) _).trans (frU.up _ (by omega) _)).trans (frU.up _ (by omega) _), by rw [xup_slot (by omega), xup_slot (by omega), xup_slot (by omega)], e15, by rw [xup_slot (by omega), xup_at], xup_at, ?_⟩
  unfold f_X7_readThing_70
  rw [e15, if_neg (show ¬ nI kd = -5 from nI_m5 (by omega))]
  rfl
theorem gg_thing {T : Nat → Int32} {L p : Nat} {J : xI} (h : Mt T L p 0 J) (hL : L ≤ 60) (hp : p ≤ L) :
    (∀ p' kd pl nu sd, Th T L p p' kd pl nu sd → ∃ J', f_X7_readThing J = some (0, J') ∧ Mt T L p' 0 J' ∧ frU J J' ∧ RdM kd pl nu sd J') ∧ (∀ q, Fa T L p q → ∃ J', f_X7_readThing J = some (0, J') ∧ Mt T L q 1 J' ∧ frU J J') := by
  have M0 : Mt T L p 0 (xup J 69 14 (-5)) := h.slot (by omega) _
  have F0 : frU J (xup J 69 14 (-5)) := frU.up J (by omega) _
  have e14 : xup J 69 14 (-5) 69 14 = -5 := xup_at
  have e0 : f_X7_readThing J = xb (f_X7_isNext (nI 46) (nI 46) (xup J 69 14 (-5))) (fun r4 I4 => if r4 = 0 then xb (f_X7_takes (nI 48) (nI 49) I4) (fun r5 I5 => if ((xup I5 69 14 r5) 69 13) = 0 then xb (f_X7_takesSign (1952671590 : Int32) (4 : Int32) (xup I5 69 14 r5)) (fun r6 I6 => f_X7_readThing_70 r6 I6) else f_X7_readThing_70 (-5 : Int32) (xup I5 69 14 r5)) else xb (f_X7_takes (nI 46) (nI 46) I4) (fun r7 I7 => xb (f_X7_takesNumber (nI 1) (nI 99) I7) (fun r8 I8 => some (0, (xup I8 69 17 r8))))) := rfl
  generalize xup J 69 14 (-5) = J0 at M0 F0 e14 e0
  have hN := gg_isNext (a := 46) (b := 46) M0 hL hp (by omega) (by omega)
  -- days
  have hdays : p < L ∧ T p = nI 46 → ∃ J1, Mt T L (p + 1) 0 J1 ∧ frU J J1 ∧ J1 69 14 = -5 ∧ f_X7_readThing J = xb (f_X7_takesNumber (nI 1) (nI 99) J1) (fun r8 I8 => some (0, (xup I8 69 17 r8))) := fun hd => by
    have hT := gg_takes (a := 46) (b := 46) M0 hL hp (by omega) (by omega) (by omega)
    refine ⟨_, M0.up (p + 1) 0, F0.trans (frT.up J0 _ _).u, ?_, ?_⟩
    · rw [xup_slot (by omega), xup_slot (by omega)]; exact e14
    · rw [e0, hN.1 46 rfl (ran1.1 hd), xb_some, if_neg one_ne0, hT.1 46 (ran1.1 hd), xb_some]
  -- a letter's player
  have hpl : ∀ pl, ¬ (p < L ∧ T p = nI 46) → (p < L ∧ pl < 2 ∧ T p = nI (48 + pl)) → ∃ J1, Mt T L (p + 1) 0 J1 ∧ frU J J1 ∧ J1 69 14 = nI pl ∧ f_X7_readThing J = xb (f_X7_takesSign (1952671590 : Int32) (4 : Int32) J1) (fun r6 I6 => f_X7_readThing_70 r6 I6) := fun pl hno hd => by
    have hT := gg_takes (a := 48) (b := 49) M0 hL hp (by omega) (by omega) (by omega)
    have e48 : nI (48 + pl) - nI 48 = nI pl := tb13 pl (by omega)
    refine ⟨_, (M0.up (p + 1) 0).slot (j := 14) (by omega) (nI pl), (F0.trans (frT.up J0 _ _).u).trans (frU.up _ (by omega) _), xup_at, ?_⟩
    rw [e0, hN.2 (Or.inr (fun c hc => hno (ran1.2 c hc))), xb_some, if_pos rfl, hT.1 (48 + pl) ⟨hd.1, by omega, by omega, hd.2.2⟩, xb_some, e48, xup_slot (by omega), xup_slot (by omega), xup_at, if_pos rfl]
  have hnd : ∀ pl, (p < L ∧ pl < 2 ∧ T p = nI (48 + pl)) → ¬ (p < L ∧ T p = nI 46) := fun pl hd q => by
    have := nI_inj (a := 46) (b := 48 + pl) (by omega) (by omega) (q.2.symm.trans hd.2.2)
    omega
  refine ⟨fun p' kd pl nu sd ht => ?_, fun q hf => ?_⟩
  · rcases ht with ⟨k4, z, zd, hn⟩ | ⟨z, hpl2, zp, hk, hrest⟩
    · obtain ⟨J1, M1, F1, e1, e2⟩ := hdays ⟨z, zd⟩
      obtain ⟨J2, g1, g2, g3⟩ := (gg_num (least := 1) (most := 99) M1 hL (by omega) (by omega) (by omega)).1 _ _ hn
      refine ⟨xup J2 69 17 (nI nu), by rw [e2, g1, xb_some], g2.slot (by omega) _, (F1.trans g3.u).trans (frU.up _ (by omega) _), Or.inl ⟨k4, ?_, xup_at⟩⟩
      rw [xup_slot (by omega), g3.2 14 (by omega) (by omega)]; exact e1
    · obtain ⟨J1, M1, F1, e1, e2⟩ := hpl pl (hnd pl ⟨z, hpl2, zp⟩) ⟨z, hpl2, zp⟩
      have hkz := hk.1
      have hk4 := hk.2.1
      obtain ⟨J2, g1, g2, g3⟩ := (gg_sign SgK M1 hL (by omega)).1 _ hk
      obtain ⟨J3, m3, f3, a14, a15, a16, a17, e3⟩ := gg_70 (J := J2) hL (by omega) g2 hk4
      have e4 : f_X7_readThing J = f_X7_readThing_70 (nI kd) J2 := by rw [e2, g1, xb_some]
      have F3 : frU J J3 := (F1.trans g3.u).trans f3
      have b14 : J3 69 14 = nI pl := by rw [a14, g3.2 14 (by omega) (by omega)]; exact e1
      rcases hrest with ⟨y, hn⟩ | ⟨y, hn⟩ | ⟨y, p2, hn, hs, hp'⟩
      · obtain ⟨J4, n1, n2, n3⟩ := (gg_num (least := 0) (most := 47) m3 hL (by omega) (by omega) (by omega)).1 _ _ hn
        refine ⟨xup (xup J4 69 16 (nI nu)) 69 17 (-5), ?_, (n2.slot (by omega) _).slot (by omega) _, ((F3.trans n3.u).trans (frU.up _ (by omega) _)).trans (frU.up _ (by omega) _), Or.inr ⟨?_, ?_, Or.inl ⟨y, ?_, xup_at⟩⟩⟩
        · rw [e4, e3, if_pos (by rw [y]; decide), n1, xb_some, if_neg]
          intro q
          apply q
          rw [xup_slot (by omega), n3.2 15 (by omega) (by omega), a15, y]; rfl
        · rw [xup_slot (by omega), xup_slot (by omega), n3.2 14 (by omega) (by omega)]; exact b14
        · rw [xup_slot (by omega), xup_slot (by omega), n3.2 15 (by omega) (by omega)]; exact a15
        · rw [xup_slot (by omega), xup_at]
      · obtain ⟨J4, n1, n2, n3⟩ := (gg_num (least := 1) (most := 99) m3 hL (by omega) (by omega) (by omega)).1 _ _ hn
        refine ⟨xup J4 69 17 (nI nu), ?_, n2.slot (by omega) _, (F3.trans n3.u).trans (frU.up _ (by omega) _), Or.inr ⟨?_, ?_, Or.inr (Or.inl ⟨y, ?_, xup_at⟩)⟩⟩
        · rw [e4, e3, if_neg (by rw [y]; exact fun q => q rfl), n1, xb_some]
        · rw [xup_slot (by omega), n3.2 14 (by omega) (by omega)]; exact b14
        · rw [xup_slot (by omega), n3.2 15 (by omega) (by omega)]; exact a15
        · rw [xup_slot (by omega), n3.2 16 (by omega) (by omega)]; exact a16
      · obtain ⟨J4, n1, n2, n3⟩ := (gg_num (least := 0) (most := 47) m3 hL (by omega) (by omega) (by omega)).1 _ _ hn
        have hn1 := hn.le
        obtain ⟨J5, s1, s2, s3⟩ := (gg_sign SgS (n2.slot (j := 16) (by omega) (nI nu)) hL hn1.2).1 _ hs
        refine ⟨xup J5 69 17 (nI sd), ?_, by rw [hp']; exact s2.slot (by omega) _, (((F3.trans n3.u).trans (frU.up _ (by omega) _)).trans s3.u).trans (frU.up _ (by omega) _), Or.inr ⟨?_, ?_, Or.inr (Or.inr ⟨y, ?_, xup_at⟩)⟩⟩
        · rw [e4, e3, if_pos (show nI kd ≠ 3 from fun q => absurd (nI_inj (b := 3) (by omega) (by decide) q) (by omega)), n1, xb_some, if_pos, s1, xb_some]
          rw [xup_slot (by omega), n3.2 15 (by omega) (by omega), a15]
          exact fun q => absurd (nI_inj (b := 2) (by omega) (by decide) q) (by omega)
        · rw [xup_slot (by omega), s3.2 14 (by omega) (by omega), xup_slot (by omega), n3.2 14 (by omega) (by omega)]; exact b14
        · rw [xup_slot (by omega), s3.2 15 (by omega) (by omega), xup_slot (by omega), n3.2 15 (by omega) (by omega)]; exact a15
        · rw [xup_slot (by omega), s3.2 16 (by omega) (by omega), xup_at]
  · rcases hf with ⟨hq, hd, hno⟩ | ⟨hq, z, zd, hno⟩ | ⟨pl, z, hpl2, zp, hrest⟩
    · subst hq
      have hT := gg_takes (a := 48) (b := 49) M0 hL hp (by omega) (by omega) (by omega)
      obtain ⟨v, hv⟩ := hT.2 (fun c hc => hno (c - 48) (ranP hc))
      have M1 : Mt T L q 1 (xup (xup (xup J0 69 13 1) 69 12 (nI q)) 69 14 v) := (M0.up q 1).slot (by omega) _
      have F1 : frU J (xup (xup (xup J0 69 13 1) 69 12 (nI q)) 69 14 v) := (F0.trans (frT.up J0 _ _).u).trans (frU.up _ (by omega) _)
      have e2 : f_X7_readThing J = f_X7_readThing_70 (-5) (xup (xup (xup J0 69 13 1) 69 12 (nI q)) 69 14 v) := by
        rw [e0, hN.2 (Or.inr (fun c hc => hd (ran1.2 c hc))), xb_some, if_pos rfl, hv, xb_some, if_neg]
        rw [M1.2.2.2]; exact one_ne0
      generalize xup (xup (xup J0 69 13 1) 69 12 (nI q)) 69 14 v = J1 at M1 F1 e2
      refine ⟨xup (xup (xup J1 69 15 (-5)) 69 16 (-5)) 69 17 (-5), ?_, ((M1.slot (by omega) _).slot (by omega) _).slot (by omega) _, ((F1.trans (frU.up _ (by omega) _)).trans (frU.up _ (by omega) _)).trans (frU.up _ (by omega) _)⟩
      rw [e2]
      unfold f_X7_readThing_70
      rw [show xup (xup (xup J1 69 15 (-5)) 69 16 (-5)) 69 17 (-5) 69 15 = -5 by rw [xup_slot (by omega), xup_slot (by omega), xup_at], if_pos (by decide), if_pos rfl]
    · obtain ⟨J1, M1, F1, e1, e2⟩ := hdays ⟨z, zd⟩
      obtain ⟨v, J2, g1, g2, g3⟩ := (gg_num (least := 1) (most := 99) M1 hL (by omega) (by omega) (by omega)).2 hno
      exact ⟨xup J2 69 17 v, by rw [e2, g1, xb_some], by rw [hq]; exact g2.slot (by omega) _, (F1.trans g3.u).trans (frU.up _ (by omega) _)⟩
    · obtain ⟨J1, M1, F1, e1, e2⟩ := hpl pl (hnd pl ⟨z, hpl2, zp⟩) ⟨z, hpl2, zp⟩
      rcases hrest with ⟨hq, hno⟩ | ⟨kd, hk, hrest⟩
      · obtain ⟨J2, g1, g2, g3⟩ := (gg_sign SgK M1 hL (by omega)).2 hno
        refine ⟨xup (xup (xup J2 69 15 (-5)) 69 16 (-5)) 69 17 (-5), ?_, by rw [hq]; exact ((g2.slot (by omega) _).slot (by omega) _).slot (by omega) _, (((F1.trans g3.u).trans (frU.up _ (by omega) _)).trans (frU.up _ (by omega) _)).trans (frU.up _ (by omega) _)⟩
        rw [e2, g1, xb_some]
        unfold f_X7_readThing_70
        rw [show xup (xup (xup J2 69 15 (-5)) 69 16 (-5)) 69 17 (-5) 69 15 = -5 by rw [xup_slot (by omega), xup_slot (by omega), xup_at], if_pos (by decide), if_pos rfl]
      · have hkz := hk.1
        have hk4 := hk.2.1
        obtain ⟨J2, g1, g2, g3⟩ := (gg_sign SgK M1 hL (by omega)).1 _ hk
        obtain ⟨J3, m3, f3, a14, a15, a16, a17, e3⟩ := gg_70 (J := J2) hL (by omega) g2 hk4
        have e4 : f_X7_readThing J = f_X7_readThing_70 (nI kd) J2 := by rw [e2, g1, xb_some]
        have F3 : frU J J3 := (F1.trans g3.u).trans f3
        rcases hrest with ⟨y, hq, hno⟩ | ⟨y, hq, hno⟩ | ⟨y, ⟨hq, hno⟩ | ⟨p2, v, hn, hq, hno⟩⟩
        · obtain ⟨v, J4, n1, n2, n3⟩ := (gg_num (least := 0) (most := 47) m3 hL (by omega) (by omega) (by omega)).2 hno
          refine ⟨xup (xup J4 69 16 v) 69 17 (-5), ?_, by rw [hq]; exact (n2.slot (by omega) _).slot (by omega) _, ((F3.trans n3.u).trans (frU.up _ (by omega) _)).trans (frU.up _ (by omega) _)⟩
          rw [e4, e3, if_pos (by rw [y]; decide), n1, xb_some, if_neg]
          intro q
          apply q
          rw [xup_slot (by omega), n3.2 15 (by omega) (by omega), a15, y]; rfl
        · obtain ⟨v, J4, n1, n2, n3⟩ := (gg_num (least := 1) (most := 99) m3 hL (by omega) (by omega) (by omega)).2 hno
          refine ⟨xup J4 69 17 v, ?_, by rw [hq]; exact n2.slot (by omega) _, (F3.trans n3.u).trans (frU.up _ (by omega) _)⟩
          rw [e4, e3, if_neg (by rw [y]; exact fun q => q rfl), n1, xb_some]
        · obtain ⟨v, J4, n1, n2, n3⟩ := (gg_num (least := 0) (most := 47) m3 hL (by omega) (by omega) (by omega)).2 hno
          obtain ⟨u, J5, s1, s2, s3⟩ := gg_signW SgS (n2.slot (j := 16) (by omega) v) hL (by omega)
          refine ⟨xup J5 69 17 u, ?_, by rw [hq]; exact s2.slot (by omega) _, (((F3.trans n3.u).trans (frU.up _ (by omega) _)).trans s3.u).trans (frU.up _ (by omega) _)⟩
          rw [e4, e3, if_pos (show nI kd ≠ 3 from fun q => absurd (nI_inj (b := 3) (by omega) (by decide) q) (by omega)), n1, xb_some, if_pos, s1, xb_some]
          rw [xup_slot (by omega), n3.2 15 (by omega) (by omega), a15]
          exact fun q => absurd (nI_inj (b := 2) (by omega) (by decide) q) (by omega)
        · obtain ⟨J4, n1, n2, n3⟩ := (gg_num (least := 0) (most := 47) m3 hL (by omega) (by omega) (by omega)).1 _ _ hn
          have hn1 := hn.le
          obtain ⟨J5, s1, s2, s3⟩ := (gg_sign SgS (n2.slot (j := 16) (by omega) (nI v)) hL hn1.2).2 hno
          refine ⟨xup J5 69 17 (-5), ?_, by rw [hq]; exact s2.slot (by omega) _, (((F3.trans n3.u).trans (frU.up _ (by omega) _)).trans s3.u).trans (frU.up _ (by omega) _)⟩
          rw [e4, e3, if_pos (show nI kd ≠ 3 from fun q => absurd (nI_inj (b := 3) (by omega) (by decide) q) (by omega)), n1, xb_some, if_pos, s1, xb_some]
          rw [xup_slot (by omega), n3.2 15 (by omega) (by omega), a15]
          exact fun q => absurd (nI_inj (b := 2) (by omega) (by decide) q) (by omega)
