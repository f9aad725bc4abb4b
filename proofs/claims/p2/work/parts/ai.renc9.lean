/-! ===== the reference encodes: into a message, out of it ===== -/
theorem S_msg {U s dp n k i i' f : Nat} {σ : SG} {T : List Nat} {D : List Dc} {A : AV} {H : Rh} {z : Nat → Nat} {w : List Nat × Int32} {r : Rg} {d : Dc} (hU4 : 4000 < U) (hs : s < 2) (hg : GSc T D) (hE : ES σ s T D A H z w) (hdp : dp < 20) (ht : TP σ dp n k i) (hr : (zR H)[i']? = some r) (hp : pRw n f r = true) (hd : D[f]? = some d) (h2 : dK d = 2) (h13 : fty T D d = 13) (hal : al T D A (rK r) = true) (hk9 : rK r < 400) (hb : (eMf T D A z (rK r)).length < 2 ^ 31) : ∃ τ, x_X12_encodeStep_98 U 1101 (nI dp) (nI (fx D s f)) (nI i') σ = some τ ∧ ES τ s T D A H z (wrL 4000 (wrL 4000 w (tgB d 2)) (vB (lN (eMf T D A z (rK r)).length))) ∧ TP τ (dp + 1) (rK r) 0 0 ∧ sI τ 1176 dp = nI n ∧ sI τ 1179 dp = nI k ∧ sI τ 1178 dp = nI (i' + 1) ∧ fP PEs σ τ ∧ ∀ j, j < dp → sI τ 1176 j = sI σ 1176 j ∧ sI τ 1178 j = sI σ 1178 j ∧ sI τ 1179 j = sI σ 1179 j := by
  obtain ⟨t1, t2, t3, t4⟩ := ht
  have hil := (List.getElem?_eq_some_iff.mp hr).1
  have hR7 := hE.2.1.2.1.2.1
  obtain ⟨p1, p2⟩ := pRw_of hp
  have hft : fty T D d ≤ 14 := dTy_lt (hg.fld hd h2).2.2.2.1
  have hkd : kdO (fty T D d) = 2 := by rw [h13]; rfl
  have hne : ¬ nI i' = -1 := fun y => nI_neg (by omega : i' < 2 ^ 31) (by rw [y]; decide)
  have E1 := ES_uI (b := 1178) (j := dp) (v := nI (i' + 1)) hE (by omega)
  unfold x_X12_encodeStep_98
  rw [if_neg hne, ix_in (by omega) (by decide), nI_1, sb_eq]
  have F1 : fP PEs σ (uI σ 1178 dp (nI (i' + 1))) := fP_u (by unfold PEs; omega)
  have T1 : TP (uI σ 1178 dp (nI (i' + 1))) dp n k (i' + 1) := ⟨(sI_o (Or.inl (by decide))).trans t1, (sI_o (Or.inl (by decide))).trans t2, (sI_o (Or.inl (by decide))).trans t3, sI_s _ _ _ _⟩
  have L1 : ∀ j, j < dp → sI (uI σ 1178 dp (nI (i' + 1))) 1176 j = sI σ 1176 j ∧ sI (uI σ 1178 dp (nI (i' + 1))) 1178 j = sI σ 1178 j ∧ sI (uI σ 1178 dp (nI (i' + 1))) 1179 j = sI σ 1179 j := fun j hj => ⟨sI_o (Or.inl (by decide)), sI_o (Or.inr (by omega)), sI_o (Or.inl (by decide))⟩
  generalize uI σ 1178 dp (nI (i' + 1)) = σ1 at *
  obtain ⟨f1, _, f3, f4, _⟩ := E1.1.f hd h2
  have htg : x_X12_tagOf 1101 (nI (fx D s f)) (nI (kdO (fty T D d))) σ1 = some ((lshl9 (lN (dN d).2) 3) ||| lN (kdO (fty T D d))) := N_tagOf hs hg E1.1 hd h2 (by omega)
  rw [ix_in (by omega) (by decide), f4, N_kindOf hft, b1_eq, htg, b1_eq, hkd]
  obtain ⟨τ, u1, u2, u3⟩ := N_varW (U := U) (x := (lshl9 (lN (dN d).2) 3) ||| lN 2) hU4 E1.2.2.2
  have E2 := ES_fw E1 u3 u2
  obtain ⟨g1, _, g3, g4, _⟩ := E2.1.f hd h2
  obtain ⟨⟨w1, w2, w3, _, d', w8, w9, w10⟩, _⟩ := E2.2.1.2.1.2.2 i' r hr
  rw [p2, hd] at w8
  cases w8
  rw [if_pos h13] at w10
  rw [u1, b1_eq, ix_in (by omega) (by decide), g4, N_kindOf hft, b1_eq, hkd, if_pos (show nI 2 = 2 from rfl), ix_in (by omega) (by decide), g4, h13, if_pos (show nI 13 = 13 from rfl), ix_in (by omega) (by decide), w10, ix_in hk9 (by decide), E2.2.2.1 _ hal, nI_l hb]
  obtain ⟨υ, v1, v2, v3⟩ := N_varW (U := U) (x := lN (eMf T D A z (rK r)).length) hU4 E2.2.2.2
  have E3 := ES_fw E2 v3 v2
  have fA := fw_trans u3 v3
  have T3 := TP_fw T1 fA
  obtain ⟨s1, s2, s3, s4⟩ := T3
  have w10' : sI υ 1170 i' = nI (rK r) := ((fw_I v3 (by decide) (by omega)).1).trans w10
  rw [v1, b1_eq, ix_in (by omega) (by decide), w10', b1_id]
  unfold x_X12_goInto
  rw [s1, ix_in (by omega) (by decide), sb_eq, sI_o (Or.inl (by decide)), s1, ix_in (by omega) (by decide), sb_eq, sI_o (Or.inl (by decide)), sI_o (Or.inl (by decide)), s1, ix_in (by omega) (by decide), sb_eq, sb_eq, sI_o (Or.inl (by decide)), sI_o (Or.inl (by decide)), sI_o (Or.inl (by decide)), s1, nI_1]
  refine ⟨_, rfl, ES_uI (ES_uI (ES_uI (ES_uI E3 (by omega)) (by omega)) (by omega)) (by omega), ⟨sI_s _ _ _ _, ?_, ?_, ?_⟩, ?_, ?_, ?_, fP_trans (fP_trans F1 (fw_PEs fA)) (fP_trans (fP_trans (fP_trans (fP_u (by unfold PEs; omega)) (fP_u (by unfold PEs; omega))) (fP_u (by unfold PEs; omega))) (fP_u (by unfold PEs; omega))), fun j hj => ⟨?_, ?_, ?_⟩⟩
  · rw [sI_o (Or.inl (by decide)), sI_o (Or.inl (by decide)), sI_o (Or.inl (by decide)), sI_s]
  · rw [sI_o (Or.inl (by decide)), sI_o (Or.inl (by decide)), sI_s]; rfl
  · rw [sI_o (Or.inl (by decide)), sI_s]; rfl
  · rw [sI_o (Or.inl (by decide)), sI_o (Or.inl (by decide)), sI_o (Or.inl (by decide)), sI_o (Or.inr (by omega))]; exact s2
  · rw [sI_o (Or.inl (by decide)), sI_o (Or.inl (by decide)), sI_o (Or.inr (by omega)), sI_o (Or.inl (by decide))]; exact s3
  · rw [sI_o (Or.inl (by decide)), sI_o (Or.inr (by omega)), sI_o (Or.inl (by decide)), sI_o (Or.inl (by decide))]; exact s4
  · rw [sI_o (Or.inl (by decide)), sI_o (Or.inl (by decide)), sI_o (Or.inl (by decide)), sI_o (Or.inr (by omega))]
    exact ((fw_I fA (by decide) (by omega)).1).trans (L1 j hj).1
  · rw [sI_o (Or.inl (by decide)), sI_o (Or.inr (by omega)), sI_o (Or.inl (by decide)), sI_o (Or.inl (by decide))]
    exact ((fw_I fA (by decide) (by omega)).1).trans (L1 j hj).2.1
  · rw [sI_o (Or.inl (by decide)), sI_o (Or.inl (by decide)), sI_o (Or.inr (by omega)), sI_o (Or.inl (by decide))]
    exact ((fw_I fA (by decide) (by omega)).1).trans (L1 j hj).2.2
/-- a message is done: its unknown fields, then out of it -/
theorem S_end {U s dp n k i : Nat} {σ : SG} {T : List Nat} {D : List Dc} {A : AV} {H : Rh} {z : Nat → Nat} {w : List Nat × Int32} (hU4 : 4000 < U) (hE : ES σ s T D A H z w) (hal : al T D A n = true) (hn : n < aC A) (hdp : dp < 20) (ht : TP σ dp n k i) : ∃ τ, (b1 (x_X12_putUnknown U 1101 (nI n) σ) fun σ17 => sb (uI σ17 1101 106 ((sI σ17 1101 106) - 1)) fun σ18 => some σ18) = some τ ∧ ES τ s T D A H z (wrL 4000 w (aU A n)) ∧ sI τ 1101 106 = nI dp ∧ fP PEs σ τ ∧ ∀ j, sI τ 1176 j = sI σ 1176 j ∧ sI τ 1178 j = sI σ 1178 j ∧ sI τ 1179 j = sI σ 1179 j := by
  have hV := hE.2.1
  have hc := hV.2.2.2.2.1
  have hu := hV.2.2.2.1
  unfold x_X12_putUnknown
  obtain ⟨τ, t1, t2, t3⟩ := N_wunk (U := U) (n := n) (c := aC A) (P := zP H) (L := zU H) hU4 hV.2.2.1.2.2.2 hu.2.1 hc.2.2.1 (by omega) (zU H).length 0 U σ w (by omega) (by omega) hu.1 hu.2.2 hV.2.2.1.2.1 hE.2.2.2
  have t1' : x_X12_putUnknown_L2 U 1101 (nI n) U 0 σ = some τ := t1
  rw [List.drop_zero, (hV.2.2.2.2.2.2.1 n hal).2] at t2
  have e106 : sI τ 1101 106 = nI (dp + 1) := ((fw_I t3 (by decide) (by omega)).1).trans ht.1
  rw [t1', b1_eq, sb_eq, e106, show nI (dp + 1) - 1 = nI dp from nI_sub (b := 1) (by omega)]
  refine ⟨_, rfl, ES_uI (ES_fw hE t3 t2) (by omega), sI_s _ _ _ _, fP_trans (fw_PEs t3) (fP_u (by unfold PEs; omega)), fun j => ⟨?_, ?_, ?_⟩⟩
  all_goals (rw [sI_o (Or.inl (by decide))]; exact (fw_I t3 (by decide) (by omega)).1)
