/-! ===== the steps of the reference's encoding ===== -/
theorem ROr_uI {σ : SG} {w : List Nat × Int32} {b j : Nat} {v : Int32} (h : ROr σ w) (hb : b ≠ 1103) (hj : b = 1101 → j ≠ 3 ∧ j ≠ 4) : ROr (uI σ b j v) w := ⟨(sI_o (by omega)).trans h.1, (sI_o (by omega)).trans h.2.1, fun i c hi => (sI_o (Or.inl (fun z => hb z.symm))).trans (h.2.2.1 i c hi), h.2.2.2⟩
theorem ES_uI {σ : SG} {s : Nat} {T : List Nat} {D : List Dc} {A : AV} {H : Rh} {z : Nat → Nat} {w : List Nat × Int32} {b j : Nat} {v : Int32} (h : ES σ s T D A H z w) (hb : b = 1176 ∨ b = 1178 ∨ b = 1179 ∨ (b = 1101 ∧ j = 106)) : ES (uI σ b j v) s T D A H z w := by
  obtain ⟨h1, h2, h3, h4⟩ := h
  refine ⟨RS_keep h1 (fun b' k hb' => sI_o (by unfold PKP at hb'; omega)), VS_keep h2 (fun b' k hb' => ⟨sI_o (by omega), rfl⟩), fun n hn => (sI_o (by omega)).trans (h3 n hn), ROr_uI h4 (by omega) (by omega)⟩
/-- on to the next field -/
theorem S_next {U s dp n k i : Nat} {σ : SG} {T : List Nat} {D : List Dc} {A : AV} {H : Rh} {z : Nat → Nat} {w : List Nat × Int32} {v3 : Int32} (hE : ES σ s T D A H z w) (hdp : dp < 20) (ht : TP σ dp n k i) : ∃ τ, x_X12_encodeStep_98 U 1101 (nI dp) v3 (-1) σ = some τ ∧ ES τ s T D A H z w ∧ TP τ dp n (k + 1) 0 ∧ fP PEs σ τ ∧ ∀ j, j < dp → sI τ 1176 j = sI σ 1176 j ∧ sI τ 1178 j = sI σ 1178 j ∧ sI τ 1179 j = sI σ 1179 j := by
  obtain ⟨t1, t2, t3, t4⟩ := ht
  unfold x_X12_encodeStep_98
  rw [if_pos rfl, ix_in (by omega) (by decide), ix_in (by omega) (by decide), t3, nI_1, sb_eq, ix_in (by omega) (by decide), sb_eq]
  refine ⟨_, rfl, ES_uI (ES_uI hE (by omega)) (by omega), ⟨?_, ?_, ?_, sI_s _ _ _ _⟩, fP_trans (fP_u (by unfold PEs; omega)) (fP_u (by unfold PEs; omega)), fun j hj => ⟨?_, ?_, ?_⟩⟩
  · rw [sI_o (Or.inl (by decide)), sI_o (Or.inl (by decide))]; exact t1
  · rw [sI_o (Or.inl (by decide)), sI_o (Or.inl (by decide))]; exact t2
  · rw [sI_o (Or.inl (by decide)), sI_s]
  · rw [sI_o (Or.inl (by decide)), sI_o (Or.inl (by decide))]
  · rw [sI_o (Or.inr (by omega)), sI_o (Or.inl (by decide))]
  · rw [sI_o (Or.inl (by decide)), sI_o (Or.inr (by omega))]
theorem fw_PEs {σ τ : SG} (h : fw σ τ) : fP PEs σ τ := fun b k hb => by
  by_cases q : b = 1101
  · subst q
    have : k ∉ [3, 4] := by unfold PEs at hb; simp; omega
    exact ⟨h.2.1 k this, h.2.2.1 k, h.2.2.2 k⟩
  · exact h.1 b q (fun z => hb (by unfold PEs; omega)) k
/-- a row that is no message -/
theorem S_row {U s dp n k i i' f : Nat} {σ : SG} {T : List Nat} {D : List Dc} {A : AV} {H : Rh} {z : Nat → Nat} {w : List Nat × Int32} {r : Rg} {d : Dc} (hU4 : 4000 < U) (hs : s < 2) (hg : GSc T D) (hE : ES σ s T D A H z w) (hO : VO T D A) (hdp : dp < 20) (ht : TP σ dp n k i) (hr : (zR H)[i']? = some r) (hp : pRw n f r = true) (hd : D[f]? = some d) (h2 : dK d = 2) (h13 : fty T D d ≠ 13) : ∃ τ, x_X12_encodeStep_98 U 1101 (nI dp) (nI (fx D s f)) (nI i') σ = some τ ∧ ES τ s T D A H z (wrL 4000 w (eIt T D (eMf T D A z) d (itR T D d r))) ∧ TP τ dp n k (i' + 1) ∧ fP PEs σ τ ∧ ∀ j, j < dp → sI τ 1176 j = sI σ 1176 j ∧ sI τ 1178 j = sI σ 1178 j ∧ sI τ 1179 j = sI σ 1179 j := by
  obtain ⟨t1, t2, t3, t4⟩ := ht
  have hil := (List.getElem?_eq_some_iff.mp hr).1
  have hR7 := hE.2.1.2.1.2.1
  obtain ⟨p1, p2⟩ := pRw_of hp
  have hA : rA r = true := by unfold pRw at hp; rw [Bool.and_eq_true] at hp; exact hp.2
  have hft : fty T D d ≤ 14 := dTy_lt (hg.fld hd h2).2.2.2.1
  have hk8 := (kdO_nmr hft).2
  have hne : ¬ nI i' = -1 := fun y => nI_neg (by omega : i' < 2 ^ 31) (by rw [y]; decide)
  have E1 := ES_uI (b := 1178) (j := dp) (v := nI (i' + 1)) hE (by omega)
  have ok4 : okV4 (fty T D d) (rV r) := VS_ok4 hE.2.1 hO (List.mem_of_getElem? hr) hA p1 (by rw [p2]; exact hd)
  unfold x_X12_encodeStep_98
  rw [if_neg hne, ix_in (by omega) (by decide), nI_1, sb_eq]
  have F1 : fP PEs σ (uI σ 1178 dp (nI (i' + 1))) := fP_u (by unfold PEs; omega)
  have T1 : TP (uI σ 1178 dp (nI (i' + 1))) dp n k (i' + 1) := ⟨(sI_o (Or.inl (by decide))).trans t1, (sI_o (Or.inl (by decide))).trans t2, (sI_o (Or.inl (by decide))).trans t3, sI_s _ _ _ _⟩
  have L1 : ∀ j, j < dp → sI (uI σ 1178 dp (nI (i' + 1))) 1176 j = sI σ 1176 j ∧ sI (uI σ 1178 dp (nI (i' + 1))) 1178 j = sI σ 1178 j ∧ sI (uI σ 1178 dp (nI (i' + 1))) 1179 j = sI σ 1179 j := fun j hj => ⟨sI_o (Or.inl (by decide)), sI_o (Or.inr (by omega)), sI_o (Or.inl (by decide))⟩
  generalize uI σ 1178 dp (nI (i' + 1)) = σ1 at *
  obtain ⟨f1, _, f3, f4, _⟩ := E1.1.f hd h2
  rw [ix_in (by omega) (by decide), f4, N_kindOf hft, b1_eq, N_tagOf hs hg E1.1 hd h2 hk8, b1_eq]
  obtain ⟨τ, u1, u2, u3⟩ := N_varW (U := U) (x := (lshl9 (lN (dN d).2) 3) ||| lN (kdO (fty T D d))) hU4 E1.2.2.2
  have E2 := ES_fw E1 u3 u2
  obtain ⟨g1, _, g3, g4, _⟩ := E2.1.f hd h2
  rw [u1, b1_eq, ix_in (by omega) (by decide), g4, N_kindOf hft, b1_eq]
  have ek2 : nI (kdO (fty T D d)) = 2 ↔ kdO (fty T D d) = 2 := nI_eq (b := 2) (by omega) (by decide)
  have e13 : nI (fty T D d) = 13 ↔ fty T D d = 13 := nI_eq (b := 13) (by omega) (by decide)
  rw [ifd ek2]
  obtain ⟨⟨w1, w2, w3, ⟨a, w4, w5, w6, w7⟩, _⟩, _⟩ := E2.2.1.2.1.2.2 i' r hr
  have hP7 := E2.2.1.2.2.1.2.2.2
  -- the end
  have fin : ∀ (B : List Nat) (y : Option SG), (∃ υ, y = some υ ∧ ROr υ (wrL 4000 (wrL 4000 w (tgB d (kdO (fty T D d)))) B) ∧ fw τ υ) → ∃ υ, y = some υ ∧ ES υ s T D A H z (wrL 4000 w (tgB d (kdO (fty T D d)) ++ B)) ∧ TP υ dp n k (i' + 1) ∧ fP PEs σ υ ∧ ∀ j, j < dp → sI υ 1176 j = sI σ 1176 j ∧ sI υ 1178 j = sI σ 1178 j ∧ sI υ 1179 j = sI σ 1179 j := by
    rintro B y ⟨υ, v1, v2, v3⟩
    have fA := fw_trans u3 v3
    refine ⟨υ, v1, by rw [wrL_app]; exact ES_fw E2 v3 v2, TP_fw T1 fA, fP_trans F1 (fw_PEs fA), fun j hj => ⟨?_, ?_, ?_⟩⟩
    · exact ((fw_I fA (by decide) (by omega)).1).trans (L1 j hj).1
    · exact ((fw_I fA (by decide) (by omega)).1).trans (L1 j hj).2.1
    · exact ((fw_I fA (by decide) (by omega)).1).trans (L1 j hj).2.2
  unfold eIt
  by_cases q2 : kdO (fty T D d) = 2
  · have hnm : nmr (fty T D d) = false := (kdO_nmr hft).1.mp q2
    rw [if_pos q2, if_pos q2, ix_in (by omega) (by decide), g4, ifd e13, if_neg h13, if_neg h13, ix_in (by omega) (by decide), w5, nI_l (by omega)]
    have ei : (itR T D d r).2.1 = rT r := by unfold itR; rw [if_neg h13, hnm, if_neg (show ¬ false = true by decide)]
    rw [ei]
    obtain ⟨υ, v1, v2, v3⟩ := N_varW (U := U) (x := lN (rT r).length) hU4 E2.2.2.2
    rw [v1, b1_eq]
    have E3 := ES_fw E2 v3 v2
    obtain ⟨ω, o1, o2, o3⟩ := N_wtxt (U := U) (i := i') (a := a) (n := (rT r).length) w6 hP7 (by omega) (rT r).length 0 U υ _ (by omega) (by omega) (((fw_I v3 (by decide) (by omega)).1).trans w4) (((fw_I v3 (by decide) (by omega)).1).trans w5) E3.2.1.2.2.1.2.1 v2
    rw [Nat.add_zero, w7] at o2
    refine fin (lnB (rT r)) _ ⟨ω, o1, ?_, fw_trans v3 o3⟩
    unfold lnB
    rw [wrL_app]
    exact o2
  · have hnm : nmr (fty T D d) = true := by
      cases h : nmr (fty T D d) with
      | true => rfl
      | false => exact absurd ((kdO_nmr hft).1.mpr h) q2
    rw [if_neg q2, if_neg q2, ix_in (by omega) (by decide), ix_in (by omega) (by decide), g4, w3, b1_id]
    have ei : (itR T D d r).1 = rV r := by unfold itR; rw [if_neg h13, hnm, if_pos rfl]
    rw [ei]
    exact fin _ _ (N_wnum (U := U) hU4 hft hnm ok4 E2.2.2.2)
