/-! ===== one step of the reference's encoding ===== -/
/-- the reference while it encodes -/
def ES (σ : SG) (s : Nat) (T : List Nat) (D : List Dc) (A : AV) (H : Rh) (z : Nat → Nat) (w : List Nat × Int32) : Prop := RS σ s T D ∧ VS σ s T D A H ∧ (∀ n, al T D A n = true → sI σ 1163 n = nI (eMf T D A z n).length) ∧ ROr σ w
/-- what encoding touches -/
def PEs (b k : Nat) : Prop := (b = 1101 ∧ (k = 3 ∨ k = 4 ∨ k = 106)) ∨ b = 1103 ∨ b = 1176 ∨ b = 1178 ∨ b = 1179
theorem ES_fw {σ τ : SG} {s : Nat} {T : List Nat} {D : List Dc} {A : AV} {H : Rh} {z : Nat → Nat} {w w' : List Nat × Int32} (h : ES σ s T D A H z w) (hf : fw σ τ) (hw : ROr τ w') : ES τ s T D A H z w' := ⟨RS_fw h.1 hf, VS_fw h.2.1 hf, fun n hn => ((fw_I hf (by decide) (by omega)).1).trans (h.2.2.1 n hn), hw⟩
/-- the top of the stack: a node, a field's place, a row -/
def TP (σ : SG) (dp n k i : Nat) : Prop := sI σ 1101 106 = nI (dp + 1) ∧ sI σ 1176 dp = nI n ∧ sI σ 1179 dp = nI k ∧ sI σ 1178 dp = nI i
theorem TP_fw {σ τ : SG} {dp n k i : Nat} (h : TP σ dp n k i) (hf : fw σ τ) : TP τ dp n k i := ⟨((fw_I hf (by decide) (by omega)).1).trans h.1, ((fw_I hf (by decide) (by omega)).1).trans h.2.1, ((fw_I hf (by decide) (by omega)).1).trans h.2.2.1, ((fw_I hf (by decide) (by omega)).1).trans h.2.2.2⟩
theorem N_estep {U s dp n k i : Nat} {σ : SG} {T : List Nat} {D : List Dc} {A : AV} {H : Rh} {z : Nat → Nat} {w : List Nat × Int32} (hU4 : 4000 < U) (hs : s < 2) (hg : GSc T D) (hE : ES σ s T D A H z w) (hM : isM D (aN A n)) (hn : n < aC A) (hdp : dp < 20) (hk : k < 2 ^ 31) (hi : i ≤ (zR H).length) (ht : TP σ dp n k i) :
    ((chF D (aN A n))[k]? = none → x_X12_encodeStep U 1101 σ = (b1 (x_X12_putUnknown U 1101 (nI n) σ) fun σ17 => sb (uI σ17 1101 106 ((sI σ17 1101 106) - 1)) fun σ18 => some σ18)) ∧
    ∀ f d, (chF D (aN A n))[k]? = some f → isF D (aN A n) f d → (dPa (lkC T D) T (wl T 701 0) D d = false → x_X12_encodeStep U 1101 σ = x_X12_encodeStep_98 U 1101 (nI dp) (nI (fx D s f)) (rwI (ff (pRw n f) ((zR H).drop i) i)) σ) ∧ (dPa (lkC T D) T (wl T 701 0) D d = true → x_X12_encodeStep U 1101 σ = (b1 (x_X12_putPacked U 1101 (nI n) (nI (fx D s f)) σ) fun σ125 => x_X12_encodeStep_98 U 1101 (nI dp) (nI (fx D s f)) (-1) σ125)) := by
  obtain ⟨hS, hV, h63, hw⟩ := hE
  obtain ⟨t1, t2, t3, t4⟩ := ht
  have hc := hV.2.2.2.2.1
  have hR7 := hV.2.1.2.1
  have hRn : ∀ r ∈ zR H, rN r < 400 := fun r hr => by have := (hV.2.2.2.2.2.1 r hr).1; omega
  have e1 : nI (dp + 1) - 1 = nI dp := nI_sub (b := 1) (by omega)
  have hmA : mAt (chF D (aN A n)) (nI k) = (chF D (aN A n))[k]? := by unfold mAt; rw [if_neg (nI_neg hk), clampN hk]
  unfold x_X12_encodeStep
  rw [t1, e1, ix_in (by omega) (by decide), t2, ix_in (by omega) (by decide), ix_in (by omega) (by decide), hV.1, (hc.2.2.2 n hn).2.1, t3, N_fieldAt hU4 hs hg hS hM, b1_eq, hmA]
  refine ⟨fun h0 => ?_, fun f d hf hd => ?_⟩
  · rw [h0, if_pos (show fIx D s none = -1 from rfl)]
  · obtain ⟨f1, _, f3, f4, f5, f6, f7, _⟩ := hS.f hd.1 hd.2.1
    have hne : ¬ nI (fx D s f) = -1 := fun z => nI_neg (by omega : fx D s f < 2 ^ 31) (by rw [z]; decide)
    rw [hf, show fIx D s (some f) = nI (fx D s f) from rfl, if_neg hne, ix_in (by omega) (by decide), f7, ifz]
    unfold x_X12_encodeStep_81 x_X12_nextRow
    refine ⟨fun hp => ?_, fun hp => ?_⟩
    · rw [hp] at f7 ⊢
      rw [if_neg (show ¬ false = true by decide), ix_in (show dp < 40 by omega) (by decide), t4, N_nextRow hU4 hs hg hV.2.1 (by omega) hRn hd.1 hd.2.1 ((zR H).length - i) i U (by omega) (by omega), b1_eq, ix_in (by omega) (by decide), f7, if_pos (show zI false = 0 from rfl)]
    · rw [hp] at f7 ⊢
      rw [if_pos (show true = true from rfl), ix_in (by omega) (by decide), f7, if_neg (show ¬ zI true = 0 by decide)]
/-! ===== the steps of the reference's encoding ===== -/
theorem ROr_uI {σ : SG} {w : List Nat × Int32} {b j : Nat} {v : Int32} (h : ROr σ w) (hb : b ≠ 1103) (hj : b = 1101 → j ≠ 3 ∧ j ≠ 4) : ROr (uI σ b j v) w := ⟨(sI_o (by omega)).trans h.1, (sI_o (by omega)).trans h.2.1, fun i c hi => (sI_o (Or.inl (fun z => hb z.symm))).trans (h.2.2.1 i c hi), h.2.2.2⟩
theorem ES_uI {σ : SG} {s : Nat} {T : List Nat} {D : List Dc} {A : AV} {H : Rh} {z : Nat → Nat} {w : List Nat × Int32} {b j : Nat} {v : Int32} (h : ES σ s T D A H z w) (hb : b = 1176 ∨ b = 1178 ∨ b = 1179 ∨ (b = 1101 ∧ j = 106)) : ES (uI σ b j v) s T D A H z w := by
  obtain ⟨h1, h2, h3, h4⟩ := h
  refine ⟨RS_keep h1 (fun b' k hb' => sI_o (by unfold PKP at hb'; omega)), VS_keep h2 (fun b' k hb' => ⟨sI_o (by omega), rfl⟩), fun n hn => (sI_o (by omega)).trans (h3 n hn), ROr_uI h4 (by omega) (by omega)⟩
/-- on to the next field -/
theorem S_next {U s dp n k i : Nat} {σ : SG} {T : List Nat} {D : List Dc} {A : AV} {H : Rh} {z : Nat → Nat} {w : List Nat × Int32} {v3 : Int32} (hE : ES σ s T D A H z w) (hdp : dp < 20) (ht : TP σ dp n k i) : ∃ τ, x_X12_encodeStep_98 U 1101 (nI dp) v3 (-1) σ = some τ ∧ ES τ s T D A H z w ∧ TP τ dp n (k + 1) 0 ∧ fP PEs σ τ ∧ ∀ j, j < dp → sI τ 1176 j = sI σ 1176 j ∧ sI τ 1178 j = sI σ 1178 j ∧ sI τ 1179 j = sI σ 1179 j := by
  obtain ⟨t1, t2, t3, t4⟩ := ht
  unfold x_X12_encodeStep_98
  rw [if_pos rfl, ix_in (by omega) (by decide), ix_in (by omega) (by decide), t3, nI_1, sb_eq, ix_in (by omega) (by decide), sb_eq]
  refine ⟨_, rfl, ES_uI (ES_uI hE (by omega)) (by omega), ⟨?_, ?_, ?_, sI_s _ _ _ _⟩, fP_trans (fP_u (by unfold PEs; omega)) (fP_u (by unfold PEs; omega)), fun j hj => ⟨?_, ?_, ?_⟩⟩
  · rw [sI_o (Or.inl (by decide)), sI_o (Or.inl (by decide))]; exact t1
  · rw [sI_o (Or.inl (by decide)), sI_o (Or.inl (by decide))]; exact t2
  · rw [sI_o (Or.inl (by decide)), sI_s]
  · rw [sI_o (Or.inl (by decide)), sI_o (Or.inl (by decide))]
  · rw [sI_o (Or.inr (by omega)), sI_o (Or.inl (by decide))]
  · rw [sI_o (Or.inl (by decide)), sI_o (Or.inr (by omega))]
theorem fw_PEs {σ τ : SG} (h : fw σ τ) : fP PEs σ τ := fun b k hb => by
  by_cases q : b = 1101
  · subst q
    have : k ∉ [3, 4] := by unfold PEs at hb; simp; omega
    exact ⟨h.2.1 k this, h.2.2.1 k, h.2.2.2 k⟩
  · exact h.1 b q (fun z => hb (by unfold PEs; omega)) k
/-- a row that is no message -/
theorem S_row {U s dp n k i i' f : Nat} {σ : SG} {T : List Nat} {D : List Dc} {A : AV} {H : Rh} {z : Nat → Nat} {w : List Nat × Int32} {r : Rg} {d : Dc} (hU4 : 4000 < U) (hs : s < 2) (hg : GSc T D) (hE : ES σ s T D A H z w) (hO : VO T D A) (hdp : dp < 20) (ht : TP σ dp n k i) (hr : (zR H)[i']? = some r) (hp : pRw n f r = true) (hd : D[f]? = some d) (h2 : dK d = 2) (h13 : fty T D d ≠ 13) : ∃ τ, x_X12_encodeStep_98 U 1101 (nI dp) (nI (fx D s f)) (nI i') σ = some τ ∧ ES τ s T D A H z (wrL 4000 w (eIt T D (eMf T D A z) d (itR T D d r))) ∧ TP τ dp n k (i' + 1) ∧ fP PEs σ τ ∧ ∀ j, j < dp → sI τ 1176 j = sI σ 1176 j ∧ sI τ 1178 j = sI σ 1178 j ∧ sI τ 1179 j = sI σ 1179 j := by
  obtain ⟨t1, t2, t3, t4⟩ := ht
  have hil := (List.getElem?_eq_some_iff.mp hr).1
  have hR7 := hE.2.1.2.1.2.1
  obtain ⟨p1, p2⟩ := pRw_of hp
  have hA : rA r = true := by unfold pRw at hp; rw [Bool.and_eq_true] at hp; exact hp.2
  have hft : fty T D d ≤ 14 := dTy_lt (hg.fld hd h2).2.2.2.1
  have hk8 := (kdO_nmr hft).2
  have hne : ¬ nI i' = -1 := fun y => nI_neg (by omega : i' < 2 ^ 31) (by rw [y]; decide)
  have E1 := ES_uI (b := 1178) (j := dp) (v := nI (i' + 1)) hE (by omega)
  have ok4 : okV4 (fty T D d) (rV r) := VS_ok4 hE.2.1 hO (List.mem_of_getElem? hr) hA p1 (by rw [p2]; exact hd)
  unfold x_X12_encodeStep_98
  rw [if_neg hne, ix_in (by omega) (by decide), nI_1, sb_eq]
  have F1 : fP PEs σ (uI σ 1178 dp (nI (i' + 1))) := fP_u (by unfold PEs; omega)
  have T1 : TP (uI σ 1178 dp (nI (i' + 1))) dp n k (i' + 1) := ⟨(sI_o (Or.inl (by decide))).trans t1, (sI_o (Or.inl (by decide))).trans t2, (sI_o (Or.inl (by decide))).trans t3, sI_s _ _ _ _⟩
  have L1 : ∀ j, j < dp → sI (uI σ 1178 dp (nI (i' + 1))) 1176 j = sI σ 1176 j ∧ sI (uI σ 1178 dp (nI (i' + 1))) 1178 j = sI σ 1178 j ∧ sI (uI σ 1178 dp (nI (i' + 1))) 1179 j = sI σ 1179 j := fun j hj => ⟨sI_o (Or.inl (by decide)), sI_o (Or.inr (by omega)), sI_o (Or.inl (by decide))⟩
  generalize uI σ 1178 dp (nI (i' + 1)) = σ1 at *
  obtain ⟨f1, _, f3, f4, _⟩ := E1.1.f hd h2
  rw [ix_in (by omega) (by decide), f4, N_kindOf hft, b1_eq, N_tagOf hs hg E1.1 hd h2 hk8, b1_eq]
  obtain ⟨τ, u1, u2, u3⟩ := N_varW (U := U) (x := (lshl9 (lN (dN d).2) 3) ||| lN (kdO (fty T D d))) hU4 E1.2.2.2
  have E2 := ES_fw E1 u3 u2
  obtain ⟨g1, _, g3, g4, _⟩ := E2.1.f hd h2
  rw [u1, b1_eq, ix_in (by omega) (by decide), g4, N_kindOf hft, b1_eq]
  have ek2 : nI (kdO (fty T D d)) = 2 ↔ kdO (fty T D d) = 2 := nI_eq (b := 2) (by omega) (by decide)
  have e13 : nI (fty T D d) = 13 ↔ fty T D d = 13 := nI_eq (b := 13) (by omega) (by decide)
  rw [ifd ek2]
  obtain ⟨⟨w1, w2, w3, ⟨a, w4, w5, w6, w7⟩, _⟩, _⟩ := E2.2.1.2.1.2.2 i' r hr
  have hP7 := E2.2.1.2.2.1.2.2.2
  -- the end
  have fin : ∀ (B : List Nat) (y : Option SG), (∃ υ, y = some υ ∧ ROr υ (wrL 4000 (wrL 4000 w (tgB d (kdO (fty T D d)))) B) ∧ fw τ υ) → ∃ υ, y = some υ ∧ ES υ s T D A H z (wrL 4000 w (tgB d (kdO (fty T D d)) ++ B)) ∧ TP υ dp n k (i' + 1) ∧ fP PEs σ υ ∧ ∀ j, j < dp → sI υ 1176 j = sI σ 1176 j ∧ sI υ 1178 j = sI σ 1178 j ∧ sI υ 1179 j = sI σ 1179 j := by
    rintro B y ⟨υ, v1, v2, v3⟩
    have fA := fw_trans u3 v3
    refine ⟨υ, v1, by rw [wrL_app]; exact ES_fw E2 v3 v2, TP_fw T1 fA, fP_trans F1 (fw_PEs fA), fun j hj => ⟨?_, ?_, ?_⟩⟩
    · exact ((fw_I fA (by decide) (by omega)).1).trans (L1 j hj).1
    · exact ((fw_I fA (by decide) (by omega)).1).trans (L1 j hj).2.1
    · exact ((fw_I fA (by decide) (by omega)).1).trans (L1 j hj).2.2
  unfold eIt
  by_cases q2 : kdO (fty T D d) = 2
  · have hnm : nmr (fty T D d) = false := (kdO_nmr hft).1.mp q2
    rw [if_pos q2, if_pos q2, ix_in (by omega) (by decide), g4, ifd e13, if_neg h13, if_neg h13, ix_in (by omega) (by decide), w5, nI_l (by omega)]
    have ei : (itR T D d r).2.1 = rT r := by unfold itR; rw [if_neg h13, hnm, if_neg (show ¬ false = true by decide)]
    rw [ei]
    obtain ⟨υ, v1, v2, v3⟩ := N_varW (U := U) (x := lN (rT r).length) hU4 E2.2.2.2
    rw [v1, b1_eq]
    have E3 := ES_fw E2 v3 v2
    obtain ⟨ω, o1, o2, o3⟩ := N_wtxt (U := U) (i := i') (a := a) (n := (rT r).length) w6 hP7 (by omega) (rT r).length 0 U υ _ (by omega) (by omega) (((fw_I v3 (by decide) (by omega)).1).trans w4) (((fw_I v3 (by decide) (by omega)).1).trans w5) E3.2.1.2.2.1.2.1 v2
    rw [Nat.add_zero, w7] at o2
    refine fin (lnB (rT r)) _ ⟨ω, o1, ?_, fw_trans v3 o3⟩
    unfold lnB
    rw [wrL_app]
    exact o2
  · have hnm : nmr (fty T D d) = true := by
      cases h : nmr (fty T D d) with
      | true => rfl
      | false => exact absurd ((kdO_nmr hft).1.mpr h) q2
    rw [if_neg q2, if_neg q2, ix_in (by omega) (by decide), ix_in (by omega) (by decide), g4, w3, b1_id]
    have ei : (itR T D d r).1 = rV r := by unfold itR; rw [if_neg h13, hnm, if_pos rfl]
    rw [ei]
    exact fin _ _ (N_wnum (U := U) hU4 hft hnm ok4 E2.2.2.2)
/-! ===== the reference encodes: into a message, out of it ===== -/
theorem S_msg {U s dp n k i i' f : Nat} {σ : SG} {T : List Nat} {D : List Dc} {A : AV} {H : Rh} {z : Nat → Nat} {w : List Nat × Int32} {r : Rg} {d : Dc} (hU4 : 4000 < U) (hs : s < 2) (hg : GSc T D) (hE : ES σ s T D A H z w) (hdp : dp < 20) (ht : TP σ dp n k i) (hr : (zR H)[i']? = some r) (hp : pRw n f r = true) (hd : D[f]? = some d) (h2 : dK d = 2) (h13 : fty T D d = 13) (hal : al T D A (rK r) = true) (hk9 : rK r < 400) (hb : (eMf T D A z (rK r)).length < 2 ^ 31) : ∃ τ, x_X12_encodeStep_98 U 1101 (nI dp) (nI (fx D s f)) (nI i') σ = some τ ∧ ES τ s T D A H z (wrL 4000 (wrL 4000 w (tgB d 2)) (vB (lN (eMf T D A z (rK r)).length))) ∧ TP τ (dp + 1) (rK r) 0 0 ∧ sI τ 1176 dp = nI n ∧ sI τ 1179 dp = nI k ∧ sI τ 1178 dp = nI (i' + 1) ∧ fP PEs σ τ ∧ ∀ j, j < dp → sI τ 1176 j = sI σ 1176 j ∧ sI τ 1178 j = sI σ 1178 j ∧ sI τ 1179 j = sI σ 1179 j := by
  obtain ⟨t1, t2, t3, t4⟩ := ht
  have hil := (List.getElem?_eq_some_iff.mp hr).1
  have hR7 := hE.2.1.2.1.2.1
  obtain ⟨p1, p2⟩ := pRw_of hp
  have hft : fty T D d ≤ 14 := dTy_lt (hg.fld hd h2).2.2.2.1
  have hkd : kdO (fty T D d) = 2 := by rw [h13]; try rfl
  have hne : ¬ nI i' = -1 := fun y => nI_neg (by omega : i' < 2 ^ 31) (by rw [y]; decide)
  have E1 := ES_uI (b := 1178) (j := dp) (v := nI (i' + 1)) hE (by omega)
  unfold x_X12_encodeStep_98
  rw [if_neg hne, ix_in (by omega) (by decide), nI_1, sb_eq]
  have F1 : fP PEs σ (uI σ 1178 dp (nI (i' + 1))) := fP_u (by unfold PEs; omega)
  have T1 : TP (uI σ 1178 dp (nI (i' + 1))) dp n k (i' + 1) := ⟨(sI_o (Or.inl (by decide))).trans t1, (sI_o (Or.inl (by decide))).trans t2, (sI_o (Or.inl (by decide))).trans t3, sI_s _ _ _ _⟩
  have L1 : ∀ j, j < dp → sI (uI σ 1178 dp (nI (i' + 1))) 1176 j = sI σ 1176 j ∧ sI (uI σ 1178 dp (nI (i' + 1))) 1178 j = sI σ 1178 j ∧ sI (uI σ 1178 dp (nI (i' + 1))) 1179 j = sI σ 1179 j := fun j hj => ⟨sI_o (Or.inl (by decide)), sI_o (Or.inr (by omega)), sI_o (Or.inl (by decide))⟩
  generalize uI σ 1178 dp (nI (i' + 1)) = σ1 at *
  obtain ⟨f1, _, f3, f4, _⟩ := E1.1.f hd h2
  have htg : x_X12_tagOf 1101 (nI (fx D s f)) (nI (kdO (fty T D d))) σ1 = some ((lshl9 (lN (dN d).2) 3) ||| lN (kdO (fty T D d))) := N_tagOf hs hg E1.1 hd h2 (by omega)
  rw [ix_in (by omega) (by decide), f4, N_kindOf hft, b1_eq, htg, b1_eq, hkd]
  obtain ⟨τ, u1, u2, u3⟩ := N_varW (U := U) (x := (lshl9 (lN (dN d).2) 3) ||| lN 2) hU4 E1.2.2.2
  have E2 := ES_fw E1 u3 u2
  obtain ⟨g1, _, g3, g4, _⟩ := E2.1.f hd h2
  obtain ⟨⟨w1, w2, w3, _, d', w8, w9, w10⟩, _⟩ := E2.2.1.2.1.2.2 i' r hr
  rw [p2, hd] at w8
  cases w8
  rw [if_pos h13] at w10
  rw [u1, b1_eq, ix_in (by omega) (by decide), g4, N_kindOf hft, b1_eq, hkd, if_pos (show nI 2 = 2 from rfl), ix_in (by omega) (by decide), g4, h13, if_pos (show nI 13 = 13 from rfl), ix_in (by omega) (by decide), w10, ix_in hk9 (by decide), E2.2.2.1 _ hal, nI_l hb]
  obtain ⟨υ, v1, v2, v3⟩ := N_varW (U := U) (x := lN (eMf T D A z (rK r)).length) hU4 E2.2.2.2
  have E3 := ES_fw E2 v3 v2
  have fA := fw_trans u3 v3
  have T3 := TP_fw T1 fA
  obtain ⟨s1, s2, s3, s4⟩ := T3
  have w10' : sI υ 1170 i' = nI (rK r) := ((fw_I v3 (by decide) (by omega)).1).trans w10
  rw [v1, b1_eq, ix_in (by omega) (by decide), w10', b1_id]
  unfold x_X12_goInto
  rw [s1, ix_in (by omega) (by decide), sb_eq, sI_o (Or.inl (by decide)), s1, ix_in (by omega) (by decide), sb_eq, sI_o (Or.inl (by decide)), sI_o (Or.inl (by decide)), s1, ix_in (by omega) (by decide), sb_eq, sb_eq, sI_o (Or.inl (by decide)), sI_o (Or.inl (by decide)), sI_o (Or.inl (by decide)), s1, nI_1]
  refine ⟨_, rfl, ES_uI (ES_uI (ES_uI (ES_uI E3 (by omega)) (by omega)) (by omega)) (by omega), ⟨sI_s _ _ _ _, ?_, ?_, ?_⟩, ?_, ?_, ?_, fP_trans (fP_trans F1 (fw_PEs fA)) (fP_trans (fP_trans (fP_trans (fP_u (by unfold PEs; omega)) (fP_u (by unfold PEs; omega))) (fP_u (by unfold PEs; omega))) (fP_u (by unfold PEs; omega))), fun j hj => ⟨?_, ?_, ?_⟩⟩
  · rw [sI_o (Or.inl (by decide)), sI_o (Or.inl (by decide)), sI_o (Or.inl (by decide)), sI_s]
  · rw [sI_o (Or.inl (by decide)), sI_o (Or.inl (by decide)), sI_s]; try rfl
  · rw [sI_o (Or.inl (by decide)), sI_s]; try rfl
  · rw [sI_o (Or.inl (by decide)), sI_o (Or.inl (by decide)), sI_o (Or.inl (by decide)), sI_o (Or.inr (by omega))]; exact s2
  · rw [sI_o (Or.inl (by decide)), sI_o (Or.inl (by decide)), sI_o (Or.inr (by omega)), sI_o (Or.inl (by decide))]; exact s3
  · rw [sI_o (Or.inl (by decide)), sI_o (Or.inr (by omega)), sI_o (Or.inl (by decide)), sI_o (Or.inl (by decide))]; exact s4
  · rw [sI_o (Or.inl (by decide)), sI_o (Or.inl (by decide)), sI_o (Or.inl (by decide)), sI_o (Or.inr (by omega))]
    exact ((fw_I fA (by decide) (by omega)).1).trans (L1 j hj).1
  · rw [sI_o (Or.inl (by decide)), sI_o (Or.inr (by omega)), sI_o (Or.inl (by decide)), sI_o (Or.inl (by decide))]
    exact ((fw_I fA (by decide) (by omega)).1).trans (L1 j hj).2.1
  · rw [sI_o (Or.inl (by decide)), sI_o (Or.inl (by decide)), sI_o (Or.inr (by omega)), sI_o (Or.inl (by decide))]
    exact ((fw_I fA (by decide) (by omega)).1).trans (L1 j hj).2.2
/-- a message is done: its unknown fields, then out of it -/
theorem S_end {U s dp n k i : Nat} {σ : SG} {T : List Nat} {D : List Dc} {A : AV} {H : Rh} {z : Nat → Nat} {w : List Nat × Int32} (hU4 : 4000 < U) (hE : ES σ s T D A H z w) (hal : al T D A n = true) (hn : n < aC A) (hdp : dp < 20) (ht : TP σ dp n k i) : ∃ τ, (b1 (x_X12_putUnknown U 1101 (nI n) σ) fun σ17 => sb (uI σ17 1101 106 ((sI σ17 1101 106) - 1)) fun σ18 => some σ18) = some τ ∧ ES τ s T D A H z (wrL 4000 w (aU A n)) ∧ sI τ 1101 106 = nI dp ∧ fP PEs σ τ ∧ ∀ j, sI τ 1176 j = sI σ 1176 j ∧ sI τ 1178 j = sI σ 1178 j ∧ sI τ 1179 j = sI σ 1179 j := by
  have hV := hE.2.1
  have hc := hV.2.2.2.2.1
  have hu := hV.2.2.2.1
  unfold x_X12_putUnknown
  obtain ⟨τ, t1, t2, t3⟩ := N_wunk (U := U) (n := n) (c := aC A) (P := zP H) (L := zU H) hU4 hV.2.2.1.2.2.2 hu.2.1 hc.2.2.1 (by omega) (zU H).length 0 U σ w (by omega) (by omega) hu.1 hu.2.2 hV.2.2.1.2.1 hE.2.2.2
  have t1' : x_X12_putUnknown_L2 U 1101 (nI n) U 0 σ = some τ := t1
  rw [List.drop_zero, (hV.2.2.2.2.2.2.1 n hal).2] at t2
  have e106 : sI τ 1101 106 = nI (dp + 1) := ((fw_I t3 (by decide) (by omega)).1).trans ht.1
  rw [t1', b1_eq, sb_eq, e106, show nI (dp + 1) - 1 = nI dp from nI_sub (b := 1) (by omega)]
  refine ⟨_, rfl, ES_uI (ES_fw hE t3 t2) (by omega), sI_s _ _ _ _, fP_trans (fw_PEs t3) (fP_u (by unfold PEs; omega)), fun j => ⟨?_, ?_, ?_⟩⟩
  all_goals (rw [sI_o (Or.inl (by decide))]; exact (fw_I t3 (by decide) (by omega)).1)
/-! ===== the reference encodes a packed row ===== -/
theorem S_pack {U s dp n k i f : Nat} {σ : SG} {T : List Nat} {D : List Dc} {A : AV} {H : Rh} {z : Nat → Nat} {w : List Nat × Int32} {d : Dc} (hU4 : 4000 < U) (hs : s < 2) (hg : GSc T D) (hE : ES σ s T D A H z w) (hO : VO T D A) (hal : al T D A n = true) (hn : n < aC A) (hdp : dp < 20) (ht : TP σ dp n k i) (hd : isF D (aN A n) f d) (hpk : dPa (lkC T D) T (wl T 701 0) D d = true) : ∃ τ, (b1 (x_X12_putPacked U 1101 (nI n) (nI (fx D s f)) σ) fun σ125 => x_X12_encodeStep_98 U 1101 (nI dp) (nI (fx D s f)) (-1) σ125) = some τ ∧ ES τ s T D A H z (wrL 4000 w (eRw T D d (aE A n f))) ∧ TP τ dp n (k + 1) 0 ∧ fP PEs σ τ ∧ ∀ j, j < dp → sI τ 1176 j = sI σ 1176 j ∧ sI τ 1178 j = sI σ 1178 j ∧ sI τ 1179 j = sI σ 1179 j := by
  have hV := hE.2.1
  have hc := hV.2.2.2.2.1
  have hR7 := hV.2.1.2.1
  have hRn : ∀ r ∈ zR H, rN r < 400 := fun r hr => by have := (hV.2.2.2.2.2.1 r hr).1; omega
  have hpk' := hpk
  unfold dPa at hpk'
  rw [Bool.and_eq_true, Bool.and_eq_true, Bool.and_eq_true] at hpk'
  have hnm : nmr (fty T D d) = true := hpk'.1.1.2
  have q13 : fty T D d ≠ 13 := fun y => by rw [y] at hnm; cases hnm
  have h4 : ∀ r ∈ zR H, pRw n f r = true → okV4 (fty T D d) (rV r) := fun r hr hp => by
    obtain ⟨p1, p2⟩ := pRw_of hp
    unfold pRw at hp
    rw [Bool.and_eq_true] at hp
    exact VS_ok4 hV hO hr hp.2 p1 (by rw [p2]; exact hd.1)
  have hb : (pkB T D d ((zR H).filter (pRw n f))).length < 2 ^ 31 := by
    have : ∀ (L : List Rg), (pkB T D d L).length ≤ 10 * L.length := by
      intro L
      induction L with
      | nil => exact Nat.le_refl _
      | cons a L ih =>
        unfold pkB at ih ⊢
        rw [List.flatMap_cons, List.length_append, List.length_cons]
        have := nuB_le (fty T D d) (rV a)
        omega
    have h1 := this ((zR H).filter (pRw n f))
    have h2 := List.length_filter_le (pRw n f) (zR H)
    omega
  obtain ⟨τ, t1, t2, t3⟩ := N_putPacked (U := U) hU4 hs hg hE.1 hV.2.1 (by omega) hRn hd.1 hd.2.1 hnm h4 hb hE.2.2.2
  have hE' := (hV.2.2.2.2.2.2.1 n hal).1 f d hd
  have hpb : pkB T D d ((zR H).filter (pRw n f)) = (aE A n f).flatMap (fun it => nuB (fty T D d) it.1) := by
    rw [← hE', List.flatMap_map]
    unfold pkB
    apply flatMap_congr'
    intro r _
    unfold itR
    rw [if_neg q13, hnm, if_pos rfl]
  have ew : pkW T D d ((zR H).filter (pRw n f)) = eRw T D d (aE A n f) := by
    unfold pkW
    rw [hpb]
    cases aE A n f with
    | nil => rfl
    | cons it E =>
      rw [if_pos (show 0 < ((it :: E).flatMap (fun it => nuB (fty T D d) it.1)).length by rw [List.flatMap_cons, List.length_append]; have := nuB_pos (fty T D d) it.1; omega)]
      try rfl
  rw [ew] at t2
  have E1 := ES_fw hE t3 t2
  obtain ⟨υ, u1, u2, u3, u4, u5⟩ := S_next (U := U) (v3 := nI (fx D s f)) E1 hdp (TP_fw ht t3)
  rw [t1, b1_eq]
  refine ⟨υ, u1, u2, u3, fP_trans (fw_PEs t3) u4, fun j hj => ⟨?_, ?_, ?_⟩⟩
  · exact (u5 j hj).1.trans (fw_I t3 (by decide) (by omega)).1
  · exact (u5 j hj).2.1.trans (fw_I t3 (by decide) (by omega)).1
  · exact (u5 j hj).2.2.trans (fw_I t3 (by decide) (by omega)).1
/-! ===== the reference encodes: the rows of a field ===== -/
theorem ff_rest {α : Type} {p : α → Bool} {R : List α} : ∀ (j i : Nat), i + j = R.length → (ff p (R.drop i) i = none → (R.drop i).filter p = []) ∧ ∀ i', ff p (R.drop i) i = some i' → ∃ r, R[i']? = some r ∧ p r = true ∧ i ≤ i' ∧ i' < R.length ∧ (R.drop i).filter p = r :: (R.drop (i' + 1)).filter p := by
  intro j
  induction j with
  | zero =>
    intro i hi
    rw [List.drop_eq_nil_of_le (by omega)]
    exact ⟨fun _ => rfl, fun i' h => by cases h⟩
  | succ j ih =>
    intro i hi
    have hil : i < R.length := by omega
    rw [List.drop_eq_getElem_cons hil, ff, List.filter_cons]
    obtain ⟨a, b⟩ := ih (i + 1) (by omega)
    cases hp : p R[i] with
    | true =>
      rw [if_pos (show true = true from rfl), if_pos (show true = true from rfl)]
      exact ⟨fun h => (by cases h), fun i' h => by cases h; exact ⟨R[i], List.getElem?_eq_getElem hil, hp, Nat.le_refl _, hil, rfl⟩⟩
    | false =>
      rw [if_neg (show ¬ false = true by decide), if_neg (show ¬ false = true by decide)]
      refine ⟨a, fun i' h => ?_⟩
      obtain ⟨r, h1, h2, h3, h4, h5⟩ := b i' h
      exact ⟨r, h1, h2, by omega, h4, h5⟩
/-- what the loop does with a piece of a message: bytes B, cost c, then the state Q -/
def EL (U s : Nat) (T : List Nat) (D : List Dc) (A : AV) (H : Rh) (z : Nat → Nat) (dp : Nat) (w : List Nat × Int32) (B : List Nat) (c : Nat) (Q : SG → Prop) (U1 : Nat) (σ : SG) : Prop := ∃ τ U2, x_X12_encode_L43 U 1101 U1 σ = x_X12_encode_L43 U 1101 U2 τ ∧ U1 ≤ U2 + c ∧ ES τ s T D A H z (wrL 4000 w B) ∧ Q τ ∧ fP PEs σ τ ∧ ∀ j, j < dp → sI τ 1176 j = sI σ 1176 j ∧ sI τ 1178 j = sI σ 1178 j ∧ sI τ 1179 j = sI σ 1179 j
theorem L43_step {U dp n k i V : Nat} {σ τ : SG} (ht : TP σ dp n k i) (hdp : dp < 20) (h : x_X12_encodeStep U 1101 σ = some τ) : x_X12_encode_L43 U 1101 (V + 1) σ = x_X12_encode_L43 U 1101 V τ := by
  rw [x_X12_encode_L43, ht.1, if_pos (show (0 : Int32) < nI (dp + 1) from (ltI (a := 0) (by decide) (by omega)).mpr (by omega)), h, b1_eq]
/-- a cost for each item of a field -/
def cIt (T : List Nat) (D : List Dc) (cst : Nat → Nat) (d : Dc) (it : It) : Nat := 1 + if fty T D d = 13 then cst it.2.2 else 0
theorem N_erows {U s dp n k f : Nat} {T : List Nat} {D : List Dc} {A : AV} {H : Rh} {z : Nat → Nat} {cst : Nat → Nat} {d : Dc} (hU4 : 4000 < U) (hs : s < 2) (hg : GSc T D) (hO : VO T D A) (hM : isM D (aN A n)) (hal : al T D A n = true) (hn : n < aC A) (hdp : dp < 20) (hk : (chF D (aN A n))[k]? = some f) (hd : isF D (aN A n) f d) (hpk : dPa (lkC T D) T (wl T 701 0) D d = false)
    (hch : ∀ m ∈ chN T D A n, al T D A m = true ∧ m < 400 ∧ (eMf T D A z m).length < 2 ^ 31)
    (hrc : ∀ m ∈ chN T D A n, ∀ (τ : SG) (w' : List Nat × Int32) (U1 : Nat), ES τ s T D A H z w' → TP τ (dp + 1) m 0 0 → cst m < U1 → EL U s T D A H z (dp + 1) w' (eMf T D A z m) (cst m) (fun υ => sI υ 1101 106 = nI (dp + 1)) U1 τ) : ∀ (j i : Nat) (σ : SG) (w : List Nat × Int32) (U1 : Nat), i + j = (zR H).length → ES σ s T D A H z w → TP σ dp n k i → 1 + (((((zR H).drop i).filter (pRw n f)).map (itR T D d)).map (cIt T D cst d)).sum < U1 → EL U s T D A H z dp w (((((zR H).drop i).filter (pRw n f)).map (itR T D d)).flatMap (eIt T D (eMf T D A z) d)) (1 + (((((zR H).drop i).filter (pRw n f)).map (itR T D d)).map (cIt T D cst d)).sum) (fun τ => TP τ dp n (k + 1) 0) U1 σ := by
  intro j
  induction j using Nat.strongRecOn with
  | ind j ih =>
    intro i σ w U1 hij hE ht hu
    obtain ⟨V, rfl⟩ : ∃ V, U1 = V + 1 := ⟨U1 - 1, by omega⟩
    have hk31 : k < 2 ^ 31 := by
      have h1 := (List.getElem?_eq_some_iff.mp hk).1
      have h2 := chF_len (a := aN A n) hg.2.1
      omega
    have stp := ((N_estep (U := U) hU4 hs hg hE hM hn hdp hk31 (show i ≤ (zR H).length by omega) ht).2 f d hk hd).1 hpk
    obtain ⟨fn, fs⟩ := ff_rest (p := pRw n f) (R := zR H) j i hij
    cases hff : ff (pRw n f) ((zR H).drop i) i with
    | none =>
      rw [fn hff]
      rw [hff] at stp
      obtain ⟨τ, t1, t2, t3, t4, t5⟩ := S_next (U := U) (v3 := nI (fx D s f)) hE hdp ht
      have stp' : x_X12_encodeStep U 1101 σ = some τ := by rw [stp]; exact t1
      exact ⟨τ, V, L43_step ht hdp stp', by show V + 1 ≤ V + (1 + 0); omega, t2, t3, t4, t5⟩
    | some i' =>
      obtain ⟨r, r1, r2, r3, r4, r5⟩ := fs i' hff
      rw [hff] at stp
      rw [r5, List.map_cons, List.map_cons, List.sum_cons] at hu
      rw [r5, List.map_cons, List.flatMap_cons, List.map_cons, List.sum_cons]
      obtain ⟨p1, p2⟩ := pRw_of r2
      have hA : rA r = true := by have := r2; unfold pRw at this; rw [Bool.and_eq_true] at this; exact this.2
      by_cases q13 : fty T D d = 13
      · have hit := (VS_it hE.2.1 (List.mem_of_getElem? r1) hA p1 (show D[rF r]? = some d by rw [p2]; exact hd.1)).2.2
        rw [p2] at hit
        have hkc : rK r ∈ chN T D A n := chN_mem.mpr ⟨f, (chF_mem hg hM).mpr ⟨d, hd⟩, by unfold isT; rw [hd.1]; exact decide_eq_true q13, _, hit, by unfold itR; rw [if_pos q13]⟩
        obtain ⟨c1, c2, c3⟩ := hch _ hkc
        obtain ⟨τ, t1, t2, t3, t4, t5, t6, t7, t8⟩ := S_msg (U := U) hU4 hs hg hE hdp ht r1 r2 hd.1 hd.2.1 q13 c1 c2 c3
        have stp' : x_X12_encodeStep U 1101 σ = some τ := by rw [stp]; exact t1
        have ecI : cIt T D cst d (itR T D d r) = 1 + cst (rK r) := by unfold cIt itR; rw [if_pos q13, if_pos q13]
        rw [ecI] at hu ⊢
        obtain ⟨υ, U2, u1, u2, u3, u4, u5, u6⟩ := hrc _ hkc τ _ V t2 t3 (by omega)
        have T2 : TP υ dp n k (i' + 1) := ⟨u4, (u6 dp (by omega)).1.trans t4, (u6 dp (by omega)).2.2.trans t5, (u6 dp (by omega)).2.1.trans t6⟩
        obtain ⟨ω, U3, o1, o2, o3, o4, o5, o6⟩ := ih ((zR H).length - (i' + 1)) (by omega) (i' + 1) υ _ U2 (by omega) u3 T2 (by omega)
        refine ⟨ω, U3, by rw [L43_step ht hdp stp', u1, o1], by omega, ?_, o4, fP_trans t7 (fP_trans u5 o5), fun x hx => ⟨?_, ?_, ?_⟩⟩
        · have eI : eIt T D (eMf T D A z) d (itR T D d r) = tgB d 2 ++ (vB (lN (eMf T D A z (rK r)).length) ++ eMf T D A z (rK r)) := by
            unfold eIt lnB itR
            rw [q13, if_pos (show kdO 13 = 2 from rfl), if_pos rfl, if_pos rfl]
            try rfl
          rw [eI, wrL_app, wrL_app, wrL_app]
          exact o3
        · exact (o6 x hx).1.trans ((u6 x (by omega)).1.trans (t8 x hx).1)
        · exact (o6 x hx).2.1.trans ((u6 x (by omega)).2.1.trans (t8 x hx).2.1)
        · exact (o6 x hx).2.2.trans ((u6 x (by omega)).2.2.trans (t8 x hx).2.2)
      · obtain ⟨τ, t1, t2, t3, t4, t5⟩ := S_row (U := U) hU4 hs hg hE hO hdp ht r1 r2 hd.1 hd.2.1 q13
        have stp' : x_X12_encodeStep U 1101 σ = some τ := by rw [stp]; exact t1
        have ecI : cIt T D cst d (itR T D d r) = 1 := by unfold cIt; rw [if_neg q13]
        rw [ecI] at hu ⊢
        obtain ⟨ω, U3, o1, o2, o3, o4, o5, o6⟩ := ih ((zR H).length - (i' + 1)) (by omega) (i' + 1) τ _ V (by omega) t2 t3 (by omega)
        refine ⟨ω, U3, by rw [L43_step ht hdp stp', o1], by omega, by rw [wrL_app]; exact o3, o4, fP_trans t4 o5, fun x hx => ⟨?_, ?_, ?_⟩⟩
        · exact (o6 x hx).1.trans (t5 x hx).1
        · exact (o6 x hx).2.1.trans (t5 x hx).2.1
        · exact (o6 x hx).2.2.trans (t5 x hx).2.2
/-! ===== the reference encodes: a message ===== -/
def cFd (T : List Nat) (D : List Dc) (A : AV) (cst : Nat → Nat) (n f : Nat) : Nat := match D[f]? with
  | none => 0
  | some d => if dPa (lkC T D) T (wl T 701 0) D d then 1 else 1 + ((aE A n f).map (cIt T D cst d)).sum
theorem N_eflds {U s dp n : Nat} {T : List Nat} {D : List Dc} {A : AV} {H : Rh} {z : Nat → Nat} {cst : Nat → Nat} (hU4 : 4000 < U) (hs : s < 2) (hg : GSc T D) (hO : VO T D A) (hM : isM D (aN A n)) (hal : al T D A n = true) (hn : n < aC A) (hdp : dp < 20)
    (hch : ∀ m ∈ chN T D A n, al T D A m = true ∧ m < 400 ∧ (eMf T D A z m).length < 2 ^ 31)
    (hrc : ∀ m ∈ chN T D A n, ∀ (τ : SG) (w' : List Nat × Int32) (U1 : Nat), ES τ s T D A H z w' → TP τ (dp + 1) m 0 0 → cst m < U1 → EL U s T D A H z (dp + 1) w' (eMf T D A z m) (cst m) (fun υ => sI υ 1101 106 = nI (dp + 1)) U1 τ) : ∀ (j k : Nat) (σ : SG) (w : List Nat × Int32) (U1 : Nat), k + j = (chF D (aN A n)).length → ES σ s T D A H z w → TP σ dp n k 0 → (((chF D (aN A n)).drop k).map (cFd T D A cst n)).sum + 1 < U1 → EL U s T D A H z dp w (((chF D (aN A n)).drop k).flatMap (eFd T D A (eMf T D A z) n) ++ aU A n) ((((chF D (aN A n)).drop k).map (cFd T D A cst n)).sum + 1) (fun τ => sI τ 1101 106 = nI dp) U1 σ := by
  have hFl := chF_len (a := aN A n) hg.2.1
  intro j
  induction j with
  | zero =>
    intro k σ w U1 hk hE ht hu
    obtain ⟨V, rfl⟩ : ∃ V, U1 = V + 1 := ⟨U1 - 1, by omega⟩
    have h0 : (chF D (aN A n))[k]? = none := List.getElem?_eq_none (by omega)
    have stp := (N_estep (U := U) hU4 hs hg hE hM hn hdp (by omega) (Nat.zero_le _) ht).1 h0
    obtain ⟨τ, t1, t2, t3, t4, t5⟩ := S_end (U := U) hU4 hE hal hn hdp ht
    rw [List.drop_eq_nil_of_le (by omega), List.flatMap_nil, List.nil_append]
    exact ⟨τ, V, L43_step ht hdp (by rw [stp]; exact t1), by show V + 1 ≤ V + (0 + 1); omega, t2, t3, t4, fun j _ => t5 j⟩
  | succ j ih =>
    intro k σ w U1 hk hE ht hu
    have hkl : k < (chF D (aN A n)).length := by omega
    have hkf := List.getElem?_eq_getElem hkl
    obtain ⟨d, hd⟩ := (chF_mem hg hM).mp (List.getElem_mem hkl)
    rw [List.drop_eq_getElem_cons hkl, List.map_cons, List.sum_cons] at hu
    rw [List.drop_eq_getElem_cons hkl, List.map_cons, List.sum_cons, List.flatMap_cons, List.append_assoc]
    have ec : cFd T D A cst n (chF D (aN A n))[k] = if dPa (lkC T D) T (wl T 701 0) D d then 1 else 1 + ((aE A n (chF D (aN A n))[k]).map (cIt T D cst d)).sum := by unfold cFd; rw [hd.1]
    have ee : eFd T D A (eMf T D A z) n (chF D (aN A n))[k] = if dPa (lkC T D) T (wl T 701 0) D d then eRw T D d (aE A n (chF D (aN A n))[k]) else (aE A n (chF D (aN A n))[k]).flatMap (eIt T D (eMf T D A z) d) := by unfold eFd; rw [hd.1]
    -- this field
    have one : EL U s T D A H z dp w (eFd T D A (eMf T D A z) n (chF D (aN A n))[k]) (cFd T D A cst n (chF D (aN A n))[k]) (fun τ => TP τ dp n (k + 1) 0) U1 σ := by
      rw [ec] at hu
      rw [ee, ec]
      cases hpk : dPa (lkC T D) T (wl T 701 0) D d with
      | true =>
        obtain ⟨V, rfl⟩ : ∃ V, U1 = V + 1 := ⟨U1 - 1, by omega⟩
        rw [if_pos (show true = true from rfl), if_pos (show true = true from rfl)]
        have stp := ((N_estep (U := U) hU4 hs hg hE hM hn hdp (by omega) (Nat.zero_le _) ht).2 _ d hkf hd).2 hpk
        obtain ⟨τ, t1, t2, t3, t4, t5⟩ := S_pack (U := U) hU4 hs hg hE hO hal hn hdp ht hd hpk
        exact ⟨τ, V, L43_step ht hdp (by rw [stp]; exact t1), Nat.le_refl _, t2, t3, t4, t5⟩
      | false =>
        rw [hpk, if_neg (show ¬ false = true by decide)] at hu
        rw [if_neg (show ¬ false = true by decide), if_neg (show ¬ false = true by decide)]
        have hEf := (hE.2.1.2.2.2.2.2.2.1 n hal).1 _ d hd
        have key := N_erows (U := U) (cst := cst) hU4 hs hg hO hM hal hn hdp hkf hd hpk hch hrc (zR H).length 0 σ w U1 (by omega) hE ht (by rw [List.drop_zero, hEf]; omega)
        rw [List.drop_zero, hEf] at key
        exact key
    obtain ⟨τ, U2, t1, t2, t3, t4, t5, t6⟩ := one
    obtain ⟨υ, U3, u1, u2, u3, u4, u5, u6⟩ := ih (k + 1) τ _ U2 (by omega) t3 t4 (by omega)
    refine ⟨υ, U3, by rw [t1, u1], by omega, by rw [wrL_app]; exact u3, u4, fP_trans t5 u5, fun x hx => ⟨?_, ?_, ?_⟩⟩
    · exact (u6 x hx).1.trans (t6 x hx).1
    · exact (u6 x hx).2.1.trans (t6 x hx).2.1
    · exact (u6 x hx).2.2.trans (t6 x hx).2.2
/-! ===== the reference's encode ===== -/
theorem cFd_congr {T : List Nat} {D : List Dc} {A : AV} {c c' : Nat → Nat} {n f : Nat} (hf : f ∈ chF D (aN A n)) (h : ∀ k ∈ chN T D A n, c k = c' k) : cFd T D A c n f = cFd T D A c' n f := by
  unfold cFd
  cases hd : D[f]? with
  | none => rfl
  | some d =>
    simp only
    split
    · rfl
    · congr 2
      apply List.map_congr_left
      intro it hit
      unfold cIt
      by_cases q : fty T D d = 13
      · rw [if_pos q, if_pos q, h _ (chN_mem.mpr ⟨f, hf, by unfold isT; rw [hd]; exact decide_eq_true q, it, hit, rfl⟩)]
      · rw [if_neg q, if_neg q]
def cMs (T : List Nat) (D : List Dc) (A : AV) : Nat → Nat → Nat
  | 0, _ => 0
  | j + 1, n => ((chF D (aN A n)).map (cFd T D A (cMs T D A j) n)).sum + 1
def cMf (T : List Nat) (D : List Dc) (A : AV) (z : Nat → Nat) (n : Nat) : Nat := cMs T D A (21 - z n) n
theorem cMf_eq {T : List Nat} {D : List Dc} {A : AV} {z : Nat → Nat} (h : AW T D A z) {n : Nat} (hn : n < aC A) : cMf T D A z n = ((chF D (aN A n)).map (cFd T D A (cMf T D A z) n)).sum + 1 := by
  obtain ⟨a, b⟩ := h.2.2.1 n hn
  unfold cMf
  rw [show 21 - z n = (20 - z n) + 1 by omega, cMs]
  congr 2
  apply List.map_congr_left
  intro f hf
  apply cFd_congr hf
  intro k hk
  rw [(b k hk).2.2, show 21 - (z n + 1) = 20 - z n by omega]
theorem N_emsg {U s : Nat} {T : List Nat} {D : List Dc} {A : AV} {H : Rh} {z : Nat → Nat} (hU4 : 4000 < U) (hs : s < 2) (hg : GSc T D) (hK : AK T D A) (hZ : AW T D A z) (hc351 : aC A ≤ 351) (hb : (eMf T D A z 0).length ≤ 3900) : ∀ (j dp n : Nat) (σ : SG) (w : List Nat × Int32) (U1 : Nat), dp + j = 20 → z n = dp + 1 → al T D A n = true → ES σ s T D A H z w → TP σ dp n 0 0 → cMf T D A z n < U1 → EL U s T D A H z dp w (eMf T D A z n) (cMf T D A z n) (fun τ => sI τ 1101 106 = nI dp) U1 σ := by
  obtain ⟨hO, _, hM⟩ := hK
  have hlt : ∀ n, al T D A n = true → n < aC A := fun n hn => List.mem_range.mp ((alL_lt _).subset (of_decide_eq_true hn))
  intro j
  induction j with
  | zero =>
    intro dp n σ w U1 hj hz hal
    have := (hZ.2.2.1 n (hlt n hal)).1
    omega
  | succ j ih =>
    intro dp n σ w U1 hj hz hal hE ht hu
    have hn := hlt n hal
    rw [cMf_eq hZ hn] at hu ⊢
    rw [eMf_eq hZ hn]
    have key := N_eflds (U := U) (dp := dp) (cst := cMf T D A z) hU4 hs hg hO (hM n hn) hal hn (by omega) (fun m hm => by
      obtain ⟨a1, a2, a3⟩ := al_child hZ hal hm
      have := al_le hg hM hZ (m + 1) m (by omega) a1
      exact ⟨a1, by omega, by omega⟩) (fun m hm τ w' U1 hE' ht' hu' => by
      obtain ⟨a1, a2, a3⟩ := al_child hZ hal hm
      exact ih (dp + 1) m τ w' U1 (by omega) (by rw [((hZ.2.2.1 n hn).2 m hm).2.2, hz]) a1 hE' ht' hu') (chF D (aN A n)).length 0 σ w U1 (by omega) hE ht (by rw [List.drop_zero]; exact hu)
    rw [List.drop_zero] at key
    exact key
/-! ===== the reference's encode, whole ===== -/
def Penc (b k : Nat) : Prop := PEs b k ∨ (b = 1101 ∧ k = 5) ∨ b = 1163
theorem N_encode {U s : Nat} {σ : SG} {T : List Nat} {D : List Dc} {A : AV} {H : Rh} {z : Nat → Nat} (hU4 : 4000 < U) (hs : s < 2) (hg : GSc T D) (h79 : sI σ 1101 79 = 1) (hS : RS σ s T D) (hV : VS σ s T D A H) (hZ : AW T D A z) (hK : AK T D A) (hb : (eMf T D A z 0).length ≤ 3900) (hcU : cMf T D A z 0 + 1 < U) : ∃ τ, x_X12_encode U 1101 σ = some (nI (eMf T D A z 0).length, τ) ∧ ROr τ (eMf T D A z 0, 0) ∧ sI τ 1101 5 = 0 ∧ RS τ s T D ∧ VS τ s T D A H ∧ fP Penc σ τ := by
  unfold x_X12_encode x_X12_encode_17
  obtain ⟨σ2, a1, a2, a3⟩ := X12_emptyOut (σ := σ)
  have e79 : sI σ2 1101 79 = 1 := ((fw_I a3 (by decide) (by omega)).1).trans h79
  rw [a1, b1_eq, e79, if_neg (show ¬ (1 : Int32) = 0 by decide), sb_eq, sI_s, if_pos (show (0 : Int32) = 0 from rfl)]
  have S2 := RS_fw hS a3
  have V2 := VS_fw hV a3
  have F4 : fP (fun b k => b = 1101 ∧ k = 5) σ2 (uI σ2 1101 5 0) := fP_u ⟨rfl, rfl⟩
  have S4 : RS (uI σ2 1101 5 0) s T D := RS_keep S2 (fun b k hb => (F4 b k (by unfold PKP at hb; omega)).1)
  have V4 : VS (uI σ2 1101 5 0) s T D A H := VS_keep V2 (fun b k hb => ⟨(F4 b k (by omega)).1, (F4 b k (by omega)).2.1⟩)
  have R4 : ROr (uI σ2 1101 5 0) ([], 0) := ROr_uI a2 (by decide) (by decide)
  have c5 : sI (uI σ2 1101 5 0) 1101 5 = 0 := sI_s _ _ _ _
  generalize uI σ2 1101 5 0 = σ4 at *
  obtain ⟨σ7, m1, m2, m3⟩ := N_measure (U := U) hU4 hs hg S4 V4 hZ hK hb
  rw [m1, b1_eq, sb_eq]
  have E7 : ES σ7 s T D A H z ([], 0) := ⟨RS_keep S4 (fun b k hb => (m2 b k (by unfold PKP at hb; omega)).1), VS_keep V4 (fun b k hb => ⟨(m2 b k (by omega)).1, (m2 b k (by omega)).2.1⟩), m3, ⟨((m2 1101 3 (by decide)).1).trans R4.1, ((m2 1101 4 (by decide)).1).trans R4.2.1, fun i c hi => ((m2 1103 i (by omega)).1).trans (R4.2.2.1 i c hi), R4.2.2.2⟩⟩
  have E8 := ES_uI (b := 1101) (j := 106) (v := 0) E7 (by omega)
  have c106 : sI (uI σ7 1101 106 0) 1101 106 = 0 := sI_s _ _ _ _
  have F8 : fP PEs σ7 (uI σ7 1101 106 0) := fP_u (by unfold PEs; omega)
  generalize uI σ7 1101 106 0 = σ8 at *
  have c106' : sI σ8 1101 106 = nI 0 := c106
  unfold x_X12_goInto
  rw [c106', ix_in (by decide) (by decide), sb_eq, sI_o (Or.inl (by decide)), c106', ix_in (by decide) (by decide), sb_eq, sI_o (Or.inl (by decide)), sI_o (Or.inl (by decide)), c106', ix_in (by decide) (by decide), sb_eq, sb_eq, sI_o (Or.inl (by decide)), sI_o (Or.inl (by decide)), sI_o (Or.inl (by decide)), c106', b1_eq]
  have E9 : ES (uI (uI (uI (uI σ8 1176 0 0) 1179 0 0) 1178 0 0) 1101 106 (nI 0 + 1)) s T D A H z ([], 0) := ES_uI (ES_uI (ES_uI (ES_uI E8 (by omega)) (by omega)) (by omega)) (by omega)
  have T9 : TP (uI (uI (uI (uI σ8 1176 0 0) 1179 0 0) 1178 0 0) 1101 106 (nI 0 + 1)) 0 0 0 0 := ⟨rfl, rfl, rfl, rfl⟩
  have F9 : fP PEs σ8 (uI (uI (uI (uI σ8 1176 0 0) 1179 0 0) 1178 0 0) 1101 106 (nI 0 + 1)) := fP_trans (fP_trans (fP_trans (fP_u (by unfold PEs; omega)) (fP_u (by unfold PEs; omega))) (fP_u (by unfold PEs; omega))) (fP_u (by unfold PEs; omega))
  generalize (uI (uI (uI (uI σ8 1176 0 0) 1179 0 0) 1178 0 0) 1101 106 (nI 0 + 1)) = σ9 at *
  have hal0 : al T D A 0 = true := decide_eq_true ((alL_mem _ _ hZ.1).mpr (Or.inl rfl))
  obtain ⟨τ, U2, t1, t2, t3, t4, t5, t6⟩ := N_emsg (U := U) hU4 hs hg hK hZ hV.2.2.2.2.1.2.2.1 hb 20 0 0 σ9 ([], 0) U (by omega) hZ.2.1 hal0 E9 T9 (by omega)
  obtain ⟨V, rfl⟩ : ∃ V, U2 = V + 1 := ⟨U2 - 1, by omega⟩
  rw [wrL_fit _ _ (by show 0 + (eMf T D A z 0).length ≤ 4000; omega)] at t3
  have R9 : ROr τ (eMf T D A z 0, 0) := t3.2.2.2
  rw [t1, x_X12_encode_L43, t4, if_neg (show ¬ (0 : Int32) < nI 0 by decide), R9.1]
  have FA : fP Penc σ4 τ := fP_trans (fP_mono m2 (fun b k y => Or.inr (Or.inr y))) (fP_mono (fP_trans F8 (fP_trans F9 t5)) (fun b k y => Or.inl y))
  refine ⟨τ, rfl, R9, ?_, t3.1, t3.2.1, fP_trans (fP_mono (fw_PEs a3) (fun b k y => Or.inl y)) (fP_trans (fP_mono F4 (fun b k y => Or.inr (Or.inl y))) FA)⟩
  have := ((t5 1101 5 (by unfold PEs; omega)).1).trans (((F9 1101 5 (by unfold PEs; omega)).1).trans (((F8 1101 5 (by unfold PEs; omega)).1).trans ((m2 1101 5 (by decide)).1)))
  exact this.trans c5
theorem N_encode_no {U : Nat} {σ : SG} (h79 : sI σ 1101 79 = 0) : ∃ τ, x_X12_encode U 1101 σ = some (0, τ) ∧ ROr τ ([], 0) ∧ sI τ 1101 5 = 1 ∧ fP Penc σ τ := by
  unfold x_X12_encode x_X12_encode_17
  obtain ⟨σ2, a1, a2, a3⟩ := X12_emptyOut (σ := σ)
  have e79 : sI σ2 1101 79 = 0 := ((fw_I a3 (by decide) (by omega)).1).trans h79
  rw [a1, b1_eq, e79, if_pos (show (0 : Int32) = 0 from rfl), sb_eq, sI_s, if_neg (show ¬ (1 : Int32) = 0 by decide)]
  exact ⟨_, rfl, ROr_uI a2 (by decide) (by decide), sI_s _ _ _ _, fP_trans (fP_mono (fw_PEs a3) (fun b k y => Or.inl y)) (fP_u (Or.inr (Or.inl ⟨rfl, rfl⟩)))⟩
/-! ===== what encoding costs the reference ===== -/
def wC (D : List Dc) (A : AV) (n : Nat) : Nat := (its D A n).length + ((chF D (aN A n)).length + 1)
theorem cFd_le {T : List Nat} {D : List Dc} {A : AV} {cst : Nat → Nat} {n f : Nat} : cFd T D A cst n f ≤ 1 + ((aE A n f).map (fun it => 1 + if isT T D f then cst it.2.2 else 0)).sum := by
  unfold cFd
  cases hd : D[f]? with
  | none => exact Nat.zero_le _
  | some d =>
    have hT : isT T D f = decide (fty T D d = 13) := by unfold isT; rw [hd]
    simp only
    split
    · omega
    · apply Nat.add_le_add_left
      apply sum_le
      intro it _
      unfold cIt
      rw [hT]
      by_cases q : fty T D d = 13
      · rw [if_pos q, decide_eq_true q, if_pos rfl]; exact Nat.le_refl _
      · rw [if_neg q, decide_eq_false q, if_neg (by decide)]; exact Nat.le_refl _
theorem cMf_le {T : List Nat} {D : List Dc} {A : AV} {z : Nat → Nat} (h : AW T D A z) : ∀ (j n : Nat), n < aC A → z n + j = 21 → cMf T D A z n ≤ twf T D A (wC D A) z n := by
  intro j
  induction j with
  | zero => intro n hn hz; have := (h.2.2.1 n hn).1; omega
  | succ j ih =>
    intro n hn hz
    rw [cMf_eq h hn, twf_eq h hn]
    have h1 := sum_le (f := cFd T D A (cMf T D A z) n) (g := fun f => 1 + ((aE A n f).map (fun it => 1 + if isT T D f then cMf T D A z it.2.2 else 0)).sum) (chF D (aN A n)) (fun f _ => cFd_le)
    have h0 : ((chF D (aN A n)).map (fun f => 1 + ((aE A n f).map (fun it => 1 + if isT T D f then cMf T D A z it.2.2 else 0)).sum)).sum = (chF D (aN A n)).length + ((its D A n).length + ((chN T D A n).map (cMf T D A z)).sum) := by
      rw [sum_add, sum_its (h := cMf T D A z)]
      congr 1
      generalize chF D (aN A n) = F
      induction F with
      | nil => rfl
      | cons a F ih => rw [List.map_cons, List.sum_cons, ih, List.length_cons]; omega
    have h3 : ((chN T D A n).map (cMf T D A z)).sum ≤ ((chN T D A n).map (twf T D A (wC D A) z)).sum := sum_le _ (fun c hc => by
      obtain ⟨_, b⟩ := h.2.2.1 n hn
      obtain ⟨b1, b2, b3⟩ := b c hc
      exact ih c b2 (by omega))
    have e0 : wC D A n = (its D A n).length + ((chF D (aN A n)).length + 1) := rfl
    omega
theorem e_cost {T : List Nat} {D : List Dc} {A : AV} {z : Nat → Nat} (hg : GSc T D) (h : AW T D A z) (hc : aC A ≤ 351) (hv : nV T D A ≤ 200) : cMf T D A z 0 + 1 < 70000 := by
  have h1 := cMf_le h 20 0 h.1 (by rw [h.2.1])
  rw [tw_al h] at h1
  have h2 : ((alL T D A (aC A)).map (wC D A)).sum = nV T D A + ((alL T D A (aC A)).map (fun n => (chF D (aN A n)).length + 1)).sum := by
    unfold nV wC
    exact sum_add _ _ _
  have h3 : ∀ (L : List Nat), (L.map (fun n => (chF D (aN A n)).length + 1)).sum ≤ 181 * L.length := by
    intro L
    induction L with
    | nil => exact Nat.le_refl _
    | cons n L ih =>
      rw [List.map_cons, List.sum_cons, List.length_cons]
      have := chF_len (a := aN A n) hg.2.1
      omega
  have h4 := h3 (alL T D A (aC A))
  have h5 := (alL_lt (T := T) (D := D) (A := A) (aC A)).length_le
  rw [List.length_range] at h5
  omega
/-! ===== print: what is written, and the class's small writers ===== -/
/-- only OUT and the digits are touched -/
def fp3 (σ τ : SG) : Prop := ∀ b, b ≠ 3 → b ≠ 4 → b ≠ 1096 → sm σ τ b
theorem fp3_refl (σ : SG) : fp3 σ σ := fun b _ _ _ => sm_refl σ b
theorem fp3_trans {σ τ υ : SG} (h : fp3 σ τ) (h' : fp3 τ υ) : fp3 σ υ := fun b h1 h2 h3 => sm_trans (h b h1 h2 h3) (h' b h1 h2 h3)
theorem fb_fp3 {σ τ : SG} (h : fb 3 σ τ) : fp3 σ τ := fun b h1 h2 _ => h b h1 h2
/-- the writer x adds the bytes B -/
def WR (w : List Nat × Int32) (B : List Nat) (σ : SG) (x : Option SG) : Prop := ∃ τ, x = some τ ∧ RW τ 3 (wrL 4000 w B) ∧ fp3 σ τ
theorem WR_b1 {w : List Nat × Int32} {B C : List Nat} {σ : SG} {x : Option SG} {k : SG → Option SG} (h : WR w B σ x) (hk : ∀ τ, RW τ 3 (wrL 4000 w B) → fp3 σ τ → WR (wrL 4000 w B) C τ (k τ)) : WR w (B ++ C) σ (b1 x k) := by
  obtain ⟨τ, t1, t2, t3⟩ := h
  obtain ⟨υ, u1, u2, u3⟩ := hk τ t2 t3
  rw [t1, b1_eq]
  exact ⟨υ, u1, by rw [wrL_app]; exact u2, fp3_trans t3 u3⟩
theorem WR_id {w : List Nat × Int32} {B : List Nat} {σ : SG} {x : Option SG} (h : WR w B σ x) : WR w B σ (b1 x fun τ => some τ) := by rw [b1_id]; exact h
theorem W_add {w : List Nat × Int32} {σ : SG} {x : Int32} (h : RW σ 3 w) : WR w [lo8 x] σ (x_X0_add 3 x σ) := by
  obtain ⟨τ, t1, t2, t3⟩ := X0_addW (x := x) h
  rw [ln4] at t2
  exact ⟨τ, t1, t2, fb_fp3 t3⟩
theorem W_addc {w : List Nat × Int32} {σ : SG} {c : Nat} (hc : c < 256) (h : RW σ 3 w) : WR w [c] σ (x_X0_add 3 (nI c) σ) := by
  have := W_add (x := nI c) h
  rw [lo8_nI hc] at this
  exact this
theorem W_text_L {U k : Nat} (hk : k < 24) : ∀ (j n U1 : Nat) (σ : SG) (w : List Nat × Int32), n + j = tlen k → j < U1 → RW σ 3 w → WR w ((tby.getD k []).drop n) σ (x_X0_addText_L2 U 3 k U1 (nI n) σ) := by
  have htl := tlen_le k
  have h256 : ∀ c ∈ tby.getD k [], c < 256 := (by decide +kernel : ∀ k, k < 24 → ∀ c ∈ tby.getD k [], c < 256) k hk
  intro j
  induction j with
  | zero =>
    intro n U1 σ w hn hu hw
    obtain ⟨V, rfl⟩ : ∃ V, U1 = V + 1 := ⟨U1 - 1, by omega⟩
    rw [x_X0_addText_L2, if_neg (fun z => by have := (ltI (by omega) (by omega)).mp z; omega), List.drop_eq_nil_of_le (by show tlen k ≤ n; omega)]
    exact ⟨σ, rfl, hw, fp3_refl σ⟩
  | succ j ih =>
    intro n U1 σ w hn hu hw
    obtain ⟨V, rfl⟩ : ∃ V, U1 = V + 1 := ⟨U1 - 1, by omega⟩
    have hcl : n < (tby.getD k []).length := by show n < tlen k; omega
    have htc : tchr k n = nI (tby.getD k [])[n] := by
      unfold tchr; rw [List.getD_eq_getElem?_getD (l := tby.getD k []), List.getElem?_eq_getElem hcl]; try rfl
    rw [x_X0_addText_L2, if_pos ((ltI (by omega) (by omega)).mpr (by omega)), ix_in (by omega) (by omega), htc, List.drop_eq_getElem_cons hcl]
    refine WR_b1 (B := [(tby.getD k [])[n]]) (W_addc (h256 _ (List.getElem_mem hcl)) hw) (fun τ t2 t3 => ?_)
    rw [nI_1]
    exact ih (n + 1) V τ _ (by omega) (by omega) t2
theorem W_text {U k : Nat} {σ : SG} {w : List Nat × Int32} (hU4 : 4000 < U) (hk : k < 24) (hw : RW σ 3 w) : WR w (tby.getD k []) σ (x_X0_addText U 3 k σ) := by
  have htl := tlen_le k
  have := W_text_L (U := U) hk (tlen k) 0 U σ w (by omega) (by omega) hw
  exact this
theorem t14 : tby.getD 14 [] = [32, 32] := by decide
theorem t15 : tby.getD 15 [] = [32, 123, 10] := by decide
theorem t16 : tby.getD 16 [] = [125, 10] := by decide
theorem t17 : tby.getD 17 [] = [58, 32] := by decide
theorem t18 : tby.getD 18 [] = [116, 114, 117, 101] := by decide
theorem t19 : tby.getD 19 [] = [102, 97, 108, 115, 101] := by decide
/-- blanks in front of a line -/
def inB (dp : Nat) : List Nat := List.replicate (2 * (dp - 1)) 32
theorem W_ind_L {U dp : Nat} (hU4 : 4000 < U) (hd : dp ≤ 100) : ∀ (j n U1 : Nat) (σ : SG) (w : List Nat × Int32), n + j = dp → j < U1 → RW σ 3 w → WR w (List.replicate (2 * j) 32) σ (x_X7_writeIndent_L2 U 1095 (nI dp) U1 (nI n) σ) := by
  intro j
  induction j with
  | zero =>
    intro n U1 σ w hn hu hw
    obtain ⟨V, rfl⟩ : ∃ V, U1 = V + 1 := ⟨U1 - 1, by omega⟩
    rw [x_X7_writeIndent_L2, if_neg (fun z => by have := (ltI (by omega) (by omega)).mp z; omega)]
    exact ⟨σ, rfl, hw, fp3_refl σ⟩
  | succ j ih =>
    intro n U1 σ w hn hu hw
    obtain ⟨V, rfl⟩ : ∃ V, U1 = V + 1 := ⟨U1 - 1, by omega⟩
    rw [x_X7_writeIndent_L2, if_pos ((ltI (by omega) (by omega)).mpr (by omega)), show 2 * (j + 1) = 2 + 2 * j by omega, ← List.replicate_append_replicate]
    have h1 := W_text (k := 14) hU4 (by decide) hw
    rw [t14] at h1
    refine WR_b1 (B := [32, 32]) h1 (fun τ t2 t3 => ?_)
    rw [nI_1]
    exact ih (n + 1) V τ _ (by omega) (by omega) t2
theorem W_ind {U dp : Nat} {σ : SG} {w : List Nat × Int32} (hU4 : 4000 < U) (h1 : 1 ≤ dp) (hd : dp ≤ 100) (hw : RW σ 3 w) : WR w (inB dp) σ (x_X7_writeIndent U 1095 (nI dp) σ) := by
  have := W_ind_L (U := U) hU4 hd (dp - 1) 1 U σ w (by omega) (by omega) hw
  exact this
/-- the digits of a number, the last one first -/
def dgN : Nat → Nat → List Nat
  | 0, _ => []
  | j + 1, u => (u % 10) :: (if u / 10 = 0 then [] else dgN j (u / 10))
theorem dgN_len : ∀ j u, (dgN j u).length ≤ j
  | 0, _ => Nat.le_refl _
  | j + 1, u => by
    rw [dgN, List.length_cons]
    split
    · simp
    · have := dgN_len j (u / 10); omega
theorem dgN_lt : ∀ j u, ∀ c ∈ dgN j u, c < 10
  | 0, _ => fun c hc => by cases hc
  | j + 1, u => fun c hc => by
    rw [dgN] at hc
    rcases List.mem_cons.mp hc with z | z
    · omega
    · split at z
      · cases z
      · exact dgN_lt j _ c z
def dcB (x : Int64) : List Nat := ((dgN 20 (uN x)).map (fun c => 48 + c)).reverse
theorem half5 {u : Nat} (h : u < 2 ^ 64) : (lush (lN u) 1) / 5 = lN (u / 10) := by
  have e : lush (lN u) 1 = lN (u / 2) := by
    apply Int64.toBitVec_inj.mp
    have := lush_bv (lN u) (k := 1) (by decide)
    have e : lush (lN u) 1 = lush (lN u) (nI 1) := rfl
    rw [e, this, lN_bv, lN_bv]
    apply BitVec.eq_of_toNat_eq
    rw [BitVec.toNat_ushiftRight, BitVec.toNat_ofNat, BitVec.toNat_ofNat, Nat.mod_eq_of_lt h, Nat.mod_eq_of_lt (by omega), Nat.shiftRight_eq_div_pow]
  rw [e]
  have e2 : (lN (u / 2)).toInt = (u / 2 : Nat) := by
    show (lN (u / 2)).toBitVec.toInt = _
    rw [lN_bv, BitVec.toInt_ofNat']
    rw [Int.bmod_eq_of_le (by omega) (by omega)]
  have e3 : (lN (u / 10)).toInt = (u / 10 : Nat) := by
    show (lN (u / 10)).toBitVec.toInt = _
    rw [lN_bv, BitVec.toInt_ofNat']
    rw [Int.bmod_eq_of_le (by omega) (by omega)]
  apply Int64.toInt_inj.mp
  rw [Int64.toInt_div, e2, e3]
  have : (5 : Int64).toInt = 5 := by decide
  rw [this]
  have h5 : Int.tdiv ((u / 2 : Nat) : Int) 5 = ((u / 10 : Nat) : Int) := by
    rw [Int.tdiv_eq_ediv_of_nonneg (by omega)]
    omega
  rw [h5, Int.bmod_eq_of_le (by omega) (by omega)]
theorem digN {u : Nat} (h : u < 2 ^ 64) : Int64.toInt32 (lN u - lN (u / 10) * 10) = nI (u % 10) := by
  have e : lN u - lN (u / 10) * 10 = lN (u % 10) := by
    apply Int64.toBitVec_inj.mp
    rw [Int64.toBitVec_sub, Int64.toBitVec_mul, lN_bv, lN_bv, lN_bv, show Int64.toBitVec 10 = BitVec.ofNat 64 10 from rfl]
    apply BitVec.eq_of_toNat_eq
    rw [BitVec.toNat_sub, BitVec.toNat_mul, BitVec.toNat_ofNat, BitVec.toNat_ofNat, BitVec.toNat_ofNat, BitVec.toNat_ofNat]
    omega
  rw [e]
  exact (by decide +kernel : ∀ m, m < 10 → Int64.toInt32 (lN m) = nI m) _ (by omega)
/-! ===== the class prints numbers and texts ===== -/
theorem RI_app {σ : SG} {r : Nat} {K : List Nat} {c : Nat} {v : Int32} (h : RI σ r K) (hv : v = nI c) : RI (uI σ r K.length v) r (K ++ [c]) := by
  intro i x hi
  rcases Nat.lt_or_ge i K.length with q | q
  · rw [List.getElem?_append_left q] at hi
    rw [sI_o (Or.inr (by omega))]
    exact h i x hi
  · have hl := (List.getElem?_eq_some_iff.mp hi).1
    rw [List.length_append, List.length_singleton] at hl
    have : i = K.length := by omega
    subst this
    rw [List.getElem?_append_right (Nat.le_refl _), Nat.sub_self] at hi
    cases hi
    rw [sI_s, hv]
theorem C_dec_L {U : Nat} {k63 : Int32 → SG → Option SG} : ∀ (j u U1 : Nat) (K : List Nat) (σ : SG), K.length + j = 20 → 1 ≤ j → u < 10 ^ j → u < 2 ^ 64 → j < U1 → RI σ 1096 K → ∃ τ, x_X7_writeDecimal_L5 U 1095 k63 U1 (lN u) (nI K.length) σ = k63 (nI (K ++ dgN j u).length) τ ∧ RI τ 1096 (K ++ dgN j u) ∧ ∀ b, b ≠ 1096 → sm σ τ b := by
  intro j
  induction j with
  | zero => intro u U1 K σ _ h; omega
  | succ j ih =>
    intro u U1 K σ hK _ hu hu6 hU hR
    obtain ⟨V, rfl⟩ : ∃ V, U1 = V + 1 := ⟨U1 - 1, by omega⟩
    have e20 : nI K.length < 20 := (ltI (b := 20) (by omega) (by decide)).mpr (by omega)
    have hd : vp_nar .byte (i2b (nI (u % 10))) = nI (u % 10) := (by decide +kernel : ∀ m, m < 10 → vp_nar .byte (i2b (nI m)) = nI m) _ (by omega)
    have hlt : u / 10 < 2 ^ 64 := by omega
    have R1 := RI_app (c := u % 10) (v := nI (u % 10)) hR rfl
    have S1 : ∀ b, b ≠ 1096 → sm σ (uI σ 1096 K.length (nI (u % 10))) b := fun b hb => sm_uI hb
    rw [x_X7_writeDecimal_L5, if_pos e20, ix_in (by omega) (by decide), half5 hu6, digN hu6, hd, sb_eq, nI_1, dgN]
    unfold x_X7_writeDecimal_44
    rw [ifd (lN_zero hlt)]
    by_cases q : u / 10 = 0
    · rw [if_pos q, if_pos q]
      exact ⟨_, by rw [List.length_append, List.length_singleton], R1, S1⟩
    · rw [if_neg q, if_neg q]
      have hj : 1 ≤ j := by
        rcases Nat.eq_zero_or_pos j with z | z
        · subst z; omega
        · exact z
      have e20' : nI (K.length + 1) < 20 := (ltI (b := 20) (by omega) (by decide)).mpr (by omega)
      rw [if_pos e20']
      have hu' : u / 10 < 10 ^ j := by
        rw [Nat.pow_succ] at hu
        exact Nat.div_lt_of_lt_mul (by rw [Nat.mul_comm]; exact hu)
      obtain ⟨τ, t1, t2, t3⟩ := ih (u / 10) V (K ++ [u % 10]) _ (by rw [List.length_append, List.length_singleton]; omega) hj hu' hlt (by omega) R1
      rw [List.length_append, List.length_singleton] at t1
      have e : K ++ [u % 10] ++ dgN j (u / 10) = K ++ u % 10 :: dgN j (u / 10) := by rw [List.append_assoc]; try rfl
      rw [e] at t1 t2
      exact ⟨τ, t1, t2, fun b hb => sm_trans (S1 b hb) (t3 b hb)⟩
/-- a writer that touches OUT alone -/
def WB (w : List Nat × Int32) (B : List Nat) (σ : SG) (x : Option SG) : Prop := ∃ τ, x = some τ ∧ RW τ 3 (wrL 4000 w B) ∧ fb 3 σ τ
theorem WB_WR {w : List Nat × Int32} {B : List Nat} {σ : SG} {x : Option SG} (h : WB w B σ x) : WR w B σ x := by
  obtain ⟨τ, t1, t2, t3⟩ := h
  exact ⟨τ, t1, t2, fb_fp3 t3⟩
theorem WB_addc {w : List Nat × Int32} {σ : SG} {c : Nat} (hc : c < 256) (h : RW σ 3 w) : WB w [c] σ (x_X0_add 3 (nI c) σ) := by
  obtain ⟨τ, t1, t2, t3⟩ := X0_addW (x := nI c) h
  rw [ln4, lo8_nI hc] at t2
  exact ⟨τ, t1, t2, t3⟩
theorem WB_b1 {w : List Nat × Int32} {B C : List Nat} {σ : SG} {x : Option SG} {k : SG → Option SG} (h : WB w B σ x) (hk : ∀ τ, RW τ 3 (wrL 4000 w B) → fb 3 σ τ → WB (wrL 4000 w B) C τ (k τ)) : WB w (B ++ C) σ (b1 x k) := by
  obtain ⟨τ, t1, t2, t3⟩ := h
  obtain ⟨υ, u1, u2, u3⟩ := hk τ t2 t3
  rw [t1, b1_eq]
  exact ⟨υ, u1, by rw [wrL_app]; exact u2, fb_trans t3 u3⟩
theorem C_dec_W {U : Nat} : ∀ (n U1 : Nat) (K : List Nat) (σ : SG) (w : List Nat × Int32), K.length = n → n ≤ 20 → n < U1 → (∀ c ∈ K, c < 10) → RI σ 1096 K → RW σ 3 w → WB w (K.map (fun c => 48 + c)).reverse σ (x_X7_writeDecimal_L69 U 1095 U1 (nI n - 1) σ) := by
  intro n
  induction n with
  | zero =>
    intro U1 K σ w hK _ hU _ hR hw
    obtain ⟨V, rfl⟩ : ∃ V, U1 = V + 1 := ⟨U1 - 1, by omega⟩
    have : K = [] := List.length_eq_zero_iff.mp hK
    subst this
    rw [x_X7_writeDecimal_L69, if_pos (by decide)]
    exact ⟨σ, rfl, hw, fb_refl _ σ⟩
  | succ n ih =>
    intro U1 K σ w hK hn hU hlt hR hw
    obtain ⟨V, rfl⟩ : ∃ V, U1 = V + 1 := ⟨U1 - 1, by omega⟩
    have hne : K ≠ [] := fun z => by rw [z] at hK; cases hK
    obtain ⟨K', c, rfl⟩ : ∃ K' c, K = K' ++ [c] := ⟨K.dropLast, K.getLast hne, (List.dropLast_concat_getLast hne).symm⟩
    rw [List.length_append, List.length_singleton] at hK
    have hl : K'.length = n := by omega
    have hc := hlt c (by simp)
    have e1 : nI (n + 1) - 1 = nI n := nI_sub (b := 1) (by omega)
    have hrd : sI σ 1096 n = nI c := hR n c (by rw [List.getElem?_append_right (by omega), hl, Nat.sub_self]; rfl)
    have e48 : (48 : Int32) + nI c = nI (48 + c) := nI_add 48 c
    rw [x_X7_writeDecimal_L69, e1, if_neg (nI_neg (by omega)), if_pos (show nI n < 20 from (ltI (b := 20) (by omega) (by decide)).mpr (by omega)), ix_in (by omega) (by decide), hrd, e48, List.map_append, List.reverse_append]
    refine WB_b1 (B := [48 + c]) (WB_addc (by omega) hw) (fun τ t2 t3 => ?_)
    refine ih V K' τ _ hl (by omega) (by omega) (fun x hx => hlt x (List.mem_append_left _ hx)) (fun i x hi => ?_) t2
    rw [(t3 1096 (by decide) (by decide) i).1]
    exact hR i x (by rw [List.getElem?_append_left (List.getElem?_eq_some_iff.mp hi).1]; exact hi)
theorem C_dec {U : Nat} {σ : SG} {w : List Nat × Int32} {x : Int64} (hU4 : 4000 < U) (hw : RW σ 3 w) : WR w (dcB x) σ (x_X7_writeDecimal U 1095 x σ) := by
  unfold x_X7_writeDecimal
  obtain ⟨τ, t1, t2, t3⟩ := C_dec_L (U := U) (k63 := fun w10 σ11 => x_X7_writeDecimal_63 U 1095 w10 σ11) 20 (uN x) U [] σ rfl (by decide) (Nat.lt_trans (uN_lt x) (by decide)) (uN_lt x) (by omega) (fun i c hi => by simp at hi)
  rw [lN_uN] at t1
  have t1' : x_X7_writeDecimal_L5 U 1095 (fun w10 σ11 => x_X7_writeDecimal_63 U 1095 w10 σ11) U x 0 σ = _ := t1
  rw [t1']
  rw [List.nil_append] at t2 ⊢
  have hl := dgN_len 20 (uN x)
  have hw' : RW τ 3 w := RB.sm hw (t3 3 (by decide)) (t3 4 (by decide))
  obtain ⟨υ, u1, u2, u3⟩ := C_dec_W (U := U) (dgN 20 (uN x)).length U _ τ w rfl hl (by omega) (dgN_lt 20 _) t2 hw'
  exact ⟨υ, u1, u2, fun b h1 h2 h3 => sm_trans (t3 b h3) (u3 b h1 h2)⟩
/-- a byte of a text -/
def esB (c : Nat) : List Nat := if c = 10 then [92, 110] else if c = 13 then [92, 114] else if c = 9 then [92, 116] else if c = 34 then [92, 34] else if c = 92 then [92, 92] else if c < 32 ∨ 126 < c then [92, 48 + c / 64, 48 + c / 8 % 8, 48 + c % 8] else [c]
def txB (t : List Nat) : List Nat := 34 :: (t.flatMap esB ++ [34])
theorem oct6 : ∀ c, c < 256 → (48 : Int32) + ((iush (nI c) 6) &&& 7) = nI (48 + c / 64) := by decide +kernel
theorem oct3 : ∀ c, c < 256 → (48 : Int32) + ((iush (nI c) 3) &&& 7) = nI (48 + c / 8 % 8) := by decide +kernel
theorem oct0 : ∀ c, c < 256 → (48 : Int32) + ((nI c) &&& 7) = nI (48 + c % 8) := by decide +kernel
theorem C_txc {U c : Nat} {σ : SG} {w : List Nat × Int32} (hU4 : 4000 < U) (hc : c < 256) (hw : RW σ 3 w) : WB w (esB c) σ (x_X7_writeTextByte U 1095 (nI c) σ) := by
  unfold x_X7_writeTextByte
  generalize hk64 : x_X7_writeTextByte_64 U 1095 (nI c) σ = k64
  have two : ∀ (y : Nat) (j : Nat), y < 256 → j < 6 → tchr 10 j = nI y → WB w [92, y] σ (b1 (x_X0_add 3 92 σ) fun σ11 => ix (nI j) (tlen 10) fun j12 => b1 (x_X0_add 3 (tchr 10 j12) σ11) fun σ17 => some σ17) := by
    intro y j hy hj ht
    refine WB_b1 (B := [92]) (WB_addc (c := 92) (by decide) hw) (fun τ t2 t3 => ?_)
    rw [show tlen 10 = 6 from by decide, ix_in hj (by decide), ht, b1_id]
    exact WB_addc hy t2
  obtain ⟨V, hV⟩ : ∃ V, U = V + 6 := ⟨U - 6, by omega⟩
  have go : ∀ (k35 : Int32 → Option SG), (c = 10 → WB w (esB c) σ (k35 (nI 0))) → (c = 13 → WB w (esB c) σ (k35 (nI 1))) → (c = 9 → WB w (esB c) σ (k35 (nI 2))) → (c = 34 → WB w (esB c) σ (k35 (nI 3))) → (c = 92 → WB w (esB c) σ (k35 (nI 4))) → (c ≠ 10 → c ≠ 13 → c ≠ 9 → c ≠ 34 → c ≠ 92 → WB w (esB c) σ k64) → WB w (esB c) σ (x_X7_writeTextByte_L2 U 1095 k35 k64 (nI c) σ (V + 6) (nI 0)) := by
    intro k35 g0 g1 g2 g3 g4 g5
    have step : ∀ (j W e : Nat), j < 5 → tchr 11 j = nI e → e < 256 → (c = e → WB w (esB c) σ (k35 (nI j))) → (c ≠ e → WB w (esB c) σ (x_X7_writeTextByte_L2 U 1095 k35 k64 (nI c) σ W (nI (j + 1)))) → WB w (esB c) σ (x_X7_writeTextByte_L2 U 1095 k35 k64 (nI c) σ (W + 1) (nI j)) := by
      intro j W e hj ht he h1 h2
      rw [x_X7_writeTextByte_L2, if_pos (show nI j < 5 from (ltI (b := 5) (by omega) (by decide)).mpr hj), show tlen 11 = 6 from by decide, show tlen 10 = 6 from by decide, if_pos ((ltI (by omega) (by decide)).mpr (by omega)), if_pos ((ltI (by omega) (by decide)).mpr (by omega)), ix_in (by omega) (by decide), ht, nI_1]
      by_cases q : c = e
      · rw [if_pos (by rw [q])]; exact h1 q
      · rw [if_neg (fun z => q ((nI_eq (by omega) (by omega)).mp z).symm)]; exact h2 q
    refine step 0 (V + 5) 10 (by decide) (by decide) (by decide) g0 (fun n0 => ?_)
    refine step 1 (V + 4) 13 (by decide) (by decide) (by decide) g1 (fun n1 => ?_)
    refine step 2 (V + 3) 9 (by decide) (by decide) (by decide) g2 (fun n2 => ?_)
    refine step 3 (V + 2) 34 (by decide) (by decide) (by decide) g3 (fun n3 => ?_)
    refine step 4 (V + 1) 92 (by decide) (by decide) (by decide) g4 (fun n4 => ?_)
    rw [x_X7_writeTextByte_L2, if_neg (show ¬ nI 5 < 5 by decide)]
    exact g5 n0 n1 n2 n3 n4
  have := go (fun w9 => b1 (x_X0_add 3 92 σ) fun σ11 => ix w9 (tlen 10) fun j12 => b1 (x_X0_add 3 (tchr 10 j12) σ11) fun σ17 => some σ17)
    (fun q => by rw [q]; exact two 110 0 (by decide) (by decide) (by decide)) (fun q => by rw [q]; exact two 114 1 (by decide) (by decide) (by decide)) (fun q => by rw [q]; exact two 116 2 (by decide) (by decide) (by decide)) (fun q => by rw [q]; exact two 34 3 (by decide) (by decide) (by decide)) (fun q => by rw [q]; exact two 92 4 (by decide) (by decide) (by decide)) (fun n0 n1 n2 n3 n4 => by
      rw [← hk64]
      unfold esB
      rw [if_neg n0, if_neg n1, if_neg n2, if_neg n3, if_neg n4]
      unfold x_X7_writeTextByte_64
      have e32 : nI c < 32 ↔ c < 32 := ltI (b := 32) (by omega) (by decide)
      have e126 : (126 : Int32) < nI c ↔ 126 < c := ltI (a := 126) (by decide) (by omega)
      rw [ifd e32, ifd e126]
      have o : WB w [92, 48 + c / 64, 48 + c / 8 % 8, 48 + c % 8] σ (x_X7_writeTextByte_85 U 1095 (nI c) σ) := by
        unfold x_X7_writeTextByte_85
        refine WB_b1 (B := [92]) (WB_addc (c := 92) (by decide) hw) (fun τ t2 t3 => ?_)
        rw [oct6 c hc]
        refine WB_b1 (B := [48 + c / 64]) (WB_addc (by omega) t2) (fun τ t2 t3 => ?_)
        rw [oct3 c hc]
        refine WB_b1 (B := [48 + c / 8 % 8]) (WB_addc (by omega) t2) (fun τ t2 t3 => ?_)
        rw [oct0 c hc, b1_id]
        exact WB_addc (by omega) t2
      by_cases q1 : c < 32
      · rw [if_pos q1, if_pos (Or.inl q1)]; exact o
      rw [if_neg q1]
      by_cases q2 : 126 < c
      · rw [if_pos q2, if_pos (Or.inr q2)]; exact o
      rw [if_neg q2, if_neg (fun z => z.elim q1 q2), b1_id]
      exact WB_addc hc hw)
  rw [← hV] at this
  exact this
theorem C_ptxt_L {U p b : Nat} {K : SG → Option SG} {P C : List Nat} (hU4 : 4000 < U) (hsh : sh p = 4) (hp3 : p ≠ 3) (hp4 : p ≠ 4) (hb : b ≤ P.length) (hP8 : ok8 P) (hPl : P.length ≤ 4000) (hK : ∀ τ w', RW τ 3 w' → WB w' C τ (K τ)) : ∀ (j k U1 : Nat) (σ : SG) (w : List Nat × Int32), k + j = b → j < U1 → sI σ p 6 = nI b → RB σ 1092 P 0 → RW σ 3 w → WB w ((slc P k b).flatMap esB ++ C) σ (x_X7_writeText_L14 U 1095 K (some p) U1 (nI k) σ) := by
  intro j
  induction j with
  | zero =>
    intro k U1 σ w hk hu h6 hP hw
    obtain ⟨V, rfl⟩ : ∃ V, U1 = V + 1 := ⟨U1 - 1, by omega⟩
    rw [x_X7_writeText_L14, ck_eq hsh, h6, if_neg (fun z => by have := (ltI (by omega) (by omega)).mp z; omega)]
    have : slc P k b = [] := by unfold slc; rw [show b - k = 0 by omega]; try rfl
    rw [this]
    exact hK σ w hw
  | succ j ih =>
    intro k U1 σ w hk hu h6 hP hw
    obtain ⟨V, rfl⟩ : ∃ V, U1 = V + 1 := ⟨U1 - 1, by omega⟩
    have hkl : k < P.length := by omega
    have hc := hP8 _ (List.getElem_mem hkl)
    have e1 : bA P k = nI P[k] := by unfold bA; rw [List.getElem?_eq_getElem hkl]
    have e2 : slc P k b = P[k] :: slc P (k + 1) b := by
      unfold slc
      rw [List.drop_eq_getElem_cons hkl, show b - k = (b - (k + 1)) + 1 by omega, List.take_succ_cons]
    rw [x_X7_writeText_L14, ck_eq hsh, h6, if_pos ((ltI (by omega) (by omega)).mpr (by omega)), X0_at hP (by omega), b1_eq, e1, e2, List.flatMap_cons, List.append_assoc]
    refine WB_b1 (B := esB P[k]) (C_txc hU4 hc hw) (fun τ t2 t3 => ?_)
    rw [nI_1]
    exact ih (k + 1) V τ _ (by omega) (by omega) (((t3 p hp3 hp4) 6).1.trans h6) (RB.fb hP t3 (by unfold apt; omega)) t2
theorem C_ptxt {U p a b : Nat} {σ : SG} {w : List Nat × Int32} {P : List Nat} (hU4 : 4000 < U) (hsh : sh p = 4) (hp3 : p ≠ 3) (hp4 : p ≠ 4) (hab : a ≤ b) (hb : b ≤ P.length) (h5 : sI σ p 5 = nI a) (h6 : sI σ p 6 = nI b) (hP : RB σ 1092 P 0) (hw : RW σ 3 w) : WB w (txB (slc P a b)) σ (x_X7_writeText U 1095 (some p) σ) := by
  have hPl : P.length ≤ 4000 := Nat.le_trans hP.2.2.1 (ln_small _)
  unfold x_X7_writeText txB
  refine WB_b1 (B := [34]) (WB_addc (c := 34) (by decide) hw) (fun τ t2 t3 => ?_)
  rw [ck_eq hsh, ((t3 p hp3 hp4) 5).1, h5]
  exact C_ptxt_L hU4 hsh hp3 hp4 hb hP.2.2.2.2 hPl (fun υ w' hw' => by rw [b1_id]; exact WB_addc (c := 34) (by decide) hw') (b - a) a U τ _ (by omega) (by omega) (((t3 p hp3 hp4) 6).1.trans h6) (RB.fb hP t3 (by unfold apt; omega)) t2
/-! ===== print: the spec; the class prints a field ===== -/
theorem ff_snoc {α : Type} {p : α → Bool} {d : α} : ∀ (L : List α) (k : Nat), ff p (L ++ [d]) k = (ff p L k).or (if p d then some (k + L.length) else none) := by
  intro L
  induction L with
  | nil => intro k; try rfl
  | cons a L ih =>
    intro k
    show (if p a then some k else ff p (L ++ [d]) (k + 1)) = _
    rw [ih, show ff p (a :: L) k = if p a then some k else ff p L (k + 1) from rfl]
    by_cases q : p a = true
    · rw [if_pos q, if_pos q]; try rfl
    · rw [if_neg q, if_neg q, List.length_cons, show k + 1 + L.length = k + (L.length + 1) by omega]
/-- a value of an enum with a number -/
def pVl (e : Nat) (x : Int64) (d : Dc) : Bool := decide (dK d = 3 ∧ dO d = some e ∧ nL (dN d) = x)
theorem chE_find {T : List Nat} {D : List Dc} (hg : GSc T D) {e : Nat} {y : Dc} (he : D[e]? = some y) (h1 : dK y = 1) (p : Nat → Bool) (P : Dc → Bool) (hP : ∀ i d, D[i]? = some d → (P d = true ↔ dK d = 3 ∧ dO d = some e ∧ p i = true)) : ∀ k, k ≤ D.length → (chD D k e).find? p = ff P (D.take k) 0 := by
  intro k
  induction k with
  | zero => intro _; try rfl
  | succ k ih =>
    intro hk
    have hkl : k < D.length := by omega
    have hd := List.getElem?_eq_getElem hkl
    have hP' := hP k _ hd
    have e1 : D.take (k + 1) = D.take k ++ [D[k]] := by rw [List.take_succ, hd]; try rfl
    rw [e1, ff_snoc, ← ih (by omega), chD, hd]
    simp only
    have hlen : (D.take k).length = k := by rw [List.length_take]; omega
    rw [hlen, Nat.zero_add]
    by_cases q2 : dK D[k] = 2 ∧ dS D[k] = some e
    · exfalso
      obtain ⟨z, hz, hz0⟩ := hg.1.scK hd e q2.2
      rw [he] at hz
      cases hz
      omega
    · rw [if_neg q2]
      by_cases q3 : dK D[k] = 3 ∧ dO D[k] = some e
      · rw [if_pos q3, List.find?_append]
        cases hp : p k with
        | true =>
          have : P D[k] = true := hP'.mpr ⟨q3.1, q3.2, hp⟩
          rw [this, if_pos (show true = true from rfl), List.find?_singleton, hp, if_pos (show true = true from rfl)]
        | false =>
          have : ¬ P D[k] = true := fun z => by rw [(hP'.mp z).2.2] at hp; cases hp
          rw [if_neg this, List.find?_singleton, hp, if_neg (show ¬ false = true by decide)]
      · rw [if_neg q3]
        have : ¬ P D[k] = true := fun z => q3 ⟨(hP'.mp z).1, (hP'.mp z).2.1⟩
        rw [if_neg this, Option.or_none]
theorem C_vl {T : List Nat} {D : List Dc} (hg : GSc T D) {e : Nat} {y : Dc} (he : D[e]? = some y) (h1 : dK y = 1) (x : Int64) : (chF D e).find? (fun i => decide (nLi D i = x)) = ff (pVl e x) D 0 := by
  have := chE_find hg he h1 (fun i => decide (nLi D i = x)) (pVl e x) (fun i d hd => by
    unfold pVl nLi
    rw [hd, decide_eq_true_iff, decide_eq_true_iff]) D.length (Nat.le_refl _)
  rw [List.take_length] at this
  exact this
def nmT (T : List Nat) (d : Dc) : List Nat := slc T (dA d) (dE d)
def nmI (T : List Nat) (D : List Dc) (i : Nat) : List Nat := match D[i]? with
  | some d => nmT T d
  | none => []
theorem nmI_some {T : List Nat} {D : List Dc} {i : Nat} {d : Dc} (h : D[i]? = some d) : nmI T D i = nmT T d := by unfold nmI; rw [h]
/-- the value's name that a number of an enum's field has -/
def vnm (T : List Nat) (D : List Dc) (d : Dc) (x : Int64) : Option Nat := if fty T D d = 14 then (match ftg T D d with
  | some e => ff (pVl e x) D 0
  | none => none) else none
def nuP (t : Nat) (x : Int64) : List Nat := if t = 10 then (if x = 0 then [102, 97, 108, 115, 101] else [116, 114, 117, 101]) else if x < 0 ∧ t ≠ 3 ∧ t ≠ 7 then 45 :: dcB (-x) else dcB x
def nuT (T : List Nat) (D : List Dc) (d : Dc) (x : Int64) : List Nat := match vnm T D d x with
  | some i => nmI T D i
  | none => nuP (fty T D d) x
def pIt (T : List Nat) (D : List Dc) (dp : Nat) (rc : Nat → List Nat) (d : Dc) (it : It) : List Nat := inB dp ++ (nmT T d ++ (if fty T D d = 13 then [32, 123, 10] ++ (rc it.2.2 ++ (inB dp ++ [125, 10])) else [58, 32] ++ ((if nmr (fty T D d) then nuT T D d it.1 else txB it.2.1) ++ [10])))
def pFd (T : List Nat) (D : List Dc) (A : AV) (dp : Nat) (rc : Nat → List Nat) (n f : Nat) : List Nat := match D[f]? with
  | none => []
  | some d => (aE A n f).flatMap (pIt T D dp rc d)
def pMs (T : List Nat) (D : List Dc) (A : AV) : Nat → Nat → Nat → List Nat
  | 0, _, _ => []
  | j + 1, dp, n => (chF D (aN A n)).flatMap (pFd T D A dp (pMs T D A j (dp + 1)) n)
theorem VG_fp {σ τ : SG} {c : Nat} {T : List Nat} {D : List Dc} {G : Gh} (h : VG σ c T D G) (hf : fp3 σ τ) : VG τ c T D G := VG_sm h (fun b hb => hf b (by omega) (by omega) (by omega))
theorem CS_fp {σ τ : SG} {c : Nat} {T : List Nat} {D : List Dc} (h : CS σ c T D) (hcb : cb c) (hf : fp3 σ τ) : CS τ c T D := by
  have hc : c = 5 ∨ c = 197 := hcb
  exact CS_sm h (fun b h1 h2 => hf b (by omega) (by omega) (by omega))
theorem W_name {U c i : Nat} {σ : SG} {T : List Nat} {D : List Dc} {d : Dc} {w : List Nat × Int32} (hU4 : 4000 < U) (hcb : cb c) (hg : GSc T D) (hC : CS σ c T D) (hd : D[i]? = some d) (hw : RW σ 3 w) : WR w (nmT T d) σ (x_X0_addAll U 3 (some (c + 2)) (sI σ (c + 5 + i) 4) (sI σ (c + 5 + i) 5) σ) := by
  have hc : c = 5 ∨ c = 197 := hcb
  have hn := hg.N i d hd
  have hI := (hC.it hd).1
  rw [hI.2.2.2.2.1, hI.2.2.2.2.2.1]
  obtain ⟨τ, t1, t2, t3⟩ := X0_addAll (U := U) (a := 3) (b := c + 2) (S := T) (k := dA d) (to := dE d) (w := w) (by rcases hc with z | z <;> rw [z] <;> decide) (by unfold apt; omega) (Nat.le_of_lt hn.1) hn.2.1 hU4 hw hC.1
  rw [ln4] at t2
  exact ⟨τ, t1, t2, fb_fp3 t3⟩
theorem C_numP {U t : Nat} {σ : SG} {x : Int64} {w : List Nat × Int32} (hU4 : 4000 < U) (hw : RW σ 3 w) (hx : x < 0 ∧ t ≠ 3 ∧ t ≠ 7) : WR w (45 :: dcB (-x)) σ (b1 (x_X0_add 3 45 σ) fun σ20 => b1 (x_X7_writeDecimal U 1095 (-x) σ20) fun σ22 => some σ22) := by
  refine WR_b1 (B := [45]) (W_addc (c := 45) (by decide) hw) (fun τ t2 t3 => ?_)
  rw [b1_id]
  exact C_dec hU4 t2
theorem C_num0 {U c f : Nat} {σ : SG} {T : List Nat} {D : List Dc} {d : Dc} {x : Int64} {w : List Nat × Int32} {v4 : Option Nat} (hU4 : 4000 < U) (hcb : cb c) (hg : GSc T D) (hC : CS σ c T D) (hd : D[f]? = some d) (h2 : dK d = 2) (hw : RW σ 3 w) : WR w (nuP (fty T D d) x) σ (x_X7_writeNumber_28 U 1095 (some (c + 5 + f)) x v4 none σ) := by
  have hl9 := hg.2.1
  have hfl := (List.getElem?_eq_some_iff.mp hd).1
  have hft : fty T D d ≤ 14 := dTy_lt (hg.fld hd h2).2.2.2.1
  have ety : sI σ (c + 5 + f) 8 = nI (fty T D d) := (hC.it hd).2.1
  have e10 : nI (fty T D d) = 10 ↔ fty T D d = 10 := nI_eq (b := 10) (by omega) (by decide)
  have e3 : nI (fty T D d) = 3 ↔ fty T D d = 3 := nI_eq (b := 3) (by omega) (by decide)
  have e7 : nI (fty T D d) = 7 ↔ fty T D d = 7 := nI_eq (b := 7) (by omega) (by decide)
  unfold x_X7_writeNumber_28 x_X7_writeNumber_83 x_X7_writeNumber_130 nuP
  rw [if_pos (show (none : Option Nat) = none from rfl), ck_eq (it_sh hcb (by omega)), ety, ifd e10, ifd e3, ifd e7]
  by_cases q10 : fty T D d = 10
  · rw [if_pos q10, if_pos q10, b1_id, b1_id]
    by_cases q0 : x = 0
    · rw [if_pos q0, if_pos q0, ← t19]; exact W_text hU4 (by decide) hw
    · rw [if_neg q0, if_neg q0, ← t18]; exact W_text hU4 (by decide) hw
  rw [if_neg q10, if_neg q10, b1_id]
  have plain : WR w (dcB x) σ (x_X7_writeDecimal U 1095 x σ) := C_dec hU4 hw
  by_cases qx : x < 0
  · rw [if_pos qx]
    by_cases q3 : fty T D d = 3
    · rw [if_pos q3, if_neg (fun z => z.2.1 q3)]; exact plain
    rw [if_neg q3]
    by_cases q7 : fty T D d = 7
    · rw [if_pos q7, if_neg (fun z => z.2.2 q7)]; exact plain
    rw [if_neg q7, if_pos ⟨qx, q3, q7⟩]
    exact C_numP (t := fty T D d) hU4 hw ⟨qx, q3, q7⟩
  · rw [if_neg qx, if_neg (fun z => qx z.1)]; exact plain
theorem C_numT {U c f : Nat} {σ : SG} {T : List Nat} {D : List Dc} {d : Dc} {x : Int64} {w : List Nat × Int32} (hU4 : 4000 < U) (hcb : cb c) (hg : GSc T D) (hC : CS σ c T D) (hd : D[f]? = some d) (h2 : dK d = 2) (hw : RW σ 3 w) : WR w (nuT T D d x) σ (x_X7_writeNumber U 1095 (some (c + 5 + f)) x (some (c + 2)) σ) := by
  have hl9 := hg.2.1
  have hfl := (List.getElem?_eq_some_iff.mp hd).1
  have hft : fty T D d ≤ 14 := dTy_lt (hg.fld hd h2).2.2.2.1
  have ety : sI σ (c + 5 + f) 8 = nI (fty T D d) := (hC.it hd).2.1
  have etg : sP σ (c + 5 + f) 10 = ad c (ftg T D d) := (hC.it hd).2.2.1
  have e14 : nI (fty T D d) = 14 ↔ fty T D d = 14 := nI_eq (b := 14) (by omega) (by decide)
  unfold x_X7_writeNumber x_X7_writeNumber_27 nuT vnm
  rw [ck_eq (it_sh hcb (by omega)), ety, ifd e14, etg]
  by_cases q : fty T D d = 14
  · obtain ⟨e, y, h3, h4, h5⟩ := (ftg_msg hg hd h2).2.1 q
    have hel := (List.getElem?_eq_some_iff.mp h4).1
    rw [if_pos q, if_pos q, h3, if_neg (show ¬ ad c (some e) = none by intro z; cases z), ad_some, ck_eq (it_sh hcb (by omega)), C_numbered hU4 hcb hC hel, b1_eq, C_vl hg h4 h5]
    simp only
    cases hff : ff (pVl e x) D 0 with
    | none => exact C_num0 hU4 hcb hg hC hd h2 hw
    | some i =>
      obtain ⟨y', hi, _⟩ := ff_some _ _ _ hff
      rw [Nat.sub_zero] at hi
      have hil := (List.getElem?_eq_some_iff.mp hi).1
      simp only
      unfold x_X7_writeNumber_28
      rw [nmI_some hi, if_neg (show ¬ ad c (some i) = none by intro z; cases z), ad_some, ck_eq (it_sh hcb (by omega)), b1_id]
      exact W_name hU4 hcb hg hC hi hw
  · rw [if_neg q, if_neg q]
    exact C_num0 hU4 hcb hg hC hd h2 hw
theorem C_pfld {U c n f dp : Nat} {σ : SG} {T : List Nat} {D : List Dc} {G : Gh} {e : Eg} {d : Dc} {w : List Nat × Int32} {rcC : Option Nat → Option Nat → Int32 → SG → Option SG} {rc : Nat → List Nat} (hU4 : 4000 < U) (hcb : cb c) (hg : GSc T D) (hC : CS σ c T D) (hV : VG σ c T D G) (hn : n < gC G) (he : e ∈ gL G n) (hf : eF e = some f) (hd : isF D (gN G n) f d) (h1 : 1 ≤ dp) (hdp : dp ≤ 20) (hw : RW σ 3 w)
    (hrc : fty T D d = 13 → ∀ (τ : SG) (w' : List Nat × Int32), fp3 σ τ → RW τ 3 w' → WR w' (rc (eK e)) τ (rcC (some (eA e)) (some (c + 2)) (nI (dp + 1)) τ)) : WR w (pIt T D dp rc d (itm T D d e)) σ (x_X7_writeField U rcC 1095 (some (eA e)) (some (c + 5 + f)) (some (c + 2)) (nI dp) σ) := by
  have hl9 := hg.2.1
  have hul := hV.2.1
  have hfl := (List.getElem?_eq_some_iff.mp hd.1).1
  have hft : fty T D d ≤ 14 := dTy_lt (hg.fld hd.1 hd.2.1).2.2.2.1
  obtain ⟨e1, e2, _⟩ := hV.e hn he
  have e13 : nI (fty T D d) = 13 ↔ fty T D d = 13 := nI_eq (b := 13) (by omega) (by decide)
  have hc : c = 5 ∨ c = 197 := hcb
  unfold x_X7_writeField x_X7_writeField_103 pIt
  refine WR_b1 (W_ind hU4 h1 (by omega) hw) (fun τ t2 t3 => ?_)
  rw [ck_eq (it_sh hcb (by omega))]
  have C1 := CS_fp hC hcb t3
  refine WR_b1 (W_name hU4 hcb hg C1 hd.1 t2) (fun υ u2 u3 => ?_)
  have C2 := CS_fp C1 hcb u3
  have f2 := fp3_trans t3 u3
  have ety : sI υ (c + 5 + f) 8 = nI (fty T D d) := (C2.it hd.1).2.1
  rw [ety, ifd e13]
  by_cases q : fty T D d = 13
  · rw [if_pos q, if_pos q, ← t15]
    refine WR_b1 (W_text hU4 (by decide) u2) (fun ω o2 o3 => ?_)
    have ei : (itm T D d e).2.2 = eK e := by unfold itm; rw [if_pos q]
    rw [ei, nI_1]
    refine WR_b1 (hrc q ω _ (fp3_trans f2 o3) o2) (fun φ p2 p3 => ?_)
    refine WR_b1 (W_ind hU4 h1 (by omega) p2) (fun ψ y2 y3 => ?_)
    rw [b1_id, ← t16]
    exact W_text hU4 (by decide) y2
  · rw [if_neg q, if_neg q, ← t17]
    refine WR_b1 (W_text hU4 (by decide) u2) (fun ω o2 o3 => ?_)
    have C3 := CS_fp C2 hcb o3
    have V3 := VG_fp hV (fp3_trans f2 o3)
    obtain ⟨_, _, _, g4, ⟨a', b', g5, g6, g7, g8, g9⟩, _⟩ := V3.e hn he
    have ety3 : sI ω (c + 5 + f) 8 = nI (fty T D d) := (C3.it hd.1).2.1
    rw [ety3, X11_isNumeric (by omega), b1_eq, ifz]
    cases hnm : nmr (fty T D d) with
    | true =>
      have ei : (itm T D d e).1 = eV e := by unfold itm; rw [if_neg q, hnm, if_pos rfl]
      rw [if_pos (show true = true from rfl), if_pos (show true = true from rfl), ck_eq (nd_sh e1 (by omega)), g4, ei]
      refine WR_b1 (C_numT hU4 hcb hg C3 hd.1 hd.2.1 o2) (fun φ p2 p3 => ?_)
      rw [b1_id]
      exact W_addc (c := 10) (by decide) p2
    | false =>
      have ei : (itm T D d e).2.1 = eT e := by unfold itm; rw [if_neg q, hnm, if_neg (show ¬ false = true by decide)]
      rw [if_neg (show ¬ false = true by decide), if_neg (show ¬ false = true by decide), ei, ← g9]
      refine WR_b1 (WB_WR (C_ptxt hU4 (nd_sh e1 (by omega)) (by omega) (by omega) g7 g8 g5 g6 V3.2.2.1 o2)) (fun φ p2 p3 => ?_)
      rw [b1_id]
      exact W_addc (c := 10) (by decide) p2
/-! ===== the class prints ===== -/
def pE (T : List Nat) (D : List Dc) (dp : Nat) (rc : Nat → List Nat) (e : Eg) : List Nat := match eF e with
  | none => []
  | some f => match D[f]? with
    | none => []
    | some d => if live T D d e then pIt T D dp rc d (itm T D d e) else []
theorem LN_fp {σ τ : SG} {c n : Nat} {T : List Nat} {D : List Dc} {G : Gh} {L : List Eg} {p : Option Nat} (hV : VG σ c T D G) (hn : n < gC G) (hL : ∀ e ∈ L, e ∈ gL G n) (hf : fp3 σ τ) (h : LN σ L p) : LN τ L p := LN_keep L p h (fun e he => by
  have h1 := (hV.e hn (hL e he)).1
  have h2 := (hV.e hn (hL e he)).2.1
  have h3 := hV.2.1
  exact (hf (eA e) (by omega) (by omega) (by omega) 1).2.2)
theorem C_pch {U c n dp : Nat} {σ0 : SG} {T : List Nat} {D : List Dc} {G : Gh} {rcC : Option Nat → Option Nat → Int32 → SG → Option SG} {rc : Nat → List Nat} (hU4 : 4000 < U) (hcb : cb c) (hg : GSc T D) (hn : n < gC G) (h1 : 1 ≤ dp) (hdp : dp ≤ 20)
    (hrc : ∀ e ∈ gL G n, ∀ f d, eF e = some f → isF D (gN G n) f d → fty T D d = 13 → ∀ (τ : SG) (w' : List Nat × Int32), fp3 σ0 τ → RW τ 3 w' → WR w' (rc (eK e)) τ (rcC (some (eA e)) (some (c + 2)) (nI (dp + 1)) τ)) : ∀ (L : List Eg) (p : Option Nat) (U1 : Nat) (σ : SG) (w : List Nat × Int32), CS σ c T D → VG σ c T D G → fp3 σ0 σ → LN σ L p → (∀ e ∈ L, e ∈ gL G n) → RW σ 3 w → L.length < U1 → WR w (L.flatMap (pE T D dp rc)) σ (x_X7_writeMessage_L6 U rcC 1095 (some (c + 2)) (nI dp) U1 p σ) := by
  intro L
  induction L with
  | nil =>
    intro p U1 σ w hC hV h0 hp _ hw hu
    obtain ⟨V, rfl⟩ : ∃ V, U1 = V + 1 := ⟨U1 - 1, by simp at hu; omega⟩
    rw [x_X7_writeMessage_L6, if_pos (show p = none from hp)]
    exact ⟨σ, rfl, hw, fp3_refl σ⟩
  | cons e L ih =>
    intro p U1 σ w hC hV h0 hp hL hw hu
    rw [List.length_cons] at hu
    obtain ⟨V, rfl⟩ : ∃ V, U1 = V + 1 := ⟨U1 - 1, by omega⟩
    have he := hL e (List.mem_cons_self ..)
    have hul := hV.2.1
    have hl9 := hg.2.1
    obtain ⟨e1, e2, e3, _, _, _, e11⟩ := hV.e hn he
    have hsh : sh (eA e) = 4 := nd_sh e1 (by omega)
    have hdn : ¬ (20 : Int32) < nI dp := fun z => by have := (ltI (a := 20) (by decide) (by omega)).mp z; omega
    have hL' : ∀ x ∈ L, x ∈ gL G n := fun x hx => hL x (List.mem_cons_of_mem _ hx)
    have skip : pE T D dp rc e = [] → WR w ((e :: L).flatMap (pE T D dp rc)) σ (x_X7_writeMessage_L6 U rcC 1095 (some (c + 2)) (nI dp) V (sP σ (eA e) 1) σ) := by
      intro h
      rw [List.flatMap_cons, h, List.nil_append]
      exact ih (sP σ (eA e) 1) V σ w hC hV h0 hp.2 hL' hw (by omega)
    have hp1 : p = some (eA e) := hp.1
    rw [hp1, x_X7_writeMessage_L6, if_neg (show ¬ some (eA e) = none by intro z; cases z), if_neg hdn, ck_eq hsh, e3]
    unfold x_X7_writeMessage_46
    simp only [ck_eq hsh]
    cases hf : eF e with
    | none =>
      rw [if_pos (show ad c none = none from rfl)]
      exact skip (by unfold pE; rw [hf])
    | some f =>
      obtain ⟨d, hd, _⟩ := e11 f hf
      have hfl := (List.getElem?_eq_some_iff.mp hd.1).1
      rw [if_neg (show ¬ ad c (some f) = none by intro z; cases z), X4_isNothing hcb hg hC hV hn he hf hd, b1_eq, ifz]
      have hlv : live T D d e = !noth T D d (eV e) (eT e) := rfl
      have epE : pE T D dp rc e = if live T D d e then pIt T D dp rc d (itm T D d e) else [] := by unfold pE; rw [hf]; simp only [hd.1]
      cases hno : noth T D d (eV e) (eT e) with
      | true =>
        rw [if_pos (show true = true from rfl)]
        exact skip (by rw [epE, hlv, hno]; rfl)
      | false =>
        rw [if_neg (show ¬ false = true by decide), ad_some, List.flatMap_cons, epE, hlv, hno, if_pos (show (!false) = true from rfl)]
        refine WR_b1 (C_pfld hU4 hcb hg hC hV hn he hf hd h1 hdp hw (fun q13 τ w' hτ hw' => hrc e he f d hf hd q13 τ w' (fp3_trans h0 hτ) hw')) (fun τ t2 t3 => ?_)
        have hnx : sP τ (eA e) 1 = sP σ (eA e) 1 := (t3 (eA e) (by omega) (by omega) (by omega) 1).2.2
        rw [hnx]
        exact ih (sP σ (eA e) 1) V τ _ (CS_fp hC hcb t3) (VG_fp hV t3) (fp3_trans h0 t3) (LN_fp hV hn hL' t3 hp.2) hL' t2 (by omega)
theorem pE_flo {T : List Nat} {D : List Dc} {G : Gh} {A : AV} {dp n f : Nat} {d : Dc} {rc : Nat → List Nat} (hE : VE T D G A) (hn : n < gC G) (hd : isF D (gN G n) f d) : (flo (some f) (gL G n)).flatMap (pE T D dp rc) = pFd T D A dp rc n f := by
  have hEf := (hE.2.2 n hn).1 f d hd
  unfold pFd
  rw [hd.1]
  simp only
  rw [← hEf]
  have : ∀ (L : List Eg), (∀ e ∈ L, eF e = some f) → L.flatMap (pE T D dp rc) = ((L.filter (live T D d)).map (itm T D d)).flatMap (pIt T D dp rc d) := by
    intro L
    induction L with
    | nil => intro _; try rfl
    | cons e L ih =>
      intro h
      have ih' := ih (fun x hx => h x (List.mem_cons_of_mem _ hx))
      have epE : pE T D dp rc e = if live T D d e then pIt T D dp rc d (itm T D d e) else [] := by unfold pE; rw [h e (List.mem_cons_self ..)]; simp only [hd.1]
      rw [List.flatMap_cons, ih', epE, List.filter_cons]
      by_cases q : live T D d e = true
      · rw [if_pos q, if_pos q, List.map_cons, List.flatMap_cons]
      · rw [if_neg q, if_neg q, List.nil_append]
  exact this _ (fun e he => (flo_mem.mp he).2)
theorem pFd_congr {T : List Nat} {D : List Dc} {A : AV} {dp : Nat} {rc rc' : Nat → List Nat} {n f : Nat} (hf : f ∈ chF D (aN A n)) (h : ∀ k ∈ chN T D A n, rc k = rc' k) : pFd T D A dp rc n f = pFd T D A dp rc' n f := by
  unfold pFd
  cases hd : D[f]? with
  | none => rfl
  | some d =>
    simp only
    apply flatMap_congr'
    intro it hit
    unfold pIt
    by_cases q : fty T D d = 13
    · rw [if_pos q, if_pos q, h _ (chN_mem.mpr ⟨f, hf, by unfold isT; rw [hd]; exact decide_eq_true q, it, hit, rfl⟩)]
    · rw [if_neg q, if_neg q]
def pMf (T : List Nat) (D : List Dc) (A : AV) (z : Nat → Nat) (n : Nat) : List Nat := pMs T D A (21 - z n) (z n) n
theorem pMf_eq {T : List Nat} {D : List Dc} {A : AV} {z : Nat → Nat} (h : AW T D A z) {n : Nat} (hn : n < aC A) : pMf T D A z n = (chF D (aN A n)).flatMap (pFd T D A (z n) (pMf T D A z) n) := by
  obtain ⟨a, b⟩ := h.2.2.1 n hn
  unfold pMf
  rw [show 21 - z n = (20 - z n) + 1 by omega, pMs]
  apply flatMap_congr'
  intro f hf
  apply pFd_congr hf
  intro k hk
  rw [(b k hk).2.2, show 21 - (z n + 1) = 20 - z n by omega]
theorem C_pmsg {U c : Nat} {T : List Nat} {D : List Dc} {G : Gh} {A : AV} {z : Nat → Nat} (hU4 : 4000 < U) (hcb : cb c) (hg9 : GSc T D) (hE : VE T D G A) (hZ : AW T D A z) : ∀ (j dp n : Nat) (w : List Nat × Int32) (σ : SG), j + dp = 25 → 1 ≤ dp → n < gC G → z n = dp → CS σ c T D → VG σ c T D G → RW σ 3 w → WR w (pMf T D A z n) σ (x_X7_writeMessage U 1095 j (some (gH G n)) (some (c + 2)) (nI dp) σ) := by
  intro j
  induction j with
  | zero =>
    intro dp n w σ hj _ hn hz
    have := (hZ.2.2.1 n (by rw [← hE.1]; exact hn)).1
    omega
  | succ j ih =>
    intro dp n w σ hj h1 hn hz hC hV hw
    have hnA : n < aC A := by rw [← hE.1]; exact hn
    obtain ⟨z1, z2⟩ := hZ.2.2.1 n hnA
    obtain ⟨g1, g2, g3⟩ := hV.h hn
    have hM : isM D (gN G n) := hV.2.2.2.2.2.2.2.1 n hn
    have hVN := hV.2.2.2.2.2.2.2.2.2 n hn
    have hgr := grp (D := D) (chF D (gN G n)) (gL G n) (chD_srt hg9 hM _) hVN.2.2.1 (fun f hf => by
      obtain ⟨d, hd⟩ := (chF_mem hg9 hM).mp hf
      have := (hg9.nu hd.1 hd.2.1).2.1
      omega) (fun e he f hf => by
      obtain ⟨d, hd, _⟩ := (hV.e hn he).2.2.2.2.2.2 f hf
      exact (chF_mem hg9 hM).mpr ⟨d, hd⟩)
    rw [x_X7_writeMessage]
    unfold x_X7_writeMessage_b
    rw [ck_eq (nd_sh g1 g2)]
    have key := C_pch (U := U) (c := c) (dp := dp) (σ0 := σ) (T := T) (D := D) (G := G) (rcC := x_X7_writeMessage U 1095 j) (rc := pMf T D A z) hU4 hcb hg9 hn h1 (by omega) (fun e he f d hf hd q13 τ w' hτ hw' => by
      have hk : eK e ∈ chN T D A n := (chN_e hg9 hV hE hn).mpr ⟨e, he, f, d, hf, hd, q13, rfl⟩
      obtain ⟨d', hd', _, g2⟩ := (hV.e hn he).2.2.2.2.2.2 f hf
      have : d' = d := by have := hd'.1; rw [hd.1] at this; exact (Option.some.inj this).symm
      subst this
      obtain ⟨k1, k2, k3, k4⟩ := g2 q13
      have := ih (dp + 1) (eK e) w' τ (by omega) (by omega) k2 (by rw [(z2 _ hk).2.2, hz]) (CS_fp hC hcb hτ) (VG_fp hV hτ) hw'
      rw [k3] at this
      exact this) (gL G n) _ U σ w hC hV (fp3_refl σ) hVN.1 (fun e he => he) hw (by have := hV.len hn; omega)
    have e1 : (gL G n).flatMap (pE T D dp (pMf T D A z)) = pMf T D A z n := by
      rw [pMf_eq hZ hnA, ← hE.2.1 n hn, hz]
      have : (flo none (gL G n)).flatMap (pE T D dp (pMf T D A z)) = [] := by
        rw [List.flatMap_eq_nil_iff]
        intro e he
        unfold pE
        rw [(flo_mem.mp he).2]
      conv => lhs; rw [hgr]
      rw [List.flatMap_append, this, List.append_nil, List.flatMap_assoc]
      apply flatMap_congr'
      intro f hf
      obtain ⟨d, hd⟩ := (chF_mem hg9 hM).mp hf
      exact pE_flo hE hn hd
    rw [e1] at key
    exact key
/-- OUT behind a print: its text, or none if it is too long -/
def prS (B : List Nat) : Option (List Nat) := if B.length ≤ 4000 then some B else none
theorem wrL_over {m : Nat} : ∀ (L : List Nat) (w : List Nat × Int32), w.1.length ≤ m → m < w.1.length + L.length → (wrL m w L).2 = 1 := by
  intro L
  induction L with
  | nil => intro w h1 h2; simp at h2; omega
  | cons a L ih =>
    intro w h1 h2
    rw [wrL_cons]
    by_cases q : w.1.length < m
    · have e : wr1 m w a = (w.1 ++ [a], w.2) := by unfold wr1; rw [if_pos q]
      rw [e]
      exact ih _ (by simp; omega) (by simp at h2 ⊢; omega)
    · have e : wr1 m w a = (w.1, 1) := by unfold wr1; rw [if_neg q]
      rw [e]
      have : ∀ (L : List Nat) (w : List Nat × Int32), w.2 = 1 → (wrL m w L).2 = 1 := by
        intro L
        induction L with
        | nil => intro w h; exact h
        | cons b L ih' =>
          intro w h
          rw [wrL_cons]
          apply ih'
          unfold wr1
          split
          · exact h
          · rfl
      exact this L _ rfl
noncomputable def prA (B : List Nat) : mm_R := if B.length ≤ 4000 then .inl (some (.int (nI B.length))) else .inr "java/lang/UnsupportedOperationException"
def prO (B : List Nat) : List Nat := if B.length ≤ 4000 then B else []
/-- the class's print -/
theorem C_print {U c m : Nat} {σ : SG} {T : List Nat} {D : List Dc} {A : AV} {z : Nat → Nat} (hU4 : 4000 < U) (hcb : cb c) (hg9 : GSc T D) (hC : CS σ c T D) (hV : VCs σ c T D m A) (hZ : AW T D A z) : ∃ τ, x_X11_print U 0 σ = some (prA (pMf T D A z 0), τ) ∧ RB τ 3 (prO (pMf T D A z 0)) 0 ∧ fp3 σ τ := by
  obtain ⟨⟨G, hG, hE⟩, p4, p5⟩ := hV
  have hc : c = 5 ∨ c = 197 := hcb
  unfold x_X11_print x_X8_isThere x_X7_write
  obtain ⟨τ1, a1, a2, a3⟩ := X0_clear (σ := σ) (a := 3)
  have f1 : fp3 σ τ1 := fun b h1 _ _ => a3 b h1
  have a2' : RW τ1 3 ([], 0) := a2
  rw [a1, b1_eq, (a3 389 (by decide) 5).2.2, p5, if_neg (show ¬ ad c (some m) = none by intro z; cases z), (a3 389 (by decide) 4).2.2, p4, if_neg (show ¬ some (c + 1) = none by intro z; cases z), b1_eq, if_neg (show ¬ (1 : Int32) = 0 by decide), if_neg (show ¬ some (c + 1) = none by intro z; cases z), ck_eq (show sh (c + 1) = 6 by rcases hc with z | z <;> rw [z] <;> decide)]
  unfold x_X6_text
  rw [b1_eq, b1_id]
  have key := C_pmsg hU4 hcb hg9 hE hZ 24 1 0 ([], 0) τ1 (by omega) (by decide) hG.2.2.2.1 hZ.2.1 (CS_fp hC hcb f1) (VG_fp hG f1) a2'
  rw [hG.2.2.2.2.1] at key
  obtain ⟨τ, t1, t2, t3⟩ := key
  have t1' : x_X7_writeMessage U 1095 24 (some 1091) (some (c + 1 + 1)) 1 τ1 = some τ := t1
  rw [t1', b1_eq]
  unfold x_X0_isSpilt prA prO
  have t22 : sI τ 3 2 = (wrL 4000 ([], 0) (pMf T D A z 0)).2 := t2.2.1
  by_cases q : (pMf T D A z 0).length ≤ 4000
  · rw [wrL_fit _ _ (by simpa using q)] at t2 t22
    have t2' : RB τ 3 (pMf T D A z 0) 0 := t2
    rw [if_pos q, if_pos q, t22, zb0, b1_eq, if_pos (show (0 : Int32) = 0 from rfl), X0_size t2', b1_eq]
    exact ⟨τ, rfl, t2', fp3_trans f1 t3⟩
  · rw [wrL_over _ _ (by simp) (by simpa using q)] at t22
    rw [if_neg q, if_neg q, t22, zb1, b1_eq, if_neg (show ¬ (1 : Int32) = 0 by decide)]
    obtain ⟨υ, u1, u2, u3⟩ := X0_clear (σ := τ) (a := 3)
    rw [u1, b1_eq]
    exact ⟨υ, rfl, u2, fp3_trans f1 (fp3_trans t3 (fun b h1 _ _ => u3 b h1))⟩
theorem C_print_no {U : Nat} {σ : SG} (h : VCn σ) : ∃ τ, x_X11_print U 0 σ = some (.inr ISE, τ) ∧ RB τ 3 [] 0 ∧ fp3 σ τ := by
  unfold x_X11_print x_X8_isThere
  obtain ⟨τ1, a1, a2, a3⟩ := X0_clear (σ := σ) (a := 3)
  rw [a1, b1_eq, (a3 389 (by decide) 5).2.2, h.2.1, if_pos rfl, b1_eq, if_pos rfl]
  exact ⟨τ1, rfl, a2, fun b h1 _ _ => a3 b h1⟩
/-! ===== the reference's small writers of a print ===== -/
/-- only OUT and the digits are touched -/
def Pfw (b k : Nat) : Prop := (b = 1101 ∧ (k = 3 ∨ k = 4)) ∨ b = 1103 ∨ b = 1180
theorem fw_Pfw {σ τ : SG} (h : fw σ τ) : fP Pfw σ τ := fun b k hb => by
  by_cases q : b = 1101
  · subst q
    have : k ∉ [3, 4] := by unfold Pfw at hb; simp; omega
    exact ⟨h.2.1 k this, h.2.2.1 k, h.2.2.2 k⟩
  · exact h.1 b q (fun z => hb (by unfold Pfw; omega)) k
def WN (w : List Nat × Int32) (B : List Nat) (σ : SG) (x : Option SG) : Prop := ∃ τ, x = some τ ∧ ROr τ (wrL 4000 w B) ∧ fP Pfw σ τ
theorem WN_b1 {w : List Nat × Int32} {B C : List Nat} {σ : SG} {x : Option SG} {k : SG → Option SG} (h : WN w B σ x) (hk : ∀ τ, ROr τ (wrL 4000 w B) → fP Pfw σ τ → WN (wrL 4000 w B) C τ (k τ)) : WN w (B ++ C) σ (b1 x k) := by
  obtain ⟨τ, t1, t2, t3⟩ := h
  obtain ⟨υ, u1, u2, u3⟩ := hk τ t2 t3
  rw [t1, b1_eq]
  exact ⟨υ, u1, by rw [wrL_app]; exact u2, fP_trans t3 u3⟩
theorem WN_nil {w : List Nat × Int32} {σ : SG} (h : ROr σ w) : WN w [] σ (some σ) := ⟨σ, rfl, h, fP_refl _ σ⟩
theorem N_put1 {w : List Nat × Int32} {σ : SG} {c : Nat} (h : ROr σ w) : WN w [c] σ (x_X12_put 1101 (nI c) σ) := by
  obtain ⟨τ, t1, t2, t3⟩ := X12_put (c := c) h
  exact ⟨τ, t1, t2, fw_Pfw t3⟩
theorem N_blanks_L {U n : Nat} (hn : n < 1000) : ∀ (j k U1 : Nat) (σ : SG) (w : List Nat × Int32), k + j = n → j < U1 → ROr σ w → WN w (List.replicate j 32) σ (x_X12_blanks_L2 U 1101 (nI n) U1 (nI k) σ) := by
  intro j
  induction j with
  | zero =>
    intro k U1 σ w hk hu hw
    obtain ⟨V, rfl⟩ : ∃ V, U1 = V + 1 := ⟨U1 - 1, by omega⟩
    rw [x_X12_blanks_L2, if_neg (fun z => by have := (ltI (by omega) (by omega)).mp z; omega)]
    exact WN_nil hw
  | succ j ih =>
    intro k U1 σ w hk hu hw
    obtain ⟨V, rfl⟩ : ∃ V, U1 = V + 1 := ⟨U1 - 1, by omega⟩
    rw [x_X12_blanks_L2, if_pos ((ltI (by omega) (by omega)).mpr (by omega)), List.replicate_succ]
    refine WN_b1 (B := [32]) (N_put1 hw) (fun τ t2 t3 => ?_)
    rw [nI_1]
    exact ih (k + 1) V τ _ (by omega) (by omega) t2
theorem N_blanks {U dp : Nat} {σ : SG} {w : List Nat × Int32} (hU4 : 4000 < U) (hd : dp < 100) (hw : ROr σ w) : WN w (inB (dp + 1)) σ (x_X12_blanks U 1101 (2 * nI dp) σ) := by
  have := N_blanks_L (U := U) (n := 2 * dp) (by omega) (2 * dp) 0 U σ w (by omega) (by omega) hw
  have e : (2 : Int32) * nI dp = nI (2 * dp) := pk_mul 2 dp
  unfold x_X12_blanks
  rw [e]
  exact this
theorem N_name_L {U q : Nat} {N : List Nat} (hq : q + N.length ≤ 1200) : ∀ (j k U1 : Nat) (σ : SG) (w : List Nat × Int32), k + j = N.length → j < U1 → NMs σ q N → ROr σ w → WN w (N.drop k) σ (x_X12_putName_L2 U 1101 (nI q) (nI N.length) U1 (nI k) σ) := by
  intro j
  induction j with
  | zero =>
    intro k U1 σ w hk hu hN hw
    obtain ⟨V, rfl⟩ : ∃ V, U1 = V + 1 := ⟨U1 - 1, by omega⟩
    rw [x_X12_putName_L2, if_neg (fun z => by have := (ltI (by omega) (by omega)).mp z; omega), List.drop_eq_nil_of_le (by omega)]
    exact WN_nil hw
  | succ j ih =>
    intro k U1 σ w hk hu hN hw
    obtain ⟨V, rfl⟩ : ∃ V, U1 = V + 1 := ⟨U1 - 1, by omega⟩
    have hkl : k < N.length := by omega
    rw [x_X12_putName_L2, if_pos ((ltI (by omega) (by omega)).mpr (by omega)), nI_add, ix_in (by omega) (by decide), hN k _ (List.getElem?_eq_getElem hkl), List.drop_eq_getElem_cons hkl]
    refine WN_b1 (B := [N[k]]) (N_put1 hw) (fun τ t2 t3 => ?_)
    rw [nI_1]
    exact ih (k + 1) V τ _ (by omega) (by omega) (NMs_keep hN (fun i hi => (t3 1127 _ (by unfold Pfw; omega)).1)) t2
theorem N_putName {U s b j : Nat} {N : List Nat} {σ : SG} {w : List Nat × Int32} (hU4 : 4000 < U) (hs : s < 2) (h : NM σ s b j N) (hw : ROr σ w) : WN w N σ (x_X12_putName U 1101 (sI σ b j) (sI σ (b + 1) j) σ) := by
  obtain ⟨q, h1, h2, h3, h4, h5⟩ := h
  rw [h1, h2]
  exact N_name_L (U := U) (by omega) N.length 0 U σ w (by omega) (by omega) h5 hw
theorem N_word_L {U : Nat} {v : Int64} (hU4 : 4000 < U) : ∀ (j k U1 : Nat) (σ : SG) (w : List Nat × Int32), k + j = lcnt v 8 0 → j < U1 → ROr σ w → WN w ((bw v).drop k) σ (x_X12_putWord_L2 U 1101 v U1 (nI k) σ) := by
  have h8 := lcnt_le v 8 0 rfl
  intro j
  induction j with
  | zero =>
    intro k U1 σ w hk hu hw
    obtain ⟨V, rfl⟩ : ∃ V, U1 = V + 1 := ⟨U1 - 1, by omega⟩
    rw [x_X12_putWord_L2, X12_letters hU4, b1_eq, if_neg (fun z => by have := (ltI (by omega) (by omega)).mp z; omega), List.drop_eq_nil_of_le (by rw [bw_len]; omega)]
    exact WN_nil hw
  | succ j ih =>
    intro k U1 σ w hk hu hw
    obtain ⟨V, rfl⟩ : ∃ V, U1 = V + 1 := ⟨U1 - 1, by omega⟩
    have hkl : k < (bw v).length := by rw [bw_len]; omega
    have hg := bw_get (w := v) (i := k) (by omega)
    rw [List.getElem?_eq_getElem hkl] at hg
    rw [x_X12_putWord_L2, X12_letters hU4, b1_eq, if_pos ((ltI (by omega) (by omega)).mpr (by omega)), X12_letter hU4, b1_eq, List.drop_eq_getElem_cons hkl, Option.some.inj hg]
    refine WN_b1 (B := [lch v k]) (N_put1 hw) (fun τ t2 t3 => ?_)
    rw [nI_1]
    exact ih (k + 1) V τ _ (by omega) (by omega) t2
theorem N_putWord {U : Nat} {v : Int64} {σ : SG} {w : List Nat × Int32} (hU4 : 4000 < U) (hw : ROr σ w) : WN w (bw v) σ (x_X12_putWord U 1101 v σ) := by
  have h8 := lcnt_le v 8 0 rfl
  exact N_word_L (U := U) (v := v) hU4 (lcnt v 8 0) 0 U σ w (by omega) (by omega) hw
theorem bw1 : bw 8315 = [32, 123] := by decide +kernel
theorem bw2 : bw 14880 = [58, 32] := by decide +kernel
theorem bw3 : bw 439721161573 = [102, 97, 108, 115, 101] := by decide +kernel
theorem bw4 : bw 1953658213 = [116, 114, 117, 101] := by decide +kernel
theorem N_dec_L {U : Nat} {k52 : Int32 → SG → Option SG} : ∀ (j u U1 : Nat) (K : List Nat) (σ : SG), K.length + j = 20 → 1 ≤ j → u < 10 ^ j → u < 2 ^ 64 → j + 1 < U1 → (u = 0 → K = []) → RI σ 1180 K → ∃ τ, x_X12_putDecimal_L5 U 1101 k52 U1 (nI K.length) (lN u) σ = k52 (nI (K ++ dgN j u).length) τ ∧ RI τ 1180 (K ++ dgN j u) ∧ ∀ b, b ≠ 1180 → sm σ τ b := by
  intro j
  induction j with
  | zero => intro u U1 K σ _ h; omega
  | succ j ih =>
    intro u U1 K σ hK _ hu hu6 hU h0 hR
    obtain ⟨V, rfl⟩ : ∃ V, U1 = V + 1 := ⟨U1 - 1, by omega⟩
    have hlt : u / 10 < 2 ^ 64 := by omega
    have R1 := RI_app (c := u % 10) (v := nI (u % 10)) hR rfl
    have S1 : ∀ b, b ≠ 1180 → sm σ (uI σ 1180 K.length (nI (u % 10))) b := fun b hb => sm_uI hb
    have ed : Int64.toInt32 (lN u - 10 * lN (u / 10)) = nI (u % 10) := by rw [Int64.mul_comm]; exact digN hu6
    have hz : ∀ (X Y : Option SG), (if lN u = 0 then (if nI K.length = 0 then X else Y) else X) = X := by
      intro X Y
      rw [ifd (lN_zero hu6)]
      by_cases q : u = 0
      · rw [if_pos q, h0 q, if_pos (show nI ([] : List Nat).length = 0 from rfl)]
      · rw [if_neg q]
    rw [x_X12_putDecimal_L5, hz]
    unfold x_X12_putDecimal_16
    rw [ix_in (by omega) (by decide), half5 hu6, ed, sb_eq, nI_1, dgN]
    by_cases q : u / 10 = 0
    · rw [if_pos q]
      obtain ⟨V', rfl⟩ : ∃ V', V = V' + 1 := ⟨V - 1, by omega⟩
      have hne : ¬ nI (K.length + 1) = 0 := fun z => by have := (nI_eq (b := 0) (by omega) (by decide)).mp z; omega
      rw [q, x_X12_putDecimal_L5, if_pos (show lN 0 = 0 from rfl), if_neg hne]
      exact ⟨_, by rw [List.length_append, List.length_singleton], R1, S1⟩
    · rw [if_neg q]
      have hj : 1 ≤ j := by
        rcases Nat.eq_zero_or_pos j with z | z
        · subst z; omega
        · exact z
      have hu' : u / 10 < 10 ^ j := by
        rw [Nat.pow_succ] at hu
        exact Nat.div_lt_of_lt_mul (by rw [Nat.mul_comm]; exact hu)
      obtain ⟨τ, t1, t2, t3⟩ := ih (u / 10) V (K ++ [u % 10]) _ (by rw [List.length_append, List.length_singleton]; omega) hj hu' hlt (by omega) (fun z => absurd z q) R1
      rw [List.length_append, List.length_singleton] at t1
      have e : K ++ [u % 10] ++ dgN j (u / 10) = K ++ u % 10 :: dgN j (u / 10) := by rw [List.append_assoc]; try rfl
      rw [e] at t1 t2
      exact ⟨τ, t1, t2, fun b hb => sm_trans (S1 b hb) (t3 b hb)⟩
theorem N_dec_W {U : Nat} : ∀ (n U1 : Nat) (K : List Nat) (σ : SG) (w : List Nat × Int32), K.length = n → n ≤ 20 → n < U1 → RI σ 1180 K → ROr σ w → ∃ τ, x_X12_putDecimal_L57 U 1101 U1 (nI n - 1) σ = some τ ∧ ROr τ (wrL 4000 w (K.map (fun c => 48 + c)).reverse) ∧ fw σ τ := by
  intro n
  induction n with
  | zero =>
    intro U1 K σ w hK _ hU hR hw
    obtain ⟨V, rfl⟩ : ∃ V, U1 = V + 1 := ⟨U1 - 1, by omega⟩
    have : K = [] := List.length_eq_zero_iff.mp hK
    subst this
    rw [x_X12_putDecimal_L57, if_pos (by decide)]
    exact ⟨σ, rfl, hw, fw_refl σ⟩
  | succ n ih =>
    intro U1 K σ w hK hn hU hR hw
    obtain ⟨V, rfl⟩ : ∃ V, U1 = V + 1 := ⟨U1 - 1, by omega⟩
    have hne : K ≠ [] := fun z => by rw [z] at hK; cases hK
    obtain ⟨K', c, rfl⟩ : ∃ K' c, K = K' ++ [c] := ⟨K.dropLast, K.getLast hne, (List.dropLast_concat_getLast hne).symm⟩
    rw [List.length_append, List.length_singleton] at hK
    have hl : K'.length = n := by omega
    have e1 : nI (n + 1) - 1 = nI n := nI_sub (b := 1) (by omega)
    have hrd : sI σ 1180 n = nI c := hR n c (by rw [List.getElem?_append_right (by omega), hl, Nat.sub_self]; rfl)
    have e48 : (48 : Int32) + nI c = nI (48 + c) := nI_add 48 c
    obtain ⟨τ, t1, t2, t3⟩ := X12_put (c := 48 + c) hw
    obtain ⟨υ, u1, u2, u3⟩ := ih V K' τ _ hl (by omega) (by omega) (fun i x hi => by
      rw [(fw_I t3 (by decide) (by omega)).1]
      exact hR i x (by rw [List.getElem?_append_left (List.getElem?_eq_some_iff.mp hi).1]; exact hi)) t2
    rw [x_X12_putDecimal_L57, e1, if_neg (nI_neg (by omega)), ix_in (by omega) (by decide), hrd, e48, t1, b1_eq, List.map_append, List.reverse_append]
    exact ⟨υ, u1, u2, fw_trans t3 u3⟩
theorem N_putDec {U : Nat} {σ : SG} {w : List Nat × Int32} {x : Int64} (hU4 : 4000 < U) (hw : ROr σ w) : WN w (dcB x) σ (x_X12_putDecimal U 1101 x σ) := by
  unfold x_X12_putDecimal
  obtain ⟨τ, t1, t2, t3⟩ := N_dec_L (U := U) (k52 := fun w9 σ10 => x_X12_putDecimal_L57 U 1101 U (w9 - 1) σ10) 20 (uN x) U [] σ rfl (by decide) (Nat.lt_trans (uN_lt x) (by decide)) (uN_lt x) (by omega) (fun _ => rfl) (fun i c hi => by simp at hi)
  rw [lN_uN] at t1
  have t1' : x_X12_putDecimal_L5 U 1101 (fun w9 σ10 => x_X12_putDecimal_L57 U 1101 U (w9 - 1) σ10) U 0 x σ = _ := t1
  rw [t1']
  rw [List.nil_append] at t2 ⊢
  have hl := dgN_len 20 (uN x)
  have hw' : ROr τ w := ⟨(t3 1101 (by decide) 3).1.trans hw.1, (t3 1101 (by decide) 4).1.trans hw.2.1, fun i c hi => (t3 1103 (by decide) i).1.trans (hw.2.2.1 i c hi), hw.2.2.2⟩
  obtain ⟨υ, u1, u2, u3⟩ := N_dec_W (U := U) (dgN 20 (uN x)).length U _ τ w rfl hl (by omega) t2 hw'
  exact ⟨υ, u1, u2, fP_trans (fun b k hb => t3 b (by unfold Pfw at hb; omega) k) (fw_Pfw u3)⟩
theorem noct6 : ∀ c, c < 256 → (48 : Int32) + (ishr9 (nI c) 6) = nI (48 + c / 64) := by decide +kernel
theorem noct3 : ∀ c, c < 256 → (48 : Int32) + ((ishr9 (nI c) 3) &&& 7) = nI (48 + c / 8 % 8) := by decide +kernel
theorem N_txt_L {U a n : Nat} {K : SG → Option SG} {P C : List Nat} (hn : a + n ≤ P.length) (hP8 : ok8 P) (hP : P.length ≤ 700) (hK : ∀ τ w', ROr τ w' → WN w' C τ (K τ)) : ∀ (j k U1 : Nat) (σ : SG) (w : List Nat × Int32), k + j = a + n → j < U1 → RI σ 1175 P → ROr σ w → WN w ((slc P k (a + n)).flatMap esB ++ C) σ (x_X12_putText__L8 U 1101 K (nI a) (nI n) U1 (nI k) σ) := by
  intro j
  induction j with
  | zero =>
    intro k U1 σ w hk hu hR hw
    obtain ⟨V, rfl⟩ : ∃ V, U1 = V + 1 := ⟨U1 - 1, by omega⟩
    rw [x_X12_putText__L8, nI_add, if_neg (fun z => by have := (ltI (by omega) (by omega)).mp z; omega)]
    have : slc P k (a + n) = [] := by unfold slc; rw [show a + n - k = 0 by omega]; try rfl
    rw [this]
    exact hK σ w hw
  | succ j ih =>
    intro k U1 σ w hk hu hR hw
    obtain ⟨V, rfl⟩ : ∃ V, U1 = V + 1 := ⟨U1 - 1, by omega⟩
    have hkl : k < P.length := by omega
    have hc := hP8 _ (List.getElem_mem hkl)
    have e2 : slc P k (a + n) = P[k] :: slc P (k + 1) (a + n) := by
      unfold slc
      rw [List.drop_eq_getElem_cons hkl, show a + n - k = (a + n - (k + 1)) + 1 by omega, List.take_succ_cons]
    have hrd := hR k _ (List.getElem?_eq_getElem hkl)
    rw [x_X12_putText__L8, nI_add, if_pos ((ltI (by omega) (by omega)).mpr (by omega)), ix_in (by omega) (by decide), hrd, e2, List.flatMap_cons, List.append_assoc]
    generalize P[k] = c at *
    have go : ∀ τ w', ROr τ w' → fP Pfw σ τ → WN w' ((slc P (k + 1) (a + n)).flatMap esB ++ C) τ (x_X12_putText__176 U 1101 (x_X12_putText__L8 U 1101 K (nI a) (nI n) V) K (nI a) (nI n) (nI k) τ) := by
      intro τ w' hw' hf
      unfold x_X12_putText__176
      rw [nI_1]
      exact ih (k + 1) V τ w' (by omega) (by omega) (fun i x hi => (hf 1175 i (by unfold Pfw; omega)).1.trans (hR i x hi)) hw'
    have e10 : nI c = 10 ↔ c = 10 := nI_eq (b := 10) (by omega) (by decide)
    have e13 : nI c = 13 ↔ c = 13 := nI_eq (b := 13) (by omega) (by decide)
    have e9 : nI c = 9 ↔ c = 9 := nI_eq (b := 9) (by omega) (by decide)
    have e34 : nI c = 34 ↔ c = 34 := nI_eq (b := 34) (by omega) (by decide)
    have e92 : nI c = 92 ↔ c = 92 := nI_eq (b := 92) (by omega) (by decide)
    have e32 : nI c < 32 ↔ c < 32 := ltI (b := 32) (by omega) (by decide)
    have e126 : (126 : Int32) < nI c ↔ 126 < c := ltI (a := 126) (by decide) (by omega)
    unfold x_X12_putText__58 x_X12_putText__103
    unfold x_X12_putText__132
    rw [ifd e10, ifd e13, ifd e9, ifd e34, ifd e92, ifd e32, ifd e126]
    -- an escaped byte
    have two : ∀ (y : Nat) (F : SG → Option SG), (∀ τ, F τ = b1 (x_X12_put 1101 (nI y) τ) fun σ13 => x_X12_putText__176 U 1101 (x_X12_putText__L8 U 1101 K (nI a) (nI n) V) K (nI a) (nI n) (nI k) σ13) → WN w ([92, y] ++ ((slc P (k + 1) (a + n)).flatMap esB ++ C)) σ (b1 (x_X12_put 1101 92 σ) F) := by
      intro y F hF
      rw [show [92, y] = [92] ++ [y] from rfl, List.append_assoc]
      refine WN_b1 (B := [92]) (N_put1 (c := 92) hw) (fun τ t2 t3 => ?_)
      rw [hF]
      refine WN_b1 (B := [y]) (N_put1 t2) (fun υ u2 u3 => ?_)
      exact go υ _ u2 (fP_trans t3 u3)
    have eb : esB c = if c = 10 then [92, 110] else if c = 13 then [92, 114] else if c = 9 then [92, 116] else if c = 34 then [92, 34] else if c = 92 then [92, 92] else if c < 32 ∨ 126 < c then [92, 48 + c / 64, 48 + c / 8 % 8, 48 + c % 8] else [c] := rfl
    rw [eb]
    by_cases q10 : c = 10
    · rw [if_pos q10, if_pos q10]
      exact two 110 _ (fun τ => by rw [if_pos (e10.mpr q10)]; rfl)
    rw [if_neg q10, if_neg q10]
    by_cases q13 : c = 13
    · rw [if_pos q13, if_pos q13]
      exact two 114 _ (fun τ => by rw [if_neg (fun z => q10 (e10.mp z)), if_pos (e13.mpr q13)]; rfl)
    rw [if_neg q13, if_neg q13]
    by_cases q9 : c = 9
    · rw [if_pos q9, if_pos q9]
      exact two 116 _ (fun τ => by rw [if_neg (fun z => q10 (e10.mp z)), if_neg (fun z => q13 (e13.mp z)), if_pos (e9.mpr q9)]; rfl)
    rw [if_neg q9, if_neg q9]
    by_cases q34 : c = 34
    · rw [if_pos q34, if_pos q34]
      exact two 34 _ (fun τ => by rw [if_neg (fun z => q10 (e10.mp z)), if_neg (fun z => q13 (e13.mp z)), if_neg (fun z => q9 (e9.mp z)), q34])
    rw [if_neg q34, if_neg q34]
    by_cases q92 : c = 92
    · rw [if_pos q92, if_pos q92]
      exact two 92 _ (fun τ => by rw [if_neg (fun z => q10 (e10.mp z)), if_neg (fun z => q13 (e13.mp z)), if_neg (fun z => q9 (e9.mp z)), q92])
    rw [if_neg q92, if_neg q92]
    have oct : WN w ([92, 48 + c / 64, 48 + c / 8 % 8, 48 + c % 8] ++ ((slc P (k + 1) (a + n)).flatMap esB ++ C)) σ (b1 (x_X12_put 1101 92 σ) fun σ22 => b1 (x_X12_put 1101 (48 + (ishr9 (nI c) 6)) σ22) fun σ24 => b1 (x_X12_put 1101 (48 + ((ishr9 (nI c) 3) &&& 7)) σ24) fun σ26 => b1 (x_X12_put 1101 (48 + ((nI c) &&& 7)) σ26) fun σ28 => x_X12_putText__176 U 1101 (x_X12_putText__L8 U 1101 K (nI a) (nI n) V) K (nI a) (nI n) (nI k) σ28) := by
      rw [show [92, 48 + c / 64, 48 + c / 8 % 8, 48 + c % 8] = [92] ++ ([48 + c / 64] ++ ([48 + c / 8 % 8] ++ [48 + c % 8])) from rfl, List.append_assoc, List.append_assoc, List.append_assoc, noct6 c hc, noct3 c hc, oct0 c hc]
      refine WN_b1 (B := [92]) (N_put1 (c := 92) hw) (fun τ t2 t3 => ?_)
      refine WN_b1 (B := [48 + c / 64]) (N_put1 t2) (fun υ u2 u3 => ?_)
      refine WN_b1 (B := [48 + c / 8 % 8]) (N_put1 u2) (fun ω o2 o3 => ?_)
      refine WN_b1 (B := [48 + c % 8]) (N_put1 o2) (fun φ p2 p3 => ?_)
      exact go φ _ p2 (fP_trans t3 (fP_trans u3 (fP_trans o3 p3)))
    by_cases q1 : c < 32
    · rw [if_pos q1, if_pos (Or.inl q1)]; exact oct
    rw [if_neg q1]
    by_cases q2 : 126 < c
    · rw [if_pos q2, if_pos (Or.inr q2)]; exact oct
    rw [if_neg q2, if_neg (fun z => z.elim q1 q2)]
    refine WN_b1 (B := [c]) (N_put1 hw) (fun τ t2 t3 => ?_)
    exact go τ _ t2 t3
theorem N_putTxt {U a n : Nat} {σ : SG} {w : List Nat × Int32} {P : List Nat} (hU4 : 4000 < U) (hn : a + n ≤ P.length) (hP8 : ok8 P) (hP : P.length ≤ 700) (hR : RI σ 1175 P) (hw : ROr σ w) : WN w (txB (slc P a (a + n))) σ (x_X12_putText_ U 1101 (nI a) (nI n) σ) := by
  unfold x_X12_putText_ txB
  refine WN_b1 (B := [34]) (N_put1 (c := 34) hw) (fun τ t2 t3 => ?_)
  exact N_txt_L (U := U) hn hP8 hP (fun υ w' hw' => by rw [b1_id]; exact N_put1 (c := 34) hw') n a U τ _ rfl (by omega) (fun i x hi => (t3 1175 i (by unfold Pfw; omega)).1.trans (hR i x hi)) t2
/-! ===== one step of the reference's printing ===== -/
theorem nLv {v : Bool × Nat} (h : okV v = true) : Int32.toInt64 (Int64.toInt32 (nL v)) = nL v := by
  have hv := of_decide_eq_true h
  have hb : (nL v).toInt = if v.1 then -(v.2 : Int) else (v.2 : Int) := by
    have e0 : (lN v.2).toInt = (v.2 : Int) := by
      show (lN v.2).toBitVec.toInt = _
      rw [lN_bv, BitVec.toInt_ofNat', Int.bmod_eq_of_le (by omega) (by omega)]
    unfold nL
    cases q : v.1 with
    | false => rw [if_neg (show ¬ false = true by decide), if_neg (show ¬ false = true by decide)]; exact e0
    | true =>
      rw [if_pos (show true = true from rfl), if_pos (show true = true from rfl), Int64.toInt_neg, e0, Int.bmod_eq_of_le (by omega) (by omega)]
  apply Int64.toInt_inj.mp
  rw [Int32.toInt_toInt64, Int64.toInt_toInt32, hb]
  cases q : v.1 with
  | false =>
    rw [q] at hv
    have : v.2 ≤ 2147483647 := hv.elim id (fun z => by cases z.1)
    rw [if_neg (show ¬ false = true by decide), Int.bmod_eq_of_le (by omega) (by omega)]
  | true =>
    have : v.2 ≤ 2147483648 := hv.elim (fun z => by omega) (fun z => by omega)
    rw [if_pos (show true = true from rfl), Int.bmod_eq_of_le (by omega) (by omega)]
def vIx (D : List Dc) (s : Nat) (o : Option Nat) : Int32 := match o with
  | none => -1
  | some i => nI (40 * s + cnt (D.take i) 3)
theorem N_vl_L {U s e : Nat} {σ : SG} {T : List Nat} {D : List Dc} {x : Int64} {y : Dc} (hs : s < 2) (h80 : sI σ 1101 80 = nI s) (hg : GSc T D) (h : RS σ s T D) (he : D[e]? = some y) (h1 : dK y = 1) : ∀ (j g U1 : Nat), g + j = cnt D 3 → j < U1 → (∀ (i : Nat) (d : Dc), D[i]? = some d → dK d = 3 → cnt (D.take i) 3 < g → pVl e x d = false) →
    x_X12_valueNumbered_L9 U 1101 (nI (cnt (D.take e) 1)) x σ U1 (nI (40 * s + g)) = some (vIx D s (ff (pVl e x) D 0)) := by
  have hl := hg.2.1
  obtain ⟨l0, l1, l2, l3, l4, l5⟩ := lim_of h.1
  have hc : sI σ 1107 s = nI (cnt D 3) := h.2.1 3 (by decide)
  intro j
  induction j with
  | zero =>
    intro g U1 hgj hu hall
    obtain ⟨V, rfl⟩ : ∃ V, U1 = V + 1 := ⟨U1 - 1, by omega⟩
    rw [x_X12_valueNumbered_L9, h80, ix_in hs (by decide), show (40 : Int32) = nI 40 from rfl, pk_mul, hc, nI_add, if_neg (fun q => by have := (ltI (by omega) (by omega)).mp q; omega), ff_no]
    · rfl
    · intro x hx
      obtain ⟨i, hi⟩ := List.getElem?_of_mem hx
      by_cases z : dK x = 3
      · exact hall i x hi z (by have := cnt_take_lt hi z; omega)
      · exact decide_eq_false (fun y => z y.1)
  | succ j ih =>
    intro g U1 hgj hu hall
    obtain ⟨V, rfl⟩ : ∃ V, U1 = V + 1 := ⟨U1 - 1, by omega⟩
    obtain ⟨i, d, hd, hk, hi⟩ := plc (D := D) (q := 3) g (by omega)
    have row := (h.2.2 i d hd).2.2.2 hk
    rw [hi] at row
    have hown := oq_inj (q := 1) (o := dO d) (o' := some e) hl (hg.1.ow hd hk) (fun m hm => by cases hm; exact ⟨y, he, h1⟩)
    have hown' : oq D 1 (dO d) = nI (cnt (D.take e) 1) ↔ dO d = some e := hown
    have hnl := nLv (hg.all.2.1.2 i d hd hk).1
    rw [x_X12_valueNumbered_L9, h80, ix_in hs (by decide), show (40 : Int32) = nI 40 from rfl, pk_mul, hc, nI_add, if_pos ((ltI (by omega) (by omega)).mpr (by omega)), ix_in (by omega) (by decide), row.1, ifd hown', ix_in (by omega) (by decide), row.2.2, hnl]
    unfold x_X12_valueNumbered_58
    rw [nI_1]
    have go : pVl e x d = false → x_X12_valueNumbered_L9 U 1101 (nI (cnt (D.take e) 1)) x σ V (nI (40 * s + g + 1)) = some (vIx D s (ff (pVl e x) D 0)) := by
      intro hp
      refine ih (g + 1) V (by omega) (by omega) (fun i' d' h2 h3 h4 => ?_)
      by_cases z : cnt (D.take i') 3 = g
      · have := ord_inj h2 h3 hd hk (by omega)
        subst this
        rw [hd] at h2
        cases h2
        exact hp
      · exact hall i' d' h2 h3 (by omega)
    by_cases q1 : dO d = some e
    · rw [if_pos q1]
      by_cases q2 : nL (dN d) = x
      · rw [if_pos q2]
        have hff := ff_here (p := pVl e x) D 0 i d hd (decide_eq_true ⟨hk, q1, q2⟩) (fun j' x hj' hx => by
          by_cases z : dK x = 3
          · exact hall j' x hx z (by have := cnt_lt_of hx z hj'; omega)
          · exact decide_eq_false (fun y => z y.1))
        rw [hff, Nat.zero_add]
        unfold vIx
        simp only
        rw [hi]
      · rw [if_neg q2]
        exact go (decide_eq_false (fun z => q2 z.2.2))
    · rw [if_neg q1]
      exact go (decide_eq_false (fun z => q1 z.2.1))
/-- the reference while it prints -/
def PS (σ : SG) (s : Nat) (T : List Nat) (D : List Dc) (A : AV) (H : Rh) (w : List Nat × Int32) : Prop := RS σ s T D ∧ VS σ s T D A H ∧ ROr σ w
/-- what printing touches -/
def PPr (b k : Nat) : Prop := (b = 1101 ∧ (k = 3 ∨ k = 4 ∨ k = 106)) ∨ b = 1103 ∨ b = 1176 ∨ b = 1178 ∨ b = 1179 ∨ b = 1180
theorem Pfw_PPr {σ τ : SG} (h : fP Pfw σ τ) : fP PPr σ τ := fP_mono h (fun b k z => by unfold Pfw at z; unfold PPr; omega)
theorem PS_fw {σ τ : SG} {s : Nat} {T : List Nat} {D : List Dc} {A : AV} {H : Rh} {w w' : List Nat × Int32} (h : PS σ s T D A H w) (hf : fP Pfw σ τ) (hw : ROr τ w') : PS τ s T D A H w' := ⟨RS_keep h.1 (fun b k hb => (hf b k (by unfold PKP at hb; unfold Pfw; omega)).1), VS_keep h.2.1 (fun b k hb => ⟨(hf b k (by unfold Pfw; omega)).1, (hf b k (by unfold Pfw; omega)).2.1⟩), hw⟩
theorem PS_uI {σ : SG} {s : Nat} {T : List Nat} {D : List Dc} {A : AV} {H : Rh} {w : List Nat × Int32} {b j : Nat} {v : Int32} (h : PS σ s T D A H w) (hb : b = 1176 ∨ b = 1178 ∨ b = 1179 ∨ (b = 1101 ∧ j = 106)) : PS (uI σ b j v) s T D A H w := by
  obtain ⟨h1, h2, h4⟩ := h
  refine ⟨RS_keep h1 (fun b' k hb' => sI_o (by unfold PKP at hb'; omega)), VS_keep h2 (fun b' k hb' => ⟨sI_o (by omega), rfl⟩), ROr_uI h4 (by omega) (by omega)⟩
theorem TP_P {σ τ : SG} {dp n k i : Nat} (h : TP σ dp n k i) (hf : fP Pfw σ τ) : TP τ dp n k i := ⟨((hf _ _ (by unfold Pfw; omega)).1).trans h.1, ((hf _ _ (by unfold Pfw; omega)).1).trans h.2.1, ((hf _ _ (by unfold Pfw; omega)).1).trans h.2.2.1, ((hf _ _ (by unfold Pfw; omega)).1).trans h.2.2.2⟩
/-- what a row tells, printed -/
def pVl' (T : List Nat) (D : List Dc) (d : Dc) (it : It) : List Nat := if nmr (fty T D d) then nuT T D d it.1 else txB it.2.1
theorem N_putPlain {U s f i : Nat} {σ : SG} {T : List Nat} {D : List Dc} {A : AV} {H : Rh} {w : List Nat × Int32} {r : Rg} {d : Dc} (hU4 : 4000 < U) (hs : s < 2) (hg : GSc T D) (hE : PS σ s T D A H w) (hr : (zR H)[i]? = some r) (hf : rF r = f) (hd : D[f]? = some d) (h2 : dK d = 2) (h13 : fty T D d ≠ 13) : WN w (pVl' T D d (itR T D d r)) σ (x_X12_putPlain U 1101 (nI i) σ) := by
  have hil := (List.getElem?_eq_some_iff.mp hr).1
  have hR7 := hE.2.1.2.1.2.1
  have hft : fty T D d ≤ 14 := dTy_lt (hg.fld hd h2).2.2.2.1
  obtain ⟨⟨w1, w2, w3, ⟨a, w4, w5, w6, w7⟩, _⟩, _⟩ := hE.2.1.2.1.2.2 i r hr
  have hP := hE.2.1.2.2.1
  obtain ⟨f1, _, f3, f4, f5, _⟩ := hE.1.f hd h2
  rw [hf] at w2
  have e14 : nI (fty T D d) = 14 ↔ fty T D d = 14 := nI_eq (b := 14) (by omega) (by decide)
  have e11 : nI (fty T D d) = 11 ↔ fty T D d = 11 := nI_eq (b := 11) (by omega) (by decide)
  have e12 : nI (fty T D d) = 12 ↔ fty T D d = 12 := nI_eq (b := 12) (by omega) (by decide)
  have e10 : nI (fty T D d) = 10 ↔ fty T D d = 10 := nI_eq (b := 10) (by omega) (by decide)
  have e3 : nI (fty T D d) = 3 ↔ fty T D d = 3 := nI_eq (b := 3) (by omega) (by decide)
  have e7 : nI (fty T D d) = 7 ↔ fty T D d = 7 := nI_eq (b := 7) (by omega) (by decide)
  unfold x_X12_putPlain pVl'
  rw [ix_in (by omega) (by decide), w2, ix_in (by omega) (by decide), f4, ifd e14]
  -- a number without a name
  have plain : nmr (fty T D d) = true → WN w (nuP (fty T D d) (rV r)) σ (x_X12_putPlain_40 U 1101 (nI i) (nI (fty T D d)) (-1) σ) := by
    intro hnm
    unfold x_X12_putPlain_40 x_X12_putPlain_127 x_X12_putPlain_144 nuP
    have n11 : fty T D d ≠ 11 := fun z => by rw [z] at hnm; cases hnm
    have n12 : fty T D d ≠ 12 := fun z => by rw [z] at hnm; cases hnm
    rw [if_pos rfl, ifd e11, if_neg n11, ifd e12, if_neg n12, ifd e10, ifd e3, ifd e7, ix_in (by omega) (by decide), ix_in (by omega) (by decide), ix_in (by omega) (by decide), w3, b1_id, b1_id, b1_id, b1_id]
    by_cases q10 : fty T D d = 10
    · rw [if_pos q10, if_pos q10]
      by_cases q0 : rV r = 0
      · rw [if_pos q0, if_pos q0, ← bw3]; exact N_putWord hU4 hE.2.2
      · rw [if_neg q0, if_neg q0, ← bw4]; exact N_putWord hU4 hE.2.2
    rw [if_neg q10, if_neg q10]
    by_cases q3 : fty T D d = 3
    · rw [if_pos q3, if_neg (fun z => z.2.1 q3)]; exact N_putDec hU4 hE.2.2
    rw [if_neg q3]
    by_cases q7 : fty T D d = 7
    · rw [if_pos q7, if_neg (fun z => z.2.2 q7)]; exact N_putDec hU4 hE.2.2
    rw [if_neg q7]
    unfold x_X12_putSigned x_X12_putSigned_12 x_X12_putSigned_25
    by_cases qx : rV r < 0
    · rw [if_pos qx, if_pos ⟨qx, q3, q7⟩]
      refine WN_b1 (B := [45]) (N_put1 (c := 45) hE.2.2) (fun τ t2 t3 => ?_)
      rw [if_pos qx, b1_id]
      exact N_putDec hU4 t2
    · rw [if_neg qx, if_neg (fun z => qx z.1), if_neg qx, b1_id]
      exact N_putDec hU4 hE.2.2
  cases hnm : nmr (fty T D d) with
  | false =>
    have ei : (itR T D d r).2.1 = rT r := by unfold itR; rw [if_neg h13, hnm, if_neg (show ¬ false = true by decide)]
    have n14 : fty T D d ≠ 14 := fun z => by rw [z] at hnm; cases hnm
    have h12 : fty T D d = 11 ∨ fty T D d = 12 := by
      unfold nmr at hnm
      have := of_decide_eq_false hnm
      omega
    rw [if_neg n14, if_neg (show ¬ false = true by decide), ei]
    unfold x_X12_putPlain_40 x_X12_putPlain_81
    rw [if_pos rfl, ifd e11, ifd e12, ix_in (by omega) (by decide), ix_in (by omega) (by decide), w4, w5, b1_id]
    have key := N_putTxt (U := U) (a := a) (n := (rT r).length) hU4 w6 hP.2.2.1 hP.2.2.2 hP.2.1 hE.2.2
    rw [w7] at key
    by_cases q11 : fty T D d = 11
    · rw [if_pos q11]; exact key
    · rw [if_neg q11, if_pos (h12.elim (fun z => absurd z q11) id)]; exact key
  | true =>
    have ei : (itR T D d r).1 = rV r := by unfold itR; rw [if_neg h13, hnm, if_pos rfl]
    rw [if_pos (show true = true from rfl), ei]
    unfold nuT vnm
    by_cases q : fty T D d = 14
    · obtain ⟨e, y, h3, h4, h5⟩ := (ftg_msg hg hd h2).2.1 q
      have hrf : refI D (some e) = nI (cnt (D.take e) 1) := by show nI (cnt (D.take e) (knd D e)) = _; rw [knd_some h4, h5]
      rw [if_pos q, if_pos q, ix_in (by omega) (by decide), ix_in (by omega) (by decide), f5, w3, h3, hrf]
      unfold x_X12_valueNumbered
      have hvl := N_vl_L (U := U) (x := rV r) hs hE.2.1.1 hg hE.1 h4 h5 (cnt D 3) 0 U (by omega) (by have := (lim_of hE.1.1).2.2.2.1; omega) (fun i d _ _ h => by omega)
      rw [hE.2.1.1, show (40 : Int32) = nI 40 from rfl, pk_mul]
      rw [Nat.add_zero] at hvl
      rw [hvl, b1_eq]
      simp only
      cases hff : ff (pVl e (rV r)) D 0 with
      | none => exact plain hnm
      | some i' =>
        obtain ⟨x, hx, b2', _⟩ := ff_some _ _ _ hff
        rw [Nat.sub_zero] at hx
        simp only
        rw [nmI_some hx]
        have hk3 : dK x = 3 := (of_decide_eq_true b2').1
        have row := (hE.1.2.2 i' x hx).2.2.2 hk3
        have hcl := cnt_take_lt hx hk3
        obtain ⟨l0, l1, l2, l3, l4, l5⟩ := lim_of hE.1.1
        have hne : ¬ nI (40 * s + cnt (D.take i') 3) = -1 := fun z => nI_neg (by omega : 40 * s + cnt (D.take i') 3 < 2 ^ 31) (by rw [z]; decide)
        unfold x_X12_putPlain_40 vIx
        simp only
        rw [if_neg hne, ix_in (by omega) (by decide), ix_in (by omega) (by decide), b1_id]
        exact N_putName hU4 hs row.2.1 hE.2.2
    · rw [if_neg q, if_neg q]
      exact plain hnm
/-! ===== the reference prints ===== -/
theorem N_pstep {U s dp n k i : Nat} {σ : SG} {T : List Nat} {D : List Dc} {A : AV} {H : Rh} {w : List Nat × Int32} (hU4 : 4000 < U) (hs : s < 2) (hg : GSc T D) (hE : PS σ s T D A H w) (hM : isM D (aN A n)) (hn : n < aC A) (hdp : dp < 20) (hk : k < 2 ^ 31) (hi : i ≤ (zR H).length) (ht : TP σ dp n k i) :
    ((chF D (aN A n))[k]? = none → x_X12_printStep U 1101 σ = (sb (uI σ 1101 106 (nI dp)) fun σ16 => if sI σ16 1101 106 = 0 then (some σ16) else (b1 (x_X12_blanks U 1101 (2 * ((sI σ16 1101 106) - 1)) σ16) fun σ19 => b1 (x_X12_put 1101 125 σ19) fun σ21 => b1 (x_X12_put 1101 10 σ21) fun σ23 => some σ23))) ∧
    ∀ f d, (chF D (aN A n))[k]? = some f → isF D (aN A n) f d → (ff (pRw n f) ((zR H).drop i) i = none → x_X12_printStep U 1101 σ = some (uI (uI σ 1179 dp (nI (k + 1))) 1178 dp 0)) ∧ ∀ i', i' < 800 → ff (pRw n f) ((zR H).drop i) i = some i' → x_X12_printStep U 1101 σ = (sb (uI σ 1178 dp (nI (i' + 1))) fun σ49 => b1 (x_X12_blanks U 1101 (2 * nI dp) σ49) fun σ51 => b1 (x_X12_putName U 1101 (sI σ51 1115 (fx D s f)) (sI σ51 1116 (fx D s f)) σ51) fun σ61 => if sI σ61 1118 (fx D s f) = 13 then (b1 (x_X12_putWord U 1101 8315 σ61) fun σ68 => b1 (x_X12_put 1101 10 σ68) fun σ70 => b1 (x_X12_goInto 1101 (sI σ70 1170 i') σ70) fun σ76 => some σ76) else (b1 (x_X12_putWord U 1101 14880 σ61) fun σ78 => b1 (x_X12_putPlain U 1101 (nI i') σ78) fun σ80 => b1 (x_X12_put 1101 10 σ80) fun σ82 => some σ82)) := by
  obtain ⟨hS, hV, hw⟩ := hE
  obtain ⟨t1, t2, t3, t4⟩ := ht
  have hc := hV.2.2.2.2.1
  have hR7 := hV.2.1.2.1
  have hRn : ∀ r ∈ zR H, rN r < 400 := fun r hr => by have := (hV.2.2.2.2.2.1 r hr).1; omega
  have e1 : nI (dp + 1) - 1 = nI dp := nI_sub (b := 1) (by omega)
  have hmA : mAt (chF D (aN A n)) (nI k) = (chF D (aN A n))[k]? := by unfold mAt; rw [if_neg (nI_neg hk), clampN hk]
  unfold x_X12_printStep
  rw [t1, e1, ix_in (by omega) (by decide), t2, ix_in (by omega) (by decide), ix_in (by omega) (by decide), hV.1, (hc.2.2.2 n hn).2.1, t3, N_fieldAt hU4 hs hg hS hM, b1_eq, hmA]
  refine ⟨fun h0 => ?_, fun f d hf hd => ?_⟩
  · rw [h0, if_pos (show fIx D s none = -1 from rfl)]
  · obtain ⟨f1, _, f3, f4, f5, f6, f7, _⟩ := hS.f hd.1 hd.2.1
    have hne : ¬ nI (fx D s f) = -1 := fun z => nI_neg (by omega : fx D s f < 2 ^ 31) (by rw [z]; decide)
    rw [hf, show fIx D s (some f) = nI (fx D s f) from rfl, if_neg hne]
    unfold x_X12_nextRow
    rw [ix_in (show dp < 40 by omega) (by decide), t4, N_nextRow hU4 hs hg hV.2.1 (by omega) hRn hd.1 hd.2.1 ((zR H).length - i) i U (by omega) (by omega), b1_eq]
    refine ⟨fun hff => ?_, fun i' hi' hff => ?_⟩
    · rw [hff, if_pos (show rwI none = -1 from rfl), ix_in (show dp < 40 by omega) (by decide), ix_in (show dp < 40 by omega) (by decide), t3, nI_1, sb_eq, ix_in (show dp < 40 by omega) (by decide), sb_eq]
    · have hne' : ¬ rwI (some i') = -1 := fun y => nI_neg (by omega : i' < 2 ^ 31) (show nI i' < 0 by have y' : nI i' = -1 := y; rw [y']; decide)
      rw [hff, if_neg hne', ix_in (show dp < 40 by omega) (by decide)]
      simp only [show rwI (some i') = nI i' from rfl, ix_in (show fx D s f < 120 by omega) (by decide), ix_in hi' (by decide), nI_1]
/-- what the loop does with a piece of a message -/
def PL (U s : Nat) (T : List Nat) (D : List Dc) (A : AV) (H : Rh) (K : SG → Option (Int32 × SG)) (dp : Nat) (w : List Nat × Int32) (B : List Nat) (c : Nat) (Q : SG → Prop) (U1 : Nat) (σ : SG) : Prop := ∃ τ U2, x_X12_print_L39 U 1101 K U1 σ = x_X12_print_L39 U 1101 K U2 τ ∧ U1 ≤ U2 + c ∧ PS τ s T D A H (wrL 4000 w B) ∧ Q τ ∧ fP PPr σ τ ∧ ∀ j, j < dp → sI τ 1176 j = sI σ 1176 j ∧ sI τ 1178 j = sI σ 1178 j ∧ sI τ 1179 j = sI σ 1179 j
theorem L39_step {U dp n k i V : Nat} {σ τ : SG} {K : SG → Option (Int32 × SG)} (ht : TP σ dp n k i) (hdp : dp < 20) (h : x_X12_printStep U 1101 σ = some τ) : x_X12_print_L39 U 1101 K (V + 1) σ = x_X12_print_L39 U 1101 K V τ := by
  rw [x_X12_print_L39, ht.1, if_pos (show (0 : Int32) < nI (dp + 1) from (ltI (a := 0) (by decide) (by omega)).mpr (by omega)), h, b1_eq]
/-- what closes a message -/
def clB (dp : Nat) : List Nat := if dp = 0 then [] else inB dp ++ [125, 10]
theorem PS_end {U s dp n k i : Nat} {σ : SG} {T : List Nat} {D : List Dc} {A : AV} {H : Rh} {w : List Nat × Int32} (hU4 : 4000 < U) (hE : PS σ s T D A H w) (hdp : dp < 20) : ∃ τ, (sb (uI σ 1101 106 (nI dp)) fun σ16 => if sI σ16 1101 106 = 0 then (some σ16) else (b1 (x_X12_blanks U 1101 (2 * ((sI σ16 1101 106) - 1)) σ16) fun σ19 => b1 (x_X12_put 1101 125 σ19) fun σ21 => b1 (x_X12_put 1101 10 σ21) fun σ23 => some σ23)) = some τ ∧ PS τ s T D A H (wrL 4000 w (clB dp)) ∧ sI τ 1101 106 = nI dp ∧ fP PPr σ τ ∧ ∀ j, sI τ 1176 j = sI σ 1176 j ∧ sI τ 1178 j = sI σ 1178 j ∧ sI τ 1179 j = sI σ 1179 j := by
  rw [sb_eq, sI_s]
  have E1 := PS_uI (b := 1101) (j := 106) (v := nI dp) hE (by omega)
  have c1 : sI (uI σ 1101 106 (nI dp)) 1101 106 = nI dp := sI_s _ _ _ _
  have F1 : fP PPr σ (uI σ 1101 106 (nI dp)) := fP_u (by unfold PPr; omega)
  have L1 : ∀ j, sI (uI σ 1101 106 (nI dp)) 1176 j = sI σ 1176 j ∧ sI (uI σ 1101 106 (nI dp)) 1178 j = sI σ 1178 j ∧ sI (uI σ 1101 106 (nI dp)) 1179 j = sI σ 1179 j := fun j => ⟨sI_o (Or.inl (by decide)), sI_o (Or.inl (by decide)), sI_o (Or.inl (by decide))⟩
  generalize uI σ 1101 106 (nI dp) = σ1 at *
  have e0 : nI dp = 0 ↔ dp = 0 := nI_eq (b := 0) (by omega) (by decide)
  rw [ifd e0]
  unfold clB
  by_cases q : dp = 0
  · rw [if_pos q, if_pos q]
    exact ⟨σ1, rfl, E1, c1, F1, L1⟩
  · rw [if_neg q, if_neg q, show nI dp - 1 = nI (dp - 1) from nI_sub (a := dp) (b := 1) (by omega)]
    have key : WN w (inB dp ++ [125, 10]) σ1 (b1 (x_X12_blanks U 1101 (2 * nI (dp - 1)) σ1) fun σ19 => b1 (x_X12_put 1101 125 σ19) fun σ21 => b1 (x_X12_put 1101 10 σ21) fun σ23 => some σ23) := by
      have hb := N_blanks (U := U) (dp := dp - 1) hU4 (by omega) E1.2.2
      rw [show dp - 1 + 1 = dp by omega] at hb
      refine WN_b1 hb (fun τ t2 t3 => ?_)
      refine WN_b1 (B := [125]) (N_put1 (c := 125) t2) (fun υ u2 u3 => ?_)
      rw [b1_id]
      exact N_put1 (c := 10) u2
    obtain ⟨τ, t1, t2, t3⟩ := key
    refine ⟨τ, t1, PS_fw E1 t3 t2, ((t3 1101 106 (by unfold Pfw; omega)).1).trans c1, fP_trans F1 (Pfw_PPr t3), fun j => ⟨?_, ?_, ?_⟩⟩
    · exact ((t3 1176 j (by unfold Pfw; omega)).1).trans (L1 j).1
    · exact ((t3 1178 j (by unfold Pfw; omega)).1).trans (L1 j).2.1
    · exact ((t3 1179 j (by unfold Pfw; omega)).1).trans (L1 j).2.2
theorem PS_row {U s dp n k i i' f : Nat} {σ : SG} {T : List Nat} {D : List Dc} {A : AV} {H : Rh} {w : List Nat × Int32} {r : Rg} {d : Dc} {rc : Nat → List Nat} (hU4 : 4000 < U) (hs : s < 2) (hg : GSc T D) (hE : PS σ s T D A H w) (hdp : dp < 20) (ht : TP σ dp n k i) (hr : (zR H)[i']? = some r) (hp : pRw n f r = true) (hd : D[f]? = some d) (h2 : dK d = 2) : ∃ τ, (sb (uI σ 1178 dp (nI (i' + 1))) fun σ49 => b1 (x_X12_blanks U 1101 (2 * nI dp) σ49) fun σ51 => b1 (x_X12_putName U 1101 (sI σ51 1115 (fx D s f)) (sI σ51 1116 (fx D s f)) σ51) fun σ61 => if sI σ61 1118 (fx D s f) = 13 then (b1 (x_X12_putWord U 1101 8315 σ61) fun σ68 => b1 (x_X12_put 1101 10 σ68) fun σ70 => b1 (x_X12_goInto 1101 (sI σ70 1170 i') σ70) fun σ76 => some σ76) else (b1 (x_X12_putWord U 1101 14880 σ61) fun σ78 => b1 (x_X12_putPlain U 1101 (nI i') σ78) fun σ80 => b1 (x_X12_put 1101 10 σ80) fun σ82 => some σ82)) = some τ ∧ fP PPr σ τ ∧ (∀ j, j < dp → sI τ 1176 j = sI σ 1176 j ∧ sI τ 1178 j = sI σ 1178 j ∧ sI τ 1179 j = sI σ 1179 j) ∧ (fty T D d ≠ 13 → PS τ s T D A H (wrL 4000 w (pIt T D (dp + 1) rc d (itR T D d r))) ∧ TP τ dp n k (i' + 1)) ∧ (fty T D d = 13 → PS τ s T D A H (wrL 4000 w (inB (dp + 1) ++ (nmT T d ++ [32, 123, 10]))) ∧ TP τ (dp + 1) (rK r) 0 0 ∧ sI τ 1176 dp = nI n ∧ sI τ 1179 dp = nI k ∧ sI τ 1178 dp = nI (i' + 1)) := by
  obtain ⟨t1, t2, t3, t4⟩ := ht
  have hil := (List.getElem?_eq_some_iff.mp hr).1
  have hR7 := hE.2.1.2.1.2.1
  obtain ⟨p1, p2⟩ := pRw_of hp
  have hft : fty T D d ≤ 14 := dTy_lt (hg.fld hd h2).2.2.2.1
  have E1 := PS_uI (b := 1178) (j := dp) (v := nI (i' + 1)) hE (by omega)
  rw [sb_eq]
  have F1 : fP PPr σ (uI σ 1178 dp (nI (i' + 1))) := fP_u (by unfold PPr; omega)
  have T1 : TP (uI σ 1178 dp (nI (i' + 1))) dp n k (i' + 1) := ⟨(sI_o (Or.inl (by decide))).trans t1, (sI_o (Or.inl (by decide))).trans t2, (sI_o (Or.inl (by decide))).trans t3, sI_s _ _ _ _⟩
  have L1 : ∀ j, j < dp → sI (uI σ 1178 dp (nI (i' + 1))) 1176 j = sI σ 1176 j ∧ sI (uI σ 1178 dp (nI (i' + 1))) 1178 j = sI σ 1178 j ∧ sI (uI σ 1178 dp (nI (i' + 1))) 1179 j = sI σ 1179 j := fun j hj => ⟨sI_o (Or.inl (by decide)), sI_o (Or.inr (by omega)), sI_o (Or.inl (by decide))⟩
  generalize uI σ 1178 dp (nI (i' + 1)) = σ1 at *
  -- the beginning of the line
  obtain ⟨τ, a1, a2, a3⟩ := N_blanks (U := U) (dp := dp) hU4 (by omega) E1.2.2
  have E2 := PS_fw E1 a3 a2
  have hnm2 : NM τ s 1115 (fx D s f) (nmT T d) := ((E2.1.2.2 f d hd).2.2.1 h2).2.1
  obtain ⟨υ, u1, u2, u3⟩ := N_putName (U := U) hU4 hs hnm2 E2.2.2
  have u1' : x_X12_putName U 1101 (sI τ 1115 (fx D s f)) (sI τ 1116 (fx D s f)) τ = some υ := u1
  have E3 := PS_fw E2 u3 u2
  have f3 := fP_trans a3 u3
  obtain ⟨_, _, _, f4, _⟩ := E3.1.f hd h2
  have e13 : nI (fty T D d) = 13 ↔ fty T D d = 13 := nI_eq (b := 13) (by omega) (by decide)
  rw [a1, b1_eq, u1', b1_eq, f4, ifd e13]
  by_cases q : fty T D d = 13
  · rw [if_pos q]
    have key : WN (wrL 4000 (wrL 4000 w (inB (dp + 1))) (nmT T d)) ([32, 123] ++ [10]) υ (b1 (x_X12_putWord U 1101 8315 υ) fun σ68 => x_X12_put 1101 10 σ68) := by
      rw [← bw1]
      refine WN_b1 (N_putWord hU4 E3.2.2) (fun ω o2 o3 => ?_)
      exact N_put1 (c := 10) o2
    obtain ⟨φ, v1, v2, v3⟩ := key
    have v1' : ∀ (F : SG → Option SG), (b1 (x_X12_putWord U 1101 8315 υ) fun σ68 => b1 (x_X12_put 1101 10 σ68) F) = F φ := by
      intro F
      cases h : x_X12_putWord U 1101 8315 υ with
      | none => rw [h] at v1; cases v1
      | some ψ =>
        rw [h] at v1
        have v1'' : x_X12_put 1101 10 ψ = some φ := v1
        rw [b1_eq, v1'', b1_eq]
    have E4 := PS_fw E3 v3 v2
    have f4' := fP_trans f3 v3
    have T4 := TP_P T1 f4'
    obtain ⟨s1, s2, s3, s4⟩ := T4
    obtain ⟨⟨w1, w2, w3, _, d', w8, w9, w10⟩, _⟩ := E4.2.1.2.1.2.2 i' r hr
    rw [p2, hd] at w8
    cases w8
    rw [if_pos q] at w10
    rw [v1', w10, b1_id]
    unfold x_X12_goInto
    rw [s1, ix_in (by omega) (by decide), sb_eq, sI_o (Or.inl (by decide)), s1, ix_in (by omega) (by decide), sb_eq, sI_o (Or.inl (by decide)), sI_o (Or.inl (by decide)), s1, ix_in (by omega) (by decide), sb_eq, sb_eq, sI_o (Or.inl (by decide)), sI_o (Or.inl (by decide)), sI_o (Or.inl (by decide)), s1, nI_1]
    refine ⟨_, rfl, fP_trans (fP_trans F1 (Pfw_PPr f4')) (fP_trans (fP_trans (fP_trans (fP_u (by unfold PPr; omega)) (fP_u (by unfold PPr; omega))) (fP_u (by unfold PPr; omega))) (fP_u (by unfold PPr; omega))), fun j hj => ⟨?_, ?_, ?_⟩, fun z => absurd q z, fun _ => ⟨?_, ⟨sI_s _ _ _ _, ?_, ?_, ?_⟩, ?_, ?_, ?_⟩⟩
    · rw [sI_o (Or.inl (by decide)), sI_o (Or.inl (by decide)), sI_o (Or.inl (by decide)), sI_o (Or.inr (by omega))]
      exact ((f4' 1176 j (by unfold Pfw; omega)).1).trans (L1 j hj).1
    · rw [sI_o (Or.inl (by decide)), sI_o (Or.inr (by omega)), sI_o (Or.inl (by decide)), sI_o (Or.inl (by decide))]
      exact ((f4' 1178 j (by unfold Pfw; omega)).1).trans (L1 j hj).2.1
    · rw [sI_o (Or.inl (by decide)), sI_o (Or.inl (by decide)), sI_o (Or.inr (by omega)), sI_o (Or.inl (by decide))]
      exact ((f4' 1179 j (by unfold Pfw; omega)).1).trans (L1 j hj).2.2
    · rw [wrL_app, wrL_app]
      exact PS_uI (PS_uI (PS_uI (PS_uI E4 (by omega)) (by omega)) (by omega)) (by omega)
    · rw [sI_o (Or.inl (by decide)), sI_o (Or.inl (by decide)), sI_o (Or.inl (by decide)), sI_s]
    · rw [sI_o (Or.inl (by decide)), sI_o (Or.inl (by decide)), sI_s]; try rfl
    · rw [sI_o (Or.inl (by decide)), sI_s]; try rfl
    · rw [sI_o (Or.inl (by decide)), sI_o (Or.inl (by decide)), sI_o (Or.inl (by decide)), sI_o (Or.inr (by omega))]; exact s2
    · rw [sI_o (Or.inl (by decide)), sI_o (Or.inl (by decide)), sI_o (Or.inr (by omega)), sI_o (Or.inl (by decide))]; exact s3
    · rw [sI_o (Or.inl (by decide)), sI_o (Or.inr (by omega)), sI_o (Or.inl (by decide)), sI_o (Or.inl (by decide))]; exact s4
  · rw [if_neg q]
    have key : WN (wrL 4000 (wrL 4000 w (inB (dp + 1))) (nmT T d)) ([58, 32] ++ (pVl' T D d (itR T D d r) ++ [10])) υ (b1 (x_X12_putWord U 1101 14880 υ) fun σ78 => b1 (x_X12_putPlain U 1101 (nI i') σ78) fun σ80 => b1 (x_X12_put 1101 10 σ80) fun σ82 => some σ82) := by
      rw [← bw2]
      refine WN_b1 (N_putWord hU4 E3.2.2) (fun ω o2 o3 => ?_)
      refine WN_b1 (N_putPlain hU4 hs hg (PS_fw E3 o3 o2) hr p2 hd h2 q) (fun φ v2 v3 => ?_)
      rw [b1_id]
      exact N_put1 (c := 10) v2
    obtain ⟨φ, v1, v2, v3⟩ := key
    have f4' := fP_trans f3 v3
    refine ⟨φ, v1, fP_trans F1 (Pfw_PPr f4'), fun j hj => ⟨?_, ?_, ?_⟩, fun _ => ⟨?_, TP_P T1 f4'⟩, fun z => absurd z q⟩
    · exact ((f4' 1176 j (by unfold Pfw; omega)).1).trans (L1 j hj).1
    · exact ((f4' 1178 j (by unfold Pfw; omega)).1).trans (L1 j hj).2.1
    · exact ((f4' 1179 j (by unfold Pfw; omega)).1).trans (L1 j hj).2.2
    · have eI : pIt T D (dp + 1) rc d (itR T D d r) = inB (dp + 1) ++ (nmT T d ++ ([58, 32] ++ (pVl' T D d (itR T D d r) ++ [10]))) := by unfold pIt pVl'; rw [if_neg q]
      rw [eI, wrL_app, wrL_app]
      exact PS_fw E3 v3 v2
theorem N_prows {U s dp n k f : Nat} {T : List Nat} {D : List Dc} {A : AV} {H : Rh} {K : SG → Option (Int32 × SG)} {rc : Nat → List Nat} {cst : Nat → Nat} {d : Dc} (hU4 : 4000 < U) (hs : s < 2) (hg : GSc T D) (hM : isM D (aN A n)) (hal : al T D A n = true) (hn : n < aC A) (hdp : dp < 20) (hk : (chF D (aN A n))[k]? = some f) (hd : isF D (aN A n) f d)
    (hrc : ∀ m ∈ chN T D A n, ∀ (τ : SG) (w' : List Nat × Int32) (U1 : Nat), PS τ s T D A H w' → TP τ (dp + 1) m 0 0 → cst m < U1 → PL U s T D A H K (dp + 1) w' (rc m ++ clB (dp + 1)) (cst m) (fun υ => sI υ 1101 106 = nI (dp + 1)) U1 τ) : ∀ (j i : Nat) (σ : SG) (w : List Nat × Int32) (U1 : Nat), i + j = (zR H).length → PS σ s T D A H w → TP σ dp n k i → 1 + (((((zR H).drop i).filter (pRw n f)).map (itR T D d)).map (cIt T D cst d)).sum < U1 → PL U s T D A H K dp w (((((zR H).drop i).filter (pRw n f)).map (itR T D d)).flatMap (pIt T D (dp + 1) rc d)) (1 + (((((zR H).drop i).filter (pRw n f)).map (itR T D d)).map (cIt T D cst d)).sum) (fun τ => TP τ dp n (k + 1) 0) U1 σ := by
  intro j
  induction j using Nat.strongRecOn with
  | ind j ih =>
    intro i σ w U1 hij hE ht hu
    obtain ⟨V, rfl⟩ : ∃ V, U1 = V + 1 := ⟨U1 - 1, by omega⟩
    have hR7 := hE.2.1.2.1.2.1
    have hk31 : k < 2 ^ 31 := by
      have h1 := (List.getElem?_eq_some_iff.mp hk).1
      have h2 := chF_len (a := aN A n) hg.2.1
      omega
    obtain ⟨stn, sts⟩ := (N_pstep (U := U) hU4 hs hg hE hM hn hdp hk31 (show i ≤ (zR H).length by omega) ht).2 f d hk hd
    obtain ⟨fn, fs⟩ := ff_rest (p := pRw n f) (R := zR H) j i hij
    cases hff : ff (pRw n f) ((zR H).drop i) i with
    | none =>
      rw [fn hff]
      obtain ⟨t1, t2, t3, t4⟩ := ht
      refine ⟨_, V, L39_step ⟨t1, t2, t3, t4⟩ hdp (stn hff), by show V + 1 ≤ V + (1 + 0); omega, PS_uI (PS_uI hE (by omega)) (by omega), ⟨?_, ?_, ?_, sI_s _ _ _ _⟩, fP_trans (fP_u (by unfold PPr; omega)) (fP_u (by unfold PPr; omega)), fun j hj => ⟨?_, ?_, ?_⟩⟩
      · rw [sI_o (Or.inl (by decide)), sI_o (Or.inl (by decide))]; exact t1
      · rw [sI_o (Or.inl (by decide)), sI_o (Or.inl (by decide))]; exact t2
      · rw [sI_o (Or.inl (by decide)), sI_s]
      · rw [sI_o (Or.inl (by decide)), sI_o (Or.inl (by decide))]
      · rw [sI_o (Or.inr (by omega)), sI_o (Or.inl (by decide))]
      · rw [sI_o (Or.inl (by decide)), sI_o (Or.inr (by omega))]
    | some i' =>
      obtain ⟨r, r1, r2, r3, r4, r5⟩ := fs i' hff
      rw [r5, List.map_cons, List.map_cons, List.sum_cons] at hu
      rw [r5, List.map_cons, List.flatMap_cons, List.map_cons, List.sum_cons]
      obtain ⟨p1, p2⟩ := pRw_of r2
      have hA : rA r = true := by have := r2; unfold pRw at this; rw [Bool.and_eq_true] at this; exact this.2
      obtain ⟨τ, t1, t2, t3, t4, t5⟩ := PS_row (U := U) (rc := rc) hU4 hs hg hE hdp ht r1 r2 hd.1 hd.2.1
      have stp' : x_X12_printStep U 1101 σ = some τ := by rw [sts i' (by omega) hff]; exact t1
      by_cases q13 : fty T D d = 13
      · have hit := (VS_it hE.2.1 (List.mem_of_getElem? r1) hA p1 (show D[rF r]? = some d by rw [p2]; exact hd.1)).2.2
        rw [p2] at hit
        have hkc : rK r ∈ chN T D A n := chN_mem.mpr ⟨f, (chF_mem hg hM).mpr ⟨d, hd⟩, by unfold isT; rw [hd.1]; exact decide_eq_true q13, _, hit, by unfold itR; rw [if_pos q13]⟩
        obtain ⟨s1, s2, s3, s4, s5⟩ := t5 q13
        have ecI : cIt T D cst d (itR T D d r) = 1 + cst (rK r) := by unfold cIt itR; rw [if_pos q13, if_pos q13]
        rw [ecI] at hu ⊢
        obtain ⟨υ, U2, u1, u2, u3, u4, u5, u6⟩ := hrc _ hkc τ _ V s1 s2 (by omega)
        have T2 : TP υ dp n k (i' + 1) := ⟨u4, (u6 dp (by omega)).1.trans s3, (u6 dp (by omega)).2.2.trans s4, (u6 dp (by omega)).2.1.trans s5⟩
        obtain ⟨ω, U3, o1, o2, o3, o4, o5, o6⟩ := ih ((zR H).length - (i' + 1)) (by omega) (i' + 1) υ _ U2 (by omega) u3 T2 (by omega)
        refine ⟨ω, U3, by rw [L39_step ht hdp stp', u1, o1], by omega, ?_, o4, fP_trans t2 (fP_trans u5 o5), fun x hx => ⟨?_, ?_, ?_⟩⟩
        · have eI : pIt T D (dp + 1) rc d (itR T D d r) = (inB (dp + 1) ++ (nmT T d ++ [32, 123, 10])) ++ (rc (rK r) ++ clB (dp + 1)) := by
            unfold pIt itR clB
            rw [if_pos q13, if_pos q13, if_neg (by omega)]
            simp only [List.append_assoc]
          rw [eI, wrL_app, wrL_app (L := inB (dp + 1) ++ (nmT T d ++ [32, 123, 10]))]
          exact o3
        · exact (o6 x hx).1.trans ((u6 x (by omega)).1.trans (t3 x hx).1)
        · exact (o6 x hx).2.1.trans ((u6 x (by omega)).2.1.trans (t3 x hx).2.1)
        · exact (o6 x hx).2.2.trans ((u6 x (by omega)).2.2.trans (t3 x hx).2.2)
      · obtain ⟨s1, s2⟩ := t4 q13
        have ecI : cIt T D cst d (itR T D d r) = 1 := by unfold cIt; rw [if_neg q13]
        rw [ecI] at hu ⊢
        obtain ⟨ω, U3, o1, o2, o3, o4, o5, o6⟩ := ih ((zR H).length - (i' + 1)) (by omega) (i' + 1) τ _ V (by omega) s1 s2 (by omega)
        refine ⟨ω, U3, by rw [L39_step ht hdp stp', o1], by omega, by rw [wrL_app]; exact o3, o4, fP_trans t2 o5, fun x hx => ⟨?_, ?_, ?_⟩⟩
        · exact (o6 x hx).1.trans (t3 x hx).1
        · exact (o6 x hx).2.1.trans (t3 x hx).2.1
        · exact (o6 x hx).2.2.trans (t3 x hx).2.2
/-! ===== the reference's print, whole ===== -/
def cFp (T : List Nat) (D : List Dc) (A : AV) (cst : Nat → Nat) (n f : Nat) : Nat := match D[f]? with
  | none => 0
  | some d => 1 + ((aE A n f).map (cIt T D cst d)).sum
theorem N_pflds {U s dp n : Nat} {T : List Nat} {D : List Dc} {A : AV} {H : Rh} {K : SG → Option (Int32 × SG)} {rc : Nat → List Nat} {cst : Nat → Nat} (hU4 : 4000 < U) (hs : s < 2) (hg : GSc T D) (hM : isM D (aN A n)) (hal : al T D A n = true) (hn : n < aC A) (hdp : dp < 20)
    (hrc : ∀ m ∈ chN T D A n, ∀ (τ : SG) (w' : List Nat × Int32) (U1 : Nat), PS τ s T D A H w' → TP τ (dp + 1) m 0 0 → cst m < U1 → PL U s T D A H K (dp + 1) w' (rc m ++ clB (dp + 1)) (cst m) (fun υ => sI υ 1101 106 = nI (dp + 1)) U1 τ) : ∀ (j k : Nat) (σ : SG) (w : List Nat × Int32) (U1 : Nat), k + j = (chF D (aN A n)).length → PS σ s T D A H w → TP σ dp n k 0 → (((chF D (aN A n)).drop k).map (cFp T D A cst n)).sum + 1 < U1 → PL U s T D A H K dp w (((chF D (aN A n)).drop k).flatMap (pFd T D A (dp + 1) rc n) ++ clB dp) ((((chF D (aN A n)).drop k).map (cFp T D A cst n)).sum + 1) (fun τ => sI τ 1101 106 = nI dp) U1 σ := by
  have hFl := chF_len (a := aN A n) hg.2.1
  intro j
  induction j with
  | zero =>
    intro k σ w U1 hk hE ht hu
    obtain ⟨V, rfl⟩ : ∃ V, U1 = V + 1 := ⟨U1 - 1, by omega⟩
    have h0 : (chF D (aN A n))[k]? = none := List.getElem?_eq_none (by omega)
    have stp := (N_pstep (U := U) hU4 hs hg hE hM hn hdp (by omega) (Nat.zero_le _) ht).1 h0
    obtain ⟨τ, t1, t2, t3, t4, t5⟩ := PS_end (U := U) (n := n) (k := k) (i := 0) hU4 hE hdp
    rw [List.drop_eq_nil_of_le (by omega), List.flatMap_nil, List.nil_append]
    exact ⟨τ, V, L39_step ht hdp (by rw [stp]; exact t1), by show V + 1 ≤ V + (0 + 1); omega, t2, t3, t4, fun j _ => t5 j⟩
  | succ j ih =>
    intro k σ w U1 hk hE ht hu
    have hkl : k < (chF D (aN A n)).length := by omega
    have hkf := List.getElem?_eq_getElem hkl
    obtain ⟨d, hd⟩ := (chF_mem hg hM).mp (List.getElem_mem hkl)
    rw [List.drop_eq_getElem_cons hkl, List.map_cons, List.sum_cons] at hu
    rw [List.drop_eq_getElem_cons hkl, List.map_cons, List.sum_cons, List.flatMap_cons, List.append_assoc]
    have ec : cFp T D A cst n (chF D (aN A n))[k] = 1 + ((aE A n (chF D (aN A n))[k]).map (cIt T D cst d)).sum := by unfold cFp; rw [hd.1]
    have ee : pFd T D A (dp + 1) rc n (chF D (aN A n))[k] = (aE A n (chF D (aN A n))[k]).flatMap (pIt T D (dp + 1) rc d) := by unfold pFd; rw [hd.1]
    have one : PL U s T D A H K dp w (pFd T D A (dp + 1) rc n (chF D (aN A n))[k]) (cFp T D A cst n (chF D (aN A n))[k]) (fun τ => TP τ dp n (k + 1) 0) U1 σ := by
      rw [ec] at hu
      rw [ee, ec]
      have hEf := (hE.2.1.2.2.2.2.2.2.1 n hal).1 _ d hd
      have key := N_prows (U := U) (K := K) (rc := rc) (cst := cst) hU4 hs hg hM hal hn hdp hkf hd hrc (zR H).length 0 σ w U1 (by omega) hE ht (by rw [List.drop_zero, hEf]; omega)
      rw [List.drop_zero, hEf] at key
      exact key
    obtain ⟨τ, U2, t1, t2, t3, t4, t5, t6⟩ := one
    obtain ⟨υ, U3, u1, u2, u3, u4, u5, u6⟩ := ih (k + 1) τ _ U2 (by omega) t3 t4 (by omega)
    refine ⟨υ, U3, by rw [t1, u1], by omega, by rw [wrL_app]; exact u3, u4, fP_trans t5 u5, fun x hx => ⟨?_, ?_, ?_⟩⟩
    · exact (u6 x hx).1.trans (t6 x hx).1
    · exact (u6 x hx).2.1.trans (t6 x hx).2.1
    · exact (u6 x hx).2.2.trans (t6 x hx).2.2
theorem cFp_congr {T : List Nat} {D : List Dc} {A : AV} {c c' : Nat → Nat} {n f : Nat} (hf : f ∈ chF D (aN A n)) (h : ∀ k ∈ chN T D A n, c k = c' k) : cFp T D A c n f = cFp T D A c' n f := by
  unfold cFp
  cases hd : D[f]? with
  | none => rfl
  | some d =>
    simp only
    congr 2
    apply List.map_congr_left
    intro it hit
    unfold cIt
    by_cases q : fty T D d = 13
    · rw [if_pos q, if_pos q, h _ (chN_mem.mpr ⟨f, hf, by unfold isT; rw [hd]; exact decide_eq_true q, it, hit, rfl⟩)]
    · rw [if_neg q, if_neg q]
def cPs (T : List Nat) (D : List Dc) (A : AV) : Nat → Nat → Nat
  | 0, _ => 0
  | j + 1, n => ((chF D (aN A n)).map (cFp T D A (cPs T D A j) n)).sum + 1
def cPf (T : List Nat) (D : List Dc) (A : AV) (z : Nat → Nat) (n : Nat) : Nat := cPs T D A (21 - z n) n
theorem cPf_eq {T : List Nat} {D : List Dc} {A : AV} {z : Nat → Nat} (h : AW T D A z) {n : Nat} (hn : n < aC A) : cPf T D A z n = ((chF D (aN A n)).map (cFp T D A (cPf T D A z) n)).sum + 1 := by
  obtain ⟨a, b⟩ := h.2.2.1 n hn
  unfold cPf
  rw [show 21 - z n = (20 - z n) + 1 by omega, cPs]
  congr 2
  apply List.map_congr_left
  intro f hf
  apply cFp_congr hf
  intro k hk
  rw [(b k hk).2.2, show 21 - (z n + 1) = 20 - z n by omega]
theorem N_pmsg {U s : Nat} {T : List Nat} {D : List Dc} {A : AV} {H : Rh} {K : SG → Option (Int32 × SG)} {z : Nat → Nat} (hU4 : 4000 < U) (hs : s < 2) (hg : GSc T D) (hK : AK T D A) (hZ : AW T D A z) : ∀ (j dp n : Nat) (σ : SG) (w : List Nat × Int32) (U1 : Nat), dp + j = 20 → z n = dp + 1 → al T D A n = true → PS σ s T D A H w → TP σ dp n 0 0 → cPf T D A z n < U1 → PL U s T D A H K dp w (pMf T D A z n ++ clB dp) (cPf T D A z n) (fun τ => sI τ 1101 106 = nI dp) U1 σ := by
  obtain ⟨_, _, hM⟩ := hK
  have hlt : ∀ n, al T D A n = true → n < aC A := fun n hn => List.mem_range.mp ((alL_lt _).subset (of_decide_eq_true hn))
  intro j
  induction j with
  | zero =>
    intro dp n σ w U1 hj hz hal
    have := (hZ.2.2.1 n (hlt n hal)).1
    omega
  | succ j ih =>
    intro dp n σ w U1 hj hz hal hE ht hu
    have hn := hlt n hal
    rw [cPf_eq hZ hn] at hu ⊢
    rw [pMf_eq hZ hn, hz]
    have key := N_pflds (U := U) (dp := dp) (K := K) (rc := pMf T D A z) (cst := cPf T D A z) hU4 hs hg (hM n hn) hal hn (by omega) (fun m hm τ w' U1 hE' ht' hu' => by
      obtain ⟨a1, a2, a3⟩ := al_child hZ hal hm
      exact ih (dp + 1) m τ w' U1 (by omega) (by rw [((hZ.2.2.1 n hn).2 m hm).2.2, hz]) a1 hE' ht' hu') (chF D (aN A n)).length 0 σ w U1 (by omega) hE ht (by rw [List.drop_zero]; exact hu)
    rw [List.drop_zero] at key
    exact key
theorem cFp_le {T : List Nat} {D : List Dc} {A : AV} {cst : Nat → Nat} {n f : Nat} : cFp T D A cst n f ≤ 1 + ((aE A n f).map (fun it => 1 + if isT T D f then cst it.2.2 else 0)).sum := by
  unfold cFp
  cases hd : D[f]? with
  | none => exact Nat.zero_le _
  | some d =>
    have hT : isT T D f = decide (fty T D d = 13) := by unfold isT; rw [hd]
    simp only
    apply Nat.add_le_add_left
    apply sum_le
    intro it _
    unfold cIt
    rw [hT]
    by_cases q : fty T D d = 13
    · rw [if_pos q, decide_eq_true q, if_pos rfl]; exact Nat.le_refl _
    · rw [if_neg q, decide_eq_false q, if_neg (by decide)]; exact Nat.le_refl _
theorem cPf_le {T : List Nat} {D : List Dc} {A : AV} {z : Nat → Nat} (h : AW T D A z) : ∀ (j n : Nat), n < aC A → z n + j = 21 → cPf T D A z n ≤ twf T D A (wC D A) z n := by
  intro j
  induction j with
  | zero => intro n hn hz; have := (h.2.2.1 n hn).1; omega
  | succ j ih =>
    intro n hn hz
    rw [cPf_eq h hn, twf_eq h hn]
    have h1 := sum_le (f := cFp T D A (cPf T D A z) n) (g := fun f => 1 + ((aE A n f).map (fun it => 1 + if isT T D f then cPf T D A z it.2.2 else 0)).sum) (chF D (aN A n)) (fun f _ => cFp_le)
    have h0 : ((chF D (aN A n)).map (fun f => 1 + ((aE A n f).map (fun it => 1 + if isT T D f then cPf T D A z it.2.2 else 0)).sum)).sum = (chF D (aN A n)).length + ((its D A n).length + ((chN T D A n).map (cPf T D A z)).sum) := by
      rw [sum_add, sum_its (h := cPf T D A z)]
      congr 1
      generalize chF D (aN A n) = F
      induction F with
      | nil => rfl
      | cons a F ih => rw [List.map_cons, List.sum_cons, ih, List.length_cons]; omega
    have h3 : ((chN T D A n).map (cPf T D A z)).sum ≤ ((chN T D A n).map (twf T D A (wC D A) z)).sum := sum_le _ (fun c hc => by
      obtain ⟨_, b⟩ := h.2.2.1 n hn
      obtain ⟨b1, b2, b3⟩ := b c hc
      exact ih c b2 (by omega))
    have e0 : wC D A n = (its D A n).length + ((chF D (aN A n)).length + 1) := rfl
    omega
theorem p_cost {T : List Nat} {D : List Dc} {A : AV} {z : Nat → Nat} (hg : GSc T D) (h : AW T D A z) (hc : aC A ≤ 351) (hv : nV T D A ≤ 200) : cPf T D A z 0 + 1 < 70000 := by
  have h1 := cPf_le h 20 0 h.1 (by rw [h.2.1])
  rw [tw_al h] at h1
  have h2 : ((alL T D A (aC A)).map (wC D A)).sum = nV T D A + ((alL T D A (aC A)).map (fun n => (chF D (aN A n)).length + 1)).sum := by
    unfold nV wC
    exact sum_add _ _ _
  have h3 : ∀ (L : List Nat), (L.map (fun n => (chF D (aN A n)).length + 1)).sum ≤ 181 * L.length := by
    intro L
    induction L with
    | nil => exact Nat.le_refl _
    | cons n L ih =>
      rw [List.map_cons, List.sum_cons, List.length_cons]
      have := chF_len (a := aN A n) hg.2.1
      omega
  have h4 := h3 (alL T D A (aC A))
  have h5 := (alL_lt (T := T) (D := D) (A := A) (aC A)).length_le
  rw [List.length_range] at h5
  omega
def Pprn (b k : Nat) : Prop := PPr b k ∨ (b = 1101 ∧ k = 5)
/-- the reference's print -/
theorem N_print {U s : Nat} {σ : SG} {T : List Nat} {D : List Dc} {A : AV} {H : Rh} {z : Nat → Nat} (hU4 : 4000 < U) (hs : s < 2) (hg : GSc T D) (h79 : sI σ 1101 79 = 1) (hS : RS σ s T D) (hV : VS σ s T D A H) (hZ : AW T D A z) (hK : AK T D A) (hcU : cPf T D A z 0 + 1 < U) : ∃ τ, x_X12_print U 1101 σ = some (nI (prO (pMf T D A z 0)).length, τ) ∧ ROr τ (prO (pMf T D A z 0), 0) ∧ sI τ 1101 5 = (if (pMf T D A z 0).length ≤ 4000 then 0 else 2) ∧ RS τ s T D ∧ VS τ s T D A H ∧ fP Pprn σ τ := by
  unfold x_X12_print x_X12_print_17
  obtain ⟨σ2, a1, a2, a3⟩ := X12_emptyOut (σ := σ)
  have a3' := fw_Pfw a3
  have e79 : sI σ2 1101 79 = 1 := ((fw_I a3 (by decide) (by omega)).1).trans h79
  rw [a1, b1_eq, e79, if_neg (show ¬ (1 : Int32) = 0 by decide), sb_eq, sI_s, if_pos (show (0 : Int32) = 0 from rfl)]
  have S2 := RS_fw hS a3
  have V2 := VS_fw hV a3
  have F4 : fP (fun b k => b = 1101 ∧ k = 5) σ2 (uI σ2 1101 5 0) := fP_u ⟨rfl, rfl⟩
  have S4 : RS (uI σ2 1101 5 0) s T D := RS_keep S2 (fun b k hb => (F4 b k (by unfold PKP at hb; omega)).1)
  have V4 : VS (uI σ2 1101 5 0) s T D A H := VS_keep V2 (fun b k hb => ⟨(F4 b k (by omega)).1, (F4 b k (by omega)).2.1⟩)
  have R4 : ROr (uI σ2 1101 5 0) ([], 0) := ROr_uI a2 (by decide) (by decide)
  have c5 : sI (uI σ2 1101 5 0) 1101 5 = 0 := sI_s _ _ _ _
  generalize uI σ2 1101 5 0 = σ4 at *
  rw [sb_eq]
  have E4 : PS σ4 s T D A H ([], 0) := ⟨S4, V4, R4⟩
  have E8 := PS_uI (b := 1101) (j := 106) (v := 0) E4 (by omega)
  have c106 : sI (uI σ4 1101 106 0) 1101 106 = 0 := sI_s _ _ _ _
  have F8 : fP PPr σ4 (uI σ4 1101 106 0) := fP_u (by unfold PPr; omega)
  generalize uI σ4 1101 106 0 = σ8 at *
  have c106' : sI σ8 1101 106 = nI 0 := c106
  unfold x_X12_goInto
  rw [c106', ix_in (by decide) (by decide), sb_eq, sI_o (Or.inl (by decide)), c106', ix_in (by decide) (by decide), sb_eq, sI_o (Or.inl (by decide)), sI_o (Or.inl (by decide)), c106', ix_in (by decide) (by decide), sb_eq, sb_eq, sI_o (Or.inl (by decide)), sI_o (Or.inl (by decide)), sI_o (Or.inl (by decide)), c106', b1_eq]
  have E9 : PS (uI (uI (uI (uI σ8 1176 0 0) 1179 0 0) 1178 0 0) 1101 106 (nI 0 + 1)) s T D A H ([], 0) := PS_uI (PS_uI (PS_uI (PS_uI E8 (by omega)) (by omega)) (by omega)) (by omega)
  have T9 : TP (uI (uI (uI (uI σ8 1176 0 0) 1179 0 0) 1178 0 0) 1101 106 (nI 0 + 1)) 0 0 0 0 := ⟨rfl, rfl, rfl, rfl⟩
  have F9 : fP PPr σ8 (uI (uI (uI (uI σ8 1176 0 0) 1179 0 0) 1178 0 0) 1101 106 (nI 0 + 1)) := fP_trans (fP_trans (fP_trans (fP_u (by unfold PPr; omega)) (fP_u (by unfold PPr; omega))) (fP_u (by unfold PPr; omega))) (fP_u (by unfold PPr; omega))
  generalize (uI (uI (uI (uI σ8 1176 0 0) 1179 0 0) 1178 0 0) 1101 106 (nI 0 + 1)) = σ9 at *
  have hal0 : al T D A 0 = true := decide_eq_true ((alL_mem _ _ hZ.1).mpr (Or.inl rfl))
  obtain ⟨τ, U2, t1, t2, t3, t4, t5, t6⟩ := N_pmsg (U := U) (K := fun σ12 => if sI σ12 1101 4 = 0 then (some (sI σ12 1101 3, σ12)) else (b1 (x_X12_emptyOut 1101 σ12) fun σ15 => sb (uI σ15 1101 5 2) fun σ16 => some (sI σ16 1101 3, σ16))) hU4 hs hg hK hZ 20 0 0 σ9 ([], 0) U (by omega) hZ.2.1 hal0 E9 T9 (by omega)
  obtain ⟨V, rfl⟩ : ∃ V, U2 = V + 1 := ⟨U2 - 1, by omega⟩
  rw [show clB 0 = [] from rfl, List.append_nil] at t3
  rw [t1, x_X12_print_L39, t4, if_neg (show ¬ (0 : Int32) < nI 0 by decide)]
  have FA : fP Pprn σ τ := fP_trans (fP_mono a3' (fun b k y => Or.inl (by unfold Pfw at y; unfold PPr; omega))) (fP_trans (fP_mono F4 (fun b k y => Or.inr y)) (fP_mono (fP_trans F8 (fP_trans F9 t5)) (fun b k y => Or.inl y)))
  have c5' : sI τ 1101 5 = 0 := (((t5 1101 5 (by unfold PPr; omega)).1).trans (((F9 1101 5 (by unfold PPr; omega)).1).trans ((F8 1101 5 (by unfold PPr; omega)).1))).trans c5
  unfold prO
  by_cases q : (pMf T D A z 0).length ≤ 4000
  · rw [wrL_fit _ _ (by show 0 + (pMf T D A z 0).length ≤ 4000; omega)] at t3
    have R9 : ROr τ (pMf T D A z 0, 0) := t3.2.2
    have r4 : sI τ 1101 4 = 0 := R9.2.1
    rw [if_pos q, if_pos q, r4, if_pos (show (0 : Int32) = 0 from rfl), R9.1]
    exact ⟨τ, rfl, R9, c5', t3.1, t3.2.1, FA⟩
  · have r4 : sI τ 1101 4 = 1 := by rw [t3.2.2.2.1]; exact wrL_over _ _ (by simp) (by simpa using q)
    obtain ⟨υ, u1, u2, u3⟩ := X12_emptyOut (σ := τ)
    rw [if_neg q, if_neg q, r4, if_neg (show ¬ (1 : Int32) = 0 by decide), u1, b1_eq, sb_eq]
    have F5 : fP (fun b k => b = 1101 ∧ k = 5) υ (uI υ 1101 5 2) := fP_u ⟨rfl, rfl⟩
    have R5 : ROr (uI υ 1101 5 2) ([], 0) := ROr_uI u2 (by decide) (by decide)
    rw [R5.1]
    exact ⟨_, rfl, R5, sI_s _ _ _ _, RS_keep (RS_fw t3.1 u3) (fun b k hb => (F5 b k (by unfold PKP at hb; omega)).1), VS_keep (VS_fw t3.2.1 u3) (fun b k hb => ⟨(F5 b k (by omega)).1, (F5 b k (by omega)).2.1⟩), fP_trans FA (fP_trans (fP_mono (fw_Pfw u3) (fun b k y => Or.inl (by unfold Pfw at y; unfold PPr; omega))) (fP_mono F5 (fun b k y => Or.inr y)))⟩
theorem N_print_no {U : Nat} {σ : SG} (h79 : sI σ 1101 79 = 0) : ∃ τ, x_X12_print U 1101 σ = some (0, τ) ∧ ROr τ ([], 0) ∧ sI τ 1101 5 = 1 ∧ fP Pprn σ τ := by
  unfold x_X12_print x_X12_print_17
  obtain ⟨σ2, a1, a2, a3⟩ := X12_emptyOut (σ := σ)
  have e79 : sI σ2 1101 79 = 0 := ((fw_I a3 (by decide) (by omega)).1).trans h79
  rw [a1, b1_eq, e79, if_pos (show (0 : Int32) = 0 from rfl), sb_eq, sI_s, if_neg (show ¬ (1 : Int32) = 0 by decide)]
  exact ⟨_, rfl, ROr_uI a2 (by decide) (by decide), sI_s _ _ _ _, fP_trans (fP_mono (fw_Pfw a3) (fun b k y => Or.inl (by unfold Pfw at y; unfold PPr; omega))) (fP_u (Or.inr ⟨rfl, rfl⟩))⟩
/-! ===== parse: blanks and words of a text form ===== -/
/-- behind blanks and comments -/
def tb (S : List Nat) : Nat → Nat → Nat
  | 0, p => p
  | j + 1, p => if bP pB S p then tb S j (p + 1) else if S[p]? = some 35 then tb S j (p + rn pN S p) else p
theorem rn35 {S : List Nat} {p : Nat} (h : S[p]? = some 35) : p < S.length ∧ 1 ≤ rn pN S p ∧ rn pN S p = rn pN S (p + 1) + 1 := by
  have hb : bP pN S p = true := by unfold bP; rw [h]; try rfl
  have := rn_yes hb
  omega
theorem tb_fuel {S : List Nat} : ∀ (n m p : Nat), S.length < p + n → S.length < p + m → tb S n p = tb S m p := by
  intro n
  induction n with
  | zero =>
    intro m p h h'
    have h0 : S[p]? = none := List.getElem?_eq_none (by omega)
    have hb : bP pB S p = false := by unfold bP; rw [h0]
    cases m with
    | zero => rfl
    | succ m => rw [tb, tb, hb, if_neg (show ¬ false = true by decide), if_neg (by rw [h0]; intro z; cases z)]
  | succ n ih =>
    intro m p h h'
    cases m with
    | zero =>
      have h0 : S[p]? = none := List.getElem?_eq_none (by omega)
      have hb : bP pB S p = false := by unfold bP; rw [h0]
      rw [tb, tb, hb, if_neg (show ¬ false = true by decide), if_neg (by rw [h0]; intro z; cases z)]
    | succ m =>
      rw [tb, tb, ih m (p + 1) (by omega) (by omega)]
      by_cases q : S[p]? = some 35
      · have := rn35 q
        rw [if_pos q, if_pos q, ih m (p + rn pN S p) (by omega) (by omega)]
      · rw [if_neg q, if_neg q]
def tbS (S : List Nat) (p : Nat) : Nat := tb S (S.length + 1) p
theorem tbS_eq (S : List Nat) (p : Nat) : tbS S p = if bP pB S p then tbS S (p + 1) else if S[p]? = some 35 then tbS S (p + rn pN S p) else p := by
  unfold tbS
  rw [tb]
  by_cases hb : bP pB S p = true
  · have hp : p < S.length := (rn_yes hb).1
    rw [if_pos hb, if_pos hb]
    exact tb_fuel _ _ _ (by omega) (by omega)
  · rw [if_neg hb, if_neg hb]
    by_cases q : S[p]? = some 35
    · have := rn35 q
      rw [if_pos q, if_pos q]
      exact tb_fuel _ _ _ (by omega) (by omega)
    · rw [if_neg q, if_neg q]
theorem tbS_le {S : List Nat} : ∀ (j p : Nat), S.length ≤ p + j → p ≤ S.length → p ≤ tbS S p ∧ tbS S p ≤ S.length := by
  intro j
  induction j using Nat.strongRecOn with
  | ind j ih =>
    intro p hj hp
    rw [tbS_eq]
    by_cases hb : bP pB S p = true
    · have h1 := (rn_yes hb).1
      rw [if_pos hb]
      have := ih (j - 1) (by omega) (p + 1) (by omega) (by omega)
      omega
    · rw [if_neg hb]
      by_cases q : S[p]? = some 35
      · have h1 := rn35 q
        have h2 := rn_le' (f := pN) hp
        rw [if_pos q]
        have := ih (j - rn pN S p) (by omega) (p + rn pN S p) (by omega) (by omega)
        omega
      · rw [if_neg q]; omega
theorem tbS_le' {S : List Nat} {p : Nat} (h : p ≤ S.length) : p ≤ tbS S p ∧ tbS S p ≤ S.length := tbS_le (S.length - p) p (by omega) h
def weS (S : List Nat) (p : Nat) : Nat := p + rn pW S p
theorem weS_le {S : List Nat} {p : Nat} (h : p ≤ S.length) : p ≤ weS S p ∧ weS S p ≤ S.length := ⟨Nat.le_add_right _ _, rn_le' h⟩
/-! the class -/
/-- its place in the text form -/
def fT (σ τ : SG) : Prop := (∀ b, b ≠ 1095 → sm σ τ b) ∧ (∀ k, k ≠ 4 → sI τ 1095 k = sI σ 1095 k) ∧ (∀ k, k ≠ 6 → sL τ 1095 k = sL σ 1095 k) ∧ ∀ k, sP τ 1095 k = sP σ 1095 k
theorem fT_refl (σ : SG) : fT σ σ := ⟨fun b _ => sm_refl σ b, fun _ _ => rfl, fun _ _ => rfl, fun _ => rfl⟩
theorem fT_trans {σ τ υ : SG} (h : fT σ τ) (h' : fT τ υ) : fT σ υ := ⟨fun b hb => sm_trans (h.1 b hb) (h'.1 b hb), fun k hk => (h'.2.1 k hk).trans (h.2.1 k hk), fun k hk => (h'.2.2.1 k hk).trans (h.2.2.1 k hk), fun k => (h'.2.2.2 k).trans (h.2.2.2 k)⟩
theorem fT_u {σ : SG} {v : Int32} : fT σ (uI σ 1095 4 v) := ⟨fun b hb => sm_uI hb, fun k hk => sI_o (Or.inr hk), fun _ _ => rfl, fun _ => rfl⟩
theorem fT_L {σ : SG} {v : Int64} : fT σ (uL σ 1095 6 v) := ⟨fun b hb => sm_uL hb, fun _ _ => rfl, fun k hk => by rw [sL_uL, if_neg (fun z => hk z.2)], fun _ => rfl⟩
theorem RB_fT {σ τ : SG} {a : Nat} {T : List Nat} {z : Int32} (h : RB σ a T z) (hf : fT σ τ) (h1 : a ≠ 1095) (h2 : a + 1 ≠ 1095) : RB τ a T z := h.sm (hf.1 a h1) (hf.1 (a + 1) h2)
theorem C_skipB_L {U : Nat} {S : List Nat} (hSl : S.length ≤ 700) : ∀ (j p U1 : Nat) (cm : Bool) (σ : SG), S.length ≤ p + j → j + 1 < U1 → p ≤ S.length → RB σ 1 S 0 → sI σ 1095 4 = nI p → ∃ τ, x_X7_skipBlanks_L2 U 1095 U1 (zI cm) σ = some τ ∧ sI τ 1095 4 = nI (if cm then tbS S (p + rn pN S p) else tbS S p) ∧ fT σ τ := by
  intro j
  induction j with
  | zero =>
    intro p U1 cm σ hj hu hp hR h4
    obtain ⟨V, rfl⟩ : ∃ V, U1 = V + 1 := ⟨U1 - 1, by omega⟩
    have h0 : S[p]? = none := List.getElem?_eq_none (by omega)
    have hb : bP pB S p = false := by unfold bP; rw [h0]
    have e1 : tbS S p = p := by rw [tbS_eq, hb, if_neg (show ¬ false = true by decide), if_neg (by rw [h0]; intro z; cases z)]
    have e2 : rn pN S p = 0 := rn_ge (by omega)
    refine ⟨σ, ?_, ?_, fT_refl σ⟩
    · rw [x_X7_skipBlanks_L2, X0_size hR, b1_eq, h4, if_neg (fun z => by have := (ltI (by omega) (by omega)).mp z; omega)]
    · rw [e2, Nat.add_zero, e1, ite_self]; exact h4
  | succ j ih =>
    intro p U1 cm σ hj hu hp hR h4
    obtain ⟨V, rfl⟩ : ∃ V, U1 = V + 1 := ⟨U1 - 1, by omega⟩
    by_cases hpe : p = S.length
    · exact ih p (V + 1) cm σ (by omega) (by omega) hp hR h4
    have hpl : p < S.length := by omega
    have h8 : ok8 S := hR.2.2.2.2
    have hS := List.getElem?_eq_getElem hpl
    have hc : S[p] < 256 := h8 _ (List.getElem_mem hpl)
    have hA : bA S p = nI S[p] := by unfold bA; rw [hS]
    have e10 : nI S[p] = 10 ↔ S[p] = 10 := nI_eq (b := 10) (by omega) (by decide)
    have e35 : nI S[p] = 35 ↔ S[p] = 35 := nI_eq (b := 35) (by omega) (by decide)
    -- one byte on
    have go : ∀ cm' : Bool, ∃ τ, x_X7_skipBlanks_67 U 1095 (x_X7_skipBlanks_L2 U 1095 V) (zI cm') σ = some τ ∧ sI τ 1095 4 = nI (if cm' then tbS S (p + 1 + rn pN S (p + 1)) else tbS S (p + 1)) ∧ fT σ τ := by
      intro cm'
      unfold x_X7_skipBlanks_67
      rw [sb_eq, h4, nI_1]
      obtain ⟨τ, t1, t2, t3⟩ := ih (p + 1) V cm' (uI σ 1095 4 (nI (p + 1))) (by omega) (by omega) (by omega) (RB_fT hR fT_u (by decide) (by decide)) (sI_s _ _ _ _)
      exact ⟨τ, t1, t2, fT_trans fT_u t3⟩
    have g0 : ∃ τ, x_X7_skipBlanks_66 U 1095 (x_X7_skipBlanks_L2 U 1095 V) σ = some τ ∧ sI τ 1095 4 = nI (tbS S (p + 1)) ∧ fT σ τ := go false
    have g1 : ∃ τ, x_X7_skipBlanks_62 U 1095 (x_X7_skipBlanks_L2 U 1095 V) σ = some τ ∧ sI τ 1095 4 = nI (tbS S (p + 1 + rn pN S (p + 1))) ∧ fT σ τ := go true
    have hbB : bP pB S p = pB S[p] := by unfold bP; rw [hS]
    have h46 : ∀ v1 : Int32, x_X7_skipBlanks_46 U 1095 (x_X7_skipBlanks_L2 U 1095 V) v1 (nI S[p]) σ = if S[p] = 10 then x_X7_skipBlanks_66 U 1095 (x_X7_skipBlanks_L2 U 1095 V) σ else if v1 = 0 then (if S[p] = 35 then x_X7_skipBlanks_62 U 1095 (x_X7_skipBlanks_L2 U 1095 V) σ else x_X7_skipBlanks_66 U 1095 (x_X7_skipBlanks_L2 U 1095 V) σ) else x_X7_skipBlanks_62 U 1095 (x_X7_skipBlanks_L2 U 1095 V) σ := by
      intro v1
      unfold x_X7_skipBlanks_46
      rw [ifd e10, ifd e35]
    rw [x_X7_skipBlanks_L2, X0_size hR, b1_eq, h4, if_pos ((ltI (by omega) (by omega)).mpr hpl), X0_at hR (by omega), b1_eq, W_isBlank h8, b1_eq, hA, hbB, h46, ifd e35]
    cases cm with
    | true =>
      rw [if_neg (show ¬ zI true = 0 by decide), if_neg (show ¬ zI true = 0 by decide), if_pos (show true = true from rfl)]
      by_cases q : S[p] = 10
      · rw [if_pos q]
        have hn : bP pN S p = false := by unfold bP; rw [hS, q]; try rfl
        have hbl : bP pB S p = true := by rw [hbB, q]; try rfl
        rw [rn_no hn, Nat.add_zero, tbS_eq, hbl, if_pos (show true = true from rfl)]
        exact g0
      · rw [if_neg q]
        have hn : bP pN S p = true := by unfold bP pN; rw [hS]; simp [q]
        rw [(rn_yes hn).2, show p + (rn pN S (p + 1) + 1) = p + 1 + rn pN S (p + 1) by omega]
        exact g1
    | false =>
      rw [if_pos (show zI false = 0 from rfl), if_neg (show ¬ false = true by decide), tbS_eq, hbB, hS, ifz]
      cases hq : pB S[p] with
      | true =>
        rw [if_pos (show true = true from rfl), if_pos (show true = true from rfl), if_pos (show zI false = 0 from rfl)]
        have n35 : S[p] ≠ 35 := fun z => by rw [z] at hq; cases hq
        rw [if_neg n35, ite_self]
        exact g0
      | false =>
        rw [if_neg (show ¬ false = true by decide), if_neg (show ¬ false = true by decide), if_pos (show zI false = 0 from rfl)]
        by_cases q : S[p] = 35
        · have n10 : S[p] ≠ 10 := fun z => by omega
          rw [if_pos q, if_neg n10, if_pos q, if_pos (by rw [q])]
          have h35 : S[p]? = some 35 := by rw [hS, q]
          rw [(rn35 h35).2.2, show p + (rn pN S (p + 1) + 1) = p + 1 + rn pN S (p + 1) by omega]
          exact g1
        · rw [if_neg q, if_neg (fun z => q (Option.some.inj z))]
          exact ⟨σ, rfl, h4, fT_refl σ⟩
theorem C_skipB {U p : Nat} {S : List Nat} {σ : SG} (hU4 : 4000 < U) (hSl : S.length ≤ 700) (hp : p ≤ S.length) (hR : RB σ 1 S 0) (h4 : sI σ 1095 4 = nI p) : ∃ τ, x_X7_skipBlanks U 1095 σ = some τ ∧ sI τ 1095 4 = nI (tbS S p) ∧ fT σ τ := by
  have := C_skipB_L (U := U) hSl (S.length - p) p U false σ (by omega) (by omega) hp hR h4
  exact this
theorem C_skipW_L {U : Nat} {S : List Nat} (hSl : S.length ≤ 700) : ∀ (j p U1 : Nat) (σ : SG), p + j = S.length → j < U1 → RB σ 1 S 0 → sI σ 1095 4 = nI p → ∃ τ, x_X7_skipWord_L0 U 1095 U1 σ = some τ ∧ sI τ 1095 4 = nI (weS S p) ∧ fT σ τ := by
  intro j
  induction j with
  | zero =>
    intro p U1 σ hj hu hR h4
    obtain ⟨V, rfl⟩ : ∃ V, U1 = V + 1 := ⟨U1 - 1, by omega⟩
    refine ⟨σ, ?_, ?_, fT_refl σ⟩
    · rw [x_X7_skipWord_L0, X0_size hR, b1_eq, h4, if_neg (fun z => by have := (ltI (by omega) (by omega)).mp z; omega)]
    · unfold weS; rw [rn_ge (by omega), Nat.add_zero]; exact h4
  | succ j ih =>
    intro p U1 σ hj hu hR h4
    obtain ⟨V, rfl⟩ : ∃ V, U1 = V + 1 := ⟨U1 - 1, by omega⟩
    rw [x_X7_skipWord_L0, X0_size hR, b1_eq, h4, if_pos ((ltI (by omega) (by omega)).mpr (by omega)), X0_at hR (by omega), b1_eq, W_isWordByte hR.2.2.2.2, b1_eq, ifz]
    cases hb : bP pW S p with
    | false =>
      rw [if_neg (show ¬ false = true by decide)]
      exact ⟨σ, rfl, by unfold weS; rw [rn_no hb, Nat.add_zero]; exact h4, fT_refl σ⟩
    | true =>
      rw [if_pos (show true = true from rfl), sb_eq, nI_1]
      obtain ⟨τ, t1, t2, t3⟩ := ih (p + 1) V (uI σ 1095 4 (nI (p + 1))) (by omega) (by omega) (RB_fT hR fT_u (by decide) (by decide)) (sI_s _ _ _ _)
      refine ⟨τ, t1, ?_, fT_trans fT_u t3⟩
      rw [t2]
      unfold weS
      rw [(rn_yes hb).2]
      congr 1
      omega
theorem C_skipW {U p : Nat} {S : List Nat} {σ : SG} (hU4 : 4000 < U) (hSl : S.length ≤ 700) (hp : p ≤ S.length) (hR : RB σ 1 S 0) (h4 : sI σ 1095 4 = nI p) : ∃ τ, x_X7_skipWord U 1095 σ = some τ ∧ sI τ 1095 4 = nI (weS S p) ∧ fT σ τ := C_skipW_L (U := U) hSl (S.length - p) p U σ (by omega) (by omega) hR h4
/-! the reference -/
theorem N_line_L {U : Nat} {S : List Nat} {σ : SG} {K : Int32 → Option Int32} (h : LR σ S) : ∀ (j p U1 : Nat), p + j = S.length → j < U1 → x_X12_textBlanks_L33 U 1101 K σ U1 (nI p) = K (nI (p + rn pN S p)) := by
  have hl := h.2.2.1
  intro j
  induction j with
  | zero =>
    intro p U1 hp hu
    obtain ⟨V, rfl⟩ : ∃ V, U1 = V + 1 := ⟨U1 - 1, by omega⟩
    rw [x_X12_textBlanks_L33, h.1, if_neg (fun z => by have := (ltI (by omega) (by omega)).mp z; omega), rn_ge (by omega)]; try rfl
  | succ j ih =>
    intro p U1 hp hu
    obtain ⟨V, rfl⟩ : ∃ V, U1 = V + 1 := ⟨U1 - 1, by omega⟩
    have hpl : p < S.length := by omega
    rw [x_X12_textBlanks_L33, h.1, if_pos ((ltI (by omega) (by omega)).mpr hpl), h.at (by omega), b1_eq, l10, ifA h.2.2.2 (by decide)]
    cases hb : bP pN S p with
    | false => rw [rn_no hb, if_pos ((bP_pN hpl).mpr hb)]; try rfl
    | true =>
      rw [(rn_yes hb).2, if_neg (fun q => by rw [(bP_pN hpl).mp q] at hb; cases hb), nI_1, ih (p + 1) V (by omega) (by omega)]
      congr 2; omega
theorem N_blk_L {U : Nat} {S : List Nat} {σ : SG} (hU4 : 4000 < U) (h : LR σ S) : ∀ (j p U1 : Nat), S.length ≤ p + j → j < U1 → p ≤ S.length → x_X12_textBlanks_L2 U 1101 σ U1 (nI p) = some (nI (tbS S p)) := by
  have hl := h.2.2.1
  have l35 : (35 : Int32) = nI 35 := rfl
  intro j
  induction j using Nat.strongRecOn with
  | ind j ih =>
    intro p U1 hj hu hp
    obtain ⟨V, rfl⟩ : ∃ V, U1 = V + 1 := ⟨U1 - 1, by omega⟩
    rw [x_X12_textBlanks_L2, h.at (by omega), b1_eq, V_isBlank h.2.2.2, b1_eq, ifz, b1_eq]
    unfold x_X12_textBlanks_23
    rw [h.at (by omega), b1_eq, l35, ifA h.2.2.2 (by decide), ifA h.2.2.2 (by decide), nI_1, tbS_eq]
    have cmt : S[p]? = some 35 → x_X12_textBlanks_L33 U 1101 (fun w16 => x_X12_textBlanks_L2 U 1101 σ V w16) σ U (nI p) = some (nI (tbS S (p + rn pN S p))) := by
      intro q
      have h1 := rn35 q
      have h2 := rn_le' (f := pN) hp
      rw [N_line_L h (S.length - p) p U (by omega) (by omega)]
      exact ih (j - 1) (by omega) (p + rn pN S p) V (by omega) (by omega) h2
    cases hb : bP pB S p with
    | true =>
      have h1 := (rn_yes hb).1
      have n35 : S[p]? ≠ some 35 := fun z => by unfold bP at hb; rw [z] at hb; cases hb
      rw [if_pos (show true = true from rfl), if_pos (show true = true from rfl), if_neg n35]
      exact ih (j - 1) (by omega) (p + 1) V (by omega) (by omega) (by omega)
    | false =>
      rw [if_neg (show ¬ false = true by decide), if_neg (show ¬ false = true by decide)]
      by_cases q : S[p]? = some 35
      · rw [if_pos q, if_pos q, if_pos q]; exact cmt q
      · rw [if_neg q, if_neg q]
theorem N_tblanks {U p : Nat} {S : List Nat} {σ : SG} (hU4 : 4000 < U) (h : LR σ S) (hp : p ≤ S.length) : x_X12_textBlanks U 1101 (nI p) σ = some (nI (tbS S p)) := by
  have hl := h.2.2.1
  exact N_blk_L hU4 h (S.length - p) p U (by omega) (by omega) hp
theorem N_nend_L {U : Nat} {S : List Nat} {σ : SG} (h : LR σ S) : ∀ (j p U1 : Nat), p + j = S.length → j < U1 → x_X12_nameEnd_L13 U 1101 σ U1 (nI p) = some (nI (weS S p)) := by
  have hl := h.2.2.1
  intro j
  induction j with
  | zero =>
    intro p U1 hp hu
    obtain ⟨V, rfl⟩ : ∃ V, U1 = V + 1 := ⟨U1 - 1, by omega⟩
    have h0 : S[p]? = none := List.getElem?_eq_none (by omega)
    have hb : bP pW S p = false := by unfold bP; rw [h0]
    unfold weS
    rw [x_X12_nameEnd_L13, h.at (by omega), b1_eq, V_isPart h.2.2.2, b1_eq, ifz, hb, if_neg (show ¬ false = true by decide), rn_no hb]; try rfl
  | succ j ih =>
    intro p U1 hp hu
    obtain ⟨V, rfl⟩ : ∃ V, U1 = V + 1 := ⟨U1 - 1, by omega⟩
    unfold weS
    rw [x_X12_nameEnd_L13, h.at (by omega), b1_eq, V_isPart h.2.2.2, b1_eq, ifz]
    cases hb : bP pW S p with
    | false => rw [if_neg (show ¬ false = true by decide), rn_no hb]; try rfl
    | true =>
      rw [if_pos (show true = true from rfl), nI_1, ih (p + 1) V (by omega) (by omega), (rn_yes hb).2]
      unfold weS
      congr 2; omega
/-- a name's end, as the reference sees it -/
def neS (S : List Nat) (p : Nat) : Nat := if bP pL S p then weS S p else p
theorem N_nend {U p : Nat} {S : List Nat} {σ : SG} (hU4 : 4000 < U) (h : LR σ S) (hp : p ≤ S.length) : x_X12_nameEnd U 1101 (nI p) σ = some (nI (neS S p)) := by
  have hl := h.2.2.1
  unfold x_X12_nameEnd neS
  rw [h.at (by omega), b1_eq, V_isLetter h.2.2.2, b1_eq, ifz]
  cases bP pL S p with
  | true => rw [if_pos (show true = true from rfl), if_pos (show true = true from rfl)]; exact N_nend_L h (S.length - p) p U (by omega) (by omega)
  | false => rw [if_neg (show ¬ false = true by decide), if_neg (show ¬ false = true by decide)]
/-! ===== parse: names, and what was told before ===== -/
/-- names in a scope are told once -/
theorem nam_inj {T : List Nat} {D : List Dc} (hg : GSc T D) {i j : Nat} {d e : Dc} (hd : D[i]? = some d) (he : D[j]? = some e) (hs : dS d = dS e) (hn : nmT T d = nmT T e) : i = j := by
  have key : ∀ {i j : Nat} {d e : Dc}, D[i]? = some d → D[j]? = some e → dS d = dS e → nmT T d = nmT T e → ¬ i < j := by
    intro i j d e hd he hs hn hij
    have h := hg.all.1 j e he
    unfold tkn at h
    have hi := (List.getElem?_eq_some_iff.mp hd).1
    have hm : d ∈ D.take j := by
      apply List.mem_of_getElem? (i := i)
      rw [List.getElem?_take_of_lt hij]
      exact hd
    have h0 : ff (pT9 T e) (D.take j) 0 = none := by
      cases hff : ff (pT9 T e) (D.take j) 0 with
      | none => rfl
      | some k => rw [hff] at h; cases h
    have := ff_none _ _ h0 d hm
    exact of_decide_eq_false this ⟨hs, hn⟩
  have h1 := key hd he hs hn
  have h2 := key he hd hs.symm hn.symm
  omega
def pFn (T : List Nat) (m : Nat) (N : List Nat) (d : Dc) : Bool := decide (dK d = 2 ∧ dS d = some m ∧ nmT T d = N)
def pVn (T : List Nat) (e : Nat) (N : List Nat) (d : Dc) : Bool := decide (dK d = 3 ∧ dO d = some e ∧ nmT T d = N)
/-- the field, the value with a name -/
def fNm (T : List Nat) (D : List Dc) (m : Nat) (N : List Nat) : Option Nat := ff (pFn T m N) D 0
def vNm (T : List Nat) (D : List Dc) (e : Nat) (N : List Nat) : Option Nat := ff (pVn T e N) D 0
theorem fNm_some {T : List Nat} {D : List Dc} {m f : Nat} {N : List Nat} (h : fNm T D m N = some f) : ∃ d, isF D m f d ∧ nmT T d = N := by
  obtain ⟨d, h1, h2, _⟩ := ff_some _ _ _ h
  rw [Nat.sub_zero] at h1
  have := of_decide_eq_true h2
  exact ⟨d, ⟨h1, this.1, this.2.1⟩, this.2.2⟩
theorem vNm_some {T : List Nat} {D : List Dc} {e i : Nat} {N : List Nat} (h : vNm T D e N = some i) : ∃ d, D[i]? = some d ∧ dK d = 3 ∧ dO d = some e ∧ nmT T d = N := by
  obtain ⟨d, h1, h2, _⟩ := ff_some _ _ _ h
  rw [Nat.sub_zero] at h1
  have := of_decide_eq_true h2
  exact ⟨d, h1, this⟩
theorem fNm_find {T : List Nat} {D : List Dc} {m : Nat} {N : List Nat} (hg : GSc T D) (hm : isM D m) : (chF D m).find? (fun i => decide (nmI T D i = N)) = fNm T D m N := by
  refine find_ff (fun i d hd hp => ?_) (fun i hi => ?_) (fun i j d e hd he hp hq => ?_)
  · have := of_decide_eq_true hp
    exact (chF_mem hg hm).mpr ⟨d, hd, this.1, this.2.1⟩
  · obtain ⟨d, hd, h2, h3⟩ := (chF_mem hg hm).mp hi
    refine ⟨d, hd, ?_⟩
    unfold pFn
    rw [nmI_some hd]
    by_cases q : nmT T d = N
    · rw [decide_eq_true q, decide_eq_true ⟨h2, h3, q⟩]
    · rw [decide_eq_false q, decide_eq_false (fun z => q z.2.2)]
  · have a := of_decide_eq_true hp
    have b := of_decide_eq_true hq
    exact nam_inj hg hd he (a.2.1.trans b.2.1.symm) (a.2.2.trans b.2.2.symm)
theorem vNm_find {T : List Nat} {D : List Dc} (hg : GSc T D) {e : Nat} {y : Dc} (he : D[e]? = some y) (h1 : dK y = 1) (N : List Nat) : (chF D e).find? (fun i => decide (nmI T D i = N)) = vNm T D e N := by
  have := chE_find hg he h1 (fun i => decide (nmI T D i = N)) (pVn T e N) (fun i d hd => by
    unfold pVn
    rw [nmI_some hd, decide_eq_true_iff, decide_eq_true_iff]) D.length (Nat.le_refl _)
  rw [List.take_length] at this
  exact this
/-! the class -/
theorem C_called_L {U c p q : Nat} {σ : SG} {T S : List Nat} {D : List Dc} (hU4 : 4000 < U) (hcb : cb c) (hg : GSc T D) (hC : CS σ c T D) (hS : RB σ 1 S 0) (hpq : p ≤ q) (hq : q ≤ S.length) : ∀ (L : List Nat) (v : Option Nat) (U1 : Nat), LK σ c L v → (∀ i ∈ L, i < D.length) → L.length < U1 → x_X6_memberCalled_L6 U (c + 1) (some 1) (nI p) (nI q) σ U1 v = some (ad c (L.find? (fun i => decide (nmI T D i = slc S p q)))) := by
  have hl := hg.2.1
  have hT7 := hg.2.2.2.2.2.2
  have hSl : S.length ≤ 4000 := Nat.le_trans hS.2.2.1 (ln_small _)
  intro L
  induction L with
  | nil =>
    intro v U1 h _ hu
    obtain ⟨V, rfl⟩ : ∃ V, U1 = V + 1 := ⟨U1 - 1, by simp at hu; omega⟩
    rw [x_X6_memberCalled_L6, show v = none from h, if_pos rfl]; try rfl
  | cons i L ih =>
    intro v U1 h hb hu
    rw [List.length_cons] at hu
    obtain ⟨V, rfl⟩ : ∃ V, U1 = V + 1 := ⟨U1 - 1, by omega⟩
    have hi := hb i (List.mem_cons_self ..)
    have hd := List.getElem?_eq_getElem hi
    have hn := hg.N i _ hd
    have hn1 := hn.1
    have hn2 := hn.2.1
    have hI := (hC.it hd).1
    obtain ⟨h1, h2⟩ := h
    have ihh := ih _ V h2 (fun j hj => hb j (List.mem_cons_of_mem _ hj)) (by omega)
    have hnx : x_X6_memberCalled_48 U (c + 1) (x_X6_memberCalled_L6 U (c + 1) (some 1) (nI p) (nI q) σ V) (some 1) (nI p) (nI q) (some (c + 5 + i)) σ = some (ad c (L.find? (fun i => decide (nmI T D i = slc S p q)))) := by
      unfold x_X6_memberCalled_48
      rw [ck_eq (it_sh hcb (by omega))]
      exact ihh
    rw [x_X6_memberCalled_L6, h1, if_neg (by intro z; cases z), ck_eq (it_sh hcb (by omega)), hI.2.2.2.2.1, hI.2.2.2.2.2.1, nI_sub (Nat.le_of_lt hn.1), nI_sub hpq, ifd (nI_eq (by omega) (by omega)), List.find?_cons, nmI_some hd]
    by_cases hlen : dE D[i] - dA D[i] = q - p
    · rw [if_pos hlen]
      have hsm := X0_isSame (U := U) (a := c + 2) (b := 1) (f := p) (to := q) (p := dA D[i]) hU4 (by decide) hC.1 hS hpq hq (by omega)
      rw [show dA D[i] + (q - p) = dE D[i] by omega] at hsm
      have hsm' : x_X0_isSame U (c + 1 + 1) (nI (dA D[i])) (some 1) (nI p) (nI q) σ = some (zI (decide (nmT T D[i] = slc S p q))) := hsm
      rw [hsm', b1_eq, ifz]
      cases hdc : decide (nmT T D[i] = slc S p q) with
      | true => rw [if_pos (show true = true from rfl)]; try rfl
      | false => rw [if_neg (show ¬ false = true by decide), hnx]
    · have hne : nmT T D[i] ≠ slc S p q := fun z => by
        have e1 : (nmT T D[i]).length = dE D[i] - dA D[i] := slc_len (Nat.le_of_lt hn.1) hn.2.1
        have e2 := slc_len hpq hq
        rw [z] at e1
        omega
      rw [if_neg hlen, decide_eq_false hne, hnx]
theorem C_called {U c a p q : Nat} {σ : SG} {T S : List Nat} {D : List Dc} (hU4 : 4000 < U) (hcb : cb c) (hg : GSc T D) (hC : CS σ c T D) (hS : RB σ 1 S 0) (hpq : p ≤ q) (hq : q ≤ S.length) (ha : a < D.length) : x_X6_memberCalled U (c + 1) (ad c (some a)) (some 1) (nI p) (nI q) σ = some (ad c ((chF D a).find? (fun i => decide (nmI T D i = slc S p q)))) := by
  have hl := hg.2.1
  have hch := chF_len (a := a) hl
  unfold x_X6_memberCalled
  rw [ad_some, ck_eq (it_sh hcb (by omega))]
  exact C_called_L hU4 hcb hg hC hS hpq hq _ _ U (hC.ch ha) (fun i hi => chF_lt hi) (by omega)
/-- told before: the nodes and fields told so far -/
def tk (D : List Dc) (tl : List (Nat × Nat)) (n f : Nat) (d : Dc) : Bool := !dR d && tl.any (fun y => decide (y.1 = n) && (decide (y.2 = f) || rivB D f d y.2))
/-- what the class's chains tell -/
def TLc (G : Gh) (tl : List (Nat × Nat)) : Prop := ∀ n f, (n, f) ∈ tl ↔ (n < gC G ∧ ∃ e ∈ gL G n, eF e = some f)
theorem tk_iff {D : List Dc} {tl : List (Nat × Nat)} {n f : Nat} {d : Dc} : tk D tl n f d = true ↔ dR d = false ∧ ∃ g, (n, g) ∈ tl ∧ (g = f ∨ rivB D f d g = true) := by
  unfold tk
  rw [Bool.and_eq_true, List.any_eq_true]
  constructor
  · rintro ⟨h1, y, hy, h2⟩
    rw [Bool.and_eq_true, Bool.or_eq_true] at h2
    have e1 := of_decide_eq_true h2.1
    have hR : dR d = false := by
      cases h : dR d with
      | false => rfl
      | true => rw [h] at h1; cases h1
    refine ⟨hR, y.2, ?_, ?_⟩
    · rw [← e1]; exact hy
    · exact h2.2.elim (fun z => Or.inl (of_decide_eq_true z)) Or.inr
  · rintro ⟨h1, g, hg, h2⟩
    refine ⟨by rw [h1]; rfl, (n, g), hg, ?_⟩
    rw [Bool.and_eq_true, Bool.or_eq_true]
    exact ⟨decide_eq_true rfl, h2.elim (fun z => Or.inl (decide_eq_true z)) Or.inr⟩
theorem C_taken_L {U c n f : Nat} {σ : SG} {T : List Nat} {D : List Dc} {G : Gh} {d : Dc} (hcb : cb c) (hg : GSc T D) (hC : CS σ c T D) (hV : VG σ c T D G) (hn : n < gC G) (hd : isF D (gN G n) f d) : ∀ (L : List Eg) (p : Option Nat) (U1 : Nat), LN σ L p → (∀ e ∈ L, e ∈ gL G n) → L.length < U1 → x_X8_isTaken_L14 U 389 (some (c + 5 + f)) σ U1 p = some (zI (L.any (fun e => match eF e with | none => false | some g => decide (g = f) || rivB D f d g))) := by
  have hl9 := hg.2.1
  have hul := hV.2.1
  have hfl := (List.getElem?_eq_some_iff.mp hd.1).1
  have hf3 : sP σ (c + 5 + f) 3 = ad c (dO d) := (hC.it hd.1).1.2.2.2.1
  intro L
  induction L with
  | nil =>
    intro p U1 hp _ hu
    obtain ⟨V, rfl⟩ : ∃ V, U1 = V + 1 := ⟨U1 - 1, by simp at hu; omega⟩
    rw [x_X8_isTaken_L14, if_pos (show p = none from hp)]; try rfl
  | cons e L ih =>
    intro p U1 hp hL hu
    rw [List.length_cons] at hu
    obtain ⟨V, rfl⟩ : ∃ V, U1 = V + 1 := ⟨U1 - 1, by omega⟩
    have he := hL e (List.mem_cons_self ..)
    obtain ⟨e1, e2, e3, _, _, _, e11⟩ := hV.e hn he
    have hsh : sh (eA e) = 4 := nd_sh e1 (by omega)
    have hp1 : p = some (eA e) := hp.1
    have ihh := ih (sP σ (eA e) 1) V hp.2 (fun x hx => hL x (List.mem_cons_of_mem _ hx)) (by omega)
    rw [hp1, x_X8_isTaken_L14, if_neg (show ¬ some (eA e) = none by intro z; cases z), ck_eq hsh, e3, List.any_cons]
    unfold x_X8_isTaken_50 x_X8_isTaken_51
    rw [ck_eq hsh, ck_eq hsh, e3, if_pos (show (0 : Int32) = 0 from rfl), if_neg (show ¬ (1 : Int32) = 0 by decide), ite_self, ihh]
    cases hf : eF e with
    | none =>
      rw [if_pos (show ad c none = none from rfl), if_neg (show ¬ ad c none = some (c + 5 + f) by intro z; cases z)]
      try rfl
    | some g =>
      obtain ⟨x, hx, _⟩ := e11 g hf
      have hgl := (List.getElem?_eq_some_iff.mp hx.1).1
      have hg3 : sP σ (c + 5 + g) 3 = ad c (dO x) := (hC.it hx.1).1.2.2.2.1
      have egf : ad c (some g) = some (c + 5 + f) ↔ g = f := by
        rw [ad_some]
        constructor
        · intro z; have := Option.some.inj z; omega
        · intro z; rw [z]
      have eow : ad c (dO x) = ad c (dO d) ↔ dO x = dO d := by
        constructor
        · intro z
          cases ha : dO x with
          | none =>
            rw [ha] at z
            cases hb : dO d with
            | none => rfl
            | some b => rw [hb] at z; cases z
          | some a =>
            rw [ha] at z
            cases hb : dO d with
            | none => rw [hb] at z; cases z
            | some b =>
              rw [hb, ad_some, ad_some] at z
              have := Option.some.inj z
              congr 1
              omega
        · intro z; rw [z]
      have hrv : rivB D f d g = decide (dO d ≠ none ∧ g ≠ f ∧ dO x = dO d) := by unfold rivB; rw [hx.1]
      rw [if_neg (show ¬ ad c (some g) = none by intro z; cases z), ck_eq (it_sh hcb (by omega)), hf3, ifd ad_none, ad_some, ck_eq (it_sh hcb (by omega)), hg3, ifd eow, ← ad_some, ifd egf]
      simp only
      rw [hrv]
      by_cases q : g = f
      · have hxd : x = d := by have := hx.1; rw [q, hd.1] at this; exact (Option.some.inj this).symm
        rw [if_pos q, decide_eq_true q, Bool.true_or, Bool.true_or]
        simp only [ite_self]
        try rfl
      · rw [if_neg q, decide_eq_false q, Bool.false_or]
        by_cases q1 : dO d = none
        · rw [if_pos q1, decide_eq_false (fun z => z.1 q1), Bool.false_or]
        · rw [if_neg q1]
          by_cases q2 : dO x = dO d
          · rw [if_pos q2, decide_eq_true ⟨q1, q, q2⟩, Bool.true_or]; try rfl
          · rw [if_neg q2, decide_eq_false (fun z => q2 z.2.2), Bool.false_or]
theorem C_taken {U c n f : Nat} {σ : SG} {T : List Nat} {D : List Dc} {G : Gh} {d : Dc} {tl : List (Nat × Nat)} (hU4 : 4000 < U) (hcb : cb c) (hg : GSc T D) (hC : CS σ c T D) (hV : VG σ c T D G) (hn : n < gC G) (hd : isF D (gN G n) f d) (htl : TLc G tl) : x_X8_isTaken U 389 (some (gH G n)) (ad c (some f)) σ = some (zI (tk D tl n f d)) := by
  have hl9 := hg.2.1
  have hfl := (List.getElem?_eq_some_iff.mp hd.1).1
  obtain ⟨h1, h2, h3⟩ := hV.h hn
  have hlen := hV.len hn
  have hR : sI σ (c + 5 + f) 11 = zI (dR d) := (hC.it hd.1).1.2.2.2.2.2.2.2.2.1
  have hVN := hV.2.2.2.2.2.2.2.2.2 n hn
  unfold x_X8_isTaken
  rw [ad_some, ck_eq (it_sh hcb (by omega)), hR, ifz]
  cases hr : dR d with
  | true =>
    rw [if_pos (show true = true from rfl)]
    unfold tk
    rw [hr]; try rfl
  | false =>
    rw [if_neg (show ¬ false = true by decide), ck_eq (nd_sh h1 h2), C_taken_L hcb hg hC hV hn hd (gL G n) _ U hVN.1 (fun e he => he) (by omega)]
    congr 2
    rw [Bool.eq_iff_iff, tk_iff, List.any_eq_true]
    constructor
    · rintro ⟨e, he, h⟩
      cases hf : eF e with
      | none => rw [hf] at h; cases h
      | some g =>
        rw [hf] at h
        simp only at h
        rw [Bool.or_eq_true] at h
        exact ⟨hr, g, (htl n g).mpr ⟨hn, e, he, hf⟩, h.elim (fun z => Or.inl (of_decide_eq_true z)) Or.inr⟩
    · rintro ⟨_, g, hg', h⟩
      obtain ⟨_, e, he, hf⟩ := (htl n g).mp hg'
      refine ⟨e, he, ?_⟩
      rw [hf]
      simp only
      rw [Bool.or_eq_true]
      exact h.elim (fun z => Or.inl (decide_eq_true z)) Or.inr
/-! the reference -/
theorem N_isNamed_L {U p q : Nat} {σ : SG} {S N : List Nat} (h : LR σ S) (hN : NMs σ q N) (hp : p + N.length ≤ S.length) (hq : q + N.length ≤ 1200) (h8 : ∀ c ∈ N, c < 256) : ∀ (j k U1 : Nat), k + j = N.length → j < U1 → x_X12_isNamed_L13 U 1101 (nI p) (nI q) (nI N.length) σ U1 (nI k) = some (zI (decide (slc S (p + k) (p + N.length) = N.drop k))) := by
  have hl := h.2.2.1
  intro j
  induction j with
  | zero =>
    intro k U1 hk hu
    obtain ⟨V, rfl⟩ : ∃ V, U1 = V + 1 := ⟨U1 - 1, by omega⟩
    rw [x_X12_isNamed_L13, if_neg (fun z => by have := (ltI (by omega) (by omega)).mp z; omega), slc_nil (by omega), List.drop_eq_nil_of_le (by omega)]; try rfl
  | succ j ih =>
    intro k U1 hk hu
    obtain ⟨V, rfl⟩ : ∃ V, U1 = V + 1 := ⟨U1 - 1, by omega⟩
    have hkN : k < N.length := by omega
    have hkS : p + k < S.length := by omega
    have a1 := h.2.1 (p + k) _ (List.getElem?_eq_getElem hkS)
    have a2 := hN k _ (List.getElem?_eq_getElem hkN)
    have b1' := h.2.2.2 _ (List.getElem_mem hkS)
    have b2' := h8 _ (List.getElem_mem hkN)
    rw [x_X12_isNamed_L13, if_pos ((ltI (by omega) (by omega)).mpr hkN), nI_add, ix_in (by omega) (by decide), nI_add, ix_in (by omega) (by decide), a1, a2, ifd (nI_eq (by omega) (by omega)), nI_1, slc_cons (by omega) hkS, List.drop_eq_getElem_cons hkN]
    by_cases e : S[p + k] = N[k]
    · rw [if_pos e, ih (k + 1) V (by omega) (by omega), e]
      congr 2
      rw [decide_eq_decide, List.cons.injEq]
      constructor
      · intro z; exact ⟨rfl, z⟩
      · intro z; exact z.2
    · rw [if_neg e, decide_eq_false (fun z => e (List.cons.inj z).1)]; try rfl
theorem N_isNamed {U s b j p q : Nat} {σ : SG} {S N : List Nat} (hU4 : 4000 < U) (hs : s < 2) (h : LR σ S) (hN : NM σ s b j N) (hpq : p ≤ q) (hq : q ≤ S.length) (h8 : ∀ c ∈ N, c < 256) : x_X12_isNamed U 1101 (nI p) (nI q) (sI σ b j) (sI σ (b + 1) j) σ = some (zI (decide (slc S p q = N))) := by
  have hl := h.2.2.1
  obtain ⟨r, h1, h2, h3, h4, h5⟩ := hN
  unfold x_X12_isNamed
  rw [h1, h2, nI_sub hpq, ifd (nI_eq (by omega) (by omega))]
  by_cases e : q - p = N.length
  · rw [if_pos e]
    have := N_isNamed_L (U := U) (p := p) h h5 (by omega) (by omega) h8 N.length 0 U (by omega) (by omega)
    rw [Nat.add_zero, List.drop_zero, show p + N.length = q by omega] at this
    exact this
  · rw [if_neg e, decide_eq_false (fun z => e (by rw [← z, slc_len hpq hq]))]; try rfl
theorem nmT8 {T : List Nat} {D : List Dc} (hg : GSc T D) {d : Dc} : ∀ c ∈ nmT T d, c < 256 := fun c hc => hg.2.2.2.2.2.1 c (List.mem_of_mem_drop (List.mem_of_mem_take hc))
theorem N_fNamed_L {U s m p q : Nat} {σ : SG} {T S : List Nat} {D : List Dc} (hU4 : 4000 < U) (hs : s < 2) (h80 : sI σ 1101 80 = nI s) (hg : GSc T D) (h : RS σ s T D) (hm : isM D m) (hL : LR σ S) (hpq : p ≤ q) (hq : q ≤ S.length) : ∀ (j g U1 : Nat), g + j = cnt D 2 → j < U1 → (∀ (i : Nat) (d : Dc), D[i]? = some d → dK d = 2 → cnt (D.take i) 2 < g → pFn T m (slc S p q) d = false) →
    x_X12_fieldNamed_L9 U 1101 (nI (cnt (D.take m) 0)) (nI p) (nI q) σ U1 (nI (60 * s + g)) = some (fIx D s (fNm T D m (slc S p q))) := by
  have hl := hg.2.1
  obtain ⟨l0, l1, l2, l3, l4, l5⟩ := lim_of h.1
  have hc : sI σ 1106 s = nI (cnt D 2) := h.2.1 2 (by decide)
  unfold fNm
  intro j
  induction j with
  | zero =>
    intro g U1 hgj hu hall
    obtain ⟨V, rfl⟩ : ∃ V, U1 = V + 1 := ⟨U1 - 1, by omega⟩
    rw [x_X12_fieldNamed_L9, h80, ix_in hs (by decide), show (60 : Int32) = nI 60 from rfl, pk_mul, hc, nI_add, if_neg (fun q => by have := (ltI (by omega) (by omega)).mp q; omega), ff_no]
    · rfl
    · intro x hx
      obtain ⟨i, hi⟩ := List.getElem?_of_mem hx
      by_cases z : dK x = 2
      · exact hall i x hi z (by have := cnt_take_lt hi z; omega)
      · exact decide_eq_false (fun y => z y.1)
  | succ j ih =>
    intro g U1 hgj hu hall
    obtain ⟨V, rfl⟩ : ∃ V, U1 = V + 1 := ⟨U1 - 1, by omega⟩
    obtain ⟨i, d, hd, hk, hi⟩ := plc (D := D) (q := 2) g (by omega)
    have row := (h.2.2 i d hd).2.2.1 hk
    rw [hi] at row
    have hnm := N_isNamed (U := U) hU4 hs hL row.2.1 hpq hq (nmT8 hg (d := d))
    have hnm' : x_X12_isNamed U 1101 (nI p) (nI q) (sI σ 1115 (60 * s + g)) (sI σ 1116 (60 * s + g)) σ = some (zI (decide (slc S p q = nmT T d))) := hnm
    rw [x_X12_fieldNamed_L9, h80, ix_in hs (by decide), show (60 : Int32) = nI 60 from rfl, pk_mul, hc, nI_add, if_pos ((ltI (by omega) (by omega)).mpr (by omega)), ix_in (by omega) (by decide), row.1, ifd (isM_oq hl hm (hg.1.scK hd)), ix_in (by omega) (by decide), ix_in (by omega) (by decide), hnm', b1_eq, ifz]
    unfold x_X12_fieldNamed_68
    rw [nI_1]
    have go : pFn T m (slc S p q) d = false → x_X12_fieldNamed_L9 U 1101 (nI (cnt (D.take m) 0)) (nI p) (nI q) σ V (nI (60 * s + g + 1)) = some (fIx D s (ff (pFn T m (slc S p q)) D 0)) := by
      intro hp
      refine ih (g + 1) V (by omega) (by omega) (fun i' d' h2 h3 h4 => ?_)
      by_cases z : cnt (D.take i') 2 = g
      · have := ord_inj h2 h3 hd hk (by omega)
        subst this
        rw [hd] at h2
        cases h2
        exact hp
      · exact hall i' d' h2 h3 (by omega)
    by_cases q1 : dS d = some m
    · rw [if_pos q1]
      by_cases q2 : slc S p q = nmT T d
      · rw [decide_eq_true q2, if_pos (show true = true from rfl)]
        have hff := ff_here (p := pFn T m (slc S p q)) D 0 i d hd (decide_eq_true ⟨hk, q1, q2.symm⟩) (fun j' x hj' hx => by
          by_cases z : dK x = 2
          · exact hall j' x hx z (by have := cnt_lt_of hx z hj'; omega)
          · exact decide_eq_false (fun y => z y.1))
        rw [hff, Nat.zero_add]
        unfold fIx
        simp only
        rw [hi]
      · rw [decide_eq_false q2, if_neg (show ¬ false = true by decide)]
        exact go (decide_eq_false (fun z => q2 z.2.2.symm))
    · rw [if_neg q1]
      exact go (decide_eq_false (fun z => q1 z.2.1))
/-- a name begins with a letter: the reference finds it where the class does -/
theorem fNm_ne {T : List Nat} {D : List Dc} {S : List Nat} {m p : Nat} (hg : GSc T D) (hp : p ≤ S.length) : fNm T D m (slc S p (neS S p)) = fNm T D m (slc S p (weS S p)) := by
  unfold neS
  cases hb : bP pL S p with
  | true => rw [if_pos (show true = true from rfl)]
  | false =>
    rw [if_neg (show ¬ false = true by decide)]
    have key : ∀ N : List Nat, (∀ c, N[0]? = some c → pL c = false) → fNm T D m N = none := by
      intro N hN
      unfold fNm
      apply ff_no
      intro d hd
      apply decide_eq_false
      rintro ⟨_, _, h3⟩
      obtain ⟨i, hi⟩ := List.getElem?_of_mem hd
      obtain ⟨_, _, ⟨c, h4, h5⟩, _⟩ := hg.N i d hi
      have h3' : slc T (dA d) (dE d) = N := h3
      rw [h3'] at h4
      rw [hN c h4] at h5
      cases h5
    rw [key _ (fun c hc => by rw [slc_nil (Nat.le_refl _)] at hc; cases hc), key]
    intro c hc
    unfold weS slc at hc
    have h0 : 0 < p + rn pW S p - p := by
      rcases Nat.eq_zero_or_pos (p + rn pW S p - p) with z | z
      · rw [z] at hc; cases hc
      · exact z
    rw [List.getElem?_take_of_lt h0, List.getElem?_drop, Nat.add_zero] at hc
    unfold bP at hb
    rw [hc] at hb
    exact hb
theorem vNm_ne {T : List Nat} {D : List Dc} {S : List Nat} {e p : Nat} (hb : bP pL S p = true) : vNm T D e (slc S p (neS S p)) = vNm T D e (slc S p (weS S p)) := by
  unfold neS
  rw [hb, if_pos rfl]
/-- what the reference's rows tell -/
def TLr (H : Rh) (tl : List (Nat × Nat)) : Prop := ∀ n f, (n, f) ∈ tl ↔ ∃ r ∈ zR H, rN r = n ∧ rF r = f
theorem N_told_L {U s n f : Nat} {σ : SG} {T : List Nat} {D : List Dc} {P : List Nat} {R : List Rg} {d : Dc} (hs : s < 2) (hg : GSc T D) (hS : RS σ s T D) (hR : RT σ s T D P R) (hd : D[f]? = some d) (h2 : dK d = 2) (hn : n < 400) (hRn : ∀ r ∈ R, rN r < 400) : ∀ (j i U1 : Nat), i + j = R.length → j < U1 → x_X12_toldBefore_L13 U 1101 (nI n) (nI (fx D s f)) σ U1 (nI i) = some (zI ((R.drop i).any (fun r => decide (rN r = n) && (decide (rF r = f) || rivB D f d (rF r))))) := by
  have hl := hg.2.1
  have hR7 := hR.2.1
  obtain ⟨f1, _, _, _, _, _, _, f8⟩ := hS.f hd h2
  intro j
  induction j with
  | zero =>
    intro i U1 hi hu
    obtain ⟨V, rfl⟩ : ∃ V, U1 = V + 1 := ⟨U1 - 1, by omega⟩
    rw [x_X12_toldBefore_L13, hR.1, if_neg (fun z => by have := (ltI (by omega) (by omega)).mp z; omega), List.drop_eq_nil_of_le (by omega)]; try rfl
  | succ j ih =>
    intro i U1 hi hu
    obtain ⟨V, rfl⟩ : ∃ V, U1 = V + 1 := ⟨U1 - 1, by omega⟩
    have hil : i < R.length := by omega
    obtain ⟨⟨w1, w2, _, _, x, w8, w9, _⟩, _⟩ := hR.2.2 i _ (List.getElem?_eq_getElem hil)
    have hrn := hRn _ (List.getElem_mem hil)
    have ihh := ih (i + 1) V (by omega) (by omega)
    obtain ⟨g1, _, _, _, _, _, _, g8⟩ := hS.f w8 w9
    have e22 : oq D 4 (dO d) = -1 ↔ dO d = none := oq_inj (q := 4) (o := dO d) (o' := none) hl (hg.1.one hd h2) (fun m hm => by cases hm)
    have e23 : oq D 4 (dO x) = oq D 4 (dO d) ↔ dO x = dO d := oq_inj (q := 4) hl (hg.1.one w8 w9) (hg.1.one hd h2)
    have hrv : rivB D f d (rF R[i]) = decide (dO d ≠ none ∧ rF R[i] ≠ f ∧ dO x = dO d) := by unfold rivB; rw [w8]
    rw [x_X12_toldBefore_L13, hR.1, if_pos ((ltI (by omega) (by omega)).mpr hil), ix_in (by omega) (by decide), w1, ifd (nI_eq (by omega) (by omega)), ix_in (by omega) (by decide), w2, ifd (fx_inj hg hs w8 w9 hd h2), ix_in (show fx D s f < 120 by omega) (by decide), f8, ifd e22, ix_in (by omega) (by decide), w2, ix_in (show fx D s (rF R[i]) < 120 by omega) (by decide), ix_in (show fx D s f < 120 by omega) (by decide), g8, f8, ifd e23]
    unfold x_X12_toldBefore_73
    rw [nI_1, ihh, List.drop_eq_getElem_cons hil, List.any_cons, hrv]
    by_cases q1 : rN R[i] = n
    · rw [if_pos q1, decide_eq_true q1, Bool.true_and]
      by_cases q2 : rF R[i] = f
      · rw [if_pos q2, decide_eq_true q2, Bool.true_or, Bool.true_or]; try rfl
      · rw [if_neg q2, decide_eq_false q2, Bool.false_or]
        by_cases q3 : dO d = none
        · rw [if_pos q3, decide_eq_false (fun z => z.1 q3), Bool.false_or]
        · rw [if_neg q3]
          by_cases q4 : dO x = dO d
          · rw [if_pos q4, decide_eq_true ⟨q3, q2, q4⟩, Bool.true_or]; try rfl
          · rw [if_neg q4, decide_eq_false (fun z => q4 z.2.2), Bool.false_or]
    · rw [if_neg q1, decide_eq_false q1, Bool.false_and, Bool.false_or]
theorem N_told {U s n f : Nat} {σ : SG} {T : List Nat} {D : List Dc} {A : AV} {H : Rh} {d : Dc} {tl : List (Nat × Nat)} (hU4 : 4000 < U) (hs : s < 2) (hg : GSc T D) (hS : RS σ s T D) (hV : VR σ s T D A H) (hd : D[f]? = some d) (h2 : dK d = 2) (hn : n < aC A) (htl : TLr H tl) : x_X12_toldBefore U 1101 (nI n) (nI (fx D s f)) σ = some (zI (tk D tl n f d)) := by
  have hR7 := hV.2.1.2.1
  have hc := hV.2.2.2.2.1.2.2.1
  obtain ⟨f1, _, _, _, _, f6, _⟩ := hS.f hd h2
  unfold x_X12_toldBefore
  rw [ix_in (show fx D s f < 120 by omega) (by decide), f6, ifz]
  cases hr : dR d with
  | true =>
    rw [if_pos (show true = true from rfl)]
    unfold tk
    rw [hr]; try rfl
  | false =>
    have key := N_told_L (U := U) (n := n) hs hg hS hV.2.1 hd h2 (by omega) hV.n400 (zR H).length 0 U (by omega) (by omega)
    have key' : x_X12_toldBefore_L13 U 1101 (nI n) (nI (fx D s f)) σ U 0 = _ := key
    rw [if_neg (show ¬ false = true by decide), key', List.drop_zero]
    congr 2
    rw [Bool.eq_iff_iff, tk_iff, List.any_eq_true]
    constructor
    · rintro ⟨r, hr', h⟩
      rw [Bool.and_eq_true, Bool.or_eq_true] at h
      exact ⟨hr, rF r, (htl n (rF r)).mpr ⟨r, hr', of_decide_eq_true h.1, rfl⟩, h.2.elim (fun z => Or.inl (of_decide_eq_true z)) Or.inr⟩
    · rintro ⟨_, g, hg', h⟩
      obtain ⟨r, hr', a1, a2⟩ := (htl n g).mp hg'
      refine ⟨r, hr', ?_⟩
      rw [Bool.and_eq_true, Bool.or_eq_true, a2]
      exact ⟨decide_eq_true a1, h.elim (fun z => Or.inl (decide_eq_true z)) Or.inr⟩
