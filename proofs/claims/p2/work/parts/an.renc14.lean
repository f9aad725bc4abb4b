/-! ===== the reference's encode, whole ===== -/
def Penc (b k : Nat) : Prop := PEs b k ∨ (b = 1101 ∧ k = 5) ∨ b = 1163
theorem N_encode {U s : Nat} {σ : SG} {T : List Nat} {D : List Dc} {A : AV} {H : Rh} {z : Nat → Nat} (hU4 : 4000 < U) (hs : s < 2) (hg : GSc T D) (h79 : sI σ 1101 79 = 1) (hS : RS σ s T D) (hV : VS σ s T D A H) (hZ : AW T D A z) (hK : AK T D A) (hb : (eMf T D A z 0).length ≤ 3900) (hcU : cMf T D A z 0 + 1 < U) : ∃ τ, x_X12_encode U 1101 σ = some (nI (eMf T D A z 0).length, τ) ∧ ROr τ (eMf T D A z 0, 0) ∧ sI τ 1101 5 = 0 ∧ RS τ s T D ∧ VS τ s T D A H ∧ fP Penc σ τ := by
  unfold x_X12_encode x_X12_encode_17
  obtain ⟨σ2, a1, a2, a3⟩ := X12_emptyOut (σ := σ)
  have e79 : sI σ2 1101 79 = 1 := ((fw_I a3 (by decide) (by omega)).1).trans h79
  rw [a1, b1_eq, e79, if_neg (show ¬ (1 : Int32) = 0 by decide), sb_eq, sI_s, if_pos (show (0 : Int32) = 0 from rfl)]
  have S2 := RS_fw hS a3
  have V2 := VS_fw hV a3
  have F4 : fP (fun b k => b = 1101 ∧ k = 5) σ2 (uI σ2 1101 5 0) := fP_u ⟨rfl, rfl⟩
  have S4 : RS (uI σ2 1101 5 0) s T D := RS_keep S2 (fun b k hb => (F4 b k (by unfold PKP at hb; omega)).1)
  have V4 : VS (uI σ2 1101 5 0) s T D A H := VS_keep V2 (fun b k hb => ⟨(F4 b k (by omega)).1, (F4 b k (by omega)).2.1⟩)
  have R4 : ROr (uI σ2 1101 5 0) ([], 0) := ROr_uI a2 (by decide) (by decide)
  have c5 : sI (uI σ2 1101 5 0) 1101 5 = 0 := sI_s _ _ _ _
  generalize uI σ2 1101 5 0 = σ4 at *
  obtain ⟨σ7, m1, m2, m3⟩ := N_measure (U := U) hU4 hs hg S4 V4 hZ hK hb
  rw [m1, b1_eq, sb_eq]
  have E7 : ES σ7 s T D A H z ([], 0) := ⟨RS_keep S4 (fun b k hb => (m2 b k (by unfold PKP at hb; omega)).1), VS_keep V4 (fun b k hb => ⟨(m2 b k (by omega)).1, (m2 b k (by omega)).2.1⟩), m3, ⟨((m2 1101 3 (by decide)).1).trans R4.1, ((m2 1101 4 (by decide)).1).trans R4.2.1, fun i c hi => ((m2 1103 i (by omega)).1).trans (R4.2.2.1 i c hi), R4.2.2.2⟩⟩
  have E8 := ES_uI (b := 1101) (j := 106) (v := 0) E7 (by omega)
  have c106 : sI (uI σ7 1101 106 0) 1101 106 = 0 := sI_s _ _ _ _
  have F8 : fP PEs σ7 (uI σ7 1101 106 0) := fP_u (by unfold PEs; omega)
  generalize uI σ7 1101 106 0 = σ8 at *
  have c106' : sI σ8 1101 106 = nI 0 := c106
  unfold x_X12_goInto
  rw [c106', ix_in (by decide) (by decide), sb_eq, sI_o (Or.inl (by decide)), c106', ix_in (by decide) (by decide), sb_eq, sI_o (Or.inl (by decide)), sI_o (Or.inl (by decide)), c106', ix_in (by decide) (by decide), sb_eq, sb_eq, sI_o (Or.inl (by decide)), sI_o (Or.inl (by decide)), sI_o (Or.inl (by decide)), c106', b1_eq]
  have E9 : ES (uI (uI (uI (uI σ8 1176 0 0) 1179 0 0) 1178 0 0) 1101 106 (nI 0 + 1)) s T D A H z ([], 0) := ES_uI (ES_uI (ES_uI (ES_uI E8 (by omega)) (by omega)) (by omega)) (by omega)
  have T9 : TP (uI (uI (uI (uI σ8 1176 0 0) 1179 0 0) 1178 0 0) 1101 106 (nI 0 + 1)) 0 0 0 0 := ⟨rfl, rfl, rfl, rfl⟩
  have F9 : fP PEs σ8 (uI (uI (uI (uI σ8 1176 0 0) 1179 0 0) 1178 0 0) 1101 106 (nI 0 + 1)) := fP_trans (fP_trans (fP_trans (fP_u (by unfold PEs; omega)) (fP_u (by unfold PEs; omega))) (fP_u (by unfold PEs; omega))) (fP_u (by unfold PEs; omega))
  generalize (uI (uI (uI (uI σ8 1176 0 0) 1179 0 0) 1178 0 0) 1101 106 (nI 0 + 1)) = σ9 at *
  have hal0 : al T D A 0 = true := decide_eq_true ((alL_mem _ _ hZ.1).mpr (Or.inl rfl))
  obtain ⟨τ, U2, t1, t2, t3, t4, t5, t6⟩ := N_emsg (U := U) hU4 hs hg hK hZ hV.2.2.2.2.1.2.2.1 hb 20 0 0 σ9 ([], 0) U (by omega) hZ.2.1 hal0 E9 T9 (by omega)
  obtain ⟨V, rfl⟩ : ∃ V, U2 = V + 1 := ⟨U2 - 1, by omega⟩
  rw [wrL_fit _ _ (by show 0 + (eMf T D A z 0).length ≤ 4000; omega)] at t3
  have R9 : ROr τ (eMf T D A z 0, 0) := t3.2.2.2
  rw [t1, x_X12_encode_L43, t4, if_neg (show ¬ (0 : Int32) < nI 0 by decide), R9.1]
  have FA : fP Penc σ4 τ := fP_trans (fP_mono m2 (fun b k y => Or.inr (Or.inr y))) (fP_mono (fP_trans F8 (fP_trans F9 t5)) (fun b k y => Or.inl y))
  refine ⟨τ, rfl, R9, ?_, t3.1, t3.2.1, fP_trans (fP_mono (fw_PEs a3) (fun b k y => Or.inl y)) (fP_trans (fP_mono F4 (fun b k y => Or.inr (Or.inl y))) FA)⟩
  have := ((t5 1101 5 (by unfold PEs; omega)).1).trans (((F9 1101 5 (by unfold PEs; omega)).1).trans (((F8 1101 5 (by unfold PEs; omega)).1).trans ((m2 1101 5 (by decide)).1)))
  exact this.trans c5
theorem N_encode_no {U : Nat} {σ : SG} (h79 : sI σ 1101 79 = 0) : ∃ τ, x_X12_encode U 1101 σ = some (0, τ) ∧ ROr τ ([], 0) ∧ sI τ 1101 5 = 1 ∧ fP Penc σ τ := by
  unfold x_X12_encode x_X12_encode_17
  obtain ⟨σ2, a1, a2, a3⟩ := X12_emptyOut (σ := σ)
  have e79 : sI σ2 1101 79 = 0 := ((fw_I a3 (by decide) (by omega)).1).trans h79
  rw [a1, b1_eq, e79, if_pos (show (0 : Int32) = 0 from rfl), sb_eq, sI_s, if_neg (show ¬ (1 : Int32) = 0 by decide)]
  exact ⟨_, rfl, ROr_uI a2 (by decide) (by decide), sI_s _ _ _ _, fP_trans (fP_mono (fw_PEs a3) (fun b k y => Or.inl y)) (fP_u (Or.inr (Or.inl ⟨rfl, rfl⟩)))⟩
