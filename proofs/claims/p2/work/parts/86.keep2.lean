/-! ===== the reference keeps a schema: the rows ===== -/
/-- what is read while a schema is kept -/
def KB (σ0 σ : SG) (T : List Nat) : Prop := (∀ b, 1128 ≤ b → b ≤ 1158 → sm σ0 σ b) ∧ (∀ k, 32 ≤ k → k ≤ 38 → sI σ 1101 k = sI σ0 1101 k) ∧ RI σ 1102 T
theorem KB_u {σ0 σ : SG} {T : List Nat} {a j : Nat} {v : Int32} (h : KB σ0 σ T) (ha : 1103 ≤ a) (ha' : a ≤ 1127) : KB σ0 (uI σ a j v) T :=
  ⟨fun b h1 h2 => sm_trans (h.1 b h1 h2) (sm_uI (by omega)), fun k h1 h2 => by
    by_cases q : a = 1101
    · omega
    · rw [sI_o (Or.inl (by omega))]; exact h.2.1 k h1 h2, h.2.2.sm (sm_uI (by omega))⟩
theorem KB_f {σ0 σ τ : SG} {T : List Nat} {P : Nat → Nat → Prop} (h : KB σ0 σ T) (hf : fP P σ τ) (hP : ∀ b k, P b k → (b = 1101 ∧ k = 31) ∨ (1103 ≤ b ∧ b ≤ 1127 ∧ b ≠ 1101)) : KB σ0 τ T := by
  have no : ∀ b k, (1128 ≤ b ∨ b = 1102 ∨ (b = 1101 ∧ k ≠ 31)) → ¬ P b k := fun b k hb z => by have := hP b k z; omega
  exact ⟨fun b h1 h2 => sm_trans (h.1 b h1 h2) (fun k => hf b k (no b k (Or.inl h1))), fun k h1 h2 => ((hf 1101 k (no _ _ (Or.inr (Or.inr ⟨rfl, by omega⟩)))).1).trans (h.2.1 k h1 h2), fun i c hi => ((hf 1102 i (no _ _ (Or.inr (Or.inl rfl)))).1).trans (h.2.2 i c hi)⟩
/-- the rows of a schema once it is checked -/
def FDk (σ : SG) (T : List Nat) (Ws : List Wd) (D : List Dc) (j : Nat) (d : Dc) : Prop := sI σ 1148 j = oq D 4 (dO d) ∧ sI σ 1145 j = zI (dR d) ∧ NR (sL σ 1137 j) (dN d) ∧ sI σ 1146 j = nI (dP d) ∧ TYr σ T Ws D j d
def RK (σ : SG) (T : List Nat) (Ws : List Wd) (D : List Dc) : Prop := (∀ q, q < 5 → sI σ 1101 (32 + q) = nI (cnt D q)) ∧ ∀ (i : Nat) (d : Dc), D[i]? = some d → (dK d = 0 → NMr σ 1128 (cnt (D.take i) 0) (oq D 0 (dS d)) d) ∧ (dK d = 1 → NMr σ 1131 (cnt (D.take i) 1) (oq D 0 (dS d)) d) ∧ (dK d = 2 → NMr σ 1134 (cnt (D.take i) 2) (oq D 0 (dS d)) d ∧ FDk σ T Ws D (cnt (D.take i) 2) d) ∧ (dK d = 3 → NMr σ 1149 (cnt (D.take i) 3) (oq D 1 (dO d)) d ∧ NR (sL σ 1152 (cnt (D.take i) 3)) (dN d))
theorem NMr_PT {σ τ : SG} {b i : Nat} {v : Int32} {d : Dc} (h : NMr σ b i v d) (hf : fP PT σ τ) (hb : 1102 ≤ b) (hb' : b + 2 < 1139 ∨ 1141 < b) : NMr τ b i v d :=
  ⟨(PT_c hf (by omega) (by omega) (by omega)).trans h.1, (PT_c hf (by omega) (by omega) (by omega)).trans h.2.1, (PT_c hf (by omega) (by omega) (by omega)).trans h.2.2⟩
theorem RK_of {σ0 σ : SG} {T : List Nat} {Ws : List Wd} {D : List Dc} {p : Nat} (hM : RM σ0 T Ws D p) (hf : fP PT σ0 σ) (hT : ∀ (i : Nat) (d : Dc), D[i]? = some d → dK d = 2 → TYr σ T Ws D (cnt (D.take i) 2) d) : RK σ T Ws D := by
  refine ⟨fun q hq => (PT_o hf (by omega) (by omega) (by omega)).trans (hM.1 q hq), fun i d hd => ?_⟩
  obtain ⟨_, a0, a1, a2, a3⟩ := hM.2.2.2 i d hd
  refine ⟨fun z => NMr_PT (a0 z) hf (by decide) (by decide), fun z => NMr_PT (a1 z) hf (by decide) (by decide), fun z => ⟨NMr_PT (a2 z).1 hf (by decide) (by decide), ?_⟩, fun z => ⟨NMr_PT (a3 z).1 hf (by decide) (by decide), ?_⟩⟩
  · obtain ⟨b1', b2', b3, b4, _⟩ := (a2 z).2
    refine ⟨(PT_c hf (by decide) (by decide) (by decide)).trans b1', (PT_c hf (by decide) (by decide) (by decide)).trans b2', ?_, (PT_c hf (by decide) (by decide) (by decide)).trans b4, hT i d hd z⟩
    rw [(hf 1137 _ (by rintro (z | z | z) <;> omega)).2.1]; exact b3
  · rw [(hf 1152 _ (by rintro (z | z | z) <;> omega)).2.1]; exact (a3 z).2
theorem nar01 (b : Bool) : vp_nar .boolean (zI b) = zI b := by cases b <;> decide
theorem N_keep0 {U s : Nat} {T : List Nat} {Ws : List Wd} {D : List Dc} {σ0 : SG} {K : SG → Option SG} (hU : 4000 < U) (hs : s < 2) (hTl : T.length ≤ 700) (hN : GNs T D) (hl : D.length < 180) (hlim : cnt D 0 ≤ 16) (hM : RK σ0 T Ws D) : ∀ (j f U1 n : Nat) (σ : SG), f + j = cnt D 0 → j < U1 → KB σ0 σ T → sI σ 1101 31 = nI (600 * s + n) → n + rmQ D 0 f ≤ 600 →
    ∃ τ, x_X12_keep_L51 U 1101 K (nI s) U1 (nI f) σ = K τ ∧ fP (QL 1108 1110 (16 * s + f) (16 * s + 16) (600 * s + n) (600 * s + 600)) σ τ ∧ sI τ 1101 31 = nI (600 * s + n + rmQ D 0 f) ∧ ∀ (i : Nat) (d : Dc), D[i]? = some d → dK d = 0 → f ≤ cnt (D.take i) 0 → sI τ 1108 (16 * s + cnt (D.take i) 0) = oq D 0 (dS d) ∧ NMb τ (600 * s) (600 * s + n + rmQ D 0 f) 1109 (16 * s + cnt (D.take i) 0) (slc T (dA d) (dE d)) := by
  have hcl := cnt_le D 0
  intro j
  induction j with
  | zero =>
    intro f U1 n σ hf hu hB h31 hn
    obtain ⟨V, rfl⟩ : ∃ V, U1 = V + 1 := ⟨U1 - 1, by omega⟩
    have h32 : sI σ 1101 32 = nI (cnt D 0) := (hB.2.1 32 (by decide) (by decide)).trans (hM.1 0 (by decide))
    rw [x_X12_keep_L51, h32, if_neg (fun q => by have := (ltI (by omega) (by omega)).mp q; omega)]
    have h0 : rmQ D 0 f = 0 := by unfold rmQ; rw [List.drop_eq_nil_of_le (by rw [FQ_len]; omega)]; rfl
    exact ⟨σ, rfl, fP_refl _ _, by rw [h0]; exact h31, fun i d h1 h2 h3 => by have := cnt_take_lt h1 h2; omega⟩
  | succ j ih =>
    intro f U1 n σ hf hu hB h31 hn
    obtain ⟨V, rfl⟩ : ∃ V, U1 = V + 1 := ⟨U1 - 1, by omega⟩
    have h32 : sI σ 1101 32 = nI (cnt D 0) := (hB.2.1 32 (by decide) (by decide)).trans (hM.1 0 (by decide))
    obtain ⟨i, d, hd, hk, hi⟩ := plc (D := D) (q := 0) f (by omega)
    have row := (hM.2 i d hd).1 hk
    have gd := hN i d hd
    have hrm := rmQ_step hd hk
    rw [hi] at row hrm
    have e0 : sI σ 1128 f = oq D 0 (dS d) := ((hB.1 1128 (by decide) (by decide) f).1).trans row.1
    have B1 : KB σ0 (uI σ 1108 (16 * s + f) (oq D 0 (dS d))) T := KB_u hB (by decide) (by decide)
    have e1 : sI (uI σ 1108 (16 * s + f) (oq D 0 (dS d))) 1129 f = nI (dA d) := ((B1.1 1129 (by decide) (by decide) f).1).trans row.2.1
    have e2 : sI (uI σ 1108 (16 * s + f) (oq D 0 (dS d))) 1130 f = nI (dE d - dA d) := ((B1.1 1130 (by decide) (by decide) f).1).trans row.2.2
    have e31 : sI (uI σ 1108 (16 * s + f) (oq D 0 (dS d))) 1101 31 = nI (600 * s + n) := by rw [sI_o (Or.inl (by decide))]; exact h31
    obtain ⟨υ, u1, u2, u3, u4⟩ := N_keepName (U := U) (a := dA d) (e := dE d) hU hTl (Nat.le_of_lt gd.1) gd.2.1 (by omega) B1.2.2 e31
    have B2 : KB σ0 υ T := KB_f B1 u2 (fun b k z => by omega)
    have e3 : sI (uI υ 1109 (16 * s + f) (nI (600 * s + n))) 1130 f = nI (dE d - dA d) := ((KB_u (j := 16 * s + f) (v := nI (600 * s + n)) B2 (show 1103 ≤ 1109 by decide) (by decide)).1 1130 (by decide) (by decide) f).1.trans row.2.2
    rw [x_X12_keep_L51, h32, if_pos ((ltI (by omega) (by omega)).mpr (by omega)), ix_in (by omega) (by decide), show (16 : Int32) = nI 16 from rfl, pk_mul, nI_add, ix_in (by omega) (by decide), sb_eq, e0, ix_in (by omega) (by decide), ix_in (by omega) (by decide), e1, e2, u1, b2_eq, ix_in (by omega) (by decide), sb_eq, ix_in (by omega) (by decide), ix_in (by omega) (by decide), sb_eq, e3, nI_1]
    have FF : fP (fun b k => (b = 1101 ∧ k = 31) ∨ (1108 ≤ b ∧ b ≤ 1110 ∧ k = 16 * s + f) ∨ (b = 1127 ∧ 600 * s + n ≤ k ∧ k < 600 * s + n + (dE d - dA d))) σ (uI (uI υ 1109 (16 * s + f) (nI (600 * s + n))) 1110 (16 * s + f) (nI (dE d - dA d))) := by
      exact fP_trans (fP_u (Or.inr (Or.inl ⟨by decide, by decide, rfl⟩))) (fP_trans (fP_mono u2 (fun b k z => by omega)) (fP_trans (fP_u (Or.inr (Or.inl ⟨by decide, by decide, rfl⟩))) (fP_u (Or.inr (Or.inl ⟨by decide, by decide, rfl⟩)))))
    have B4 : KB σ0 (uI (uI υ 1109 (16 * s + f) (nI (600 * s + n))) 1110 (16 * s + f) (nI (dE d - dA d))) T := KB_f hB FF (fun b k z => by omega)
    have f31 : sI (uI (uI υ 1109 (16 * s + f) (nI (600 * s + n))) 1110 (16 * s + f) (nI (dE d - dA d))) 1101 31 = nI (600 * s + (n + (dE d - dA d))) := by
      rw [sI_o (Or.inl (by decide)), sI_o (Or.inl (by decide))]
      rw [u3]; congr 1; omega
    have own0 : sI (uI (uI υ 1109 (16 * s + f) (nI (600 * s + n))) 1110 (16 * s + f) (nI (dE d - dA d))) 1108 (16 * s + f) = oq D 0 (dS d) := by
      rw [sI_o (Or.inl (by decide)), sI_o (Or.inl (by decide))]
      rw [(u2 1108 (16 * s + f) (by omega)).1, sI_s]
    have own1 : sI (uI (uI υ 1109 (16 * s + f) (nI (600 * s + n))) 1110 (16 * s + f) (nI (dE d - dA d))) 1109 (16 * s + f) = nI (600 * s + n) := by
      rw [sI_o (Or.inl (by decide))]
      rw [sI_s]
    have own2 : sI (uI (uI υ 1109 (16 * s + f) (nI (600 * s + n))) 1110 (16 * s + f) (nI (dE d - dA d))) 1110 (16 * s + f) = nI (dE d - dA d) := by
      skip
      rw [sI_s]
    have ownN : NMs (uI (uI υ 1109 (16 * s + f) (nI (600 * s + n))) 1110 (16 * s + f) (nI (dE d - dA d))) (600 * s + n) (slc T (dA d) (dE d)) := NMs_keep u4 (fun i' _ => by
      rw [sI_o (Or.inl (by decide)), sI_o (Or.inl (by decide))])
    generalize (uI (uI υ 1109 (16 * s + f) (nI (600 * s + n))) 1110 (16 * s + f) (nI (dE d - dA d))) = ω at *
    obtain ⟨τ, t1, t2, t3, t4⟩ := ih (f + 1) V (n + (dE d - dA d)) ω (by omega) (by omega) B4 f31 (by omega)
    have nn : ∀ b k, b ≠ 1101 → b ≠ 1127 → k = 16 * s + f → sI τ b k = sI ω b k := fun b k h1 h2 h3 => (t2 b k (by rintro (z | z | z) <;> omega)).1
    refine ⟨τ, t1, fP_trans (fP_mono FF (fun b k z => ?_)) (QL_mono t2 (by omega) (by omega)), ?_, fun i' d' h1 h2 h3 => ?_⟩
    · rcases z with z | z | z
      · exact Or.inl z
      · exact Or.inr (Or.inl (by omega))
      · exact Or.inr (Or.inr (by omega))
    · rw [t3, hrm]; congr 1; omega
    · by_cases q : cnt (D.take i') 0 = f
      · have := ord_inj h1 h2 hd hk (by omega)
        subst this
        rw [hd] at h1
        cases h1
        rw [hi]
        have hsl : (slc T (dA d) (dE d)).length = dE d - dA d := slc_len (Nat.le_of_lt gd.1) gd.2.1
        refine ⟨(nn 1108 _ (by decide) (by decide) rfl).trans own0, ⟨600 * s + n, (nn 1109 _ (by decide) (by decide) rfl).trans own1, by rw [hsl]; exact (nn 1110 _ (by decide) (by decide) rfl).trans own2, by omega, by rw [hsl]; omega, NMs_keep ownN (fun i2 hi2 => ?_)⟩⟩
        rw [hsl] at hi2
        exact (t2 1127 _ (by rintro (z | z | z) <;> omega)).1
      · have hh : 600 * s + (n + (dE d - dA d)) + rmQ D 0 (f + 1) = 600 * s + n + rmQ D 0 f := by omega
        rw [← hh]
        exact t4 i' d' h1 h2 (by omega)
theorem N_keep1 {U s : Nat} {T : List Nat} {Ws : List Wd} {D : List Dc} {σ0 : SG} {K : SG → Option SG} (hU : 4000 < U) (hs : s < 2) (hTl : T.length ≤ 700) (hN : GNs T D) (hl : D.length < 180) (hlim : cnt D 1 ≤ 8) (hM : RK σ0 T Ws D) : ∀ (j f U1 n : Nat) (σ : SG), f + j = cnt D 1 → j < U1 → KB σ0 σ T → sI σ 1101 31 = nI (600 * s + n) → n + rmQ D 1 f ≤ 600 →
    ∃ τ, x_X12_keep_L128 U 1101 K (nI s) U1 (nI f) σ = K τ ∧ fP (QL 1111 1113 (8 * s + f) (8 * s + 8) (600 * s + n) (600 * s + 600)) σ τ ∧ sI τ 1101 31 = nI (600 * s + n + rmQ D 1 f) ∧ ∀ (i : Nat) (d : Dc), D[i]? = some d → dK d = 1 → f ≤ cnt (D.take i) 1 → sI τ 1111 (8 * s + cnt (D.take i) 1) = oq D 0 (dS d) ∧ NMb τ (600 * s) (600 * s + n + rmQ D 1 f) 1112 (8 * s + cnt (D.take i) 1) (slc T (dA d) (dE d)) := by
  have hcl := cnt_le D 1
  intro j
  induction j with
  | zero =>
    intro f U1 n σ hf hu hB h31 hn
    obtain ⟨V, rfl⟩ : ∃ V, U1 = V + 1 := ⟨U1 - 1, by omega⟩
    have h32 : sI σ 1101 33 = nI (cnt D 1) := (hB.2.1 33 (by decide) (by decide)).trans (hM.1 1 (by decide))
    rw [x_X12_keep_L128, h32, if_neg (fun q => by have := (ltI (by omega) (by omega)).mp q; omega)]
    have h0 : rmQ D 1 f = 0 := by unfold rmQ; rw [List.drop_eq_nil_of_le (by rw [FQ_len]; omega)]; rfl
    exact ⟨σ, rfl, fP_refl _ _, by rw [h0]; exact h31, fun i d h1 h2 h3 => by have := cnt_take_lt h1 h2; omega⟩
  | succ j ih =>
    intro f U1 n σ hf hu hB h31 hn
    obtain ⟨V, rfl⟩ : ∃ V, U1 = V + 1 := ⟨U1 - 1, by omega⟩
    have h32 : sI σ 1101 33 = nI (cnt D 1) := (hB.2.1 33 (by decide) (by decide)).trans (hM.1 1 (by decide))
    obtain ⟨i, d, hd, hk, hi⟩ := plc (D := D) (q := 1) f (by omega)
    have row := (hM.2 i d hd).2.1 hk
    have gd := hN i d hd
    have hrm := rmQ_step hd hk
    rw [hi] at row hrm
    have e0 : sI σ 1131 f = oq D 0 (dS d) := ((hB.1 1131 (by decide) (by decide) f).1).trans row.1
    have B1 : KB σ0 (uI σ 1111 (8 * s + f) (oq D 0 (dS d))) T := KB_u hB (by decide) (by decide)
    have e1 : sI (uI σ 1111 (8 * s + f) (oq D 0 (dS d))) 1132 f = nI (dA d) := ((B1.1 1132 (by decide) (by decide) f).1).trans row.2.1
    have e2 : sI (uI σ 1111 (8 * s + f) (oq D 0 (dS d))) 1133 f = nI (dE d - dA d) := ((B1.1 1133 (by decide) (by decide) f).1).trans row.2.2
    have e31 : sI (uI σ 1111 (8 * s + f) (oq D 0 (dS d))) 1101 31 = nI (600 * s + n) := by rw [sI_o (Or.inl (by decide))]; exact h31
    obtain ⟨υ, u1, u2, u3, u4⟩ := N_keepName (U := U) (a := dA d) (e := dE d) hU hTl (Nat.le_of_lt gd.1) gd.2.1 (by omega) B1.2.2 e31
    have B2 : KB σ0 υ T := KB_f B1 u2 (fun b k z => by omega)
    have e3 : sI (uI υ 1112 (8 * s + f) (nI (600 * s + n))) 1133 f = nI (dE d - dA d) := ((KB_u (j := 8 * s + f) (v := nI (600 * s + n)) B2 (show 1103 ≤ 1112 by decide) (by decide)).1 1133 (by decide) (by decide) f).1.trans row.2.2
    rw [x_X12_keep_L128, h32, if_pos ((ltI (by omega) (by omega)).mpr (by omega)), ix_in (by omega) (by decide), show (8 : Int32) = nI 8 from rfl, pk_mul, nI_add, ix_in (by omega) (by decide), sb_eq, e0, ix_in (by omega) (by decide), ix_in (by omega) (by decide), e1, e2, u1, b2_eq, ix_in (by omega) (by decide), sb_eq, ix_in (by omega) (by decide), ix_in (by omega) (by decide), sb_eq, e3, nI_1]
    have FF : fP (fun b k => (b = 1101 ∧ k = 31) ∨ (1111 ≤ b ∧ b ≤ 1113 ∧ k = 8 * s + f) ∨ (b = 1127 ∧ 600 * s + n ≤ k ∧ k < 600 * s + n + (dE d - dA d))) σ (uI (uI υ 1112 (8 * s + f) (nI (600 * s + n))) 1113 (8 * s + f) (nI (dE d - dA d))) := by
      exact fP_trans (fP_u (Or.inr (Or.inl ⟨by decide, by decide, rfl⟩))) (fP_trans (fP_mono u2 (fun b k z => by omega)) (fP_trans (fP_u (Or.inr (Or.inl ⟨by decide, by decide, rfl⟩))) (fP_u (Or.inr (Or.inl ⟨by decide, by decide, rfl⟩)))))
    have B4 : KB σ0 (uI (uI υ 1112 (8 * s + f) (nI (600 * s + n))) 1113 (8 * s + f) (nI (dE d - dA d))) T := KB_f hB FF (fun b k z => by omega)
    have f31 : sI (uI (uI υ 1112 (8 * s + f) (nI (600 * s + n))) 1113 (8 * s + f) (nI (dE d - dA d))) 1101 31 = nI (600 * s + (n + (dE d - dA d))) := by
      rw [sI_o (Or.inl (by decide)), sI_o (Or.inl (by decide))]
      rw [u3]; congr 1; omega
    have own0 : sI (uI (uI υ 1112 (8 * s + f) (nI (600 * s + n))) 1113 (8 * s + f) (nI (dE d - dA d))) 1111 (8 * s + f) = oq D 0 (dS d) := by
      rw [sI_o (Or.inl (by decide)), sI_o (Or.inl (by decide))]
      rw [(u2 1111 (8 * s + f) (by omega)).1, sI_s]
    have own1 : sI (uI (uI υ 1112 (8 * s + f) (nI (600 * s + n))) 1113 (8 * s + f) (nI (dE d - dA d))) 1112 (8 * s + f) = nI (600 * s + n) := by
      rw [sI_o (Or.inl (by decide))]
      rw [sI_s]
    have own2 : sI (uI (uI υ 1112 (8 * s + f) (nI (600 * s + n))) 1113 (8 * s + f) (nI (dE d - dA d))) 1113 (8 * s + f) = nI (dE d - dA d) := by
      skip
      rw [sI_s]
    have ownN : NMs (uI (uI υ 1112 (8 * s + f) (nI (600 * s + n))) 1113 (8 * s + f) (nI (dE d - dA d))) (600 * s + n) (slc T (dA d) (dE d)) := NMs_keep u4 (fun i' _ => by
      rw [sI_o (Or.inl (by decide)), sI_o (Or.inl (by decide))])
    generalize (uI (uI υ 1112 (8 * s + f) (nI (600 * s + n))) 1113 (8 * s + f) (nI (dE d - dA d))) = ω at *
    obtain ⟨τ, t1, t2, t3, t4⟩ := ih (f + 1) V (n + (dE d - dA d)) ω (by omega) (by omega) B4 f31 (by omega)
    have nn : ∀ b k, b ≠ 1101 → b ≠ 1127 → k = 8 * s + f → sI τ b k = sI ω b k := fun b k h1 h2 h3 => (t2 b k (by rintro (z | z | z) <;> omega)).1
    refine ⟨τ, t1, fP_trans (fP_mono FF (fun b k z => ?_)) (QL_mono t2 (by omega) (by omega)), ?_, fun i' d' h1 h2 h3 => ?_⟩
    · rcases z with z | z | z
      · exact Or.inl z
      · exact Or.inr (Or.inl (by omega))
      · exact Or.inr (Or.inr (by omega))
    · rw [t3, hrm]; congr 1; omega
    · by_cases q : cnt (D.take i') 1 = f
      · have := ord_inj h1 h2 hd hk (by omega)
        subst this
        rw [hd] at h1
        cases h1
        rw [hi]
        have hsl : (slc T (dA d) (dE d)).length = dE d - dA d := slc_len (Nat.le_of_lt gd.1) gd.2.1
        refine ⟨(nn 1111 _ (by decide) (by decide) rfl).trans own0, ⟨600 * s + n, (nn 1112 _ (by decide) (by decide) rfl).trans own1, by rw [hsl]; exact (nn 1113 _ (by decide) (by decide) rfl).trans own2, by omega, by rw [hsl]; omega, NMs_keep ownN (fun i2 hi2 => ?_)⟩⟩
        rw [hsl] at hi2
        exact (t2 1127 _ (by rintro (z | z | z) <;> omega)).1
      · have hh : 600 * s + (n + (dE d - dA d)) + rmQ D 1 (f + 1) = 600 * s + n + rmQ D 1 f := by omega
        rw [← hh]
        exact t4 i' d' h1 h2 (by omega)
theorem N_keep3 {U s : Nat} {T : List Nat} {Ws : List Wd} {D : List Dc} {σ0 : SG} {K : SG → Option SG} (hU : 4000 < U) (hs : s < 2) (hTl : T.length ≤ 700) (hN : GNs T D) (hl : D.length < 180) (hlim : cnt D 3 ≤ 40) (hM : RK σ0 T Ws D) (hV : ∀ (i : Nat) (d : Dc), D[i]? = some d → dK d = 3 → okV (dN d) = true) : ∀ (j f U1 n : Nat) (σ : SG), f + j = cnt D 3 → j < U1 → KB σ0 σ T → sI σ 1101 31 = nI (600 * s + n) → n + rmQ D 3 f ≤ 600 →
    ∃ τ, x_X12_keep_L377 U 1101 (nI s) U1 (nI f) σ = some τ ∧ fP (QL 1123 1126 (40 * s + f) (40 * s + 40) (600 * s + n) (600 * s + 600)) σ τ ∧ sI τ 1101 31 = nI (600 * s + n + rmQ D 3 f) ∧ ∀ (i : Nat) (d : Dc), D[i]? = some d → dK d = 3 → f ≤ cnt (D.take i) 3 → sI τ 1123 (40 * s + cnt (D.take i) 3) = oq D 1 (dO d) ∧ NMb τ (600 * s) (600 * s + n + rmQ D 3 f) 1124 (40 * s + cnt (D.take i) 3) (slc T (dA d) (dE d)) ∧ sI τ 1126 (40 * s + cnt (D.take i) 3) = Int64.toInt32 (nL (dN d)) := by
  have hcl := cnt_le D 3
  intro j
  induction j with
  | zero =>
    intro f U1 n σ hf hu hB h31 hn
    obtain ⟨V, rfl⟩ : ∃ V, U1 = V + 1 := ⟨U1 - 1, by omega⟩
    have h32 : sI σ 1101 35 = nI (cnt D 3) := (hB.2.1 35 (by decide) (by decide)).trans (hM.1 3 (by decide))
    rw [x_X12_keep_L377, h32, if_neg (fun q => by have := (ltI (by omega) (by omega)).mp q; omega)]
    have h0 : rmQ D 3 f = 0 := by unfold rmQ; rw [List.drop_eq_nil_of_le (by rw [FQ_len]; omega)]; rfl
    exact ⟨σ, rfl, fP_refl _ _, by rw [h0]; exact h31, fun i d h1 h2 h3 => by have := cnt_take_lt h1 h2; omega⟩
  | succ j ih =>
    intro f U1 n σ hf hu hB h31 hn
    obtain ⟨V, rfl⟩ : ∃ V, U1 = V + 1 := ⟨U1 - 1, by omega⟩
    have h32 : sI σ 1101 35 = nI (cnt D 3) := (hB.2.1 35 (by decide) (by decide)).trans (hM.1 3 (by decide))
    obtain ⟨i, d, hd, hk, hi⟩ := plc (D := D) (q := 3) f (by omega)
    have row := (hM.2 i d hd).2.2.2 hk
    have gd := hN i d hd
    have hrm := rmQ_step hd hk
    rw [hi] at row hrm
    have eN : sL σ0 1152 f = nL (dN d) := by
      obtain ⟨w, w1, w2, w3⟩ := row.2
      have := of_decide_eq_true (hV i d hd hk)
      rw [w3]
      have ew : w = (dN d).2 := by unfold NV at w2; omega
      rw [ew]
    have e0 : sI σ 1149 f = oq D 1 (dO d) := ((hB.1 1149 (by decide) (by decide) f).1).trans row.1.1
    have B1 : KB σ0 (uI σ 1123 (40 * s + f) (oq D 1 (dO d))) T := KB_u hB (by decide) (by decide)
    have e1 : sI (uI σ 1123 (40 * s + f) (oq D 1 (dO d))) 1150 f = nI (dA d) := ((B1.1 1150 (by decide) (by decide) f).1).trans row.1.2.1
    have e2 : sI (uI σ 1123 (40 * s + f) (oq D 1 (dO d))) 1151 f = nI (dE d - dA d) := ((B1.1 1151 (by decide) (by decide) f).1).trans row.1.2.2
    have e31 : sI (uI σ 1123 (40 * s + f) (oq D 1 (dO d))) 1101 31 = nI (600 * s + n) := by rw [sI_o (Or.inl (by decide))]; exact h31
    obtain ⟨υ, u1, u2, u3, u4⟩ := N_keepName (U := U) (a := dA d) (e := dE d) hU hTl (Nat.le_of_lt gd.1) gd.2.1 (by omega) B1.2.2 e31
    have B2 : KB σ0 υ T := KB_f B1 u2 (fun b k z => by omega)
    have e3 : sI (uI υ 1124 (40 * s + f) (nI (600 * s + n))) 1151 f = nI (dE d - dA d) := ((KB_u (j := 40 * s + f) (v := nI (600 * s + n)) B2 (show 1103 ≤ 1124 by decide) (by decide)).1 1151 (by decide) (by decide) f).1.trans row.1.2.2
    rw [x_X12_keep_L377, h32, if_pos ((ltI (by omega) (by omega)).mpr (by omega)), ix_in (by omega) (by decide), show (40 : Int32) = nI 40 from rfl, pk_mul, nI_add, ix_in (by omega) (by decide), sb_eq, e0, ix_in (by omega) (by decide), ix_in (by omega) (by decide), e1, e2, u1, b2_eq, ix_in (by omega) (by decide), sb_eq, ix_in (by omega) (by decide), ix_in (by omega) (by decide), sb_eq, e3, ix_in (by omega) (by decide), ix_in (by omega) (by decide), sb_eq, sL_uI, sL_uI, ((B2.1 1152 (by decide) (by decide) f).2.1).trans eN, nI_1]
    have FF : fP (fun b k => (b = 1101 ∧ k = 31) ∨ (1123 ≤ b ∧ b ≤ 1126 ∧ k = 40 * s + f) ∨ (b = 1127 ∧ 600 * s + n ≤ k ∧ k < 600 * s + n + (dE d - dA d))) σ (uI (uI (uI υ 1124 (40 * s + f) (nI (600 * s + n))) 1125 (40 * s + f) (nI (dE d - dA d))) 1126 (40 * s + f) (Int64.toInt32 (nL (dN d)))) := by
      exact fP_trans (fP_u (Or.inr (Or.inl ⟨by decide, by decide, rfl⟩))) (fP_trans (fP_mono u2 (fun b k z => by omega)) (fP_trans (fP_trans (fP_u (Or.inr (Or.inl ⟨by decide, by decide, rfl⟩))) (fP_u (Or.inr (Or.inl ⟨by decide, by decide, rfl⟩)))) (fP_u (Or.inr (Or.inl ⟨by decide, by decide, rfl⟩)))))
    have B4 : KB σ0 (uI (uI (uI υ 1124 (40 * s + f) (nI (600 * s + n))) 1125 (40 * s + f) (nI (dE d - dA d))) 1126 (40 * s + f) (Int64.toInt32 (nL (dN d)))) T := KB_f hB FF (fun b k z => by omega)
    have f31 : sI (uI (uI (uI υ 1124 (40 * s + f) (nI (600 * s + n))) 1125 (40 * s + f) (nI (dE d - dA d))) 1126 (40 * s + f) (Int64.toInt32 (nL (dN d)))) 1101 31 = nI (600 * s + (n + (dE d - dA d))) := by
      rw [sI_o (Or.inl (by decide)), sI_o (Or.inl (by decide)), sI_o (Or.inl (by decide))]
      rw [u3]; congr 1; omega
    have own0 : sI (uI (uI (uI υ 1124 (40 * s + f) (nI (600 * s + n))) 1125 (40 * s + f) (nI (dE d - dA d))) 1126 (40 * s + f) (Int64.toInt32 (nL (dN d)))) 1123 (40 * s + f) = oq D 1 (dO d) := by
      rw [sI_o (Or.inl (by decide)), sI_o (Or.inl (by decide)), sI_o (Or.inl (by decide))]
      rw [(u2 1123 (40 * s + f) (by omega)).1, sI_s]
    have own1 : sI (uI (uI (uI υ 1124 (40 * s + f) (nI (600 * s + n))) 1125 (40 * s + f) (nI (dE d - dA d))) 1126 (40 * s + f) (Int64.toInt32 (nL (dN d)))) 1124 (40 * s + f) = nI (600 * s + n) := by
      rw [sI_o (Or.inl (by decide)), sI_o (Or.inl (by decide))]
      rw [sI_s]
    have own2 : sI (uI (uI (uI υ 1124 (40 * s + f) (nI (600 * s + n))) 1125 (40 * s + f) (nI (dE d - dA d))) 1126 (40 * s + f) (Int64.toInt32 (nL (dN d)))) 1125 (40 * s + f) = nI (dE d - dA d) := by
      rw [sI_o (Or.inl (by decide))]
      rw [sI_s]
    have ownN : NMs (uI (uI (uI υ 1124 (40 * s + f) (nI (600 * s + n))) 1125 (40 * s + f) (nI (dE d - dA d))) 1126 (40 * s + f) (Int64.toInt32 (nL (dN d)))) (600 * s + n) (slc T (dA d) (dE d)) := NMs_keep u4 (fun i' _ => by
      rw [sI_o (Or.inl (by decide)), sI_o (Or.inl (by decide)), sI_o (Or.inl (by decide))])
    have own3 : sI (uI (uI (uI υ 1124 (40 * s + f) (nI (600 * s + n))) 1125 (40 * s + f) (nI (dE d - dA d))) 1126 (40 * s + f) (Int64.toInt32 (nL (dN d)))) 1126 (40 * s + f) = Int64.toInt32 (nL (dN d)) := sI_s _ _ _ _
    generalize (uI (uI (uI υ 1124 (40 * s + f) (nI (600 * s + n))) 1125 (40 * s + f) (nI (dE d - dA d))) 1126 (40 * s + f) (Int64.toInt32 (nL (dN d)))) = ω at *
    obtain ⟨τ, t1, t2, t3, t4⟩ := ih (f + 1) V (n + (dE d - dA d)) ω (by omega) (by omega) B4 f31 (by omega)
    have nn : ∀ b k, b ≠ 1101 → b ≠ 1127 → k = 40 * s + f → sI τ b k = sI ω b k := fun b k h1 h2 h3 => (t2 b k (by rintro (z | z | z) <;> omega)).1
    refine ⟨τ, t1, fP_trans (fP_mono FF (fun b k z => ?_)) (QL_mono t2 (by omega) (by omega)), ?_, fun i' d' h1 h2 h3 => ?_⟩
    · rcases z with z | z | z
      · exact Or.inl z
      · exact Or.inr (Or.inl (by omega))
      · exact Or.inr (Or.inr (by omega))
    · rw [t3, hrm]; congr 1; omega
    · by_cases q : cnt (D.take i') 3 = f
      · have := ord_inj h1 h2 hd hk (by omega)
        subst this
        rw [hd] at h1
        cases h1
        rw [hi]
        have hsl : (slc T (dA d) (dE d)).length = dE d - dA d := slc_len (Nat.le_of_lt gd.1) gd.2.1
        refine ⟨(nn 1123 _ (by decide) (by decide) rfl).trans own0, ⟨600 * s + n, (nn 1124 _ (by decide) (by decide) rfl).trans own1, by rw [hsl]; exact (nn 1125 _ (by decide) (by decide) rfl).trans own2, by omega, by rw [hsl]; omega, NMs_keep ownN (fun i2 hi2 => ?_)⟩, (nn 1126 _ (by decide) (by decide) rfl).trans own3⟩
        rw [hsl] at hi2
        exact (t2 1127 _ (by rintro (z | z | z) <;> omega)).1
      · have hh : 600 * s + (n + (dE d - dA d)) + rmQ D 3 (f + 1) = 600 * s + n + rmQ D 3 f := by omega
        rw [← hh]
        exact t4 i' d' h1 h2 (by omega)
theorem N_keep2 {U s : Nat} {T : List Nat} {Ws : List Wd} {D : List Dc} {σ0 : SG} {K : SG → Option SG} (hU : 4000 < U) (hs : s < 2) (hTl : T.length ≤ 700) (hN : GNs T D) (hl : D.length < 180) (hlim : cnt D 2 ≤ 60) (hM : RK σ0 T Ws D) (hF : ∀ (i : Nat) (d : Dc), D[i]? = some d → dK d = 2 → okN (dN d).2 = true ∧ (dN d).1 = false ∧ dP d ≤ 2 ∧ dT d ≤ 13) : ∀ (j f U1 n : Nat) (σ : SG), f + j = cnt D 2 → j < U1 → KB σ0 σ T → sI σ 1101 31 = nI (600 * s + n) → n + rmQ D 2 f ≤ 600 →
    ∃ τ, x_X12_keep_L205 U 1101 K (nI s) U1 (nI f) σ = K τ ∧ fP (QL 1114 1122 (60 * s + f) (60 * s + 60) (600 * s + n) (600 * s + 600)) σ τ ∧ sI τ 1101 31 = nI (600 * s + n + rmQ D 2 f) ∧ ∀ (i : Nat) (d : Dc), D[i]? = some d → dK d = 2 → f ≤ cnt (D.take i) 2 → sI τ 1114 (60 * s + cnt (D.take i) 2) = oq D 0 (dS d) ∧ NMb τ (600 * s) (600 * s + n + rmQ D 2 f) 1115 (60 * s + cnt (D.take i) 2) (slc T (dA d) (dE d)) ∧ sI τ 1117 (60 * s + cnt (D.take i) 2) = nI (dN d).2 ∧ sI τ 1118 (60 * s + cnt (D.take i) 2) = nI (dTy (lkR T D) T Ws D d) ∧ sI τ 1119 (60 * s + cnt (D.take i) 2) = refI D (dTg (lkR T D) T Ws D d) ∧ sI τ 1120 (60 * s + cnt (D.take i) 2) = zI (dR d) ∧ sI τ 1121 (60 * s + cnt (D.take i) 2) = zI (dPa (lkR T D) T Ws D d) ∧ sI τ 1122 (60 * s + cnt (D.take i) 2) = oq D 4 (dO d) := by
  have hcl := cnt_le D 2
  intro j
  induction j with
  | zero =>
    intro f U1 n σ hf hu hB h31 hn
    obtain ⟨V, rfl⟩ : ∃ V, U1 = V + 1 := ⟨U1 - 1, by omega⟩
    have h32 : sI σ 1101 34 = nI (cnt D 2) := (hB.2.1 34 (by decide) (by decide)).trans (hM.1 2 (by decide))
    rw [x_X12_keep_L205, h32, if_neg (fun q => by have := (ltI (by omega) (by omega)).mp q; omega)]
    have h0 : rmQ D 2 f = 0 := by unfold rmQ; rw [List.drop_eq_nil_of_le (by rw [FQ_len]; omega)]; rfl
    exact ⟨σ, rfl, fP_refl _ _, by rw [h0]; exact h31, fun i d h1 h2 h3 => by have := cnt_take_lt h1 h2; omega⟩
  | succ j ih =>
    intro f U1 n σ hf hu hB h31 hn
    obtain ⟨V, rfl⟩ : ∃ V, U1 = V + 1 := ⟨U1 - 1, by omega⟩
    have h32 : sI σ 1101 34 = nI (cnt D 2) := (hB.2.1 34 (by decide) (by decide)).trans (hM.1 2 (by decide))
    obtain ⟨i, d, hd, hk, hi⟩ := plc (D := D) (q := 2) f (by omega)
    have row := (hM.2 i d hd).2.2.1 hk
    have gd := hN i d hd
    have hrm := rmQ_step hd hk
    rw [hi] at row hrm
    obtain ⟨fN1, fN2, fN3, fN4⟩ := hF i d hd hk
    have eN : sL σ0 1137 f = lN (dN d).2 := by
      obtain ⟨w, w1, w2, w3⟩ := NR_of row.2.2.2.1 fN2
      have := of_decide_eq_true fN1
      rw [w3]
      have ew : w = (dN d).2 := by unfold NV at w2; omega
      rw [ew]
    have e0 : sI σ 1134 f = oq D 0 (dS d) := ((hB.1 1134 (by decide) (by decide) f).1).trans row.1.1
    have B1 : KB σ0 (uI σ 1114 (60 * s + f) (oq D 0 (dS d))) T := KB_u hB (by decide) (by decide)
    have e1 : sI (uI σ 1114 (60 * s + f) (oq D 0 (dS d))) 1135 f = nI (dA d) := ((B1.1 1135 (by decide) (by decide) f).1).trans row.1.2.1
    have e2 : sI (uI σ 1114 (60 * s + f) (oq D 0 (dS d))) 1136 f = nI (dE d - dA d) := ((B1.1 1136 (by decide) (by decide) f).1).trans row.1.2.2
    have e31 : sI (uI σ 1114 (60 * s + f) (oq D 0 (dS d))) 1101 31 = nI (600 * s + n) := by rw [sI_o (Or.inl (by decide))]; exact h31
    obtain ⟨υ, u1, u2, u3, u4⟩ := N_keepName (U := U) (a := dA d) (e := dE d) hU hTl (Nat.le_of_lt gd.1) gd.2.1 (by omega) B1.2.2 e31
    have B2 : KB σ0 υ T := KB_f B1 u2 (fun b k z => by omega)
    have e3 : sI (uI υ 1115 (60 * s + f) (nI (600 * s + n))) 1136 f = nI (dE d - dA d) := ((KB_u (j := 60 * s + f) (v := nI (600 * s + n)) B2 (show 1103 ≤ 1115 by decide) (by decide)).1 1136 (by decide) (by decide) f).1.trans row.1.2.2
    have g39 : sI (uI (uI (uI υ 1115 (60 * s + f) (nI (600 * s + n))) 1116 (60 * s + f) (nI (dE d - dA d))) 1117 (60 * s + f) (nI (dN d).2)) 1139 f = nI (dTy (lkR T D) T Ws D d) := by
      rw [sI_o (Or.inl (by decide)), sI_o (Or.inl (by decide)), sI_o (Or.inl (by decide))]
      exact ((B2.1 1139 (by decide) (by decide) f).1).trans row.2.2.2.2.2.1
    have g41 : sI (uI (uI (uI (uI υ 1115 (60 * s + f) (nI (600 * s + n))) 1116 (60 * s + f) (nI (dE d - dA d))) 1117 (60 * s + f) (nI (dN d).2)) 1118 (60 * s + f) (nI (dTy (lkR T D) T Ws D d))) 1141 f = refI D (dTg (lkR T D) T Ws D d) := by
      rw [sI_o (Or.inl (by decide)), sI_o (Or.inl (by decide)), sI_o (Or.inl (by decide)), sI_o (Or.inl (by decide))]
      exact ((B2.1 1141 (by decide) (by decide) f).1).trans row.2.2.2.2.2.2
    have g45 : sI (uI (uI (uI (uI (uI υ 1115 (60 * s + f) (nI (600 * s + n))) 1116 (60 * s + f) (nI (dE d - dA d))) 1117 (60 * s + f) (nI (dN d).2)) 1118 (60 * s + f) (nI (dTy (lkR T D) T Ws D d))) 1119 (60 * s + f) (refI D (dTg (lkR T D) T Ws D d))) 1145 f = zI (dR d) := by
      rw [sI_o (Or.inl (by decide)), sI_o (Or.inl (by decide)), sI_o (Or.inl (by decide)), sI_o (Or.inl (by decide)), sI_o (Or.inl (by decide))]
      exact ((B2.1 1145 (by decide) (by decide) f).1).trans row.2.2.1
    have h45 : sI (uI (uI (uI (uI (uI (uI υ 1115 (60 * s + f) (nI (600 * s + n))) 1116 (60 * s + f) (nI (dE d - dA d))) 1117 (60 * s + f) (nI (dN d).2)) 1118 (60 * s + f) (nI (dTy (lkR T D) T Ws D d))) 1119 (60 * s + f) (refI D (dTg (lkR T D) T Ws D d))) 1120 (60 * s + f) (zI (dR d))) 1145 f = zI (dR d) := by
      rw [sI_o (Or.inl (by decide)), sI_o (Or.inl (by decide)), sI_o (Or.inl (by decide)), sI_o (Or.inl (by decide)), sI_o (Or.inl (by decide)), sI_o (Or.inl (by decide))]
      exact ((B2.1 1145 (by decide) (by decide) f).1).trans row.2.2.1
    have h39 : sI (uI (uI (uI (uI (uI (uI υ 1115 (60 * s + f) (nI (600 * s + n))) 1116 (60 * s + f) (nI (dE d - dA d))) 1117 (60 * s + f) (nI (dN d).2)) 1118 (60 * s + f) (nI (dTy (lkR T D) T Ws D d))) 1119 (60 * s + f) (refI D (dTg (lkR T D) T Ws D d))) 1120 (60 * s + f) (zI (dR d))) 1139 f = nI (dTy (lkR T D) T Ws D d) := by
      rw [sI_o (Or.inl (by decide)), sI_o (Or.inl (by decide)), sI_o (Or.inl (by decide)), sI_o (Or.inl (by decide)), sI_o (Or.inl (by decide)), sI_o (Or.inl (by decide))]
      exact ((B2.1 1139 (by decide) (by decide) f).1).trans row.2.2.2.2.2.1
    have h46 : sI (uI (uI (uI (uI (uI (uI υ 1115 (60 * s + f) (nI (600 * s + n))) 1116 (60 * s + f) (nI (dE d - dA d))) 1117 (60 * s + f) (nI (dN d).2)) 1118 (60 * s + f) (nI (dTy (lkR T D) T Ws D d))) 1119 (60 * s + f) (refI D (dTg (lkR T D) T Ws D d))) 1120 (60 * s + f) (zI (dR d))) 1146 f = nI (dP d) := by
      rw [sI_o (Or.inl (by decide)), sI_o (Or.inl (by decide)), sI_o (Or.inl (by decide)), sI_o (Or.inl (by decide)), sI_o (Or.inl (by decide)), sI_o (Or.inl (by decide))]
      exact ((B2.1 1146 (by decide) (by decide) f).1).trans row.2.2.2.2.1
    have h48 : sI (uI (uI (uI (uI (uI (uI (uI υ 1115 (60 * s + f) (nI (600 * s + n))) 1116 (60 * s + f) (nI (dE d - dA d))) 1117 (60 * s + f) (nI (dN d).2)) 1118 (60 * s + f) (nI (dTy (lkR T D) T Ws D d))) 1119 (60 * s + f) (refI D (dTg (lkR T D) T Ws D d))) 1120 (60 * s + f) (zI (dR d))) 1121 (60 * s + f) (zI (dPa (lkR T D) T Ws D d))) 1148 f = oq D 4 (dO d) := by
      rw [sI_o (Or.inl (by decide)), sI_o (Or.inl (by decide)), sI_o (Or.inl (by decide)), sI_o (Or.inl (by decide)), sI_o (Or.inl (by decide)), sI_o (Or.inl (by decide)), sI_o (Or.inl (by decide))]
      exact ((B2.1 1148 (by decide) (by decide) f).1).trans row.2.1
    have eL : Int64.toInt32 (sL (uI (uI υ 1115 (60 * s + f) (nI (600 * s + n))) 1116 (60 * s + f) (nI (dE d - dA d))) 1137 f) = nI (dN d).2 := by
      rw [sL_uI, sL_uI, ((B2.1 1137 (by decide) (by decide) f).2.1).trans eN, lN_i]
    rw [x_X12_keep_L205, h32, if_pos ((ltI (by omega) (by omega)).mpr (by omega)), ix_in (by omega) (by decide), show (60 : Int32) = nI 60 from rfl, pk_mul, nI_add, ix_in (by omega) (by decide), sb_eq, e0, ix_in (by omega) (by decide), ix_in (by omega) (by decide), e1, e2, u1, b2_eq, ix_in (by omega) (by decide), sb_eq, ix_in (by omega) (by decide), ix_in (by omega) (by decide), sb_eq, e3, ix_in (by omega) (by decide), ix_in (by omega) (by decide), sb_eq, eL, ix_in (by omega) (by decide), ix_in (by omega) (by decide), sb_eq, g39, ix_in (by omega) (by decide), ix_in (by omega) (by decide), sb_eq, g41, ix_in (by omega) (by decide), ix_in (by omega) (by decide), sb_eq, g45, nar01, ix_in (by omega) (by decide), h45, ifz, ix_in (by omega) (by decide), h39, N_isNumbers (dTy_lt fN4), b1_eq, ifz, ix_in (by omega) (by decide), h46]
    have fin9 : ∀ (b : Bool), b = dPa (lkR T D) T Ws D d → x_X12_keep_356 U 1101 (x_X12_keep_L205 U 1101 K (nI s) V) K (nI s) (nI f) (nI (60 * s + f)) (zI b) (nI (60 * s + f)) (uI (uI (uI (uI (uI (uI υ 1115 (60 * s + f) (nI (600 * s + n))) 1116 (60 * s + f) (nI (dE d - dA d))) 1117 (60 * s + f) (nI (dN d).2)) 1118 (60 * s + f) (nI (dTy (lkR T D) T Ws D d))) 1119 (60 * s + f) (refI D (dTg (lkR T D) T Ws D d))) 1120 (60 * s + f) (zI (dR d))) = x_X12_keep_L205 U 1101 K (nI s) V (nI (f + 1)) (uI (uI (uI (uI (uI (uI (uI (uI υ 1115 (60 * s + f) (nI (600 * s + n))) 1116 (60 * s + f) (nI (dE d - dA d))) 1117 (60 * s + f) (nI (dN d).2)) 1118 (60 * s + f) (nI (dTy (lkR T D) T Ws D d))) 1119 (60 * s + f) (refI D (dTg (lkR T D) T Ws D d))) 1120 (60 * s + f) (zI (dR d))) 1121 (60 * s + f) (zI (dPa (lkR T D) T Ws D d))) 1122 (60 * s + f) (oq D 4 (dO d))) := by
      intro b hb
      unfold x_X12_keep_356
      rw [ix_in (by omega) (by decide), nar01, hb, sb_eq, ix_in (by omega) (by decide), ix_in (by omega) (by decide), sb_eq, h48, nI_1]
    have br : (if dR d then (if nmr (dTy (lkR T D) T Ws D d) then (if nI (dP d) = 2 then x_X12_keep_355 U 1101 (x_X12_keep_L205 U 1101 K (nI s) V) K (nI s) (nI f) (nI (60 * s + f)) (nI (60 * s + f)) (uI (uI (uI (uI (uI (uI υ 1115 (60 * s + f) (nI (600 * s + n))) 1116 (60 * s + f) (nI (dE d - dA d))) 1117 (60 * s + f) (nI (dN d).2)) 1118 (60 * s + f) (nI (dTy (lkR T D) T Ws D d))) 1119 (60 * s + f) (refI D (dTg (lkR T D) T Ws D d))) 1120 (60 * s + f) (zI (dR d))) else x_X12_keep_356 U 1101 (x_X12_keep_L205 U 1101 K (nI s) V) K (nI s) (nI f) (nI (60 * s + f)) 1 (nI (60 * s + f)) (uI (uI (uI (uI (uI (uI υ 1115 (60 * s + f) (nI (600 * s + n))) 1116 (60 * s + f) (nI (dE d - dA d))) 1117 (60 * s + f) (nI (dN d).2)) 1118 (60 * s + f) (nI (dTy (lkR T D) T Ws D d))) 1119 (60 * s + f) (refI D (dTg (lkR T D) T Ws D d))) 1120 (60 * s + f) (zI (dR d)))) else x_X12_keep_355 U 1101 (x_X12_keep_L205 U 1101 K (nI s) V) K (nI s) (nI f) (nI (60 * s + f)) (nI (60 * s + f)) (uI (uI (uI (uI (uI (uI υ 1115 (60 * s + f) (nI (600 * s + n))) 1116 (60 * s + f) (nI (dE d - dA d))) 1117 (60 * s + f) (nI (dN d).2)) 1118 (60 * s + f) (nI (dTy (lkR T D) T Ws D d))) 1119 (60 * s + f) (refI D (dTg (lkR T D) T Ws D d))) 1120 (60 * s + f) (zI (dR d)))) else x_X12_keep_355 U 1101 (x_X12_keep_L205 U 1101 K (nI s) V) K (nI s) (nI f) (nI (60 * s + f)) (nI (60 * s + f)) (uI (uI (uI (uI (uI (uI υ 1115 (60 * s + f) (nI (600 * s + n))) 1116 (60 * s + f) (nI (dE d - dA d))) 1117 (60 * s + f) (nI (dN d).2)) 1118 (60 * s + f) (nI (dTy (lkR T D) T Ws D d))) 1119 (60 * s + f) (refI D (dTg (lkR T D) T Ws D d))) 1120 (60 * s + f) (zI (dR d)))) = x_X12_keep_L205 U 1101 K (nI s) V (nI (f + 1)) (uI (uI (uI (uI (uI (uI (uI (uI υ 1115 (60 * s + f) (nI (600 * s + n))) 1116 (60 * s + f) (nI (dE d - dA d))) 1117 (60 * s + f) (nI (dN d).2)) 1118 (60 * s + f) (nI (dTy (lkR T D) T Ws D d))) 1119 (60 * s + f) (refI D (dTg (lkR T D) T Ws D d))) 1120 (60 * s + f) (zI (dR d))) 1121 (60 * s + f) (zI (dPa (lkR T D) T Ws D d))) 1122 (60 * s + f) (oq D 4 (dO d))) := by
      unfold x_X12_keep_355
      by_cases hR : dR d = true
      · rw [if_pos hR]
        by_cases hn : nmr (dTy (lkR T D) T Ws D d) = true
        · rw [if_pos hn]
          by_cases q2 : dP d = 2
          · rw [if_pos (show nI (dP d) = 2 by rw [q2]; rfl)]; exact fin9 false (by unfold dPa; rw [hR, hn, decide_eq_false (fun z => z q2)]; rfl)
          · rw [if_neg (show ¬ nI (dP d) = 2 from fun z => q2 ((nI_eq (b := 2) (by omega) (by decide)).mp z))]; exact fin9 true (by unfold dPa; rw [hR, hn, decide_eq_true q2, decide_eq_true hk]; rfl)
        · rw [if_neg hn]; exact fin9 false (by unfold dPa; rw [Bool.eq_false_iff.mpr hn, Bool.and_false]; rfl)
      · rw [if_neg hR]; exact fin9 false (by unfold dPa; rw [Bool.eq_false_iff.mpr hR]; rfl)
    rw [br]
    have FF : fP (fun b k => (b = 1101 ∧ k = 31) ∨ (1114 ≤ b ∧ b ≤ 1122 ∧ k = 60 * s + f) ∨ (b = 1127 ∧ 600 * s + n ≤ k ∧ k < 600 * s + n + (dE d - dA d))) σ (uI (uI (uI (uI (uI (uI (uI (uI υ 1115 (60 * s + f) (nI (600 * s + n))) 1116 (60 * s + f) (nI (dE d - dA d))) 1117 (60 * s + f) (nI (dN d).2)) 1118 (60 * s + f) (nI (dTy (lkR T D) T Ws D d))) 1119 (60 * s + f) (refI D (dTg (lkR T D) T Ws D d))) 1120 (60 * s + f) (zI (dR d))) 1121 (60 * s + f) (zI (dPa (lkR T D) T Ws D d))) 1122 (60 * s + f) (oq D 4 (dO d))) := by
      exact fP_trans (fP_u (Or.inr (Or.inl ⟨by decide, by decide, rfl⟩))) (fP_trans (fP_mono u2 (fun b k z => by omega)) (fP_trans (fP_trans (fP_trans (fP_trans (fP_trans (fP_trans (fP_trans (fP_u (Or.inr (Or.inl ⟨by decide, by decide, rfl⟩))) (fP_u (Or.inr (Or.inl ⟨by decide, by decide, rfl⟩)))) (fP_u (Or.inr (Or.inl ⟨by decide, by decide, rfl⟩)))) (fP_u (Or.inr (Or.inl ⟨by decide, by decide, rfl⟩)))) (fP_u (Or.inr (Or.inl ⟨by decide, by decide, rfl⟩)))) (fP_u (Or.inr (Or.inl ⟨by decide, by decide, rfl⟩)))) (fP_u (Or.inr (Or.inl ⟨by decide, by decide, rfl⟩)))) (fP_u (Or.inr (Or.inl ⟨by decide, by decide, rfl⟩)))))
    have B4 : KB σ0 (uI (uI (uI (uI (uI (uI (uI (uI υ 1115 (60 * s + f) (nI (600 * s + n))) 1116 (60 * s + f) (nI (dE d - dA d))) 1117 (60 * s + f) (nI (dN d).2)) 1118 (60 * s + f) (nI (dTy (lkR T D) T Ws D d))) 1119 (60 * s + f) (refI D (dTg (lkR T D) T Ws D d))) 1120 (60 * s + f) (zI (dR d))) 1121 (60 * s + f) (zI (dPa (lkR T D) T Ws D d))) 1122 (60 * s + f) (oq D 4 (dO d))) T := KB_f hB FF (fun b k z => by omega)
    have f31 : sI (uI (uI (uI (uI (uI (uI (uI (uI υ 1115 (60 * s + f) (nI (600 * s + n))) 1116 (60 * s + f) (nI (dE d - dA d))) 1117 (60 * s + f) (nI (dN d).2)) 1118 (60 * s + f) (nI (dTy (lkR T D) T Ws D d))) 1119 (60 * s + f) (refI D (dTg (lkR T D) T Ws D d))) 1120 (60 * s + f) (zI (dR d))) 1121 (60 * s + f) (zI (dPa (lkR T D) T Ws D d))) 1122 (60 * s + f) (oq D 4 (dO d))) 1101 31 = nI (600 * s + (n + (dE d - dA d))) := by
      rw [sI_o (Or.inl (by decide)), sI_o (Or.inl (by decide)), sI_o (Or.inl (by decide)), sI_o (Or.inl (by decide)), sI_o (Or.inl (by decide)), sI_o (Or.inl (by decide)), sI_o (Or.inl (by decide)), sI_o (Or.inl (by decide))]
      rw [u3]; congr 1; omega
    have own0 : sI (uI (uI (uI (uI (uI (uI (uI (uI υ 1115 (60 * s + f) (nI (600 * s + n))) 1116 (60 * s + f) (nI (dE d - dA d))) 1117 (60 * s + f) (nI (dN d).2)) 1118 (60 * s + f) (nI (dTy (lkR T D) T Ws D d))) 1119 (60 * s + f) (refI D (dTg (lkR T D) T Ws D d))) 1120 (60 * s + f) (zI (dR d))) 1121 (60 * s + f) (zI (dPa (lkR T D) T Ws D d))) 1122 (60 * s + f) (oq D 4 (dO d))) 1114 (60 * s + f) = oq D 0 (dS d) := by
      rw [sI_o (Or.inl (by decide)), sI_o (Or.inl (by decide)), sI_o (Or.inl (by decide)), sI_o (Or.inl (by decide)), sI_o (Or.inl (by decide)), sI_o (Or.inl (by decide)), sI_o (Or.inl (by decide)), sI_o (Or.inl (by decide))]
      rw [(u2 1114 (60 * s + f) (by omega)).1, sI_s]
    have own1 : sI (uI (uI (uI (uI (uI (uI (uI (uI υ 1115 (60 * s + f) (nI (600 * s + n))) 1116 (60 * s + f) (nI (dE d - dA d))) 1117 (60 * s + f) (nI (dN d).2)) 1118 (60 * s + f) (nI (dTy (lkR T D) T Ws D d))) 1119 (60 * s + f) (refI D (dTg (lkR T D) T Ws D d))) 1120 (60 * s + f) (zI (dR d))) 1121 (60 * s + f) (zI (dPa (lkR T D) T Ws D d))) 1122 (60 * s + f) (oq D 4 (dO d))) 1115 (60 * s + f) = nI (600 * s + n) := by
      rw [sI_o (Or.inl (by decide)), sI_o (Or.inl (by decide)), sI_o (Or.inl (by decide)), sI_o (Or.inl (by decide)), sI_o (Or.inl (by decide)), sI_o (Or.inl (by decide)), sI_o (Or.inl (by decide))]
      rw [sI_s]
    have own2 : sI (uI (uI (uI (uI (uI (uI (uI (uI υ 1115 (60 * s + f) (nI (600 * s + n))) 1116 (60 * s + f) (nI (dE d - dA d))) 1117 (60 * s + f) (nI (dN d).2)) 1118 (60 * s + f) (nI (dTy (lkR T D) T Ws D d))) 1119 (60 * s + f) (refI D (dTg (lkR T D) T Ws D d))) 1120 (60 * s + f) (zI (dR d))) 1121 (60 * s + f) (zI (dPa (lkR T D) T Ws D d))) 1122 (60 * s + f) (oq D 4 (dO d))) 1116 (60 * s + f) = nI (dE d - dA d) := by
      rw [sI_o (Or.inl (by decide)), sI_o (Or.inl (by decide)), sI_o (Or.inl (by decide)), sI_o (Or.inl (by decide)), sI_o (Or.inl (by decide)), sI_o (Or.inl (by decide))]
      rw [sI_s]
    have ownN : NMs (uI (uI (uI (uI (uI (uI (uI (uI υ 1115 (60 * s + f) (nI (600 * s + n))) 1116 (60 * s + f) (nI (dE d - dA d))) 1117 (60 * s + f) (nI (dN d).2)) 1118 (60 * s + f) (nI (dTy (lkR T D) T Ws D d))) 1119 (60 * s + f) (refI D (dTg (lkR T D) T Ws D d))) 1120 (60 * s + f) (zI (dR d))) 1121 (60 * s + f) (zI (dPa (lkR T D) T Ws D d))) 1122 (60 * s + f) (oq D 4 (dO d))) (600 * s + n) (slc T (dA d) (dE d)) := NMs_keep u4 (fun i' _ => by
      rw [sI_o (Or.inl (by decide)), sI_o (Or.inl (by decide)), sI_o (Or.inl (by decide)), sI_o (Or.inl (by decide)), sI_o (Or.inl (by decide)), sI_o (Or.inl (by decide)), sI_o (Or.inl (by decide)), sI_o (Or.inl (by decide))])
    have own1117 : sI (uI (uI (uI (uI (uI (uI (uI (uI υ 1115 (60 * s + f) (nI (600 * s + n))) 1116 (60 * s + f) (nI (dE d - dA d))) 1117 (60 * s + f) (nI (dN d).2)) 1118 (60 * s + f) (nI (dTy (lkR T D) T Ws D d))) 1119 (60 * s + f) (refI D (dTg (lkR T D) T Ws D d))) 1120 (60 * s + f) (zI (dR d))) 1121 (60 * s + f) (zI (dPa (lkR T D) T Ws D d))) 1122 (60 * s + f) (oq D 4 (dO d))) 1117 (60 * s + f) = nI (dN d).2 := by
      rw [sI_o (Or.inl (by decide)), sI_o (Or.inl (by decide)), sI_o (Or.inl (by decide)), sI_o (Or.inl (by decide)), sI_o (Or.inl (by decide))]
      rw [sI_s]
    have own1118 : sI (uI (uI (uI (uI (uI (uI (uI (uI υ 1115 (60 * s + f) (nI (600 * s + n))) 1116 (60 * s + f) (nI (dE d - dA d))) 1117 (60 * s + f) (nI (dN d).2)) 1118 (60 * s + f) (nI (dTy (lkR T D) T Ws D d))) 1119 (60 * s + f) (refI D (dTg (lkR T D) T Ws D d))) 1120 (60 * s + f) (zI (dR d))) 1121 (60 * s + f) (zI (dPa (lkR T D) T Ws D d))) 1122 (60 * s + f) (oq D 4 (dO d))) 1118 (60 * s + f) = nI (dTy (lkR T D) T Ws D d) := by
      rw [sI_o (Or.inl (by decide)), sI_o (Or.inl (by decide)), sI_o (Or.inl (by decide)), sI_o (Or.inl (by decide))]
      rw [sI_s]
    have own1119 : sI (uI (uI (uI (uI (uI (uI (uI (uI υ 1115 (60 * s + f) (nI (600 * s + n))) 1116 (60 * s + f) (nI (dE d - dA d))) 1117 (60 * s + f) (nI (dN d).2)) 1118 (60 * s + f) (nI (dTy (lkR T D) T Ws D d))) 1119 (60 * s + f) (refI D (dTg (lkR T D) T Ws D d))) 1120 (60 * s + f) (zI (dR d))) 1121 (60 * s + f) (zI (dPa (lkR T D) T Ws D d))) 1122 (60 * s + f) (oq D 4 (dO d))) 1119 (60 * s + f) = refI D (dTg (lkR T D) T Ws D d) := by
      rw [sI_o (Or.inl (by decide)), sI_o (Or.inl (by decide)), sI_o (Or.inl (by decide))]
      rw [sI_s]
    have own1120 : sI (uI (uI (uI (uI (uI (uI (uI (uI υ 1115 (60 * s + f) (nI (600 * s + n))) 1116 (60 * s + f) (nI (dE d - dA d))) 1117 (60 * s + f) (nI (dN d).2)) 1118 (60 * s + f) (nI (dTy (lkR T D) T Ws D d))) 1119 (60 * s + f) (refI D (dTg (lkR T D) T Ws D d))) 1120 (60 * s + f) (zI (dR d))) 1121 (60 * s + f) (zI (dPa (lkR T D) T Ws D d))) 1122 (60 * s + f) (oq D 4 (dO d))) 1120 (60 * s + f) = zI (dR d) := by
      rw [sI_o (Or.inl (by decide)), sI_o (Or.inl (by decide))]
      rw [sI_s]
    have own1121 : sI (uI (uI (uI (uI (uI (uI (uI (uI υ 1115 (60 * s + f) (nI (600 * s + n))) 1116 (60 * s + f) (nI (dE d - dA d))) 1117 (60 * s + f) (nI (dN d).2)) 1118 (60 * s + f) (nI (dTy (lkR T D) T Ws D d))) 1119 (60 * s + f) (refI D (dTg (lkR T D) T Ws D d))) 1120 (60 * s + f) (zI (dR d))) 1121 (60 * s + f) (zI (dPa (lkR T D) T Ws D d))) 1122 (60 * s + f) (oq D 4 (dO d))) 1121 (60 * s + f) = zI (dPa (lkR T D) T Ws D d) := by
      rw [sI_o (Or.inl (by decide))]
      rw [sI_s]
    have own1122 : sI (uI (uI (uI (uI (uI (uI (uI (uI υ 1115 (60 * s + f) (nI (600 * s + n))) 1116 (60 * s + f) (nI (dE d - dA d))) 1117 (60 * s + f) (nI (dN d).2)) 1118 (60 * s + f) (nI (dTy (lkR T D) T Ws D d))) 1119 (60 * s + f) (refI D (dTg (lkR T D) T Ws D d))) 1120 (60 * s + f) (zI (dR d))) 1121 (60 * s + f) (zI (dPa (lkR T D) T Ws D d))) 1122 (60 * s + f) (oq D 4 (dO d))) 1122 (60 * s + f) = oq D 4 (dO d) := by
      skip
      rw [sI_s]
    generalize (uI (uI (uI (uI (uI (uI (uI (uI υ 1115 (60 * s + f) (nI (600 * s + n))) 1116 (60 * s + f) (nI (dE d - dA d))) 1117 (60 * s + f) (nI (dN d).2)) 1118 (60 * s + f) (nI (dTy (lkR T D) T Ws D d))) 1119 (60 * s + f) (refI D (dTg (lkR T D) T Ws D d))) 1120 (60 * s + f) (zI (dR d))) 1121 (60 * s + f) (zI (dPa (lkR T D) T Ws D d))) 1122 (60 * s + f) (oq D 4 (dO d))) = ω at *
    obtain ⟨τ, t1, t2, t3, t4⟩ := ih (f + 1) V (n + (dE d - dA d)) ω (by omega) (by omega) B4 f31 (by omega)
    have nn : ∀ b k, b ≠ 1101 → b ≠ 1127 → k = 60 * s + f → sI τ b k = sI ω b k := fun b k h1 h2 h3 => (t2 b k (by rintro (z | z | z) <;> omega)).1
    refine ⟨τ, t1, fP_trans (fP_mono FF (fun b k z => ?_)) (QL_mono t2 (by omega) (by omega)), ?_, fun i' d' h1 h2 h3 => ?_⟩
    · rcases z with z | z | z
      · exact Or.inl z
      · exact Or.inr (Or.inl (by omega))
      · exact Or.inr (Or.inr (by omega))
    · rw [t3, hrm]; congr 1; omega
    · by_cases q : cnt (D.take i') 2 = f
      · have := ord_inj h1 h2 hd hk (by omega)
        subst this
        rw [hd] at h1
        cases h1
        rw [hi]
        have hsl : (slc T (dA d) (dE d)).length = dE d - dA d := slc_len (Nat.le_of_lt gd.1) gd.2.1
        refine ⟨(nn 1114 _ (by decide) (by decide) rfl).trans own0, ⟨600 * s + n, (nn 1115 _ (by decide) (by decide) rfl).trans own1, by rw [hsl]; exact (nn 1116 _ (by decide) (by decide) rfl).trans own2, by omega, by rw [hsl]; omega, NMs_keep ownN (fun i2 hi2 => ?_)⟩, (nn 1117 _ (by decide) (by decide) rfl).trans own1117, (nn 1118 _ (by decide) (by decide) rfl).trans own1118, (nn 1119 _ (by decide) (by decide) rfl).trans own1119, (nn 1120 _ (by decide) (by decide) rfl).trans own1120, (nn 1121 _ (by decide) (by decide) rfl).trans own1121, (nn 1122 _ (by decide) (by decide) rfl).trans own1122⟩
        rw [hsl] at hi2
        exact (t2 1127 _ (by rintro (z | z | z) <;> omega)).1
      · have hh : 600 * s + (n + (dE d - dA d)) + rmQ D 2 (f + 1) = 600 * s + n + rmQ D 2 f := by omega
        rw [← hh]
        exact t4 i' d' h1 h2 (by omega)
