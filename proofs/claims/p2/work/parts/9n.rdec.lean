/-! ===== the reference decodes one field ===== -/
theorem RI_P {σ τ : SG} {P : Nat → Nat → Prop} {b : Nat} {S : List Nat} (h : RI σ b S) (hf : fP P σ τ) (hb : ∀ k, ¬ P b k) : RI τ b S := fun i c hi => ((hf b i (hb i)).1).trans (h i c hi)
/-- what decoding touches, its stack aside -/
def PDn (b k : Nat) : Prop := (b = 1101 ∧ (k = 81 ∨ k = 82 ∨ k = 83 ∨ k = 84 ∨ k = 107 ∨ k = 108 ∨ k = 109)) ∨ (1160 ≤ b ∧ b ≤ 1175)
def PDc (b k : Nat) : Prop := PDn b k ∨ (b = 1101 ∧ k = 106) ∨ b = 1176 ∨ b = 1177
theorem PDn_V {σ τ : SG} (h : fP PV σ τ) : fP PDn σ τ := fP_mono h (fun b k z => by unfold PV at z; unfold PDn; omega)
theorem PDn_N {σ τ : SG} (h : fP PN σ τ) : fP PDn σ τ := fP_mono h (fun b k z => by unfold PN at z; unfold PDn; omega)
theorem PDc_n {σ τ : SG} (h : fP PDn σ τ) : fP PDc σ τ := fP_mono h (fun b k z => Or.inl z)
theorem VR_keep {σ τ : SG} {s : Nat} {T : List Nat} {D : List Dc} {A : AV} {H : Rh} (h : VR σ s T D A H) (ci : ∀ b k, (b = 1101 ∧ 80 ≤ k ∧ k ≤ 84) ∨ (1160 ≤ b ∧ b ≤ 1162) ∨ (1165 ≤ b ∧ b ≤ 1175) → sI τ b k = sI σ b k ∧ sL τ b k = sL σ b k) : VR τ s T D A H := by
  obtain ⟨g1, g2, g3, g4, g5, g6, g7⟩ := h
  refine ⟨((ci 1101 80 (by omega)).1).trans g1, ⟨((ci 1101 82 (by omega)).1).trans g2.1, g2.2.1, fun i r hi => ?_⟩, ⟨((ci 1101 84 (by omega)).1).trans g3.1, fun i c hi => ((ci 1175 i (by omega)).1).trans (g3.2.1 i c hi), g3.2.2⟩, ⟨((ci 1101 83 (by omega)).1).trans g4.1, g4.2.1, fun i u hu => ?_⟩, ⟨((ci 1101 81 (by omega)).1).trans g5.1, g5.2.1, g5.2.2.1, fun m hm => ?_⟩, g6, g7⟩
  · obtain ⟨y1, y2⟩ := g2.2.2 i r hi
    exact ⟨RWs_sm y1 (fun b h1 h2 => ci b i (by omega)), ((ci 1171 i (by omega)).1).trans y2⟩
  · obtain ⟨u1, u2, a, u3, u4, u5⟩ := g4.2.2 i u hu
    exact ⟨u1, ((ci 1172 i (by omega)).1).trans u2, a, ((ci 1173 i (by omega)).1).trans u3, ((ci 1174 i (by omega)).1).trans u4, u5⟩
  · obtain ⟨n1, n2, n3, n4, n5⟩ := g5.2.2.2 m hm
    exact ⟨n1, ((ci 1160 m (by omega)).1).trans n2, ((ci 1161 m (by omega)).1).trans n3, ((ci 1162 m (by omega)).1).trans n4, n5⟩
/-- how much of the reference's room is used -/
def BDd (A : AV) (H : Rh) (b : Nat) : Prop := (zR H).length ≤ b ∧ 2 * (zU H).length ≤ b ∧ (zP H).length ≤ b ∧ 2 * aC A ≤ b + 2 ∧ zT H ≤ (zP H).length
/-- the reference while it decodes, at place p; its room is used up to b -/
def DR (σ : SG) (s : Nat) (T : List Nat) (D : List Dc) (S : List Nat) (lm : Nat) (A : AV) (H : Rh) (p b : Nat) : Prop := RS σ s T D ∧ VR σ s T D A H ∧ DPk T D lm A H ∧ LR σ S ∧ sI σ 1101 109 = nI p ∧ sI σ 1101 107 = 0 ∧ sI σ 1101 85 = nI lm ∧ BDd A H b ∧ b ≤ p ∧ p ≤ S.length
theorem DR_N {σ τ : SG} {s lm p b p' : Nat} {T S : List Nat} {D : List Dc} {A : AV} {H : Rh} (h : DR σ s T D S lm A H p b) (hf : fP PN σ τ) (h9 : sI τ 1101 109 = nI p') (h7 : sI τ 1101 107 = 0) (hp : p ≤ p') (hp' : p' ≤ S.length) : DR τ s T D S lm A H p' b := by
  obtain ⟨a1, a2, a3, a4, a5, a6, a7, a8, a9, a10⟩ := h
  exact ⟨RS_keep a1 (fun b k hb => (hf b k (by unfold PN; unfold PKP at hb; omega)).1), VR_keep a2 (fun b k hb => ⟨(hf b k (by unfold PN; omega)).1, (hf b k (by unfold PN; omega)).2.1⟩), a3, ⟨((hf 1101 73 (by unfold PN; omega)).1).trans a4.1, RI_P a4.2.1 hf (fun k => by unfold PN; omega), a4.2.2⟩, h9, h7, ((hf 1101 85 (by unfold PN; omega)).1).trans a7, a8, by omega, hp'⟩
theorem DR_V {σ τ : SG} {s lm p b b' : Nat} {T S : List Nat} {D : List Dc} {A A' : AV} {H H' : Rh} (h : DR σ s T D S lm A H p b) (hf : fP PV σ τ) (hV : VR τ s T D A' H') (h7 : sI τ 1101 107 = 0) (hd : DPk T D lm A' H') (hb : BDd A' H' b') (hbp : b' ≤ p) : DR τ s T D S lm A' H' p b' := by
  obtain ⟨a1, a2, a3, a4, a5, a6, a7, a8, a9, a10⟩ := h
  exact ⟨RS_PV a1 hf, hV, hd, ⟨((hf 1101 73 (by unfold PV; omega)).1).trans a4.1, RI_P a4.2.1 hf (fun k => by unfold PV; omega), a4.2.2⟩, ((hf 1101 109 (by unfold PV; omega)).1).trans a5, h7, ((hf 1101 85 (by unfold PV; omega)).1).trans a7, hb, hbp, a10⟩
theorem DR_b {σ : SG} {s lm p b b' : Nat} {T S : List Nat} {D : List Dc} {A : AV} {H : Rh} (h : DR σ s T D S lm A H p b) (h1 : b ≤ b') (h2 : b' ≤ p) : DR σ s T D S lm A H p b' := by
  obtain ⟨a1, a2, a3, a4, a5, a6, a7, ⟨e1, e2, e3, e4⟩, a9, a10⟩ := h
  exact ⟨a1, a2, a3, a4, a5, a6, a7, ⟨by omega, by omega, by omega, by omega, e4.2⟩, h2, a10⟩
/-- what was opened stays -/
def zX (A : AV) (H : Rh) (A' : AV) (H' : Rh) : Prop := aC A ≤ aC A' ∧ ∀ m, m < aC A → aN A' m = aN A m ∧ zD H' m = zD H m
theorem zX_refl (A : AV) (H : Rh) : zX A H A H := ⟨Nat.le_refl _, fun _ _ => ⟨rfl, rfl⟩⟩
theorem zX_trans {A A' A2 : AV} {H H' H2 : Rh} (h : zX A H A' H') (h' : zX A' H' A2 H2) : zX A H A2 H2 := ⟨Nat.le_trans h.1 h'.1, fun m hm => ⟨(h'.2 m (by have := h.1; omega)).1.trans (h.2 m hm).1, (h'.2 m (by have := h.1; omega)).2.trans (h.2 m hm).2⟩⟩
/-- an outcome of the reference's decoding that leaves the stack -/
def OQ (s : Nat) (T : List Nat) (D : List Dc) (S : List Nat) (lm : Nat) (A : AV) (H : Rh) (σ : SG) (o : Option (AV × Nat)) (x : Option SG) : Prop := ∃ τ, x = some τ ∧ fP PDn σ τ ∧ (o = none → ¬ sI τ 1101 107 = 0) ∧ ∀ A' p', o = some (A', p') → ∃ H', DR τ s T D S lm A' H' p' p' ∧ zX A H A' H'
theorem OQ_from {s lm : Nat} {T S : List Nat} {D : List Dc} {A A1 : AV} {H H1 : Rh} {σ τ : SG} {o : Option (AV × Nat)} {x : Option SG} (hf : fP PDn σ τ) (hx : zX A H A1 H1) (h : OQ s T D S lm A1 H1 τ o x) : OQ s T D S lm A H σ o x := by
  obtain ⟨υ, a, b, c, d⟩ := h
  refine ⟨υ, a, fP_trans hf b, c, fun A' p' z => ?_⟩
  obtain ⟨H', w1, w2⟩ := d A' p' z
  exact ⟨H', w1, zX_trans hx w2⟩
theorem OQ_no {s lm : Nat} {T S : List Nat} {D : List Dc} {A : AV} {H : Rh} {σ τ : SG} (hf : fP PDn σ τ) (h7 : ¬ sI τ 1101 107 = 0) : OQ s T D S lm A H σ none (some τ) := ⟨τ, rfl, hf, fun _ => h7, fun _ _ z => by cases z⟩
/-- a number is put -/
theorem DR_num {U s n f lm p b : Nat} {σ : SG} {T S : List Nat} {D : List Dc} {A : AV} {H : Rh} {d : Dc} {x : Int64} (hU4 : 4000 < U) (hs : s < 2) (hg : GSc T D) (hD : DR σ s T D S lm A H p b) (hn : n < aC A) (hF : isF D (aN A n) f d) (h13 : fty T D d ≠ 13) (hnm : nmr (fty T D d) = true) (hb : b < p) : ∃ τ H', x_X12_putNumber U 1101 (nI n) (nI (fx D s f)) x σ = some τ ∧ DR τ s T D S lm (aPut T D A n f d x []) H' p p ∧ fP PDn σ τ ∧ zX A H (aPut T D A n f d x []) H' := by
  have hD' := hD
  obtain ⟨a1, a2, a3, a4, a5, a6, a7, ⟨e1, e2, e3, e4⟩, a9, a10⟩ := hD'
  have hSl := a4.2.2.1
  obtain ⟨τ, H', t1, t2, t3, t4, t5, t6, t7, t8, t9⟩ := V_num (x := x) hU4 hs hg a1 a2 hn hF h13 hnm (by omega)
  refine ⟨τ, H', t1, DR_V hD t3 t2 (t4.trans a6) (t9 lm a3).1 ⟨by omega, by rw [t6]; omega, by rw [t7]; omega, ?_, by rw [(t9 lm a3).2, t7]; exact e4.2⟩ (Nat.le_refl _), PDn_V t3, Nat.le_refl _, fun m _ => ⟨rfl, by rw [t8]⟩⟩
  show 2 * aC A ≤ p + 2
  omega
theorem kdO_n {t : Nat} (h : t ≤ 14) (hn : nmr t = true) : kdO t = 0 ∨ kdO t = 1 ∨ kdO t = 5 := (by decide +kernel : ∀ t, t < 15 → nmr t = true → kdO t = 0 ∨ kdO t = 1 ∨ kdO t = 5) t (by omega) hn
theorem N_row {U s n f e lm : Nat} {T S : List Nat} {D : List Dc} {d : Dc} (hU4 : 4000 < U) (hs : s < 2) (hg : GSc T D) (he : e ≤ S.length) (h13 : fty T D d ≠ 13) (hnm : nmr (fty T D d) = true) : ∀ (j p U1 : Nat) (σ : SG) (A : AV) (H : Rh), e < j + p → j < U1 → p ≤ e → DR σ s T D S lm A H p p → n < aC A → isF D (aN A n) f d →
    OQ s T D S lm A H σ ((dRow T D S n f d e j A p).map (fun A => (A, e))) (x_X12_takeLength_L197 U 1101 (nI n) (nI (fx D s f)) (nI e) U1 σ) := by
  intro j
  induction j with
  | zero => intro p U1 σ A H hj hu hp; omega
  | succ j ih =>
    intro p U1 σ A H hj hu hp hD hn hF
    obtain ⟨V, rfl⟩ : ∃ V, U1 = V + 1 := ⟨U1 - 1, by omega⟩
    have hD' := hD
    obtain ⟨a1, a2, a3, a4, a5, a6, a7, _, a9, a10⟩ := hD'
    have hSl := a4.2.2.1
    obtain ⟨f1, _, _, f4, _⟩ := a1.f hF.1 hF.2.1
    have hft : fty T D d ≤ 14 := dTy_lt (hg.fld hF.1 hF.2.1).2.2.2.1
    rw [x_X12_takeLength_L197, a5, ifd (ltI (by omega) (by omega)), dRow]
    by_cases q : p < e
    · have hkd := kdO_n hft hnm
      rw [if_pos q, if_pos q, if_pos a6, ix_in (by omega) (by decide), f4, N_kindOf hft, b1_eq]
      obtain ⟨τ, t1, t2, t3, t4⟩ := N_one (U := U) hU4 a4 he hp a5 a6 hkd
      rw [t1, b1_eq]
      cases hr : rdN S (kdO (fty T D d)) p e with
      | none =>
        have h7 := t4 hr
        rw [if_neg h7]
        obtain ⟨V2, rfl⟩ : ∃ V2, V = V2 + 1 := ⟨V - 1, by omega⟩
        rw [x_X12_takeLength_L197, if_neg h7, ite_self]
        exact OQ_no (PDn_N t2) h7
      | some y =>
        obtain ⟨x, p'⟩ := y
        obtain ⟨v1, v2, v3⟩ := t3 x p' hr
        have hlt := rdN_lt hr
        have D1 := DR_N hD t2 v3 v1 (by omega) (by omega)
        obtain ⟨_, _, _, f4', _⟩ := D1.1.f hF.1 hF.2.1
        rw [if_pos v1, ix_in (by omega) (by decide), f4', v2, N_valueFor hft, b1_eq]
        obtain ⟨υ, H', u1, u2, u3, u4⟩ := DR_num (x := mng (fty T D d) x) hU4 hs hg D1 hn hF h13 hnm (by omega)
        rw [u1, b1_eq]
        exact OQ_from (fP_trans (PDn_N t2) u3) u4 (ih p' V υ _ H' (by omega) (by omega) (by omega) u2 hn hF)
    · rw [if_neg q, if_neg q]
      have : p = e := by omega
      subst this
      exact ⟨σ, rfl, fP_refl _ _, fun z => (by cases z), fun A' p' z => by cases z; exact ⟨H, hD, zX_refl _ _⟩⟩
