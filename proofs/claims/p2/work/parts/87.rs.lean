/-! ===== the reference keeps a schema; what both hold ===== -/
/-- a schema as the reference holds it -/
def RSd (σ : SG) (s : Nat) (T : List Nat) (D : List Dc) (i : Nat) (d : Dc) : Prop := (dK d = 0 → sI σ 1108 (16 * s + cnt (D.take i) 0) = oq D 0 (dS d) ∧ NM σ s 1109 (16 * s + cnt (D.take i) 0) (slc T (dA d) (dE d))) ∧ (dK d = 1 → sI σ 1111 (8 * s + cnt (D.take i) 1) = oq D 0 (dS d) ∧ NM σ s 1112 (8 * s + cnt (D.take i) 1) (slc T (dA d) (dE d))) ∧ (dK d = 2 → sI σ 1114 (60 * s + cnt (D.take i) 2) = oq D 0 (dS d) ∧ NM σ s 1115 (60 * s + cnt (D.take i) 2) (slc T (dA d) (dE d)) ∧ sI σ 1117 (60 * s + cnt (D.take i) 2) = nI (dN d).2 ∧ sI σ 1118 (60 * s + cnt (D.take i) 2) = nI (dTy (lkC T D) T (wl T 701 0) D d) ∧ sI σ 1119 (60 * s + cnt (D.take i) 2) = refI D (dTg (lkC T D) T (wl T 701 0) D d) ∧ sI σ 1120 (60 * s + cnt (D.take i) 2) = zI (dR d) ∧ sI σ 1121 (60 * s + cnt (D.take i) 2) = zI (dPa (lkC T D) T (wl T 701 0) D d) ∧ sI σ 1122 (60 * s + cnt (D.take i) 2) = oq D 4 (dO d)) ∧ (dK d = 3 → sI σ 1123 (40 * s + cnt (D.take i) 3) = oq D 1 (dO d) ∧ NM σ s 1124 (40 * s + cnt (D.take i) 3) (slc T (dA d) (dE d)) ∧ sI σ 1126 (40 * s + cnt (D.take i) 3) = Int64.toInt32 (nL (dN d)))
def RS (σ : SG) (s : Nat) (T : List Nat) (D : List Dc) : Prop := lim D = true ∧ (∀ q, q < 4 → sI σ (1104 + q) s = nI (cnt D q)) ∧ ∀ (i : Nat) (d : Dc), D[i]? = some d → RSd σ s T D i d
/-- the cells of a schema -/
def PKP (s b k : Nat) : Prop := (1104 ≤ b ∧ b ≤ 1107 ∧ k = s) ∨ (1108 ≤ b ∧ b ≤ 1110 ∧ 16 * s ≤ k ∧ k < 16 * s + 16) ∨ (1111 ≤ b ∧ b ≤ 1113 ∧ 8 * s ≤ k ∧ k < 8 * s + 8) ∨ (1114 ≤ b ∧ b ≤ 1122 ∧ 60 * s ≤ k ∧ k < 60 * s + 60) ∨ (1123 ≤ b ∧ b ≤ 1126 ∧ 40 * s ≤ k ∧ k < 40 * s + 40) ∨ (b = 1127 ∧ 600 * s ≤ k ∧ k < 600 * s + 600)
theorem lim_of {D : List Dc} (h : lim D = true) : cnt D 0 ≤ 16 ∧ cnt D 1 ≤ 8 ∧ cnt D 2 ≤ 60 ∧ cnt D 3 ≤ 40 ∧ cnt D 4 ≤ 16 ∧ nmB D ≤ 600 := of_decide_eq_true h
theorem NM_keep {σ τ : SG} {s b j : Nat} {N : List Nat} (h : NM σ s b j N) (hb : sI τ b j = sI σ b j) (hb' : sI τ (b + 1) j = sI σ (b + 1) j) (hn : ∀ k, 600 * s ≤ k → k < 600 * s + 600 → sI τ 1127 k = sI σ 1127 k) : NM τ s b j N := by
  obtain ⟨q, h1, h2, h3, h4, h5⟩ := h
  exact ⟨q, hb.trans h1, hb'.trans h2, h3, h4, NMs_keep h5 (fun i hi => hn _ (by omega) (by omega))⟩
theorem RS_keep {σ τ : SG} {s : Nat} {T : List Nat} {D : List Dc} (h : RS σ s T D) (hf : ∀ b k, PKP s b k → sI τ b k = sI σ b k) : RS τ s T D := by
  obtain ⟨l0, l1, l2, l3, l4, l5⟩ := lim_of h.1
  have hn : ∀ k, 600 * s ≤ k → k < 600 * s + 600 → sI τ 1127 k = sI σ 1127 k := fun k h1 h2 => hf _ _ (by unfold PKP; omega)
  refine ⟨h.1, fun q hq => (hf _ _ (by unfold PKP; omega)).trans (h.2.1 q hq), fun i d hd => ?_⟩
  obtain ⟨a0, a1, a2, a3⟩ := h.2.2 i d hd
  refine ⟨fun z => ?_, fun z => ?_, fun z => ?_, fun z => ?_⟩
  · have hc := cnt_take_lt hd z
    have m : ∀ b, 1108 ≤ b → b ≤ 1110 → sI τ b (16 * s + cnt (D.take i) 0) = sI σ b (16 * s + cnt (D.take i) 0) := fun b h1 h2 => hf _ _ (by unfold PKP; omega)
    exact ⟨(m _ (by decide) (by decide)).trans (a0 z).1, NM_keep (a0 z).2 (m _ (by decide) (by decide)) (m _ (by decide) (by decide)) hn⟩
  · have hc := cnt_take_lt hd z
    have m : ∀ b, 1111 ≤ b → b ≤ 1113 → sI τ b (8 * s + cnt (D.take i) 1) = sI σ b (8 * s + cnt (D.take i) 1) := fun b h1 h2 => hf _ _ (by unfold PKP; omega)
    exact ⟨(m _ (by decide) (by decide)).trans (a1 z).1, NM_keep (a1 z).2 (m _ (by decide) (by decide)) (m _ (by decide) (by decide)) hn⟩
  · have hc := cnt_take_lt hd z
    have m : ∀ b, 1114 ≤ b → b ≤ 1122 → sI τ b (60 * s + cnt (D.take i) 2) = sI σ b (60 * s + cnt (D.take i) 2) := fun b h1 h2 => hf _ _ (by unfold PKP; omega)
    obtain ⟨b1', b2', b3, b4, b5, b6, b7, b8⟩ := a2 z
    exact ⟨(m _ (by decide) (by decide)).trans b1', NM_keep b2' (m _ (by decide) (by decide)) (m _ (by decide) (by decide)) hn, (m _ (by decide) (by decide)).trans b3, (m _ (by decide) (by decide)).trans b4, (m _ (by decide) (by decide)).trans b5, (m _ (by decide) (by decide)).trans b6, (m _ (by decide) (by decide)).trans b7, (m _ (by decide) (by decide)).trans b8⟩
  · have hc := cnt_take_lt hd z
    have m : ∀ b, 1123 ≤ b → b ≤ 1126 → sI τ b (40 * s + cnt (D.take i) 3) = sI σ b (40 * s + cnt (D.take i) 3) := fun b h1 h2 => hf _ _ (by unfold PKP; omega)
    obtain ⟨b1', b2', b3⟩ := a3 z
    exact ⟨(m _ (by decide) (by decide)).trans b1', NM_keep b2' (m _ (by decide) (by decide)) (m _ (by decide) (by decide)) hn, (m _ (by decide) (by decide)).trans b3⟩
/-- keeping one schema leaves the other -/
def PK9 (s b k : Nat) : Prop := (b = 1101 ∧ k = 31) ∨ PKP s b k
theorem RS_other {σ τ : SG} {s t : Nat} {T : List Nat} {D : List Dc} (h : RS σ t T D) (hf : fP (PK9 s) σ τ) (hs : s < 2) (ht : t < 2) (hst : s ≠ t) : RS τ t T D := RS_keep h (fun b k hk => (hf b k (by unfold PK9; unfold PKP at *; omega)).1)
theorem QL_9 {lo hi a b n m s : Nat} {σ τ : SG} (h : fP (QL lo hi a b n m) σ τ) (hp : ∀ x k, lo ≤ x → x ≤ hi → a ≤ k → k < b → PKP s x k) (hn : 600 * s ≤ n) (hm : m ≤ 600 * s + 600) : fP (PK9 s) σ τ := fP_mono h (fun x k z => by
  rcases z with z | z | z
  · exact Or.inl z
  · exact Or.inr (hp x k z.1 z.2.1 z.2.2.1 z.2.2.2)
  · exact Or.inr (by unfold PKP; omega))
theorem rmQ_0 (D : List Dc) (q : Nat) : rmQ D q 0 = nmB (FQ D q) := by unfold rmQ; rw [List.drop_zero]
theorem NMb_next {σ τ : SG} {s hi b j : Nat} {N : List Nat} (h : NMb σ (600 * s) hi b j N) (hb : sI τ b j = sI σ b j) (hb' : sI τ (b + 1) j = sI σ (b + 1) j) (hn : ∀ k, k < hi → sI τ 1127 k = sI σ 1127 k) (hh : hi ≤ 600 * s + 600) : NM τ s b j N := by
  obtain ⟨q, h1, h2, h3, h4, h5⟩ := h
  exact ⟨q, hb.trans h1, hb'.trans h2, h3, by omega, NMs_keep h5 (fun i hi' => hn _ (by omega))⟩
theorem N_keep {U s : Nat} {T : List Nat} {D : List Dc} {σ : SG} (hU : 4000 < U) (hs : s < 2) (hTl : T.length ≤ 700) (hN : GNs T D) (hl : D.length < 180) (hlim : lim D = true) (hM : RK σ T (wl T 701 0) D) (hT : RI σ 1102 T) (hV : ∀ (i : Nat) (d : Dc), D[i]? = some d → dK d = 3 → okV (dN d) = true) (hF : ∀ (i : Nat) (d : Dc), D[i]? = some d → dK d = 2 → okN (dN d).2 = true ∧ (dN d).1 = false ∧ dP d ≤ 2 ∧ dT d ≤ 13) (hlk : lkR T D = lkC T D) :
    ∃ τ, x_X12_keep U 1101 (nI s) σ = some τ ∧ fP (PK9 s) σ τ ∧ RS τ s T D := by
  obtain ⟨l0, l1, l2, l3, l4, l5⟩ := lim_of hlim
  have hsum := FQ_sum D
  have hcl0 := cnt_le D 0
  have hcl1 := cnt_le D 1
  have hcl2 := cnt_le D 2
  have hcl3 := cnt_le D 3
  unfold x_X12_keep
  rw [show (600 : Int32) = nI 600 from rfl, pk_mul, sb_eq, ix_in hs (by decide), sb_eq, ix_in hs (by decide), sb_eq, ix_in hs (by decide), sb_eq, ix_in hs (by decide), sb_eq]
  have c : ∀ q, q < 5 → sI σ 1101 (32 + q) = nI (cnt D q) := hM.1
  have e0 : sI (uI σ 1101 31 (nI (600 * s))) 1101 32 = nI (cnt D 0) := by rw [sI_o (Or.inr (by decide))]; exact c 0 (by decide)
  have e1 : sI (uI (uI σ 1101 31 (nI (600 * s))) 1104 s (nI (cnt D 0))) 1101 33 = nI (cnt D 1) := by rw [sI_o (Or.inl (by decide)), sI_o (Or.inr (by decide))]; exact c 1 (by decide)
  have e2 : sI (uI (uI (uI σ 1101 31 (nI (600 * s))) 1104 s (nI (cnt D 0))) 1105 s (nI (cnt D 1))) 1101 34 = nI (cnt D 2) := by rw [sI_o (Or.inl (by decide)), sI_o (Or.inl (by decide)), sI_o (Or.inr (by decide))]; exact c 2 (by decide)
  have e3 : sI (uI (uI (uI (uI σ 1101 31 (nI (600 * s))) 1104 s (nI (cnt D 0))) 1105 s (nI (cnt D 1))) 1106 s (nI (cnt D 2))) 1101 35 = nI (cnt D 3) := by rw [sI_o (Or.inl (by decide)), sI_o (Or.inl (by decide)), sI_o (Or.inl (by decide)), sI_o (Or.inr (by decide))]; exact c 3 (by decide)
  rw [e0, e1, e2, e3]
  have F0 : fP (PK9 s) σ (uI (uI (uI (uI (uI σ 1101 31 (nI (600 * s))) 1104 s (nI (cnt D 0))) 1105 s (nI (cnt D 1))) 1106 s (nI (cnt D 2))) 1107 s (nI (cnt D 3))) := by
    refine fP_trans (fP_trans (fP_trans (fP_trans (fP_u (Or.inl ⟨rfl, rfl⟩)) (fP_u ?_)) (fP_u ?_)) (fP_u ?_)) (fP_u ?_)
    all_goals exact Or.inr (by unfold PKP; omega)
  have C0 : ∀ q, q < 4 → sI (uI (uI (uI (uI (uI σ 1101 31 (nI (600 * s))) 1104 s (nI (cnt D 0))) 1105 s (nI (cnt D 1))) 1106 s (nI (cnt D 2))) 1107 s (nI (cnt D 3))) (1104 + q) s = nI (cnt D q) := by
    intro q hq
    have : q = 0 ∨ q = 1 ∨ q = 2 ∨ q = 3 := by omega
    rcases this with z | z | z | z <;> subst z
    · rw [sI_o (Or.inl (by decide)), sI_o (Or.inl (by decide)), sI_o (Or.inl (by decide)), sI_s]
    · rw [sI_o (Or.inl (by decide)), sI_o (Or.inl (by decide)), sI_s]
    · rw [sI_o (Or.inl (by decide)), sI_s]
    · rw [sI_s]
  have n0 : sI (uI (uI (uI (uI (uI σ 1101 31 (nI (600 * s))) 1104 s (nI (cnt D 0))) 1105 s (nI (cnt D 1))) 1106 s (nI (cnt D 2))) 1107 s (nI (cnt D 3))) 1101 31 = nI (600 * s + 0) := by
    rw [sI_o (Or.inl (by decide)), sI_o (Or.inl (by decide)), sI_o (Or.inl (by decide)), sI_o (Or.inl (by decide)), sI_s]; rfl
  have B0 : KB σ (uI (uI (uI (uI (uI σ 1101 31 (nI (600 * s))) 1104 s (nI (cnt D 0))) 1105 s (nI (cnt D 1))) 1106 s (nI (cnt D 2))) 1107 s (nI (cnt D 3))) T := KB_f ⟨fun b _ _ => sm_refl σ b, fun _ _ _ => rfl, hT⟩ F0 (fun b k z => by unfold PK9 PKP at z; omega)
  generalize (uI (uI (uI (uI (uI σ 1101 31 (nI (600 * s))) 1104 s (nI (cnt D 0))) 1105 s (nI (cnt D 1))) 1106 s (nI (cnt D 2))) 1107 s (nI (cnt D 3))) = σ1 at *
  -- messages
  obtain ⟨σ2, a1, a2, a3, a4⟩ := N_keep0 (U := U) (K := fun σ57 => x_X12_keep_L128 U 1101 (fun σ93 => x_X12_keep_L205 U 1101 (fun σ196 => x_X12_keep_L377 U 1101 (nI s) U 0 σ196) (nI s) U 0 σ93) (nI s) U 0 σ57) hU hs hTl hN hl l0 hM (cnt D 0) 0 U 0 σ1 (by omega) (by omega) B0 n0 (by rw [rmQ_0]; omega)
  have a1' := a1
  rw [show nI 0 = 0 from rfl] at a1'
  rw [a1']
  rw [rmQ_0] at a3
  have G2 : fP (PK9 s) σ1 σ2 := QL_9 a2 (fun x k h1 h2 h3 h4 => by unfold PKP; omega) (by omega) (by omega)
  have B2 : KB σ σ2 T := KB_f B0 G2 (fun b k z => by unfold PK9 PKP at z; omega)
  -- enums
  obtain ⟨σ3, b1', b2', b3, b4⟩ := N_keep1 (U := U) (K := fun σ93 => x_X12_keep_L205 U 1101 (fun σ196 => x_X12_keep_L377 U 1101 (nI s) U 0 σ196) (nI s) U 0 σ93) hU hs hTl hN hl l1 hM (cnt D 1) 0 U (nmB (FQ D 0)) σ2 (by omega) (by omega) B2 (by rw [a3]; congr 1) (by rw [rmQ_0]; omega)
  rw [show nI 0 = 0 from rfl] at b1'
  rw [b1']
  rw [rmQ_0] at b3
  have G3 : fP (PK9 s) σ2 σ3 := QL_9 b2' (fun x k h1 h2 h3 h4 => by unfold PKP; omega) (by omega) (by omega)
  have B3 : KB σ σ3 T := KB_f B2 G3 (fun b k z => by unfold PK9 PKP at z; omega)
  -- fields
  obtain ⟨σ4, c1, c2, c3, c4⟩ := N_keep2 (U := U) (K := fun σ196 => x_X12_keep_L377 U 1101 (nI s) U 0 σ196) hU hs hTl hN hl l2 hM hF (cnt D 2) 0 U (nmB (FQ D 0) + nmB (FQ D 1)) σ3 (by omega) (by omega) B3 (by rw [b3]; congr 1; omega) (by rw [rmQ_0]; omega)
  rw [show nI 0 = 0 from rfl] at c1
  rw [c1]
  rw [rmQ_0] at c3
  have G4 : fP (PK9 s) σ3 σ4 := QL_9 c2 (fun x k h1 h2 h3 h4 => by unfold PKP; omega) (by omega) (by omega)
  have B4 : KB σ σ4 T := KB_f B3 G4 (fun b k z => by unfold PK9 PKP at z; omega)
  -- values
  obtain ⟨τ, d1, d2, d3, d4⟩ := N_keep3 (U := U) (K := fun x => some x) hU hs hTl hN hl l3 hM hV (cnt D 3) 0 U (nmB (FQ D 0) + nmB (FQ D 1) + nmB (FQ D 2)) σ4 (by omega) (by omega) B4 (by rw [c3]; congr 1; omega) (by rw [rmQ_0]; omega)
  rw [show nI 0 = 0 from rfl] at d1
  rw [d1]
  have G5 : fP (PK9 s) σ4 τ := QL_9 d2 (fun x k h1 h2 h3 h4 => by unfold PKP; omega) (by omega) (by omega)
  refine ⟨τ, rfl, fP_trans (fP_trans (fP_trans (fP_trans F0 G2) G3) G4) G5, hlim, fun q hq => ?_, fun i d hd => ⟨fun z => ?_, fun z => ?_, fun z => ?_, fun z => ?_⟩⟩
  · rw [(d2 (1104 + q) s (by unfold QL; omega)).1, (c2 (1104 + q) s (by unfold QL; omega)).1, (b2' (1104 + q) s (by unfold QL; omega)).1, (a2 (1104 + q) s (by unfold QL; omega)).1]
    exact C0 q hq
  · obtain ⟨w1, w2⟩ := a4 i d hd z (Nat.zero_le _)
    rw [rmQ_0] at w2
    have mv : ∀ b k, 1108 ≤ b → b ≤ 1110 → sI τ b k = sI σ2 b k := fun b k h1 h2 => by
      rw [(d2 b k (by unfold QL; omega)).1, (c2 b k (by unfold QL; omega)).1, (b2' b k (by unfold QL; omega)).1]
    have mn : ∀ k, k < 600 * s + 0 + nmB (FQ D 0) → sI τ 1127 k = sI σ2 1127 k := fun k h1 => by
      rw [(d2 1127 k (by unfold QL; omega)).1, (c2 1127 k (by unfold QL; omega)).1, (b2' 1127 k (by unfold QL; omega)).1]
    exact ⟨(mv _ _ (by decide) (by decide)).trans w1, NMb_next w2 (mv _ _ (by decide) (by decide)) (mv _ _ (by decide) (by decide)) mn (by omega)⟩
  · obtain ⟨w1, w2⟩ := b4 i d hd z (Nat.zero_le _)
    rw [rmQ_0] at w2
    have mv : ∀ b k, 1111 ≤ b → b ≤ 1113 → sI τ b k = sI σ3 b k := fun b k h1 h2 => by
      rw [(d2 b k (by unfold QL; omega)).1, (c2 b k (by unfold QL; omega)).1]
    have mn : ∀ k, k < 600 * s + nmB (FQ D 0) + nmB (FQ D 1) → sI τ 1127 k = sI σ3 1127 k := fun k h1 => by
      rw [(d2 1127 k (by unfold QL; omega)).1, (c2 1127 k (by unfold QL; omega)).1]
    exact ⟨(mv _ _ (by decide) (by decide)).trans w1, NMb_next w2 (mv _ _ (by decide) (by decide)) (mv _ _ (by decide) (by decide)) mn (by omega)⟩
  · obtain ⟨w1, w2, w3, w4, w5, w6, w7, w8⟩ := c4 i d hd z (Nat.zero_le _)
    rw [rmQ_0] at w2
    have mv : ∀ b k, 1114 ≤ b → b ≤ 1122 → sI τ b k = sI σ4 b k := fun b k h1 h2 => by
      rw [(d2 b k (by unfold QL; omega)).1]
    have mn : ∀ k, k < 600 * s + (nmB (FQ D 0) + nmB (FQ D 1)) + nmB (FQ D 2) → sI τ 1127 k = sI σ4 1127 k := fun k h1 => by
      rw [(d2 1127 k (by unfold QL; omega)).1]
    rw [hlk] at w4 w5 w7
    exact ⟨(mv _ _ (by decide) (by decide)).trans w1, NMb_next w2 (mv _ _ (by decide) (by decide)) (mv _ _ (by decide) (by decide)) mn (by omega), (mv _ _ (by decide) (by decide)).trans w3, (mv _ _ (by decide) (by decide)).trans w4, (mv _ _ (by decide) (by decide)).trans w5, (mv _ _ (by decide) (by decide)).trans w6, (mv _ _ (by decide) (by decide)).trans w7, (mv _ _ (by decide) (by decide)).trans w8⟩
  · obtain ⟨w1, w2, w3⟩ := d4 i d hd z (Nat.zero_le _)
    rw [rmQ_0] at w2
    exact ⟨w1, NMb_next w2 rfl rfl (fun _ _ => rfl) (by omega), w3⟩
