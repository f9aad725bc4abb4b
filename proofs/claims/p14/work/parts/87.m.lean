/-! ===== the reference keeps a schema; what both hold ===== -/
/-- a schema as the reference holds it -/
def RSd (σ : SG) (s : Nat) (T : List Nat) (D : List Dc) (i : Nat) (d : Dc) : Prop := (dK d = 0 → sI σ 1108 (16 * s + cnt (D.take i) 0) = oq D 0 (dS d) ∧ NM σ s 1109 (16 * s + cnt (D.take i) 0) (slc T (dA d) (dE d))) ∧ (dK d = 1 → sI σ 1111 (8 * s + cnt (D.take i) 1) = oq D 0 (dS d) ∧ NM σ s 1112 (8 * s + cnt (D.take i) 1) (slc T (dA d) (dE d))) ∧ (dK d = 2 → sI σ 1114 (60 * s + cnt (D.take i) 2) = oq D 0 (dS d) ∧ NM σ s 1115 (60 * s + cnt (D.take i) 2) (slc T (dA d) (dE d)) ∧ sI σ 1117 (60 * s + cnt (D.take i) 2) = nI (dN d).2 ∧ sI σ 1118 (60 * s + cnt (D.take i) 2) = nI (dTy (lkC T D) T (wl T 701 0) D d) ∧ sI σ 1119 (60 * s + cnt (D.take i) 2) = refI D (dTg (lkC T D) T (wl T 701 0) D d) ∧ sI σ 1120 (60 * s + cnt (D.take i) 2) = zI (dR d) ∧ sI σ 1121 (60 * s + cnt (D.take i) 2) = zI (dPa (lkC T D) T (wl T 701 0) D d) ∧ sI σ 1122 (60 * s + cnt (D.take i) 2) = oq D 4 (dO d)) ∧ (dK d = 3 → sI σ 1123 (40 * s + cnt (D.take i) 3) = oq D 1 (dO d) ∧ NM σ s 1124 (40 * s + cnt (D.take i) 3) (slc T (dA d) (dE d)) ∧ sI σ 1126 (40 * s + cnt (D.take i) 3) = Int64.toInt32 (nL (dN d)))
def RS (σ : SG) (s : Nat) (T : List Nat) (D : List Dc) : Prop := lim D = true ∧ (∀ q, q < 4 → sI σ (1104 + q) s = nI (cnt D q)) ∧ ∀ (i : Nat) (d : Dc), D[i]? = some d → RSd σ s T D i d
/-- the cells of a schema -/
def PKP (s b k : Nat) : Prop := (1104 ≤ b ∧ b ≤ 1107 ∧ k = s) ∨ (1108 ≤ b ∧ b ≤ 1110 ∧ 16 * s ≤ k ∧ k < 16 * s + 16) ∨ (1111 ≤ b ∧ b ≤ 1113 ∧ 8 * s ≤ k ∧ k < 8 * s + 8) ∨ (1114 ≤ b ∧ b ≤ 1122 ∧ 60 * s ≤ k ∧ k < 60 * s + 60) ∨ (1123 ≤ b ∧ b ≤ 1126 ∧ 40 * s ≤ k ∧ k < 40 * s + 40) ∨ (b = 1127 ∧ 600 * s ≤ k ∧ k < 600 * s + 600)
theorem lim_of {D : List Dc} (h : lim D = true) : cnt D 0 ≤ 16 ∧ cnt D 1 ≤ 8 ∧ cnt D 2 ≤ 60 ∧ cnt D 3 ≤ 40 ∧ cnt D 4 ≤ 16 ∧ nmB D ≤ 600 := of_decide_eq_true h
theorem NM_keep {σ τ : SG} {s b j : Nat} {N : List Nat} (h : NM σ s b j N) (hb : sI τ b j = sI σ b j) (hb' : sI τ (b + 1) j = sI σ (b + 1) j) (hn : ∀ k, 600 * s ≤ k → k < 600 * s + 600 → sI τ 1127 k = sI σ 1127 k) : NM τ s b j N := by
  obtain ⟨q, h1, h2, h3, h4, h5⟩ := h
  exact ⟨q, hb.trans h1, hb'.trans h2, h3, h4, NMs_keep h5 (fun i hi => hn _ (by omega) (by omega))⟩
theorem RS_keep {σ τ : SG} {s : Nat} {T : List Nat} {D : List Dc} (h : RS σ s T D) (hf : ∀ b k, PKP s b k → sI τ b k = sI σ b k) : RS τ s T D := by
  obtain ⟨l0, l1, l2, l3, l4, l5⟩ := lim_of h.1
  have hn : ∀ k, 600 * s ≤ k → k < 600 * s + 600 → sI τ 1127 k = sI σ 1127 k := fun k h1 h2 => hf _ _ (by unfold PKP; omega)
  refine ⟨h.1, fun q hq => (hf _ _ (by unfold PKP; omega)).trans (h.2.1 q hq), fun i d hd => ?_⟩
  obtain ⟨a0, a1, a2, a3⟩ := h.2.2 i d hd
  refine ⟨fun z => ?_, fun z => ?_, fun z => ?_, fun z => ?_⟩
  · have hc := cnt_take_lt hd z
    have m : ∀ b, 1108 ≤ b → b ≤ 1110 → sI τ b (16 * s + cnt (D.take i) 0) = sI σ b (16 * s + cnt (D.take i) 0) := fun b h1 h2 => hf _ _ (by unfold PKP; omega)
    exact ⟨(m _ (by decide) (by decide)).trans (a0 z).1, NM_keep (a0 z).2 (m _ (by decide) (by decide)) (m _ (by decide) (by decide)) hn⟩
  · have hc := cnt_take_lt hd z
    have m : ∀ b, 1111 ≤ b → b ≤ 1113 → sI τ b (8 * s + cnt (D.take i) 1) = sI σ b (8 * s + cnt (D.take i) 1) := fun b h1 h2 => hf _ _ (by unfold PKP; omega)
    exact ⟨(m _ (by decide) (by decide)).trans (a1 z).1, NM_keep (a1 z).2 (m _ (by decide) (by decide)) (m _ (by decide) (by decide)) hn⟩
  · have hc := cnt_take_lt hd z
    have m : ∀ b, 1114 ≤ b → b ≤ 1122 → sI τ b (60 * s + cnt (D.take i) 2) = sI σ b (60 * s + cnt (D.take i) 2) := fun b h1 h2 => hf _ _ (by unfold PKP; omega)
    obtain ⟨b1', b2', b3, b4, b5, b6, b7, b8⟩ := a2 z
    exact ⟨(m _ (by decide) (by decide)).trans b1', NM_keep b2' (m _ (by decide) (by decide)) (m _ (by decide) (by decide)) hn, (m _ (by decide) (by decide)).trans b3, (m _ (by decide) (by decide)).trans b4, (m _ (by decide) (by decide)).trans b5, (m _ (by decide) (by decide)).trans b6, (m _ (by decide) (by decide)).trans b7, (m _ (by decide) (by decide)).trans b8⟩
  · have hc := cnt_take_lt hd z
    have m : ∀ b, 1123 ≤ b → b ≤ 1126 → sI τ b (40 * s + cnt (D.take i) 3) = sI σ b (40 * s + cnt (D.take i) 3) := fun b h1 h2 => hf _ _ (by unfold PKP; omega)
    obtain ⟨b1', b2', b3⟩ := a3 z
    exact ⟨(m _ (by decide) (by decide)).trans b1', NM_keep b2' (m _ (by decide) (by decide)) (m _ (by decide) (by decide)) hn, (m _ (by decide) (by decide)).trans b3⟩
/-- keeping one schema leaves the other -/
def PK9 (s b k : Nat) : Prop := (b = 1101 ∧ k = 31) ∨ PKP s b k
theorem RS_other {σ τ : SG} {s t : Nat} {T : List Nat} {D : List Dc} (h : RS σ t T D) (hf : fP (PK9 s) σ τ) (hs : s < 2) (ht : t < 2) (hst : s ≠ t) : RS τ t T D := RS_keep h (fun b k hk => (hf b k (by unfold PK9; unfold PKP at *; omega)).1)
theorem QL_9 {lo hi a b n m s : Nat} {σ τ : SG} (h : fP (QL lo hi a b n m) σ τ) (hp : ∀ x k, lo ≤ x → x ≤ hi → a ≤ k → k < b → PKP s x k) (hn : 600 * s ≤ n) (hm : m ≤ 600 * s + 600) : fP (PK9 s) σ τ := fP_mono h (fun x k z => by
  rcases z with z | z | z
  · exact Or.inl z
  · exact Or.inr (hp x k z.1 z.2.1 z.2.2.1 z.2.2.2)
  · exact Or.inr (by unfold PKP; omega))
theorem rmQ_0 (D : List Dc) (q : Nat) : rmQ D q 0 = nmB (FQ D q) := by unfold rmQ; rw [List.drop_zero]
theorem NMb_next {σ τ : SG} {s hi b j : Nat} {N : List Nat} (h : NMb σ (600 * s) hi b j N) (hb : sI τ b j = sI σ b j) (hb' : sI τ (b + 1) j = sI σ (b + 1) j) (hn : ∀ k, k < hi → sI τ 1127 k = sI σ 1127 k) (hh : hi ≤ 600 * s + 600) : NM τ s b j N := by
  obtain ⟨q, h1, h2, h3, h4, h5⟩ := h
  exact ⟨q, hb.trans h1, hb'.trans h2, h3, by omega, NMs_keep h5 (fun i hi' => hn _ (by omega))⟩
theorem N_keep {U s : Nat} {T : List Nat} {D : List Dc} {σ : SG} (hU : 4000 < U) (hs : s < 2) (hTl : T.length ≤ 700) (hN : GNs T D) (hl : D.length < 180) (hlim : lim D = true) (hM : RK σ T (wl T 701 0) D) (hT : RI σ 1102 T) (hV : ∀ (i : Nat) (d : Dc), D[i]? = some d → dK d = 3 → okV (dN d) = true) (hF : ∀ (i : Nat) (d : Dc), D[i]? = some d → dK d = 2 → okN (dN d).2 = true ∧ (dN d).1 = false ∧ dP d ≤ 2 ∧ dT d ≤ 13) (hlk : lkR T D = lkC T D) :
    ∃ τ, x_X12_keep U 1101 (nI s) σ = some τ ∧ fP (PK9 s) σ τ ∧ RS τ s T D := by
  obtain ⟨l0, l1, l2, l3, l4, l5⟩ := lim_of hlim
  have hsum := FQ_sum D
  have hcl0 := cnt_le D 0
  have hcl1 := cnt_le D 1
  have hcl2 := cnt_le D 2
  have hcl3 := cnt_le D 3
  unfold x_X12_keep
  rw [show (600 : Int32) = nI 600 from rfl, pk_mul, sb_eq, ix_in hs (by decide), sb_eq, ix_in hs (by decide), sb_eq, ix_in hs (by decide), sb_eq, ix_in hs (by decide), sb_eq]
  have c : ∀ q, q < 5 → sI σ 1101 (32 + q) = nI (cnt D q) := hM.1
  have e0 : sI (uI σ 1101 31 (nI (600 * s))) 1101 32 = nI (cnt D 0) := by rw [sI_o (Or.inr (by decide))]; exact c 0 (by decide)
  have e1 : sI (uI (uI σ 1101 31 (nI (600 * s))) 1104 s (nI (cnt D 0))) 1101 33 = nI (cnt D 1) := by rw [sI_o (Or.inl (by decide)), sI_o (Or.inr (by decide))]; exact c 1 (by decide)
  have e2 : sI (uI (uI (uI σ 1101 31 (nI (600 * s))) 1104 s (nI (cnt D 0))) 1105 s (nI (cnt D 1))) 1101 34 = nI (cnt D 2) := by rw [sI_o (Or.inl (by decide)), sI_o (Or.inl (by decide)), sI_o (Or.inr (by decide))]; exact c 2 (by decide)
  have e3 : sI (uI (uI (uI (uI σ 1101 31 (nI (600 * s))) 1104 s (nI (cnt D 0))) 1105 s (nI (cnt D 1))) 1106 s (nI (cnt D 2))) 1101 35 = nI (cnt D 3) := by rw [sI_o (Or.inl (by decide)), sI_o (Or.inl (by decide)), sI_o (Or.inl (by decide)), sI_o (Or.inr (by decide))]; exact c 3 (by decide)
  rw [e0, e1, e2, e3]
  have F0 : fP (PK9 s) σ (uI (uI (uI (uI (uI σ 1101 31 (nI (600 * s))) 1104 s (nI (cnt D 0))) 1105 s (nI (cnt D 1))) 1106 s (nI (cnt D 2))) 1107 s (nI (cnt D 3))) := by
    refine fP_trans (fP_trans (fP_trans (fP_trans (fP_u (Or.inl ⟨rfl, rfl⟩)) (fP_u ?_)) (fP_u ?_)) (fP_u ?_)) (fP_u ?_)
    all_goals exact Or.inr (by unfold PKP; omega)
  have C0 : ∀ q, q < 4 → sI (uI (uI (uI (uI (uI σ 1101 31 (nI (600 * s))) 1104 s (nI (cnt D 0))) 1105 s (nI (cnt D 1))) 1106 s (nI (cnt D 2))) 1107 s (nI (cnt D 3))) (1104 + q) s = nI (cnt D q) := by
    intro q hq
    have : q = 0 ∨ q = 1 ∨ q = 2 ∨ q = 3 := by omega
    rcases this with z | z | z | z <;> subst z
    · rw [sI_o (Or.inl (by decide)), sI_o (Or.inl (by decide)), sI_o (Or.inl (by decide)), sI_s]
    · rw [sI_o (Or.inl (by decide)), sI_o (Or.inl (by decide)), sI_s]
    · rw [sI_o (Or.inl (by decide)), sI_s]
    · rw [sI_s]
  have n0 : sI (uI (uI (uI (uI (uI σ 1101 31 (nI (600 * s))) 1104 s (nI (cnt D 0))) 1105 s (nI (cnt D 1))) 1106 s (nI (cnt D 2))) 1107 s (nI (cnt D 3))) 1101 31 = nI (600 * s + 0) := by
    rw [sI_o (Or.inl (by decide)), sI_o (Or.inl (by decide)), sI_o (Or.inl (by decide)), sI_o (Or.inl (by decide)), sI_s]; try rfl
  have B0 : KB σ (uI (uI (uI (uI (uI σ 1101 31 (nI (600 * s))) 1104 s (nI (cnt D 0))) 1105 s (nI (cnt D 1))) 1106 s (nI (cnt D 2))) 1107 s (nI (cnt D 3))) T := KB_f ⟨fun b _ _ => sm_refl σ b, fun _ _ _ => rfl, hT⟩ F0 (fun b k z => by unfold PK9 PKP at z; omega)
  generalize (uI (uI (uI (uI (uI σ 1101 31 (nI (600 * s))) 1104 s (nI (cnt D 0))) 1105 s (nI (cnt D 1))) 1106 s (nI (cnt D 2))) 1107 s (nI (cnt D 3))) = σ1 at *
  -- messages
  obtain ⟨σ2, a1, a2, a3, a4⟩ := N_keep0 (U := U) (K := fun σ57 => x_X12_keep_L128 U 1101 (fun σ93 => x_X12_keep_L205 U 1101 (fun σ196 => x_X12_keep_L377 U 1101 (nI s) U 0 σ196) (nI s) U 0 σ93) (nI s) U 0 σ57) hU hs hTl hN hl l0 hM (cnt D 0) 0 U 0 σ1 (by omega) (by omega) B0 n0 (by rw [rmQ_0]; omega)
  have a1' := a1
  rw [show nI 0 = 0 from rfl] at a1'
  rw [a1']
  rw [rmQ_0] at a3
  have G2 : fP (PK9 s) σ1 σ2 := QL_9 a2 (fun x k h1 h2 h3 h4 => by unfold PKP; omega) (by omega) (by omega)
  have B2 : KB σ σ2 T := KB_f B0 G2 (fun b k z => by unfold PK9 PKP at z; omega)
  -- enums
  obtain ⟨σ3, b1', b2', b3, b4⟩ := N_keep1 (U := U) (K := fun σ93 => x_X12_keep_L205 U 1101 (fun σ196 => x_X12_keep_L377 U 1101 (nI s) U 0 σ196) (nI s) U 0 σ93) hU hs hTl hN hl l1 hM (cnt D 1) 0 U (nmB (FQ D 0)) σ2 (by omega) (by omega) B2 (by rw [a3]; congr 1) (by rw [rmQ_0]; omega)
  rw [show nI 0 = 0 from rfl] at b1'
  rw [b1']
  rw [rmQ_0] at b3
  have G3 : fP (PK9 s) σ2 σ3 := QL_9 b2' (fun x k h1 h2 h3 h4 => by unfold PKP; omega) (by omega) (by omega)
  have B3 : KB σ σ3 T := KB_f B2 G3 (fun b k z => by unfold PK9 PKP at z; omega)
  -- fields
  obtain ⟨σ4, c1, c2, c3, c4⟩ := N_keep2 (U := U) (K := fun σ196 => x_X12_keep_L377 U 1101 (nI s) U 0 σ196) hU hs hTl hN hl l2 hM hF (cnt D 2) 0 U (nmB (FQ D 0) + nmB (FQ D 1)) σ3 (by omega) (by omega) B3 (by rw [b3]; congr 1; omega) (by rw [rmQ_0]; omega)
  rw [show nI 0 = 0 from rfl] at c1
  rw [c1]
  rw [rmQ_0] at c3
  have G4 : fP (PK9 s) σ3 σ4 := QL_9 c2 (fun x k h1 h2 h3 h4 => by unfold PKP; omega) (by omega) (by omega)
  have B4 : KB σ σ4 T := KB_f B3 G4 (fun b k z => by unfold PK9 PKP at z; omega)
  -- values
  obtain ⟨τ, d1, d2, d3, d4⟩ := N_keep3 (U := U) (K := fun x => some x) hU hs hTl hN hl l3 hM hV (cnt D 3) 0 U (nmB (FQ D 0) + nmB (FQ D 1) + nmB (FQ D 2)) σ4 (by omega) (by omega) B4 (by rw [c3]; congr 1; omega) (by rw [rmQ_0]; omega)
  rw [show nI 0 = 0 from rfl] at d1
  rw [d1]
  have G5 : fP (PK9 s) σ4 τ := QL_9 d2 (fun x k h1 h2 h3 h4 => by unfold PKP; omega) (by omega) (by omega)
  refine ⟨τ, rfl, fP_trans (fP_trans (fP_trans (fP_trans F0 G2) G3) G4) G5, hlim, fun q hq => ?_, fun i d hd => ⟨fun z => ?_, fun z => ?_, fun z => ?_, fun z => ?_⟩⟩
  · rw [(d2 (1104 + q) s (by unfold QL; omega)).1, (c2 (1104 + q) s (by unfold QL; omega)).1, (b2' (1104 + q) s (by unfold QL; omega)).1, (a2 (1104 + q) s (by unfold QL; omega)).1]
    exact C0 q hq
  · obtain ⟨w1, w2⟩ := a4 i d hd z (Nat.zero_le _)
    rw [rmQ_0] at w2
    have mv : ∀ b k, 1108 ≤ b → b ≤ 1110 → sI τ b k = sI σ2 b k := fun b k h1 h2 => by
      rw [(d2 b k (by unfold QL; omega)).1, (c2 b k (by unfold QL; omega)).1, (b2' b k (by unfold QL; omega)).1]
    have mn : ∀ k, k < 600 * s + 0 + nmB (FQ D 0) → sI τ 1127 k = sI σ2 1127 k := fun k h1 => by
      rw [(d2 1127 k (by unfold QL; omega)).1, (c2 1127 k (by unfold QL; omega)).1, (b2' 1127 k (by unfold QL; omega)).1]
    exact ⟨(mv _ _ (by decide) (by decide)).trans w1, NMb_next w2 (mv _ _ (by decide) (by decide)) (mv _ _ (by decide) (by decide)) mn (by omega)⟩
  · obtain ⟨w1, w2⟩ := b4 i d hd z (Nat.zero_le _)
    rw [rmQ_0] at w2
    have mv : ∀ b k, 1111 ≤ b → b ≤ 1113 → sI τ b k = sI σ3 b k := fun b k h1 h2 => by
      rw [(d2 b k (by unfold QL; omega)).1, (c2 b k (by unfold QL; omega)).1]
    have mn : ∀ k, k < 600 * s + nmB (FQ D 0) + nmB (FQ D 1) → sI τ 1127 k = sI σ3 1127 k := fun k h1 => by
      rw [(d2 1127 k (by unfold QL; omega)).1, (c2 1127 k (by unfold QL; omega)).1]
    exact ⟨(mv _ _ (by decide) (by decide)).trans w1, NMb_next w2 (mv _ _ (by decide) (by decide)) (mv _ _ (by decide) (by decide)) mn (by omega)⟩
  · obtain ⟨w1, w2, w3, w4, w5, w6, w7, w8⟩ := c4 i d hd z (Nat.zero_le _)
    rw [rmQ_0] at w2
    have mv : ∀ b k, 1114 ≤ b → b ≤ 1122 → sI τ b k = sI σ4 b k := fun b k h1 h2 => by
      rw [(d2 b k (by unfold QL; omega)).1]
    have mn : ∀ k, k < 600 * s + (nmB (FQ D 0) + nmB (FQ D 1)) + nmB (FQ D 2) → sI τ 1127 k = sI σ4 1127 k := fun k h1 => by
      rw [(d2 1127 k (by unfold QL; omega)).1]
    rw [hlk] at w4 w5 w7
    exact ⟨(mv _ _ (by decide) (by decide)).trans w1, NMb_next w2 (mv _ _ (by decide) (by decide)) (mv _ _ (by decide) (by decide)) mn (by omega), (mv _ _ (by decide) (by decide)).trans w3, (mv _ _ (by decide) (by decide)).trans w4, (mv _ _ (by decide) (by decide)).trans w5, (mv _ _ (by decide) (by decide)).trans w6, (mv _ _ (by decide) (by decide)).trans w7, (mv _ _ (by decide) (by decide)).trans w8⟩
  · obtain ⟨w1, w2, w3⟩ := d4 i d hd z (Nat.zero_le _)
    rw [rmQ_0] at w2
    exact ⟨w1, NMb_next w2 rfl rfl (fun _ _ => rfl) (by omega), w3⟩
/-! ===== both compile ===== -/
theorem okA_split {lk : Option Nat → List Nat → Option Nat} {T : List Nat} {Ws : List Wd} {D : List Dc} (hW : WF D) (hG : GD T Ws D) : okA lk T Ws D = true ↔ (∀ (k : Nat) (d : Dc), D[k]? = some d → tkn T D k d = false) ∧ ((∀ (i : Nat) (d : Dc), D[i]? = some d → dK d = 2 → gdF D i d) ∧ ∀ (i : Nat) (d : Dc), D[i]? = some d → dK d = 3 → gdV D i d) ∧ ∀ (i : Nat) (d : Dc), D[i]? = some d → dK d = 2 → okT lk T Ws D d = true ∧ okP lk T Ws D d = true := by
  -- a field's number
  have fnum : ∀ (k : Nat) (d : Dc) (m : Nat), D[k]? = some d → dK d = 2 → dS d = some m → (((chD D k m).find? (fun i => decide (nLi D i = nL (dN d)))).isNone = true ↔ ∀ (j : Nat) (x : Dc), j < k → D[j]? = some x → dK x = 2 → dS x = dS d → (dN x).2 ≠ (dN d).2) := by
    intro k d m hd h2 hm
    rw [Option.isNone_iff_eq_none, List.find?_eq_none]
    have fd := (hG k d hd).2.1
    have f1 := (fd.2.2.1 h2).1
    have eqn : ∀ (x : Dc) (j : Nat), D[j]? = some x → dK x = 2 → (nL (dN x) = nL (dN d) ↔ (dN x).2 = (dN d).2) := by
      intro x j hx hx2
      have gx := (hG j x hx).2.1
      unfold nL
      rw [f1, (gx.2.2.1 hx2).1]
      simp only [Bool.false_eq_true, if_false]
      exact pk_lEQ (by have := gx.1; omega) (by have := fd.1; omega)
    constructor
    · intro h j x hj hx hx2 hs hn
      have : j ∈ chD D k m := (chD_mem k j).mpr ⟨hj, x, hx, Or.inl ⟨hx2, hs.trans hm⟩⟩
      have := h j this
      rw [nLi_some hx] at this
      exact this (decide_eq_true ((eqn x j hx hx2).mpr hn))
    · intro h j hj hn
      obtain ⟨h1, x, hx, h3⟩ := (chD_mem k j).mp hj
      have hn' := of_decide_eq_true hn
      rw [nLi_some hx] at hn'
      rcases h3 with h3 | h3
      · exact h j x h1 hx h3.1 (h3.2.trans hm.symm) ((eqn x j hx h3.1).mp hn')
      · obtain ⟨e, he, _, y, hy, hy1⟩ := hW.val hx h3.1
        rw [h3.2] at he
        cases he
        obtain ⟨z, hz, hz0⟩ := hW.scK hd m hm
        rw [hy] at hz
        cases hz
        omega
  have kOK : ∀ (k : Nat) (d : Dc), D[k]? = some d → (okK lk T Ws D k d = true ↔ (dK d = 2 → gdF D k d ∧ okP lk T Ws D d = true) ∧ (dK d = 3 → gdV D k d)) := by
    intro k d hd
    unfold okK
    by_cases h2 : dK d = 2
    · rw [if_pos h2]
      obtain ⟨m, hm⟩ : ∃ m, dS d = some m := by
        rcases (hW k d hd).2 with z | z | z | z | z
        · omega
        · omega
        · omega
        · cases e : dS d with
          | none => exact absurd e z.2.1
          | some m => exact ⟨m, rfl⟩
        · omega
      have fn := fnum k d m hd h2 hm
      rw [hm]
      simp only
      rw [Bool.and_eq_true, Bool.and_eq_true, fn]
      unfold gdF
      exact ⟨fun z => ⟨fun _ => ⟨⟨z.1.1, z.1.2⟩, z.2⟩, fun y => by omega⟩, fun z => ⟨⟨(z.1 h2).1.1, (z.1 h2).1.2⟩, (z.1 h2).2⟩⟩
    rw [if_neg h2]
    by_cases h3 : dK d = 3
    · rw [if_pos h3]
      obtain ⟨e, he, _, _⟩ := hW.val hd h3
      rw [he]
      simp only
      rw [Bool.and_eq_true, decide_eq_true_iff]
      unfold gdV
      exact ⟨fun z => ⟨fun y => absurd y h2, fun _ => ⟨z.1, fun e' he' => by rw [he] at he'; cases he'; exact z.2⟩⟩, fun z => ⟨(z.2 h3).1, (z.2 h3).2 e he⟩⟩
    · rw [if_neg h3]
      exact ⟨fun _ => ⟨fun y => absurd y h2, fun y => absurd y h3⟩, fun _ => rfl⟩
  rw [okA_iff]
  constructor
  · intro h
    have each : ∀ (k : Nat) (d : Dc), D[k]? = some d → okT lk T Ws D d = true ∧ tkn T D k d = false ∧ okK lk T Ws D k d = true := by
      intro k d hd
      have := h k d hd
      unfold okD at this
      rw [Bool.and_eq_true, Bool.and_eq_true, Bool.not_eq_true'] at this
      exact ⟨this.1.1, this.1.2, this.2⟩
    exact ⟨fun k d hd => (each k d hd).2.1, ⟨fun i d hd h2 => (((kOK i d hd).mp (each i d hd).2.2).1 h2).1, fun i d hd h3 => ((kOK i d hd).mp (each i d hd).2.2).2 h3⟩, fun i d hd h2 => ⟨(each i d hd).1, (((kOK i d hd).mp (each i d hd).2.2).1 h2).2⟩⟩
  · rintro ⟨h1, ⟨h2, h3⟩, h4⟩ k d hd
    unfold okD
    rw [Bool.and_eq_true, Bool.and_eq_true, Bool.not_eq_true']
    refine ⟨⟨?_, h1 k d hd⟩, (kOK k d hd).mpr ⟨fun z => ⟨h2 k d hd z, (h4 k d hd z).2⟩, fun z => h3 k d hd z⟩⟩
    by_cases z : dK d = 2
    · exact (h4 k d hd z).1
    · unfold okT; rw [show nmd d = false from decide_eq_false (fun y => z y.1)]; try rfl
/-- the cells that the reference's compile may change -/
def KC : List Nat := [1, 5, 6, 31, 73, 79] ++ KR
def Pcm (s b k : Nat) : Prop := (b = 1101 ∧ k ∈ KC) ∨ (1128 ≤ b ∧ b ≤ 1159) ∨ PKP s b k
theorem Pcm_9 {s : Nat} {σ τ : SG} (h : fP P9 σ τ) : fP (Pcm s) σ τ := fP_mono h (fun b k z => by
  rcases z with z | z
  · rcases z with z | z
    · exact Or.inl ⟨z.1, List.mem_append_right _ z.2⟩
    · exact Or.inr (Or.inl (by omega))
  · exact Or.inr (Or.inl (by omega)))
theorem Pcm_T {s : Nat} {σ τ : SG} (h : fP PT σ τ) : fP (Pcm s) σ τ := fP_mono h (fun b k z => by
  rcases z with z | z | z
  · refine Or.inl ⟨z.1, ?_⟩
    rcases z.2 with y | y | y <;> rw [y] <;> decide
  · exact Or.inr (Or.inl (by omega))
  · exact Or.inr (Or.inl (by omega)))
theorem Pcm_q {s : Nat} {σ τ : SG} (h : fq [74, 75] σ τ) : fP (Pcm s) σ τ := Pcm_T (PT_q h)
theorem Pcm_K {s : Nat} {σ τ : SG} (h : fP (PK9 s) σ τ) : fP (Pcm s) σ τ := fP_mono h (fun b k z => by
  rcases z with z | z
  · exact Or.inl ⟨z.1, by rw [z.2]; decide⟩
  · exact Or.inr (Or.inr z))
theorem RS_nil {σ : SG} {s : Nat} (h : ∀ q, q < 4 → sI σ (1104 + q) s = 0) : RS σ s [] [] := ⟨by decide, fun q hq => (h q hq).trans rfl, fun i d hd => by simp at hd⟩
/-- the end of the reference's compile -/
theorem N_comp_end {U s : Nat} {T : List Nat} {σ : SG} {S : Option (List Dc)} (hs : s < 2) (hok : sI σ 1101 74 = 0 → ∃ D, S = some D ∧ ∃ τ, x_X12_keep U 1101 (nI s) (uI σ 1101 6 (-1)) = some τ ∧ fP (PK9 s) (uI σ 1101 6 (-1)) τ ∧ RS τ s T D) (hbad : ¬ sI σ 1101 74 = 0 → S = none) :
    ∃ v τ, x_X12_compile_77 U 1101 (nI s) σ = some (v, τ) ∧ fP (Pcm s) σ τ ∧ (∀ k, k ≠ 6 → k ≠ 31 → sI τ 1101 k = sI σ 1101 k) ∧ (S = none → RS τ s [] []) ∧ ∀ D, S = some D → RS τ s T D := by
  have m6 : ∀ v, fP (Pcm s) σ (uI σ 1101 6 v) := fun v => fP_u (Or.inl ⟨rfl, by decide⟩)
  unfold x_X12_compile_77 x_X12_compile_93
  by_cases q : sI σ 1101 74 = 0
  · rw [if_pos q, sb_eq, sI_o (Or.inr (by decide)), if_pos q]
    obtain ⟨D, hD, τ, e1, e2, e3⟩ := hok q
    rw [e1, b1_eq]
    refine ⟨_, τ, rfl, fP_trans (m6 _) (Pcm_K e2), fun k h6 h31 => ?_, fun z => (by rw [hD] at z; cases z), fun D' z => ?_⟩
    · rw [(e2 1101 k (by unfold PK9 PKP; omega)).1, sI_o (Or.inr h6)]
    · rw [hD] at z; cases z; exact e3
  · rw [if_neg q, sb_eq, sI_o (Or.inr (by decide)), if_neg q, ix_in hs (by decide), sb_eq, ix_in hs (by decide), sb_eq, ix_in hs (by decide), sb_eq, ix_in hs (by decide), sb_eq]
    refine ⟨_, _, rfl, ?_, fun k h6 h31 => ?_, fun _ => RS_nil (fun q' hq' => ?_), fun D' z => (by rw [hbad q] at z; cases z)⟩
    · refine fP_trans (fP_trans (fP_trans (fP_trans (m6 _) (fP_u ?_)) (fP_u ?_)) (fP_u ?_)) (fP_u ?_)
      all_goals exact Or.inr (Or.inr (by unfold PKP; omega))
    · rw [sI_o (Or.inl (by decide)), sI_o (Or.inl (by decide)), sI_o (Or.inl (by decide)), sI_o (Or.inl (by decide)), sI_o (Or.inr h6)]
    · have : q' = 0 ∨ q' = 1 ∨ q' = 2 ∨ q' = 3 := by omega
      rcases this with z | z | z | z <;> subst z
      · rw [sI_o (Or.inl (by decide)), sI_o (Or.inl (by decide)), sI_o (Or.inl (by decide)), sI_s]
      · rw [sI_o (Or.inl (by decide)), sI_o (Or.inl (by decide)), sI_s]
      · rw [sI_o (Or.inl (by decide)), sI_s]
      · rw [sI_s]
theorem isSchema_s {s : Nat} (hs : s < 2) : x_X12_isSchema (nI s) = some 1 := by
  have : s = 0 ∨ s = 1 := by omega
  rcases this with z | z <;> subst z <;> decide
theorem N_compile {U s : Nat} {T : List Nat} {σ : SG} (hU : 4000 < U) (hs : s < 2) (hT : RTr σ T) (h8 : ok8 T) (hl : T.length ≤ 700) :
    ∃ v τ, x_X12_compile U 1101 (nI s) σ = some (v, τ) ∧ fP (Pcm s) σ τ ∧ RTr τ [] ∧ sI τ 1101 5 = 0 ∧ sI τ 1101 79 = 0 ∧ (scm T = none → RS τ s [] []) ∧ ∀ D, scm T = some D → RS τ s T D := by
  unfold x_X12_compile x_X12_compile_13
  rw [isSchema_s hs, b1_eq, if_neg (by decide), sb_eq, sI_s, if_pos rfl, sb_eq, sb_eq, sb_eq, sI_o (Or.inr (by decide)), hT.1]
  have F8 : fP (Pcm s) σ (uI (uI (uI (uI σ 1101 5 0) 1101 73 (nI T.length)) 1101 1 0) 1101 79 0) := by
    refine fP_trans (fP_trans (fP_trans (fP_u ?_) (fP_u ?_)) (fP_u ?_)) (fP_u ?_)
    all_goals exact Or.inl ⟨rfl, by decide⟩
  have L8 : LR (uI (uI (uI (uI σ 1101 5 0) 1101 73 (nI T.length)) 1101 1 0) 1101 79 0) T := by
    refine ⟨?_, ?_, hl, h8⟩
    · rw [sI_o (Or.inr (by decide)), sI_o (Or.inr (by decide)), sI_s]
    · exact (((hT.2.sm (sm_uI (by decide))).sm (sm_uI (by decide))).sm (sm_uI (by decide))).sm (sm_uI (by decide))
  have c1 : sI (uI (uI (uI (uI σ 1101 5 0) 1101 73 (nI T.length)) 1101 1 0) 1101 79 0) 1101 1 = 0 := by rw [sI_o (Or.inr (by decide)), sI_s]
  have c5 : sI (uI (uI (uI (uI σ 1101 5 0) 1101 73 (nI T.length)) 1101 1 0) 1101 79 0) 1101 5 = 0 := by rw [sI_o (Or.inr (by decide)), sI_o (Or.inr (by decide)), sI_o (Or.inr (by decide)), sI_s]
  have c79 : sI (uI (uI (uI (uI σ 1101 5 0) 1101 73 (nI T.length)) 1101 1 0) 1101 79 0) 1101 79 = 0 := sI_s _ _ _ _
  generalize (uI (uI (uI (uI σ 1101 5 0) 1101 73 (nI T.length)) 1101 1 0) 1101 79 0) = σ8 at *
  obtain ⟨σ10, a1, a2, a3, a4⟩ := N_readSchema hU L8
  rw [a1, b1_eq]
  have keep9 : ∀ k, k = 1 ∨ k = 5 ∨ k = 79 → sI σ10 1101 k = sI σ8 1101 k := fun k hk => (a2 1101 k (by
    rintro (z | z)
    · rcases z with z | z
      · have := z.2; unfold KR at this; simp only [List.mem_cons, List.not_mem_nil, or_false] at this; omega
      · omega
    · omega)).1
  have fin : ∀ (ω : SG) (S : Option (List Dc)), S = scm T → fP (Pcm s) σ ω → (∀ k, k = 1 ∨ k = 5 ∨ k = 79 → sI ω 1101 k = 0) → (sI ω 1101 74 = 0 → ∃ D, S = some D ∧ ∃ τ, x_X12_keep U 1101 (nI s) (uI ω 1101 6 (-1)) = some τ ∧ fP (PK9 s) (uI ω 1101 6 (-1)) τ ∧ RS τ s T D) → (¬ sI ω 1101 74 = 0 → S = none) → ∃ v τ, x_X12_compile_77 U 1101 (nI s) ω = some (v, τ) ∧ fP (Pcm s) σ τ ∧ RTr τ [] ∧ sI τ 1101 5 = 0 ∧ sI τ 1101 79 = 0 ∧ (scm T = none → RS τ s [] []) ∧ ∀ D, scm T = some D → RS τ s T D := by
    intro ω S hS fω hk hok hbad
    obtain ⟨v, τ, e1, e2, e3, e4, e5⟩ := N_comp_end (U := U) (T := T) (S := S) hs hok hbad
    rw [hS] at e4 e5
    exact ⟨v, τ, e1, fP_trans fω e2, ⟨(e3 1 (by decide) (by decide)).trans (hk 1 (Or.inl rfl)), RI_nil _ _⟩, (e3 5 (by decide) (by decide)).trans (hk 5 (Or.inr (Or.inl rfl))), (e3 79 (by decide) (by decide)).trans (hk 79 (Or.inr (Or.inr rfl))), e4, e5⟩
  have k10 : ∀ k, k = 1 ∨ k = 5 ∨ k = 79 → sI σ10 1101 k = 0 := fun k hk => (keep9 k hk).trans (by rcases hk with z | z | z <;> rw [z] <;> assumption)
  have F10 := fP_trans F8 (Pcm_9 (s := s) a2)
  cases hdc : dcl T with
  | none =>
    have z := a4 hdc
    rw [if_neg z]
    exact fin σ10 none (by unfold scm; rw [hdc]) F10 k10 (fun y => absurd y z) (fun _ => rfl)
  | some D =>
    obtain ⟨hG, hW, hDl⟩ := dcl_GD h8 hl hdc
    have hS := WS_wl h8 hl
    have hN : GNs T D := fun i d hd => (hG i d hd).1
    have hnm := nmB_le hN hl hDl
    obtain ⟨z10, p, hM, hc0, hc1, hp⟩ := a3 D hdc
    have L10 : LR σ10 T := ⟨((a2 1101 73 (by
      rintro (z | z)
      · rcases z with z | z
        · have := z.2; unfold KR at this; simp at this
        · omega
      · omega)).1).trans L8.1, fun i c hi => ((a2 1102 i (by
        rintro (z | z)
        · rcases z with z | z <;> omega
        · omega)).1).trans (L8.2.1 i c hi), hl, h8⟩
    rw [if_pos z10]
    obtain ⟨σ13, b1', b2', b3⟩ := N_checkNames hU hW hN hDl L10 hM
    have M13 := RM_74 hM b2'
    have L13 := LR_74 L10 b2'
    obtain ⟨σ15, c1', c2', c3⟩ := N_checkNumbers hU hW hG hDl M13
    have M15 := RM_74 M13 c2'
    have L15 := LR_74 L13 c2'
    obtain ⟨σ17, d1, d2, d3, d4⟩ := N_checkTypes hU hS hW hG hDl hc0 hc1 hp M15 L15
    rw [b1', b1_eq, c1', b1_eq, d1, b1_eq]
    have F17 : fP (Pcm s) σ σ17 := fP_trans F10 (fP_trans (Pcm_q b2') (fP_trans (Pcm_q c2') (Pcm_T d2)))
    have k17 : ∀ k, k = 1 ∨ k = 5 ∨ k = 79 → sI σ17 1101 k = 0 := fun k hk => by
      rw [PT_o d2 (by omega) (by omega) (by omega), c2'.2.1 k (by simp only [List.mem_cons, List.not_mem_nil, or_false]; omega), b2'.2.1 k (by simp only [List.mem_cons, List.not_mem_nil, or_false]; omega)]
      exact k10 k hk
    have z17 : sI σ17 1101 74 = 0 ↔ okA (lkC T D) T (wl T 701 0) D = true := by
      rw [d3, c3, b3, okA_split hW hG]
      constructor
      · rintro ⟨⟨⟨_, n1⟩, n2⟩, n3⟩
        rw [lkR_eq n1] at n3
        exact ⟨n1, n2, n3⟩
      · rintro ⟨n1, n2, n3⟩
        rw [lkR_eq n1]
        exact ⟨⟨⟨z10, n1⟩, n2⟩, n3⟩
    by_cases q : sI σ17 1101 74 = 0
    · rw [if_pos q]
      obtain ⟨σ20, e1, e2⟩ := N_checkLimits (U := U) hU hDl (by omega) M15 d2 q
      rw [e1, b1_eq]
      have hall := (okA_split hW hG).mp (z17.mp q)
      have hlk := lkR_eq hall.1
      refine fin σ20 (if lim D then some D else none) ?_ (fP_trans F17 (Pcm_q e2.1)) (fun k hk => ?_) (fun y => ?_) (fun y => ?_)
      · unfold scm; rw [hdc]; simp only; rw [z17.mp q, Bool.true_and]
      · rw [e2.1.2.1 k (by simp only [List.mem_cons, List.not_mem_nil, or_false]; omega)]
        exact k17 k hk
      · have hlim := (e2.2.mp y).2
        refine ⟨D, by rw [hlim]; rfl, ?_⟩
        have f20 : fP PT σ15 (uI σ20 1101 6 (-1)) → True := fun _ => trivial
        have TY : ∀ (i : Nat) (d : Dc), D[i]? = some d → dK d = 2 → TYr (uI σ20 1101 6 (-1)) T (wl T 701 0) D (cnt (D.take i) 2) d := fun i d hd h2 => by
          obtain ⟨t1, t2⟩ := d4 i d hd h2
          refine ⟨?_, ?_⟩
          · rw [sI_o (Or.inl (by decide)), (e2.1.1 1139 (by decide) _).1]; exact t1
          · rw [sI_o (Or.inl (by decide)), (e2.1.1 1141 (by decide) _).1]; exact t2
        have fT : fP PT σ15 σ20 := fP_trans d2 (PT_q e2.1)
        have RK20 : RK σ20 T (wl T 701 0) D := RK_of M15 fT (fun i d hd h2 => by
          obtain ⟨t1, t2⟩ := d4 i d hd h2
          exact ⟨by rw [(e2.1.1 1139 (by decide) _).1]; exact t1, by rw [(e2.1.1 1141 (by decide) _).1]; exact t2⟩)
        have sm6 : ∀ b, b ≠ 1101 → sm σ20 (uI σ20 1101 6 (-1)) b := fun b hb => sm_uI hb
        have nm6 : ∀ b i v d, b ≠ 1101 → b + 1 ≠ 1101 → b + 2 ≠ 1101 → NMr σ20 b i v d → NMr (uI σ20 1101 6 (-1)) b i v d := fun b i v d h1 h2 h3 z => ⟨(sm6 b h1 i).1.trans z.1, (sm6 (b + 1) h2 i).1.trans z.2.1, (sm6 (b + 2) h3 i).1.trans z.2.2⟩
        have RK6 : RK (uI σ20 1101 6 (-1)) T (wl T 701 0) D := by
          refine ⟨fun q' hq' => by rw [sI_o (Or.inr (by omega))]; exact RK20.1 q' hq', fun i d hd => ?_⟩
          obtain ⟨r0, r1, r2, r3⟩ := RK20.2 i d hd
          refine ⟨fun z => nm6 _ _ _ _ (by decide) (by decide) (by decide) (r0 z), fun z => nm6 _ _ _ _ (by decide) (by decide) (by decide) (r1 z), fun z => ⟨nm6 _ _ _ _ (by decide) (by decide) (by decide) (r2 z).1, ?_⟩, fun z => ⟨nm6 _ _ _ _ (by decide) (by decide) (by decide) (r3 z).1, (r3 z).2⟩⟩
          obtain ⟨y1, y2, y3, y4, y5⟩ := (r2 z).2
          exact ⟨(sm6 1148 (by decide) _).1.trans y1, (sm6 1145 (by decide) _).1.trans y2, y3, (sm6 1146 (by decide) _).1.trans y4, TY i d hd z⟩
        have RI6 : RI (uI σ20 1101 6 (-1)) 1102 T := ((LR_PT L15 fT).2.1).sm (sm_uI (by decide))
        exact N_keep hU hs hl hN hDl hlim RK6 RI6 (fun i d hd h3 => (hall.2.1.2 i d hd h3).1) (fun i d hd h2 => by
          have g := (hG i d hd).2.1
          have g2 := g.2.2.1 h2
          exact ⟨(hall.2.1.1 i d hd h2).1, g2.1, g.2.1, g2.2.1⟩) hlk
      · cases hlim : lim D with
        | false => rfl
        | true => exact absurd (e2.2.mpr ⟨q, hlim⟩) y
    · rw [if_neg q]
      refine fin σ17 none ?_ F17 k17 (fun y => absurd y q) (fun _ => rfl)
      unfold scm; rw [hdc]; simp only
      cases qa : okA (lkC T D) T (wl T 701 0) D with
      | true => exact absurd (z17.mpr qa) q
      | false => rfl
/-! ===== the class's compile; many ===== -/
/-- where a schema's compiler stands -/
def cA (s : Nat) : Nat := if s = 0 then 5 else 197
theorem cA_cb {s : Nat} : cb (cA s) := by
  unfold cA cb
  split
  · exact Or.inl rfl
  · exact Or.inr rfl
theorem cA_lt {s : Nat} : 5 ≤ cA s ∧ cA s ≤ 197 := by unfold cA; split <;> decide
theorem cOf {s : Nat} {σ : SG} (hs : s < 2) : x_X11_compilerOf 0 (nI s) σ = some (some (cA s)) := by
  have : s = 0 ∨ s = 1 := by omega
  rcases this with z | z <;> subst z <;> rfl
theorem cOf_no {p : Int32} {σ : SG} (h0 : ¬ p = 0) (h1 : ¬ p = 1) : x_X11_compilerOf 0 p σ = some none := by
  unfold x_X11_compilerOf
  rw [if_neg h0, if_neg h1]
/-- the class has no value -/
def VCn (σ : SG) : Prop := sP σ 389 4 = none ∧ sP σ 389 5 = none ∧ sI σ 389 3 = 0 ∧ RB σ 1092 [] 0
theorem X4_begin {σ : SG} {a : Nat} {f : Option Nat} : ∃ τ, x_X4_begin a f σ = some τ ∧ (∀ b, b ≠ a → sm σ τ b) ∧ sP τ a 0 = f ∧ sP τ a 1 = none ∧ sP τ a 2 = none ∧ sP τ a 3 = none ∧ sL τ a 4 = 0 ∧ sI τ a 5 = 0 ∧ sI τ a 6 = 0 := by
  unfold x_X4_begin
  simp only [sb_eq]
  refine ⟨_, rfl, ?_, ?_⟩
  · intro b hb k
    simp only [sI_uI, sI_uL, sI_uP, sL_uI, sL_uL, sL_uP, sP_uI, sP_uL, sP_uP, hb, false_and, if_false, and_self]
  · simp [sI_uI, sI_uL, sI_uP, sL_uI, sL_uL, sL_uP, sP_uI, sP_uL, sP_uP]
theorem X8_drop {σ : SG} : ∃ τ, x_X8_drop 389 σ = some τ ∧ (∀ b, b ≠ 389 → b ≠ 1091 → b ≠ 1092 → sm σ τ b) ∧ VCn τ ∧ sP τ 1091 2 = none ∧ sP τ 1091 3 = none ∧ sP τ 1091 0 = none := by
  unfold x_X8_drop
  rw [sb_eq, sb_eq]
  obtain ⟨σ4, a1, a2, a3⟩ := X0_clear (σ := uP (uP σ 389 4 none) 389 5 none) (a := 1092)
  rw [a1, b1_eq, sb_eq]
  obtain ⟨τ, b1', b2', b3, b4, b5, b6, b7⟩ := X4_begin (σ := uI σ4 389 3 0) (a := 1091) (f := none)
  rw [b1', b1_eq]
  refine ⟨τ, rfl, fun b h1 h2 h3 => sm_trans (sm_trans (sm_trans (sm_uP h1) (sm_uP h1)) (a3 b h3)) (sm_trans (sm_uI h1) (b2' b h2)), ⟨?_, ?_, ?_, ?_⟩, b5, b6, b3⟩
  · rw [(b2' 389 (by decide) 4).2.2, sP_uI, (a3 389 (by decide) 4).2.2, sP_o (Or.inr (by decide)), sP_s]
  · rw [(b2' 389 (by decide) 5).2.2, sP_uI, (a3 389 (by decide) 5).2.2, sP_s]
  · rw [(b2' 389 (by decide) 3).1, sI_s]
  · exact (a2.sm (sm_uI (by decide)) (sm_uI (by decide))).sm (b2' _ (by decide)) (b2' _ (by decide))
/-- the class compiles -/
theorem X11_compile {U s : Nat} {T : List Nat} {σ : SG} (hU : 4000 < U) (hs : s < 2) (hT : RB σ 1 T 0) :
    ∃ v τ, x_X11_compile U 0 (nI s) σ = some (.inl (some (.int v)), τ) ∧ (∀ b, b ≠ 0 → b ≠ 1 → (b < cA s ∨ cA s + 191 < b) → b ≠ 389 → b ≠ 1091 → b ≠ 1092 → sm σ τ b) ∧ RB τ 1 [] 0 ∧ VCn τ ∧ (scm T = none → CS τ (cA s) [] []) ∧ ∀ D, scm T = some D → CS τ (cA s) T D := by
  have hc := cA_lt (s := s)
  have hcb := cA_cb (s := s)
  unfold x_X11_compile
  obtain ⟨σ5, a1, a2, a3, _⟩ := X8_drop (σ := σ)
  have T5 : RB σ5 1 T 0 := hT.sm (a2 1 (by decide) (by decide) (by decide)) (a2 2 (by decide) (by decide) (by decide))
  obtain ⟨v, σ11, b1', b2', b3, b4⟩ := X2_run hU hcb T5
  obtain ⟨σ13, c1, c2, c3⟩ := X0_clear (σ := σ11) (a := 1)
  rw [cOf hs, b1_eq, if_neg (by intro z; cases z), a1, b1_eq, ck_eq (cb_sh hcb).2.2.2.2, b1', b2_eq, c1, b1_eq, show x_X2_faultAt (cA s) σ13 = some (sI σ13 (cA s) 4) from rfl, b1_eq, sb_eq]
  have g : ∀ b, b ≠ 1 → b ≠ 0 → sm σ11 (uI σ13 0 8 (sI σ13 (cA s) 4)) b := fun b h1 h0 => sm_trans (c3 b h1) (sm_uI h0)
  have cs : ∀ (T' : List Nat) (D : List Dc), CS σ11 (cA s) T' D → CS (uI σ13 0 8 (sI σ13 (cA s) 4)) (cA s) T' D := by
    rintro T' D ⟨h1, h2, h3, h4⟩
    refine ⟨h1.sm (g _ (by omega) (by omega)) (g _ (by omega) (by omega)), ⟨((g (cA s + 1) (by omega) (by omega)) 3).1.trans h2.1, h2.2.1, fun i d hd => IS_PJ (h2.2.2 i d hd) (fun j _ => g _ (by omega) (by omega) j)⟩, fun i d hd => ?_, fun k hk => ((g (cA s + 185) (by omega) (by omega)) k).1.trans (h4 k hk)⟩
    have gi := g (cA s + 5 + i) (by omega) (by omega)
    obtain ⟨j1, j2, j3⟩ := h3 i d hd
    refine ⟨fun z => ?_, fun z => ?_, ?_⟩
    · rw [(gi 8).1, (gi 10).2.2, (gi 12).1, (gi 16).2.2]; exact j1 z
    · rw [(gi 8).1, (gi 10).2.2, (gi 12).1]; exact j2 z
    · rw [(gi 15).2.2]; exact LK_keep _ _ j3 (fun i' _ => (g (cA s + 5 + i') (by omega) (by omega) 16).2.2)
  refine ⟨v, _, rfl, fun b h0 h1 h2 h3 h4 h5 => sm_trans (sm_trans (a2 b h3 h4 h5) (b2' b h2)) (g b h1 h0), c2.sm (sm_uI (by decide)) (sm_uI (by decide)), ?_, fun z => cs _ _ (b3 z), fun D z => cs _ _ (b4 D z)⟩
  have v1 : ∀ b, b = 389 ∨ b = 1092 ∨ b = 1093 → sm σ5 (uI σ13 0 8 (sI σ13 (cA s) 4)) b := fun b hb => sm_trans (b2' b (by omega)) (g b (by omega) (by omega))
  exact ⟨((v1 389 (by decide) 4).2.2).trans a3.1, ((v1 389 (by decide) 5).2.2).trans a3.2.1, ((v1 389 (by decide) 3).1).trans a3.2.2.1, a3.2.2.2.sm (v1 _ (by decide)) (v1 _ (by decide))⟩
/-! many -/
def mnS (D : List Dc) (w : Int32) : mm_R := if w < 0 ∨ 2 < w then .inr IAE else .inl (some (.int (nI (cnt D w.toNatClampNeg))))
theorem w012 {w : Int32} (h0 : ¬ w < 0) (h2 : ¬ 2 < w) : w = 0 ∨ w = 1 ∨ w = 2 := by
  obtain ⟨k, hk, rfl⟩ := nI_of h0
  have : ¬ 2 < k := fun z => h2 ((ltI (a := 2) (by decide) hk).mpr z)
  have : k = 0 ∨ k = 1 ∨ k = 2 := by omega
  rcases this with z | z | z <;> subst z
  · exact Or.inl rfl
  · exact Or.inr (Or.inl rfl)
  · exact Or.inr (Or.inr rfl)
theorem X11_many {s : Nat} {σ : SG} {T : List Nat} {D : List Dc} {w : Int32} (hs : s < 2) (h : CS σ (cA s) T D) : x_X11_many 0 (nI s) w σ = some (mnS D w, σ) := by
  have hcb := cA_cb (s := s)
  unfold x_X11_many x_X11_many_19 x_X11_many_47 mnS
  rw [cOf hs, b1_eq, if_neg (by intro z; cases z)]
  by_cases q0 : w < 0
  · rw [if_pos q0, if_pos (Or.inl q0)]; try rfl
  rw [if_neg q0]
  by_cases q2 : 2 < w
  · rw [if_pos q2, if_pos (Or.inr q2)]; try rfl
  rw [if_neg q2, if_neg (show ¬ (w < 0 ∨ 2 < w) from fun z => z.elim q0 q2)]
  have e : ∀ k, k < 5 → (ck 2 (some (cA s)) fun q7 => b1 (x_X2_schema q7 σ) fun v11 => ck 6 v11 fun q12 => b1 (x_X6_count q12 (nI k) σ) fun v16 => some ((.inl (some (.int v16)) : mm_R), σ)) = some (.inl (some (.int (nI (cnt D k)))), σ) := fun k hk => by
    rw [ck_eq (cb_sh hcb).2.2.2.2, show x_X2_schema (cA s) σ = some (some (cA s + 1)) from rfl, b1_eq, ck_eq (cb_sh hcb).2.2.1, X6_count h.2.2.2 hk, b1_eq]
  rcases w012 q0 q2 with z | z | z <;> subst z
  · rw [if_pos rfl]; exact e 0 (by decide)
  · rw [if_neg (by decide), if_pos rfl]; exact e 1 (by decide)
  · rw [if_neg (by decide), if_neg (by decide)]; exact e 2 (by decide)
/-- what the reference tells of a throw -/
def thS (r : mm_R) : Int32 := match r with
  | .inl _ => 0
  | .inr _ => 1
theorem N_many {s : Nat} {σ : SG} {T : List Nat} {D : List Dc} {w : Int32} (hs : s < 2) (h : RS σ s T D) : ∃ v, x_X12_many 1101 (nI s) w σ = some (v, uI σ 1101 5 (thS (mnS D w))) ∧ (mnS D w = .inl (some (.int v)) ∨ ∃ E, mnS D w = .inr E) := by
  unfold x_X12_many x_X12_many_21 x_X12_many_22 mnS
  rw [isSchema_s hs, b1_eq, if_neg (by decide)]
  by_cases q0 : w < 0
  · rw [if_pos q0, if_pos (Or.inl q0), sb_eq, sI_s, if_neg (by decide)]; exact ⟨0, rfl, Or.inr ⟨_, rfl⟩⟩
  rw [if_neg q0]
  by_cases q2 : 2 < w
  · rw [if_pos q2, if_pos (Or.inr q2), sb_eq, sI_s, if_neg (by decide)]; exact ⟨0, rfl, Or.inr ⟨_, rfl⟩⟩
  rw [if_neg q2, if_neg (show ¬ (w < 0 ∨ 2 < w) from fun z => z.elim q0 q2), sb_eq, sI_s, if_pos rfl]
  rcases w012 q0 q2 with z | z | z <;> subst z
  · rw [if_pos rfl, ix_in hs (by decide), sI_o (Or.inl (by decide)), h.2.1 0 (by decide)]; exact ⟨_, rfl, Or.inl rfl⟩
  · rw [if_neg (by decide), if_pos rfl, ix_in hs (by decide), sI_o (Or.inl (by decide)), h.2.1 1 (by decide)]; exact ⟨_, rfl, Or.inl rfl⟩
  · rw [if_neg (by decide), if_neg (by decide), ix_in hs (by decide), sI_o (Or.inl (by decide)), h.2.1 2 (by decide)]; exact ⟨_, rfl, Or.inl rfl⟩
/-! ===== a good schema; asking the class ===== -/
def GSc (T : List Nat) (D : List Dc) : Prop := WF D ∧ D.length < 180 ∧ GD T (wl T 701 0) D ∧ lim D = true ∧ okA (lkC T D) T (wl T 701 0) D = true ∧ ok8 T ∧ T.length ≤ 700
theorem GSc_nil : GSc [] [] := ⟨WF_nil, by decide, fun i d hd => by simp at hd, by decide, okA_iff.mpr (fun k d hd => by simp at hd), fun c hc => by simp at hc, by decide⟩
theorem GSc_scm {T : List Nat} {D : List Dc} (h8 : ok8 T) (hl : T.length ≤ 700) (h : scm T = some D) : GSc T D := by
  unfold scm at h
  cases hdc : dcl T with
  | none => rw [hdc] at h; cases h
  | some E =>
    rw [hdc] at h
    simp only at h
    obtain ⟨hG, hW, hDl⟩ := dcl_GD h8 hl hdc
    cases q : (okA (lkC T E) T (wl T 701 0) E && lim E) with
    | false => rw [q] at h; cases h
    | true =>
      rw [q] at h
      cases h
      rw [Bool.and_eq_true] at q
      exact ⟨hW, hDl, hG, q.2, q.1, h8, hl⟩
theorem GSc.all {T : List Nat} {D : List Dc} (h : GSc T D) : (∀ (k : Nat) (d : Dc), D[k]? = some d → tkn T D k d = false) ∧ ((∀ (i : Nat) (d : Dc), D[i]? = some d → dK d = 2 → gdF D i d) ∧ ∀ (i : Nat) (d : Dc), D[i]? = some d → dK d = 3 → gdV D i d) ∧ ∀ (i : Nat) (d : Dc), D[i]? = some d → dK d = 2 → okT (lkC T D) T (wl T 701 0) D d = true ∧ okP (lkC T D) T (wl T 701 0) D d = true := (okA_split h.1 h.2.2.1).mp h.2.2.2.2.1
theorem GSc.N {T : List Nat} {D : List Dc} (h : GSc T D) : GNs T D := fun i d hd => (h.2.2.1 i d hd).1
theorem GSc.fld {T : List Nat} {D : List Dc} (h : GSc T D) {i : Nat} {d : Dc} (hd : D[i]? = some d) (h2 : dK d = 2) : (dN d).1 = false ∧ 1 ≤ (dN d).2 ∧ (dN d).2 ≤ 536870911 ∧ dT d ≤ 13 ∧ dP d ≤ 2 ∧ (dR d = true → dO d = none) := by
  have g := (h.2.2.1 i d hd).2.1
  have g2 := g.2.2.1 h2
  have hn := of_decide_eq_true ((h.all.2.1.1 i d hd h2).1)
  exact ⟨g2.1, hn.1, hn.2.1, g2.2.1, g.2.1, g.2.2.2.2⟩
/-- a declaration's number, without its sign -/
def nmn (D : List Dc) (i : Nat) : Nat := match D[i]? with
  | some d => (dN d).2
  | none => 0
theorem nmn_some {D : List Dc} {i : Nat} {d : Dc} (h : D[i]? = some d) : nmn D i = (dN d).2 := by unfold nmn; rw [h]
theorem GSc.nu {T : List Nat} {D : List Dc} (h : GSc T D) {i : Nat} {d : Dc} (hd : D[i]? = some d) (h2 : dK d = 2) : nLi D i = lN (nmn D i) ∧ nmn D i ≤ 536870911 ∧ 1 ≤ nmn D i := by
  have f := h.fld hd h2
  rw [nLi_some hd, nmn_some hd]
  refine ⟨?_, f.2.2.1, f.2.1⟩
  show nL (dN d) = _
  unfold nL
  rw [f.1]
  try rfl
def chF (D : List Dc) (a : Nat) : List Nat := chD D D.length a
def isM (D : List Dc) (m : Nat) : Prop := ∃ d, D[m]? = some d ∧ dK d = 0
def isF (D : List Dc) (m i : Nat) (d : Dc) : Prop := D[i]? = some d ∧ dK d = 2 ∧ dS d = some m
theorem chD_msg {T : List Nat} {D : List Dc} (h : GSc T D) {m k i : Nat} (hm : isM D m) : i ∈ chD D k m ↔ i < k ∧ ∃ d, isF D m i d := by
  rw [chD_mem]
  constructor
  · rintro ⟨h1, d, h2, h3 | h3⟩
    · exact ⟨h1, d, h2, h3.1, h3.2⟩
    · exfalso
      obtain ⟨e, he, _, y, hy, hy1⟩ := h.1.val h2 h3.1
      rw [h3.2] at he
      cases he
      obtain ⟨z, hz, hz0⟩ := hm
      rw [hy] at hz
      cases hz
      omega
  · rintro ⟨h1, d, h2, h3, h4⟩
    exact ⟨h1, d, h2, Or.inl ⟨h3, h4⟩⟩
theorem chF_mem {T : List Nat} {D : List Dc} (h : GSc T D) {m i : Nat} (hm : isM D m) : i ∈ chF D m ↔ ∃ d, isF D m i d := by
  unfold chF
  rw [chD_msg h hm]
  exact ⟨fun z => z.2, fun ⟨d, z⟩ => ⟨(List.getElem?_eq_some_iff.mp z.1).1, d, z⟩⟩
/-- numbers tell the fields of a message apart -/
theorem num_inj {T : List Nat} {D : List Dc} (h : GSc T D) {m i j : Nat} {d e : Dc} (hd : isF D m i d) (he : isF D m j e) (hn : (dN d).2 = (dN e).2) : i = j := by
  rcases Nat.lt_trichotomy i j with z | z | z
  · exact absurd hn ((h.all.2.1.1 j e he.1 he.2.1).2 i d z hd.1 hd.2.1 (hd.2.2.trans he.2.2.symm))
  · exact z
  · exact absurd hn.symm ((h.all.2.1.1 i d hd.1 hd.2.1).2 j e z he.1 he.2.1 (he.2.2.trans hd.2.2.symm))
theorem insN_cons {D : List Dc} {k a : Nat} {L : List Nat} : insN D k (a :: L) = if nLi D a < nLi D k then a :: insN D k L else k :: a :: L := by
  unfold insN
  rw [List.takeWhile_cons, List.dropWhile_cons]
  by_cases q : nLi D a < nLi D k
  · rw [if_pos q, decide_eq_true q, if_pos rfl, if_pos rfl]; try rfl
  · rw [if_neg q, decide_eq_false q, if_neg (by decide), if_neg (by decide)]; try rfl
def srt (D : List Dc) (L : List Nat) : Prop := L.Pairwise (fun i j => nmn D i < nmn D j)
theorem insN_srt {D : List Dc} {k : Nat} (hk : nLi D k = lN (nmn D k)) (hkb : nmn D k ≤ 536870911) : ∀ (L : List Nat), srt D L → (∀ i ∈ L, nLi D i = lN (nmn D i) ∧ nmn D i ≤ 536870911 ∧ nmn D i ≠ nmn D k) → srt D (insN D k L) := by
  intro L
  induction L with
  | nil => intro _ _; exact List.pairwise_singleton _ _
  | cons a L ih =>
    intro hs ha
    obtain ⟨a1, a2, a3⟩ := ha a (List.mem_cons_self ..)
    obtain ⟨h1, h2⟩ := List.pairwise_cons.mp hs
    rw [insN_cons, a1, hk]
    have lt : lN (nmn D a) < lN (nmn D k) ↔ nmn D a < nmn D k := pk_lLT (by omega) (by omega)
    by_cases q : lN (nmn D a) < lN (nmn D k)
    · rw [if_pos q]
      refine List.pairwise_cons.mpr ⟨fun b hb => ?_, ih h2 (fun i hi => ha i (List.mem_cons_of_mem _ hi))⟩
      rcases mem_insN.mp hb with z | z
      · rw [z]; exact lt.mp q
      · exact h1 b z
    · rw [if_neg q]
      have hka : nmn D k < nmn D a := by
        have : ¬ nmn D a < nmn D k := fun z => q (lt.mpr z)
        omega
      refine List.pairwise_cons.mpr ⟨fun b hb => ?_, hs⟩
      rcases List.mem_cons.mp hb with z | z
      · rw [z]; exact hka
      · have := h1 b z; omega
theorem chD_srt {T : List Nat} {D : List Dc} (h : GSc T D) {m : Nat} (hm : isM D m) : ∀ k, srt D (chD D k m) := by
  intro k
  induction k with
  | zero => rw [chD]; exact List.Pairwise.nil
  | succ k ih =>
    rw [chD]
    cases e : D[k]? with
    | none => exact ih
    | some d =>
      simp only
      by_cases q : dK d = 2 ∧ dS d = some m
      · rw [if_pos q]
        have fk : isF D m k d := ⟨e, q.1, q.2⟩
        have hk := h.nu e q.1
        refine insN_srt hk.1 hk.2.1 _ ih (fun i hi => ?_)
        obtain ⟨hi1, x, hx⟩ := (chD_msg h hm).mp hi
        have hn := h.nu hx.1 hx.2.1
        refine ⟨hn.1, hn.2.1, fun z => ?_⟩
        rw [nmn_some hx.1, nmn_some e] at z
        have := num_inj h hx fk z
        omega
      · rw [if_neg q]
        by_cases q3 : dK d = 3 ∧ dO d = some m
        · exfalso
          obtain ⟨x, he, _, y, hy, hy1⟩ := h.1.val e q3.1
          rw [q3.2] at he
          cases he
          obtain ⟨z, hz, hz0⟩ := hm
          rw [hy] at hz
          cases hz
          omega
        · rw [if_neg q3]; exact ih
/-- how many of a sorted chain are below a number of it -/
theorem srt_rank {D : List Dc} : ∀ (L : List Nat), srt D L → ∀ k i, L[k]? = some i → (L.filter (fun j => decide (nmn D j < nmn D i))).length = k := by
  intro L
  induction L with
  | nil => intro _ k i h; simp at h
  | cons a L ih =>
    intro hs k i h
    obtain ⟨h1, h2⟩ := List.pairwise_cons.mp hs
    cases k with
    | zero =>
      simp at h
      subst h
      rw [List.filter_cons, if_neg (by rw [decide_eq_true_iff]; omega), List.filter_eq_nil_iff.mpr]
      · rfl
      · intro j hj
        rw [decide_eq_true_iff]
        have := h1 j hj
        omega
    | succ k =>
      have hi : L[k]? = some i := by simpa using h
      have := h1 i (List.mem_of_getElem? hi)
      rw [List.filter_cons, if_pos (decide_eq_true this), List.length_cons, ih h2 k i hi]
/-! asking the class -/
theorem CS.ch {σ : SG} {c : Nat} {T : List Nat} {D : List Dc} (h : CS σ c T D) {a : Nat} (ha : a < D.length) : LK σ c (chF D a) (sP σ (c + 5 + a) 15) := (h.2.2.1 a _ (List.getElem?_eq_getElem ha)).2.2
theorem CS.it {σ : SG} {c : Nat} {T : List Nat} {D : List Dc} (h : CS σ c T D) {i : Nat} {d : Dc} (hd : D[i]? = some d) : IS σ c (c + 5 + i) (cnt (D.take i) (dK d)) d ∧ sI σ (c + 5 + i) 8 = nI (dTy (lkC T D) T (wl T 701 0) D d) ∧ sP σ (c + 5 + i) 10 = ad c (dTg (lkC T D) T (wl T 701 0) D d) ∧ sI σ (c + 5 + i) 12 = zI (dPa (lkC T D) T (wl T 701 0) D d) := ⟨h.2.1.2.2 i d hd, (h.2.2.1 i d hd).2.1 (List.getElem?_eq_some_iff.mp hd).1⟩
theorem CS.lt {σ : SG} {c : Nat} {T : List Nat} {D : List Dc} (h : CS σ c T D) : D.length < 180 := h.2.1.2.1
theorem chF_len {D : List Dc} {a : Nat} (hl : D.length < 180) : (chF D a).length < 180 := by have := chD_len (D := D) (a := a) D.length; unfold chF; omega
theorem chF_lt {D : List Dc} {a i : Nat} (h : i ∈ chF D a) : i < D.length := (chD_lt h).2
theorem C_numbered {U c a : Nat} {σ : SG} {T : List Nat} {D : List Dc} {v : Int64} (hU : 4000 < U) (hcb : cb c) (h : CS σ c T D) (ha : a < D.length) : x_X3_memberNumbered U (c + 5 + a) v σ = some (ad c ((chF D a).find? (fun i => decide (nLi D i = v)))) :=
  X3_memberNumbered hU hcb h.2.1 (h.ch ha) (fun i hi => chF_lt hi) (by have := chF_len (a := a) h.lt; omega)
theorem X6_message_L {U c : Nat} {σ : SG} {T : List Nat} {D : List Dc} {x : Int32} (hcb : cb c) (h : CS σ c T D) (hW : WF D) : ∀ (j k U1 : Nat), k + j = D.length → j < U1 → x_X6_message_L2 U (c + 1) x σ U1 (nI k) = some (ad c (ff (fun i => decide (knd D i = 0 ∧ nI (cnt (D.take i) 0) = x)) ((List.range D.length).drop k) k)) := by
  have hl := h.lt
  have hJ := h.2.1
  intro j
  induction j with
  | zero =>
    intro k U1 hk hu
    obtain ⟨V, rfl⟩ : ∃ V, U1 = V + 1 := ⟨U1 - 1, by omega⟩
    rw [x_X6_message_L2, hJ.1, if_neg (fun q => by have := (ltI (by omega) (by omega)).mp q; omega), List.drop_eq_nil_of_le (by rw [List.length_range]; omega)]
    try rfl
  | succ j ih =>
    intro k U1 hk hu
    obtain ⟨V, rfl⟩ : ∃ V, U1 = V + 1 := ⟨U1 - 1, by omega⟩
    have hkl : k < D.length := by omega
    have hd := List.getElem?_eq_getElem hkl
    have hI := hJ.2.2 k _ hd
    have hk5 := hW.k5 hd
    have hr := ih (k + 1) V (by omega) (by omega)
    have hrg : (List.range D.length)[k]? = some k := List.getElem?_range hkl
    rw [x_X6_message_L2, hJ.1, if_pos ((ltI (by omega) (by omega)).mpr hkl), X6_item hJ.1 hl hkl, b1_eq, if_neg (by intro z; cases z), ck_eq (it_sh hcb (by omega)), hI.1, hI.2.1, ff_drop hrg]
    unfold x_X6_message_37
    rw [nI_1]
    by_cases q0 : dK D[k] = 0
    · rw [if_pos (show nI (dK D[k]) = 0 by rw [q0]; rfl), q0]
      by_cases q1 : nI (cnt (D.take k) 0) = x
      · rw [if_pos q1, decide_eq_true ⟨by rw [knd_some hd, q0], q1⟩, if_pos rfl]; try rfl
      · rw [if_neg q1, decide_eq_false (fun z => q1 z.2), if_neg (by decide)]; exact hr
    · rw [if_neg (show ¬ nI (dK D[k]) = 0 from fun z => q0 ((nI_eq (b := 0) (by omega) (by decide)).mp z)), decide_eq_false (fun z => q0 (by rw [← knd_some hd]; exact z.1)), if_neg (by decide)]; exact hr
/-- the message that a number tells -/
def msg (D : List Dc) (x : Int32) : Option Nat := ff (fun i => decide (knd D i = 0 ∧ nI (cnt (D.take i) 0) = x)) (List.range D.length) 0
theorem C_message {U c : Nat} {σ : SG} {T : List Nat} {D : List Dc} {x : Int32} (hU : 4000 < U) (hcb : cb c) (h : CS σ c T D) (hW : WF D) : x_X6_message U (c + 1) x σ = some (ad c (msg D x)) := by
  have hl := h.lt
  exact X6_message_L (U := U) (x := x) hcb h hW D.length 0 U (by omega) (by omega)
theorem msg_some {D : List Dc} {x : Int32} {m : Nat} (h : msg D x = some m) : isM D m ∧ x = nI (cnt (D.take m) 0) := by
  obtain ⟨i, a1, a2, _, _⟩ := ff_some _ _ _ h
  rw [Nat.sub_zero] at a1
  have hm := (List.getElem?_eq_some_iff.mp a1).1
  rw [List.length_range] at hm
  rw [List.getElem?_range hm] at a1
  cases a1
  have hz := of_decide_eq_true a2
  have hd := List.getElem?_eq_getElem hm
  rw [knd_some hd] at hz
  exact ⟨⟨_, hd, hz.1⟩, hz.2.symm⟩
theorem msg_none {D : List Dc} {x : Int32} (h : msg D x = none) : ∀ i d, D[i]? = some d → dK d = 0 → ¬ nI (cnt (D.take i) 0) = x := by
  intro i d hd h0 hx
  have hi := (List.getElem?_eq_some_iff.mp hd).1
  have := ff_none _ _ h i (List.mem_range.mpr hi)
  exact of_decide_eq_false this ⟨by rw [knd_some hd]; exact h0, hx⟩
/-- a number tells a message when it is one of theirs -/
theorem msg_iff {D : List Dc} {x : Int32} (hl : D.length < 180) : (msg D x).isSome = true ↔ ¬ x < 0 ∧ x < nI (cnt D 0) := by
  have hcl := cnt_le D 0
  cases e : msg D x with
  | some m =>
    obtain ⟨⟨d, hd, h0⟩, hx⟩ := msg_some e
    have hc := cnt_take_lt hd h0
    refine ⟨fun _ => ?_, fun _ => rfl⟩
    rw [hx]
    exact ⟨nI_neg (by omega), (ltI (by omega) (by omega)).mpr hc⟩
  | none =>
    refine ⟨fun z => (by cases z), fun z => ?_⟩
    exfalso
    obtain ⟨j, hj, rfl⟩ := nI_of z.1
    have hjc := (ltI hj (by omega)).mp z.2
    obtain ⟨i, d, hd, h0, hi⟩ := plc (D := D) (q := 0) j hjc
    exact msg_none e i d hd h0 (by rw [hi])
/-- the class's member at a place -/
theorem X3_memberAt_L {U c a : Nat} {σ : SG} {D : List Dc} {k : Nat} (hcb : cb c) (hl : D.length < 180) (hk : k < 2 ^ 31) : ∀ (L : List Nat) (p : Option Nat) (U1 j : Nat), LK σ c L p → (∀ i ∈ L, i < D.length) → L.length < U1 → j ≤ k → x_X3_memberAt_L15 U a (nI k) σ U1 p (nI j) = some (ad c (L[k - j]?)) := by
  intro L
  induction L with
  | nil =>
    intro p U1 j h _ hu hj
    obtain ⟨V, rfl⟩ : ∃ V, U1 = V + 1 := ⟨U1 - 1, by simp at hu; omega⟩
    rw [x_X3_memberAt_L15, show p = none from h]
    by_cases q : nI j < nI k
    · rw [if_pos q, if_pos rfl]; try rfl
    · rw [if_neg q]; try rfl
  | cons i L ih =>
    intro p U1 j h hb hu hj
    rw [List.length_cons] at hu
    obtain ⟨V, rfl⟩ : ∃ V, U1 = V + 1 := ⟨U1 - 1, by omega⟩
    have hi := hb i (List.mem_cons_self ..)
    obtain ⟨h1, h2⟩ := h
    rw [x_X3_memberAt_L15, h1, ifd (ltI (by omega) hk)]
    by_cases q : j < k
    · rw [if_pos q, if_neg (by intro z; cases z), ck_eq (it_sh hcb (by omega)), nI_1, ih _ V (j + 1) h2 (fun j hj => hb j (List.mem_cons_of_mem _ hj)) (by omega) (by omega), show k - j = (k - (j + 1)) + 1 by omega, List.getElem?_cons_succ]
    · rw [if_neg q, show k - j = 0 by omega]; try rfl
/-- the member at a number's place -/
def mAt (L : List Nat) (x : Int32) : Option Nat := if x < 0 then none else L[x.toNatClampNeg]?
theorem C_memberAt {U c a : Nat} {σ : SG} {T : List Nat} {D : List Dc} {x : Int32} (hU : 4000 < U) (hcb : cb c) (h : CS σ c T D) (ha : a < D.length) : x_X3_memberAt U (c + 5 + a) x σ = some (ad c (mAt (chF D a) x)) := by
  have hl := h.lt
  have hch := chF_len (a := a) hl
  unfold x_X3_memberAt x_X3_memberAt_12 mAt
  by_cases q : x < 0
  · rw [if_pos q, if_pos q]
    obtain ⟨V, rfl⟩ : ∃ V, U = V + 1 := ⟨U - 1, by omega⟩
    rw [x_X3_memberAt_L15, if_neg (show ¬ (0 : Int32) < x from fun z => by
      have := Int32.lt_trans z q
      exact absurd this (by decide))]
    try rfl
  · rw [if_neg q, if_neg q]
    obtain ⟨k, hk, rfl⟩ := nI_of q
    rw [nI_clamp hk]
    have := X3_memberAt_L (U := U) (a := c + 5 + a) hcb hl hk (chF D a) _ U 0 (h.ch ha) (fun i hi => chF_lt hi) (by omega) (Nat.zero_le _)
    exact this
/-! ===== asking the reference ===== -/
/-- a field's index in the reference -/
def fIx (D : List Dc) (s : Nat) (o : Option Nat) : Int32 := match o with
  | none => -1
  | some i => nI (60 * s + cnt (D.take i) 2)
theorem find_ff {D : List Dc} {L : List Nat} {p : Nat → Bool} {P : Dc → Bool} (h1 : ∀ (i : Nat) (d : Dc), D[i]? = some d → P d = true → i ∈ L) (h2 : ∀ i ∈ L, ∃ d, D[i]? = some d ∧ p i = P d) (h3 : ∀ (i j : Nat) (d e : Dc), D[i]? = some d → D[j]? = some e → P d = true → P e = true → i = j) : L.find? p = ff P D 0 := by
  cases e : L.find? p with
  | none =>
    rw [ff_no]
    intro x hx
    obtain ⟨i, hi⟩ := List.getElem?_of_mem hx
    cases hP : P x with
    | false => rfl
    | true =>
      exfalso
      have hm := h1 i x hi hP
      obtain ⟨d, hd, hp⟩ := h2 i hm
      rw [hi] at hd
      cases hd
      have := List.find?_eq_none.mp e i hm
      rw [hp, hP] at this
      exact this rfl
  | some i =>
    have hm := List.mem_of_find?_eq_some e
    have hpi := List.find?_some e
    obtain ⟨d, hd, hp⟩ := h2 i hm
    rw [hpi] at hp
    rw [ff_here D 0 i d hd hp.symm (fun j x hj hx => by
      cases hP : P x with
      | false => rfl
      | true => have := h3 j i x d hx hd hP hp.symm; omega), Nat.zero_add]
theorem isM_oq {D : List Dc} {m : Nat} {o : Option Nat} (hl : D.length < 180) (hm : isM D m) (ho : ∀ j, o = some j → ∃ d, D[j]? = some d ∧ dK d = 0) : oq D 0 o = nI (cnt (D.take m) 0) ↔ o = some m := by
  have := oq_inj (o := o) (o' := some m) hl ho (fun j hj => by cases hj; exact hm)
  exact this
theorem N_isMessage {s : Nat} {σ : SG} {T : List Nat} {D : List Dc} {x : Int32} (hs : s < 2) (hl : D.length < 180) (h : RS σ s T D) : x_X12_isMessage 1101 (nI s) x σ = some (zI (msg D x).isSome) := by
  unfold x_X12_isMessage
  rw [isSchema_s hs, b1_eq, if_neg (by decide)]
  have hm := msg_iff (x := x) hl
  by_cases q : x < 0
  · rw [if_pos q]
    cases e : (msg D x).isSome with
    | true => exact absurd q (hm.mp e).1
    | false => rfl
  · rw [if_neg q, ix_in hs (by decide), show sI σ 1104 s = nI (cnt D 0) from h.2.1 0 (by decide)]
    by_cases q2 : x < nI (cnt D 0)
    · rw [if_pos q2, hm.mpr ⟨q, q2⟩]; try rfl
    · rw [if_neg q2]
      cases e : (msg D x).isSome with
      | true => exact absurd (hm.mp e).2 q2
      | false => rfl
/-- a field of a message with a number -/
def pNb (m : Nat) (v : Int32) (d : Dc) : Bool := decide (dK d = 2 ∧ dS d = some m ∧ nI (dN d).2 = v)
theorem pNb_find {T : List Nat} {D : List Dc} {m : Nat} {v : Int32} (hg : GSc T D) (hm : isM D m) : (chF D m).find? (fun i => decide (nI (nmn D i) = v)) = ff (pNb m v) D 0 := by
  refine find_ff (fun i d hd hp => ?_) (fun i hi => ?_) (fun i j d e hd he hp hq => ?_)
  · have := of_decide_eq_true hp
    exact (chF_mem hg hm).mpr ⟨d, hd, this.1, this.2.1⟩
  · obtain ⟨d, hd, h2, h3⟩ := (chF_mem hg hm).mp hi
    refine ⟨d, hd, ?_⟩
    unfold pNb
    rw [nmn_some hd]
    by_cases q : nI (dN d).2 = v
    · rw [decide_eq_true q, decide_eq_true ⟨h2, h3, q⟩]
    · rw [decide_eq_false q, decide_eq_false (fun z => q z.2.2)]
  · have a := of_decide_eq_true hp
    have b := of_decide_eq_true hq
    have fa := hg.fld hd a.1
    have fb := hg.fld he b.1
    refine num_inj hg ⟨hd, a.1, a.2.1⟩ ⟨he, b.1, b.2.1⟩ ?_
    exact (nI_eq (by omega) (by omega)).mp (a.2.2.trans b.2.2.symm)
theorem N_fieldNumbered_L {U s m : Nat} {σ : SG} {T : List Nat} {D : List Dc} {v : Int32} (hs : s < 2) (h80 : sI σ 1101 80 = nI s) (hg : GSc T D) (h : RS σ s T D) (hm : isM D m) : ∀ (j g U1 : Nat), g + j = cnt D 2 → j < U1 → (∀ (i : Nat) (d : Dc), D[i]? = some d → dK d = 2 → cnt (D.take i) 2 < g → pNb m v d = false) →
    x_X12_fieldNumbered_L8 U 1101 (nI (cnt (D.take m) 0)) v σ U1 (nI (60 * s + g)) = some (fIx D s (ff (pNb m v) D 0)) := by
  have hl := hg.2.1
  obtain ⟨l0, l1, l2, l3, l4, l5⟩ := lim_of h.1
  have hc : sI σ 1106 s = nI (cnt D 2) := h.2.1 2 (by decide)
  intro j
  induction j with
  | zero =>
    intro g U1 hgj hu hall
    obtain ⟨V, rfl⟩ : ∃ V, U1 = V + 1 := ⟨U1 - 1, by omega⟩
    rw [x_X12_fieldNumbered_L8, h80, ix_in hs (by decide), show (60 : Int32) = nI 60 from rfl, pk_mul, hc, nI_add, if_neg (fun q => by have := (ltI (by omega) (by omega)).mp q; omega), ff_no]
    · rfl
    · intro x hx
      obtain ⟨i, hi⟩ := List.getElem?_of_mem hx
      by_cases z : dK x = 2
      · exact hall i x hi z (by have := cnt_take_lt hi z; omega)
      · exact decide_eq_false (fun y => z y.1)
  | succ j ih =>
    intro g U1 hgj hu hall
    obtain ⟨V, rfl⟩ : ∃ V, U1 = V + 1 := ⟨U1 - 1, by omega⟩
    obtain ⟨i, d, hd, hk, hi⟩ := plc (D := D) (q := 2) g (by omega)
    have row := (h.2.2 i d hd).2.2.1 hk
    rw [hi] at row
    rw [x_X12_fieldNumbered_L8, h80, ix_in hs (by decide), show (60 : Int32) = nI 60 from rfl, pk_mul, hc, nI_add, if_pos ((ltI (by omega) (by omega)).mpr (by omega)), ix_in (by omega) (by decide), row.1, ifd (isM_oq hl hm (hg.1.scK hd)), ix_in (by omega) (by decide), row.2.2.1]
    unfold x_X12_fieldNumbered_51
    rw [nI_1]
    have go : pNb m v d = false → x_X12_fieldNumbered_L8 U 1101 (nI (cnt (D.take m) 0)) v σ V (nI (60 * s + g + 1)) = some (fIx D s (ff (pNb m v) D 0)) := by
      intro hp
      refine ih (g + 1) V (by omega) (by omega) (fun i' d' h2 h3 h4 => ?_)
      by_cases z : cnt (D.take i') 2 = g
      · have := ord_inj h2 h3 hd hk (by omega)
        subst this
        rw [hd] at h2
        cases h2
        exact hp
      · exact hall i' d' h2 h3 (by omega)
    by_cases q1 : dS d = some m
    · rw [if_pos q1]
      by_cases q2 : nI (dN d).2 = v
      · rw [if_pos q2]
        have hff := ff_here (p := pNb m v) D 0 i d hd (decide_eq_true ⟨hk, q1, q2⟩) (fun j' x hj' hx => by
          by_cases z : dK x = 2
          · exact hall j' x hx z (by have := cnt_lt_of hx z hj'; omega)
          · exact decide_eq_false (fun y => z y.1))
        rw [hff, Nat.zero_add]
        unfold fIx
        simp only
        rw [hi]
      · rw [if_neg q2]
        exact go (decide_eq_false (fun z => q2 z.2.2))
    · rw [if_neg q1]
      exact go (decide_eq_false (fun z => q1 z.2.1))
theorem N_fieldNumbered {U s m : Nat} {σ : SG} {T : List Nat} {D : List Dc} {v : Int32} (hU : 4000 < U) (hs : s < 2) (h80 : sI σ 1101 80 = nI s) (hg : GSc T D) (h : RS σ s T D) (hm : isM D m) : x_X12_fieldNumbered U 1101 (nI (cnt (D.take m) 0)) v σ = some (fIx D s ((chF D m).find? (fun i => decide (nI (nmn D i) = v)))) := by
  have hl := hg.2.1
  have hcl := cnt_le D 2
  unfold x_X12_fieldNumbered
  rw [h80, show (60 : Int32) = nI 60 from rfl, pk_mul, pNb_find hg hm]
  exact N_fieldNumbered_L hs h80 hg h hm (cnt D 2) 0 U (by omega) (by omega) (fun i d _ _ z => by omega)
theorem N_freshNumbered_L {U  m : Nat} {σ : SG} {T : List Nat} {D : List Dc} {v : Int32} (hU : 4000 < U) (hg : GSc T D) (h : RS σ 1 T D) (hm : isM D m) : ∀ (j g U1 : Nat), g + j = cnt D 2 → j < U1 → (∀ (i : Nat) (d : Dc), D[i]? = some d → dK d = 2 → cnt (D.take i) 2 < g → pNb m v d = false) →
    x_X12_freshNumbered_L3 U 1101 (nI (cnt (D.take m) 0)) v σ U1 (nI (60 * 1 + g)) = some (fIx D 1 (ff (pNb m v) D 0)) := by
  have hl := hg.2.1
  obtain ⟨l0, l1, l2, l3, l4, l5⟩ := lim_of h.1
  have hc : sI σ 1106 1 = nI (cnt D 2) := h.2.1 2 (by decide)
  intro j
  induction j with
  | zero =>
    intro g U1 hgj hu hall
    obtain ⟨V, rfl⟩ : ∃ V, U1 = V + 1 := ⟨U1 - 1, by omega⟩
    rw [x_X12_freshNumbered_L3, show ix 1 2 = ix (nI 1) 2 from rfl, ix_in (show 1 < 2 by decide) (by decide), show (60 : Int32) = nI 60 from rfl, hc, nI_add, if_neg (fun q => by have := (ltI (by omega) (by omega)).mp q; omega), ff_no]
    · rfl
    · intro x hx
      obtain ⟨i, hi⟩ := List.getElem?_of_mem hx
      by_cases z : dK x = 2
      · exact hall i x hi z (by have := cnt_take_lt hi z; omega)
      · exact decide_eq_false (fun y => z y.1)
  | succ j ih =>
    intro g U1 hgj hu hall
    obtain ⟨V, rfl⟩ : ∃ V, U1 = V + 1 := ⟨U1 - 1, by omega⟩
    obtain ⟨i, d, hd, hk, hi⟩ := plc (D := D) (q := 2) g (by omega)
    have row := (h.2.2 i d hd).2.2.1 hk
    rw [hi] at row
    rw [x_X12_freshNumbered_L3, show ix 1 2 = ix (nI 1) 2 from rfl, ix_in (show 1 < 2 by decide) (by decide), show (60 : Int32) = nI 60 from rfl, hc, nI_add, if_pos ((ltI (by omega) (by omega)).mpr (by omega)), ix_in (by omega) (by decide), row.1, ifd (isM_oq hl hm (hg.1.scK hd)), ix_in (by omega) (by decide), row.2.2.1]
    unfold x_X12_freshNumbered_38
    rw [nI_1]
    have go : pNb m v d = false → x_X12_freshNumbered_L3 U 1101 (nI (cnt (D.take m) 0)) v σ V (nI (60 * 1 + g + 1)) = some (fIx D 1 (ff (pNb m v) D 0)) := by
      intro hp
      refine ih (g + 1) V (by omega) (by omega) (fun i' d' h2 h3 h4 => ?_)
      by_cases z : cnt (D.take i') 2 = g
      · have := ord_inj h2 h3 hd hk (by omega)
        subst this
        rw [hd] at h2
        cases h2
        exact hp
      · exact hall i' d' h2 h3 (by omega)
    by_cases q1 : dS d = some m
    · rw [if_pos q1]
      by_cases q2 : nI (dN d).2 = v
      · rw [if_pos q2]
        have hff := ff_here (p := pNb m v) D 0 i d hd (decide_eq_true ⟨hk, q1, q2⟩) (fun j' x hj' hx => by
          by_cases z : dK x = 2
          · exact hall j' x hx z (by have := cnt_lt_of hx z hj'; omega)
          · exact decide_eq_false (fun y => z y.1))
        rw [hff, Nat.zero_add]
        unfold fIx
        simp only
        rw [hi]
      · rw [if_neg q2]
        exact go (decide_eq_false (fun z => q2 z.2.2))
    · rw [if_neg q1]
      exact go (decide_eq_false (fun z => q1 z.2.1))
theorem N_freshNumbered {U m : Nat} {σ : SG} {T : List Nat} {D : List Dc} {v : Int32} (hU : 4000 < U) (hg : GSc T D) (h : RS σ 1 T D) (hm : isM D m) : x_X12_freshNumbered U 1101 (nI (cnt (D.take m) 0)) v σ = some (fIx D 1 ((chF D m).find? (fun i => decide (nI (nmn D i) = v)))) := by
  have hl := hg.2.1
  have hcl := cnt_le D 2
  unfold x_X12_freshNumbered
  rw [pNb_find hg hm]
  exact N_freshNumbered_L hU hg h hm (cnt D 2) 0 U (by omega) (by omega) (fun i d _ _ z => by omega)
/-! the field at a place -/
theorem FQ_take {D : List Dc} {q k : Nat} {d : Dc} (hd : D[k]? = some d) : FQ (D.take (k + 1)) q = FQ (D.take k) q ++ (if dK d = q then [d] else []) := by
  rw [List.take_add_one, hd]
  unfold FQ
  have e : (some d).toList = [d] := rfl
  rw [e, List.filter_append, List.filter_cons]
  by_cases z : dK d = q
  · rw [if_pos (by have : d.1 = q := z; rw [this]; exact beq_self_eq_true q), if_pos z]; try rfl
  · rw [if_neg (by intro y; exact z (eq_of_beq y)), if_neg z]; try rfl
def pLs (m n : Nat) (d : Dc) : Bool := decide (dS d = some m ∧ (dN d).2 < n)
theorem chD_count {T : List Nat} {D : List Dc} (hg : GSc T D) {m n : Nat} (hm : isM D m) : ∀ k, k ≤ D.length → ((chD D k m).filter (fun j => decide (nmn D j < n))).length = (FQ (D.take k) 2).countP (pLs m n) := by
  intro k
  induction k with
  | zero => intro _; rw [chD, List.take_zero]; try rfl
  | succ k ih =>
    intro hk
    have hd := List.getElem?_eq_getElem (show k < D.length by omega)
    rw [FQ_take hd, List.countP_append, ← ih (by omega), chD, hd]
    simp only
    by_cases q : dK D[k] = 2 ∧ dS D[k] = some m
    · rw [if_pos q, if_pos q.1]
      unfold insN
      have hs := List.takeWhile_append_dropWhile (p := fun i => decide (nLi D i < nLi D k)) (l := chD D k m)
      generalize (chD D k m).takeWhile (fun i => decide (nLi D i < nLi D k)) = A at *
      generalize (chD D k m).dropWhile (fun i => decide (nLi D i < nLi D k)) = B at *
      rw [← hs, List.filter_append, List.filter_append, List.length_append, List.length_append, List.filter_cons, nmn_some hd, List.countP_singleton]
      unfold pLs
      by_cases z : (dN D[k]).2 < n
      · rw [decide_eq_true z, if_pos rfl, decide_eq_true ⟨q.2, z⟩, if_pos rfl, List.length_cons]; omega
      · rw [decide_eq_false z, if_neg (by decide), decide_eq_false (fun y => z y.2), if_neg (by decide)]; omega
    · rw [if_neg q]
      by_cases q3 : dK D[k] = 3 ∧ dO D[k] = some m
      · exfalso
        obtain ⟨x, he, _, y, hy, hy1⟩ := hg.1.val hd q3.1
        rw [q3.2] at he
        cases he
        obtain ⟨z, hz, hz0⟩ := hm
        rw [hy] at hz
        cases hz
        omega
      · rw [if_neg q3]
        by_cases q2 : dK D[k] = 2
        · rw [if_pos q2, List.countP_singleton]
          unfold pLs
          rw [decide_eq_false (fun z => q ⟨q2, z.1⟩), if_neg (by decide)]; try rfl
        · rw [if_neg q2]; try rfl
theorem N_fieldAt_in {U s m : Nat} {σ : SG} {T : List Nat} {D : List Dc} {x : Int32} {K : Int32 → Option Int32} {i : Nat} {d : Dc} (hs : s < 2) (hg : GSc T D) (h : RS σ s T D) (hm : isM D m) (hd : D[i]? = some d) (h2 : dK d = 2) : ∀ (j g U1 : Nat), g + j = cnt D 2 → j < U1 →
    x_X12_fieldAt_L42 U 1101 K (nI s) (nI (cnt (D.take m) 0)) x (nI (60 * s + cnt (D.take i) 2)) σ U1 (nI (((FQ D 2).take g).countP (pLs m (dN d).2))) (nI (60 * s + g)) = K (nI ((FQ D 2).countP (pLs m (dN d).2))) := by
  have hl := hg.2.1
  obtain ⟨l0, l1, l2, l3, l4, l5⟩ := lim_of h.1
  have hc : sI σ 1106 s = nI (cnt D 2) := h.2.1 2 (by decide)
  have hic := cnt_take_lt hd h2
  have rd := (h.2.2 i d hd).2.2.1 h2
  have fd := hg.fld hd h2
  intro j
  induction j with
  | zero =>
    intro g U1 hgj hu
    obtain ⟨V, rfl⟩ : ∃ V, U1 = V + 1 := ⟨U1 - 1, by omega⟩
    rw [x_X12_fieldAt_L42, ix_in hs (by decide), hc, show (60 : Int32) = nI 60 from rfl, pk_mul, nI_add, if_neg (fun q => by have := (ltI (by omega) (by omega)).mp q; omega), List.take_of_length_le (by rw [FQ_len]; omega)]
  | succ j ih =>
    intro g U1 hgj hu
    obtain ⟨V, rfl⟩ : ∃ V, U1 = V + 1 := ⟨U1 - 1, by omega⟩
    obtain ⟨k, e, he, hk, hkg⟩ := plc (D := D) (q := 2) g (by omega)
    have row := (h.2.2 k e he).2.2.1 hk
    have hq := FQ_get he hk
    rw [hkg] at row hq
    have fe := hg.fld he hk
    have nx := ih (g + 1) V (by omega) (by omega)
    rw [List.take_add_one, hq, List.countP_append, show (some e).toList = [e] from rfl, List.countP_singleton] at nx
    rw [x_X12_fieldAt_L42, ix_in hs (by decide), hc, show (60 : Int32) = nI 60 from rfl, pk_mul, nI_add, if_pos ((ltI (by omega) (by omega)).mpr (by omega)), ix_in (by omega) (by decide), row.1, ifd (isM_oq hl hm (hg.1.scK he)), ix_in (by omega) (by decide), ix_in (by omega) (by decide), row.2.2.1, rd.2.2.1, ifd (ltI (by omega) (by omega))]
    unfold x_X12_fieldAt_89
    rw [nI_1, nI_1]
    by_cases q1 : dS e = some m
    · rw [if_pos q1]
      by_cases q2 : (dN e).2 < (dN d).2
      · rw [if_pos q2]
        unfold pLs at nx ⊢
        rw [decide_eq_true ⟨q1, q2⟩, if_pos rfl] at nx
        exact nx
      · rw [if_neg q2]
        unfold pLs at nx ⊢
        rw [decide_eq_false (fun z => q2 z.2), if_neg (by decide), Nat.add_zero] at nx
        exact nx
    · rw [if_neg q1]
      unfold pLs at nx ⊢
      rw [decide_eq_false (fun z => q1 z.1), if_neg (by decide), Nat.add_zero] at nx
      exact nx
/-- a field's rank -/
theorem rank {T : List Nat} {D : List Dc} (hg : GSc T D) {m i : Nat} {d : Dc} (hm : isM D m) (hd : isF D m i d) : ∃ k, (chF D m)[k]? = some i ∧ (FQ D 2).countP (pLs m (dN d).2) = k := by
  have hi := (chF_mem hg hm).mpr ⟨d, hd⟩
  obtain ⟨k, hk⟩ := List.getElem?_of_mem hi
  refine ⟨k, hk, ?_⟩
  have := srt_rank _ (chD_srt hg hm D.length) k i hk
  rw [nmn_some hd.1] at this
  have e := chD_count hg (n := (dN d).2) hm D.length (Nat.le_refl _)
  rw [List.take_length] at e
  rw [← e]
  exact this
theorem N_fieldAt_L {U s m : Nat} {σ : SG} {T : List Nat} {D : List Dc} {x : Int32} (hU : 4000 < U) (hs : s < 2) (hg : GSc T D) (h : RS σ s T D) (hm : isM D m) : ∀ (j g U1 : Nat), g + j = cnt D 2 → j < U1 → (∀ i d, isF D m i d → cnt (D.take i) 2 < g → mAt (chF D m) x ≠ some i) →
    x_X12_fieldAt_L6 U 1101 (nI s) (nI (cnt (D.take m) 0)) x σ U1 (nI (60 * s + g)) = some (fIx D s (mAt (chF D m) x)) := by
  have hl := hg.2.1
  obtain ⟨l0, l1, l2, l3, l4, l5⟩ := lim_of h.1
  have hc : sI σ 1106 s = nI (cnt D 2) := h.2.1 2 (by decide)
  have hch := chF_len (a := m) hl
  intro j
  induction j with
  | zero =>
    intro g U1 hgj hu hall
    obtain ⟨V, rfl⟩ : ∃ V, U1 = V + 1 := ⟨U1 - 1, by omega⟩
    rw [x_X12_fieldAt_L6, ix_in hs (by decide), hc, show (60 : Int32) = nI 60 from rfl, pk_mul, nI_add, if_neg (fun q => by have := (ltI (by omega) (by omega)).mp q; omega)]
    cases e : mAt (chF D m) x with
    | none => rfl
    | some i =>
      exfalso
      have hi : i ∈ chF D m := by
        unfold mAt at e
        split at e
        · cases e
        · exact List.mem_of_getElem? e
      obtain ⟨d, hd⟩ := (chF_mem hg hm).mp hi
      exact hall i d hd (by have := cnt_take_lt hd.1 hd.2.1; omega) e
  | succ j ih =>
    intro g U1 hgj hu hall
    obtain ⟨V, rfl⟩ : ∃ V, U1 = V + 1 := ⟨U1 - 1, by omega⟩
    obtain ⟨i, d, hd, hk, hi⟩ := plc (D := D) (q := 2) g (by omega)
    have row := (h.2.2 i d hd).2.2.1 hk
    rw [hi] at row
    rw [x_X12_fieldAt_L6, ix_in hs (by decide), hc, show (60 : Int32) = nI 60 from rfl, pk_mul, nI_add, if_pos ((ltI (by omega) (by omega)).mpr (by omega)), ix_in (by omega) (by decide), row.1, ifd (isM_oq hl hm (hg.1.scK hd))]
    unfold x_X12_fieldAt_104
    rw [nI_1]
    have go : (dS d = some m → mAt (chF D m) x ≠ some i) → x_X12_fieldAt_L6 U 1101 (nI s) (nI (cnt (D.take m) 0)) x σ V (nI (60 * s + g + 1)) = some (fIx D s (mAt (chF D m) x)) := by
      intro hp
      refine ih (g + 1) V (by omega) (by omega) (fun i' d' h2 h4 => ?_)
      by_cases z : cnt (D.take i') 2 = g
      · have := ord_inj h2.1 h2.2.1 hd hk (by omega)
        subst this
        have h21 := h2.1
        rw [hd] at h21
        cases h21
        exact hp h2.2.2
      · exact hall i' d' h2 (by omega)
    by_cases q1 : dS d = some m
    · rw [if_pos q1]
      have hin := N_fieldAt_in (U := U) (x := x) (K := fun w30 => if w30 = x then (some (nI (60 * s + g))) else (x_X12_fieldAt_L6 U 1101 (nI s) (nI (cnt (D.take m) 0)) x σ V (nI (60 * s + g + 1)))) hs hg h hm hd hk (cnt D 2) 0 U (by omega) (by omega)
      rw [List.take_zero, show List.countP (pLs m (dN d).2) [] = 0 from rfl, hi, show nI 0 = 0 from rfl, show 60 * s + 0 = 60 * s from rfl] at hin
      rw [hin]
      obtain ⟨k, r1, r2⟩ := rank hg hm ⟨hd, hk, q1⟩
      have hkl := (List.getElem?_eq_some_iff.mp r1).1
      rw [r2]
      by_cases q2 : nI k = x
      · rw [if_pos q2, ← q2]
        have : mAt (chF D m) (nI k) = some i := by unfold mAt; rw [if_neg (nI_neg (by omega)), nI_clamp (by omega), r1]
        rw [this]
        unfold fIx
        simp only
        rw [hi]
      · rw [if_neg q2]
        refine go (fun _ z => q2 ?_)
        unfold mAt at z
        split at z
        · cases z
        · next hx =>
          obtain ⟨k', hk', rfl⟩ := nI_of hx
          rw [nI_clamp hk'] at z
          have hk2 := (List.getElem?_eq_some_iff.mp z).1
          have nd := chD_nodup (D := D) (a := m) D.length
          have := (List.getElem?_inj hkl nd).mp (r1.trans z.symm)
          rw [this]
    · rw [if_neg q1]
      exact go (fun z => absurd z q1)
theorem N_fieldAt {U s m : Nat} {σ : SG} {T : List Nat} {D : List Dc} {x : Int32} (hU : 4000 < U) (hs : s < 2) (hg : GSc T D) (h : RS σ s T D) (hm : isM D m) : x_X12_fieldAt U 1101 (nI s) (nI (cnt (D.take m) 0)) x σ = some (fIx D s (mAt (chF D m) x)) := by
  have hl := hg.2.1
  have hcl := cnt_le D 2
  unfold x_X12_fieldAt
  rw [show (60 : Int32) = nI 60 from rfl, pk_mul]
  exact N_fieldAt_L hU hs hg h hm (cnt D 2) 0 U (by omega) (by omega) (fun i d _ z => by omega)
/-! ===== the class's value: chains of nodes ===== -/
/-- an entry of a message's chain: its node, its field, the message it opens, its number, its text -/
abbrev Eg : Type := Nat × Option Nat × Nat × Int64 × List Nat
def eA (e : Eg) : Nat := e.1
def eF (e : Eg) : Option Nat := e.2.1
def eK (e : Eg) : Nat := e.2.2.1
def eV (e : Eg) : Int64 := e.2.2.2.1
def eT (e : Eg) : List Nat := e.2.2.2.2
def LN (σ : SG) : List Eg → Option Nat → Prop
  | [], p => p = none
  | e :: L, p => p = some (eA e) ∧ LN σ L (sP σ (eA e) 1)
theorem LN_keep {σ τ : SG} : ∀ (L : List Eg) (p : Option Nat), LN σ L p → (∀ e ∈ L, sP τ (eA e) 1 = sP σ (eA e) 1) → LN τ L p := by
  intro L
  induction L with
  | nil => intro p h _; exact h
  | cons i L ih =>
    intro p h hk
    refine ⟨h.1, ?_⟩
    rw [hk i (List.mem_cons_self ..)]
    exact ih _ h.2 (fun j hj => hk j (List.mem_cons_of_mem _ hj))
theorem LN_mid {σ : SG} {b : Eg} {B : List Eg} : ∀ (A : List Eg) (p : Option Nat), LN σ (A ++ b :: B) p → LN σ B (sP σ (eA b) 1) := by
  intro A
  induction A with
  | nil => intro p h; exact h.2
  | cons a A ih => intro p h; exact ih _ h.2
/-- what follows the last of a first piece is another piece now -/
theorem LN_cut {σ τ : SG} {b : Eg} {B B' : List Eg} (hb : LN τ B' (sP τ (eA b) 1)) : ∀ (A : List Eg) (p : Option Nat), LN σ (A ++ b :: B) p → (∀ e ∈ A, sP τ (eA e) 1 = sP σ (eA e) 1) → LN τ (A ++ b :: B') p := by
  intro A
  induction A with
  | nil => intro p h _; exact ⟨h.1, hb⟩
  | cons a A ih =>
    intro p h ha
    refine ⟨h.1, ?_⟩
    rw [ha a (List.mem_cons_self ..)]
    exact ih _ h.2 (fun i hi => ha i (List.mem_cons_of_mem _ hi))
/-- the last one's node, or what was told -/
def prN (o : Option Nat) (L : List Eg) : Option Nat := match L.getLast? with
  | none => o
  | some e => some (eA e)
theorem prN_cons (o : Option Nat) (i : Eg) (L : List Eg) : prN o (i :: L) = prN (some (eA i)) L := by
  unfold prN
  cases L with
  | nil => rfl
  | cons j L => rw [List.getLast?_cons_cons]; cases e : (j :: L).getLast? with
    | none => simp at e
    | some x => rfl
theorem prN_app (o : Option Nat) (A L : List Eg) : prN o (A ++ L) = prN (prN o A) L := by
  induction A generalizing o with
  | nil => rfl
  | cons a A ih => rw [List.cons_append, prN_cons, prN_cons, ih]
theorem listE_last {L : List Eg} : L = [] ∨ ∃ A b, L = A ++ [b] := by
  cases h : L.getLast? with
  | none => exact Or.inl (by simpa using h)
  | some b => exact Or.inr ⟨L.dropLast, b, by
      rcases List.getLast?_eq_some_iff.mp h with ⟨A, e⟩
      rw [e, List.dropLast_concat]⟩
theorem prN_last (o : Option Nat) (A : List Eg) (b : Eg) : prN o (A ++ [b]) = some (eA b) := by unfold prN; rw [List.getLast?_append]; try rfl
/-- the place of an entry in its chain -/
def key (D : List Dc) (o : Option Nat) : Nat := match o with
  | none => 9223372036854775807
  | some f => nmn D f
/-- a node of the class -/
theorem nd_sh {a : Nat} (h1 : 391 ≤ a) (h2 : a < 1092) : sh a = 4 := by
  unfold sh
  rw [if_neg (by omega), if_neg (by omega), if_neg (by omega), if_neg (by omega), if_neg (by omega), if_pos h2]
/-- an entry's field, as the class's node tells it -/
def EF (σ : SG) (c : Nat) (D : List Dc) (e : Eg) : Prop := 391 ≤ eA e ∧ eA e < 1091 ∧ sP σ (eA e) 0 = ad c (eF e) ∧ ∀ f, eF e = some f → ∃ d, D[f]? = some d ∧ dK d = 2
theorem key_lt {T : List Nat} {D : List Dc} (hg : GSc T D) {o : Option Nat} (ho : ∀ f, o = some f → ∃ d, D[f]? = some d ∧ dK d = 2) : key D o < 2 ^ 63 := by
  cases o with
  | none => exact (by decide : 9223372036854775807 < 2 ^ 63)
  | some f =>
    obtain ⟨d, h1, h2⟩ := ho f rfl
    have := (hg.nu h1 h2).2.1
    show nmn D f < 2 ^ 63
    omega
/-- the number by which an entry stands in its chain, as the class reads it -/
theorem C_key {α : Type} {c : Nat} {σ : SG} {T : List Nat} {D : List Dc} {o : Option Nat} {K : Int64 → Option α} (hcb : cb c) (hg : GSc T D) (hC : CS σ c T D) (ho : ∀ f, o = some f → ∃ d, D[f]? = some d ∧ dK d = 2) : (if ad c o = none then K 9223372036854775807 else ck 3 (ad c o) fun q => K (sL σ q 6)) = K (lN (key D o)) := by
  have hl := hg.2.1
  cases o with
  | none => rw [if_pos (show ad c none = none from rfl)]; try rfl
  | some f =>
    obtain ⟨d, h1, h2⟩ := ho f rfl
    have hf := (List.getElem?_eq_some_iff.mp h1).1
    rw [if_neg (by intro z; cases z), ad_some, ck_eq (it_sh hcb (by omega)), hC.2.1.num hf, (hg.nu h1 h2).1]
    try rfl
theorem X8_lastUpTo_L {U c : Nat} {σ : SG} {T : List Nat} {D : List Dc} {v : Nat} (hcb : cb c) (hg : GSc T D) (hC : CS σ c T D) (hv : v < 2 ^ 63) : ∀ (L : List Eg) (o p : Option Nat) (U1 : Nat), LN σ L p → (∀ e ∈ L, EF σ c D e) → L.length < U1 →
    x_X8_lastUpTo_L60 U 389 (lN v) σ U1 o p = some (prN o (L.takeWhile (fun e => decide (key D (eF e) ≤ v)))) := by
  intro L
  induction L with
  | nil =>
    intro o p U1 h _ hu
    obtain ⟨V, rfl⟩ : ∃ V, U1 = V + 1 := ⟨U1 - 1, by simp at hu; omega⟩
    rw [x_X8_lastUpTo_L60, show p = none from h, if_pos rfl]; try rfl
  | cons e L ih =>
    intro o p U1 h hb hu
    rw [List.length_cons] at hu
    obtain ⟨V, rfl⟩ : ∃ V, U1 = V + 1 := ⟨U1 - 1, by omega⟩
    obtain ⟨e1, e2, e3, e4⟩ := hb e (List.mem_cons_self ..)
    obtain ⟨h1, h2⟩ := h
    have hk := C_key (o := eF e) (K := fun s => x_X8_lastUpTo_87 U 389 (x_X8_lastUpTo_L60 U 389 (lN v) σ V) (lN v) o (some (eA e)) s σ) hcb hg hC e4
    rw [x_X8_lastUpTo_L60, h1, if_neg (by intro z; cases z), ck_eq (nd_sh e1 (by omega)), e3, hk]
    unfold x_X8_lastUpTo_87
    have kl := key_lt hg e4
    rw [ifd (pk_lLT hv kl), List.takeWhile_cons]
    by_cases q : v < key D (eF e)
    · rw [if_pos q, decide_eq_false (by omega), if_neg (by decide)]; try rfl
    · rw [if_neg q, decide_eq_true (by omega), if_pos rfl, ck_eq (nd_sh e1 (by omega)), prN_cons]
      exact ih _ _ V h2 (fun j hj => hb j (List.mem_cons_of_mem _ hj)) (by omega)
/-- a chain stands by its keys -/
def srE (D : List Dc) (L : List Eg) : Prop := L.Pairwise (fun e e' => key D (eF e) ≤ key D (eF e'))
theorem srE_tw {D : List Dc} {r : Eg} {B : List Eg} {v : Nat} (hr : key D (eF r) ≤ v) : ∀ (A : List Eg), srE D (A ++ r :: B) → (A ++ r :: B).takeWhile (fun e => decide (key D (eF e) ≤ v)) = A ++ r :: B.takeWhile (fun e => decide (key D (eF e) ≤ v)) := by
  intro A
  induction A with
  | nil => intro _; rw [List.nil_append, List.takeWhile_cons, decide_eq_true hr, if_pos rfl]; try rfl
  | cons a A ih =>
    intro h
    obtain ⟨h1, h2⟩ := List.pairwise_cons.mp h
    have := h1 r (by simp)
    rw [List.cons_append, List.takeWhile_cons, decide_eq_true (by omega), if_pos rfl, ih h2]
    try rfl
theorem X8_lastUpTo {U c h : Nat} {σ : SG} {T : List Nat} {D : List Dc} {v : Nat} {L : List Eg} (hU : 4000 < U) (hcb : cb c) (hg : GSc T D) (hC : CS σ c T D) (hv : v < 2 ^ 63) (hh : 391 ≤ h) (hh' : h < 1092) (hL : LN σ L (sP σ h 2)) (hE : ∀ e ∈ L, EF σ c D e) (hl : L.length ≤ 800) (hs : srE D L) (hr : sP σ h 3 = none ∨ ∃ e ∈ L, sP σ h 3 = some (eA e)) :
    x_X8_lastUpTo U 389 (some h) (lN v) σ = some (prN none (L.takeWhile (fun e => decide (key D (eF e) ≤ v)))) := by
  unfold x_X8_lastUpTo x_X8_lastUpTo_33
  have first : x_X8_lastUpTo_41 U 389 (some h) (lN v) none σ = some (prN none (L.takeWhile (fun e => decide (key D (eF e) ≤ v)))) := by
    unfold x_X8_lastUpTo_41 x_X8_lastUpTo_58
    rw [if_pos rfl, ck_eq (nd_sh hh hh')]
    exact X8_lastUpTo_L hcb hg hC hv L none _ U hL hE (by omega)
  rw [ck_eq (nd_sh hh hh')]
  rcases hr with hr | ⟨r, hrL, hr⟩
  · rw [if_pos hr, hr]; exact first
  · obtain ⟨e1, e2, e3, e4⟩ := hE r hrL
    rw [if_neg (by rw [hr]; intro z; cases z), hr, ck_eq (nd_sh e1 (by omega)), e3]
    have hk := C_key (o := eF r) (K := fun s => if lN v < s then x_X8_lastUpTo_41 U 389 (some h) (lN v) none σ else x_X8_lastUpTo_41 U 389 (some h) (lN v) (some (eA r)) σ) hcb hg hC e4
    rw [hk]
    have kl := key_lt hg e4
    rw [ifd (pk_lLT hv kl)]
    by_cases q : v < key D (eF r)
    · rw [if_pos q]; exact first
    · rw [if_neg q]
      unfold x_X8_lastUpTo_41 x_X8_lastUpTo_58
      rw [if_neg (by intro z; cases z), ck_eq (nd_sh e1 (by omega))]
      obtain ⟨A, B, hAB⟩ := List.append_of_mem hrL
      subst hAB
      rw [srE_tw (by omega) A hs, prN_app, prN_cons]
      refine X8_lastUpTo_L hcb hg hC hv B _ _ U (LN_mid A _ hL) (fun e he => hE e (by simp [he])) ?_
      rw [List.length_append, List.length_cons] at hl
      omega
/-! dropping rivals -/
/-- the other fields of a field's oneof -/
def riv (D : List Dc) (f : Nat) (d : Dc) (e : Eg) : Bool := match eF e with
  | none => false
  | some g => match D[g]? with
    | none => false
    | some x => decide (g ≠ f ∧ dO x = dO d)
theorem X8_drop_L {U c h f : Nat} {T : List Nat} {D : List Dc} {d : Dc} {K : SG → Option SG} (hcb : cb c) (hg : GSc T D) (hh : 391 ≤ h) (hh' : h < 1092) (hd : D[f]? = some d) : ∀ (R A : List Eg) (U1 : Nat) (σ : SG), CS σ c T D → LN σ (A ++ R) (sP σ h 2) → (∀ e ∈ A ++ R, EF σ c D e ∧ eA e ≠ h) → ((A ++ R).map eA).Nodup → R.length < U1 →
    ∃ τ, x_X8_dropRivals_L8 U 389 K (some h) (ad c (some f)) U1 (prN none A) (R.head?.map eA) σ = K τ ∧ LN τ (A ++ R.filter (fun e => !riv D f d e)) (sP τ h 2) ∧ fP (fun b k => (b = h ∧ k = 2) ∨ (k = 1 ∧ ∃ e ∈ A ++ R, b = eA e)) σ τ := by
  have hl := hg.2.1
  have hfl := (List.getElem?_eq_some_iff.mp hd).1
  intro R
  induction R with
  | nil =>
    intro A U1 σ hC hL hE hn hu
    obtain ⟨V, rfl⟩ : ∃ V, U1 = V + 1 := ⟨U1 - 1, by simp at hu; omega⟩
    rw [x_X8_dropRivals_L8, if_pos (show Option.map eA ([] : List Eg).head? = none from rfl)]
    exact ⟨σ, rfl, hL, fP_refl _ _⟩
  | cons e R ih =>
    intro A U1 σ hC hL hE hn hu
    rw [List.length_cons] at hu
    obtain ⟨V, rfl⟩ : ∃ V, U1 = V + 1 := ⟨U1 - 1, by omega⟩
    obtain ⟨⟨e1, e2, e3, e4⟩, e5⟩ := hE e (by simp)
    have hnx : sP σ (eA e) 1 = R.head?.map eA := by
      have := LN_mid A _ hL
      cases R with
      | nil => exact this
      | cons r R => exact this.1
    rw [x_X8_dropRivals_L8, if_neg (show ¬ Option.map eA (e :: R).head? = none by intro z; cases z), show Option.map eA (e :: R).head? = some (eA e) from rfl, ck_eq (nd_sh e1 (by omega)), e3]
    -- it stays
    have stay : riv D f d e = false → ∃ τ, x_X8_dropRivals_49 U 389 (x_X8_dropRivals_L8 U 389 K (some h) (ad c (some f)) V) K (some h) (ad c (some f)) (prN none A) (some (eA e)) σ = K τ ∧ LN τ (A ++ (e :: R).filter (fun e => !riv D f d e)) (sP τ h 2) ∧ fP (fun b k => (b = h ∧ k = 2) ∨ (k = 1 ∧ ∃ x ∈ A ++ e :: R, b = eA x)) σ τ := by
      intro hr
      unfold x_X8_dropRivals_49 x_X8_dropRivals_50 x_X8_dropRivals_88
      rw [if_pos rfl, ck_eq (nd_sh e1 (by omega)), hnx]
      have hAe : A ++ e :: R = (A ++ [e]) ++ R := by simp
      rw [hAe] at hL hE hn
      obtain ⟨τ, t1, t2, t3⟩ := ih (A ++ [e]) V σ hC hL hE hn (by omega)
      rw [prN_last] at t1
      refine ⟨τ, t1, ?_, ?_⟩
      · rw [List.filter_cons, hr, Bool.not_false, if_pos rfl]
        rw [List.append_assoc] at t2
        exact t2
      · rw [hAe]; exact t3
    -- it goes
    have go : riv D f d e = true → ∃ τ, x_X8_dropRivals_50 U 389 (x_X8_dropRivals_L8 U 389 K (some h) (ad c (some f)) V) K (some h) (ad c (some f)) (prN none A) (some (eA e)) 1 σ = K τ ∧ LN τ (A ++ (e :: R).filter (fun e => !riv D f d e)) (sP τ h 2) ∧ fP (fun b k => (b = h ∧ k = 2) ∨ (k = 1 ∧ ∃ x ∈ A ++ e :: R, b = eA x)) σ τ := by
      intro hr
      unfold x_X8_dropRivals_50 x_X8_dropRivals_88
      rw [if_neg (by decide)]
      have next : ∀ (υ : SG), CS υ c T D → LN υ (A ++ R) (sP υ h 2) → (∀ x ∈ A ++ R, EF υ c D x) → sP υ (eA e) 1 = sP σ (eA e) 1 → fP (fun b k => (b = h ∧ k = 2) ∨ (k = 1 ∧ ∃ x ∈ A ++ e :: R, b = eA x)) σ υ → ∃ τ, (ck 4 (some (eA e)) fun q10 => x_X8_dropRivals_L8 U 389 K (some h) (ad c (some f)) V (prN none A) (sP υ q10 1) υ) = K τ ∧ LN τ (A ++ (e :: R).filter (fun e => !riv D f d e)) (sP τ h 2) ∧ fP (fun b k => (b = h ∧ k = 2) ∨ (k = 1 ∧ ∃ x ∈ A ++ e :: R, b = eA x)) σ τ := by
        intro υ cυ lυ eυ n1 fυ
        rw [ck_eq (nd_sh e1 (by omega)), n1, hnx]
        have hn' : ((A ++ R).map eA).Nodup := by
          rw [List.map_append, List.map_cons] at hn
          rw [List.map_append]
          exact hn.sublist (List.Sublist.append_left (List.sublist_cons_self _ _) _)
        obtain ⟨τ, t1, t2, t3⟩ := ih A V υ cυ lυ (fun x hx => ⟨eυ x hx, (hE x (by
          rcases List.mem_append.mp hx with z | z
          · simp [z]
          · simp [z])).2⟩) hn' (by omega)
        refine ⟨τ, t1, ?_, fP_trans fυ (fP_mono t3 (fun b k z => ?_))⟩
        · rw [List.filter_cons, hr, Bool.not_true, if_neg (by decide)]; exact t2
        · rcases z with z | ⟨z, x, hx, y⟩
          · exact Or.inl z
          · refine Or.inr ⟨z, x, ?_, y⟩
            rcases List.mem_append.mp hx with w | w
            · simp [w]
            · simp [w]
      have ef : ∀ (a k : Nat) (v : Option Nat), k ≠ 0 → ∀ x ∈ A ++ R, EF (uP σ a k v) c D x := fun a k v hk x hx => by
        obtain ⟨⟨x1, x2, x3, x4⟩, _⟩ := hE x (by
          rcases List.mem_append.mp hx with w | w
          · simp [w]
          · simp [w])
        exact ⟨x1, x2, by rw [sP_o (Or.inr (fun z => hk z.symm))]; exact x3, x4⟩
      have cs : ∀ (a k : Nat) (v : Option Nat), 391 ≤ a → CS (uP σ a k v) c T D := fun a k v ha => by
        have hc : c = 5 ∨ c = 197 := hcb
        have g : ∀ b, b < 391 → sm σ (uP σ a k v) b := fun b hb => sm_uP (by omega)
        obtain ⟨k1, k2, k3, k4⟩ := hC
        refine ⟨k1.sm (g _ (by omega)) (g _ (by omega)), ⟨k2.1, k2.2.1, fun i d hd => ?_⟩, fun i d hd => ?_, k4⟩
        · have hi := (List.getElem?_eq_some_iff.mp hd).1
          exact IS_PJ (k2.2.2 i d hd) (fun j _ => g _ (by omega) j)
        · have hi := (List.getElem?_eq_some_iff.mp hd).1
          obtain ⟨j1, j2, j3⟩ := k3 i d hd
          have gi := g (c + 5 + i) (by omega)
          refine ⟨fun z => ?_, fun z => ?_, ?_⟩
          · rw [(gi 8).1, (gi 10).2.2, (gi 12).1, (gi 16).2.2]; exact j1 z
          · rw [(gi 8).1, (gi 10).2.2, (gi 12).1]; exact j2 z
          · rw [(gi 15).2.2]; exact LK_keep _ _ j3 (fun i' hi' => (g (c + 5 + i') (by have := (chD_lt hi').2; omega) 16).2.2)
      rcases listE_last (L := A) with hA | ⟨A', b, hA⟩
      · subst hA
        rw [if_pos (show prN none [] = none from rfl), ck_eq (nd_sh e1 (by omega)), ck_eq (nd_sh hh hh'), sb_eq]
        refine next _ (cs _ _ _ hh) ?_ (ef _ _ _ (by decide)) (sP_o (Or.inr (by decide))) (fun b' j hj => ⟨rfl, rfl, sP_o (ne2 (fun zy => hj (Or.inl zy)))⟩)
        rw [sP_s]
        exact LN_keep _ _ (LN_mid [] _ hL) (fun x hx => sP_o (Or.inr (by decide)))
      · subst hA
        obtain ⟨⟨x1, x2, x3, x4⟩, x5⟩ := hE b (by simp)
        have hbe : eA b ≠ eA e := by
          rw [List.map_append, List.map_append] at hn
          obtain ⟨_, _, n3⟩ := List.nodup_append.mp hn
          exact n3 (eA b) (by simp) (eA e) (by simp)
        rw [prN_last, if_neg (by intro z; cases z), ck_eq (nd_sh e1 (by omega)), ck_eq (nd_sh x1 (by omega)), sb_eq, ← prN_last none A' b]
        refine next _ (cs _ _ _ x1) ?_ (ef _ _ _ (by decide)) (sP_o (Or.inl (fun z => hbe z.symm))) (fun b' j hj => ⟨rfl, rfl, sP_o (ne2 (fun zy => hj (Or.inr ⟨zy.2, b, by simp, zy.1⟩)))⟩)
        rw [sP_o (Or.inr (by decide))]
        rw [List.append_assoc] at hL
        have hn2 : ((A' ++ b :: e :: R).map eA).Nodup := by rw [List.append_assoc] at hn; exact hn
        rw [List.map_append, List.map_cons] at hn2
        obtain ⟨m1, m2, m3⟩ := List.nodup_append.mp hn2
        obtain ⟨m4, m5⟩ := List.nodup_cons.mp m2
        rw [List.append_assoc]
        refine LN_cut (σ := σ) (B := e :: R) ?_ A' _ hL (fun x hx => sP_o (Or.inl (m3 _ (List.mem_map_of_mem hx) _ (List.mem_cons_self ..))))
        rw [sP_s]
        have hLe : LN σ R (sP σ (eA e) 1) := (LN_mid A' _ hL).2
        exact LN_keep _ _ hLe (fun x hx => sP_o (Or.inl (fun z => m4 (by rw [← z]; simp only [List.map_cons, List.mem_cons]; exact Or.inr (List.mem_map_of_mem hx)))))
    cases hF : eF e with
    | none =>
      rw [if_pos (show ad c none = none from rfl)]
      exact stay (by unfold riv; rw [hF])
    | some g =>
      obtain ⟨x, hx, hx2⟩ := e4 g hF
      have hgl := (List.getElem?_eq_some_iff.mp hx).1
      have hrv : riv D f d e = decide (g ≠ f ∧ dO x = dO d) := by unfold riv; rw [hF]; simp only; rw [hx]
      rw [if_neg (show ¬ ad c (some g) = none by intro z; cases z)]
      by_cases q : g = f
      · subst q
        rw [if_pos rfl]
        exact stay (by rw [hrv]; exact decide_eq_false (fun z => z.1 rfl))
      · rw [if_neg (fun z => q (by have := ad_inj.mp z; exact Option.some.inj this)), ad_some, ad_some, ck_eq (it_sh hcb (by omega)), ck_eq (it_sh hcb (by omega)), (hC.it hx).1.2.2.2.1, (hC.it hd).1.2.2.2.1, ifd ad_inj]
        by_cases q2 : dO x = dO d
        · rw [if_pos q2]; exact go (by rw [hrv]; exact decide_eq_true ⟨q, q2⟩)
        · rw [if_neg q2]; exact stay (by rw [hrv]; exact decide_eq_false (fun z => q2 z.2))
/-! ===== the class's value: putting one more ===== -/
theorem CS_sm {σ τ : SG} {c : Nat} {T : List Nat} {D : List Dc} (h : CS σ c T D) (g : ∀ b, c ≤ b → b ≤ c + 191 → sm σ τ b) : CS τ c T D := by
  obtain ⟨k1, k2, k3, k4⟩ := h
  have hl := k2.2.1
  refine ⟨k1.sm (g _ (by omega) (by omega)) (g _ (by omega) (by omega)), ⟨((g (c + 1) (by omega) (by omega)) 3).1.trans k2.1, hl, fun i d hd => ?_⟩, fun i d hd => ?_, fun k hk => ((g (c + 185) (by omega) (by omega)) k).1.trans (k4 k hk)⟩
  · have hi := (List.getElem?_eq_some_iff.mp hd).1
    exact IS_PJ (k2.2.2 i d hd) (fun j _ => g _ (by omega) (by omega) j)
  · have hi := (List.getElem?_eq_some_iff.mp hd).1
    obtain ⟨j1, j2, j3⟩ := k3 i d hd
    have gi := g (c + 5 + i) (by omega) (by omega)
    refine ⟨fun z => ?_, fun z => ?_, ?_⟩
    · rw [(gi 8).1, (gi 10).2.2, (gi 12).1, (gi 16).2.2]; exact j1 z
    · rw [(gi 8).1, (gi 10).2.2, (gi 12).1]; exact j2 z
    · rw [(gi 15).2.2]; exact LK_keep _ _ j3 (fun i' hi' => (g (c + 5 + i') (by omega) (by have := (chD_lt hi').2; omega) 16).2.2)
def fty (T : List Nat) (D : List Dc) (d : Dc) : Nat := dTy (lkC T D) T (wl T 701 0) D d
def ftg (T : List Nat) (D : List Dc) (d : Dc) : Option Nat := dTg (lkC T D) T (wl T 701 0) D d
def up {α : Type} (f : Nat → α) (d : Nat) (x : α) : Nat → α := fun t => if t = d then x else f t
theorem up_s {α : Type} (f : Nat → α) (d : Nat) (x : α) : up f d x d = x := if_pos rfl
theorem up_o {α : Type} {f : Nat → α} {d : Nat} {x : α} {t : Nat} (h : t ≠ d) : up f d x t = f t := if_neg h
/-- a value's shape: which message each opened one is, its node, its chain; how many; nodes used; texts -/
abbrev Gh : Type := (Nat → Nat) × (Nat → Nat) × (Nat → List Eg) × Nat × Nat × List Nat
def gN (G : Gh) : Nat → Nat := G.1
def gH (G : Gh) : Nat → Nat := G.2.1
def gL (G : Gh) : Nat → List Eg := G.2.2.1
def gC (G : Gh) : Nat := G.2.2.2.1
def gU (G : Gh) : Nat := G.2.2.2.2.1
def gP (G : Gh) : List Nat := G.2.2.2.2.2
def EO (σ : SG) (c : Nat) (T : List Nat) (D : List Dc) (G : Gh) (n : Nat) (e : Eg) : Prop := 391 ≤ eA e ∧ eA e < 391 + gU G ∧ sP σ (eA e) 0 = ad c (eF e) ∧ sL σ (eA e) 4 = eV e ∧ (∃ a b, sI σ (eA e) 5 = nI a ∧ sI σ (eA e) 6 = nI b ∧ a ≤ b ∧ b ≤ (gP G).length ∧ slc (gP G) a b = eT e) ∧ (eF e = none → sP σ (eA e) 2 = none ∧ ∀ n', n' < gC G → gH G n' ≠ eA e) ∧ ∀ f, eF e = some f → ∃ d, isF D (gN G n) f d ∧ (fty T D d ≠ 13 → sP σ (eA e) 2 = none ∧ ∀ n', n' < gC G → gH G n' ≠ eA e) ∧ (fty T D d = 13 → n < eK e ∧ eK e < gC G ∧ gH G (eK e) = eA e ∧ ftg T D d = some (gN G (eK e)))
/-- a field that stands once stands once in a chain -/
def unE (D : List Dc) (L : List Eg) : Prop := L.Pairwise (fun e e' => ∀ f d, eF e = some f → eF e' = some f → D[f]? = some d → dR d = true)
def VN (σ : SG) (c : Nat) (T : List Nat) (D : List Dc) (G : Gh) (n : Nat) : Prop := LN σ (gL G n) (sP σ (gH G n) 2) ∧ (sP σ (gH G n) 3 = none ∨ ∃ e ∈ gL G n, sP σ (gH G n) 3 = some (eA e)) ∧ srE D (gL G n) ∧ ((gL G n).map eA).Nodup ∧ unE D (gL G n) ∧ ∀ e ∈ gL G n, EO σ c T D G n e
/-- the value as the class holds it -/
def VG (σ : SG) (c : Nat) (T : List Nat) (D : List Dc) (G : Gh) : Prop := sI σ 389 3 = nI (gU G) ∧ gU G ≤ 700 ∧ RB σ 1092 (gP G) 0 ∧ 0 < gC G ∧ gH G 0 = 1091 ∧ (∀ n, n < gC G → 0 < n → 391 ≤ gH G n ∧ gH G n < 391 + gU G) ∧ (∀ n n', n < gC G → n' < gC G → gH G n = gH G n' → n = n') ∧ (∀ n, n < gC G → isM D (gN G n)) ∧ (∀ n n', n < gC G → n' < gC G → n ≠ n' → ∀ e ∈ gL G n, ∀ e' ∈ gL G n', eA e ≠ eA e') ∧ ∀ n, n < gC G → VN σ c T D G n
theorem VG.h {σ : SG} {c : Nat} {T : List Nat} {D : List Dc} {G : Gh} (h : VG σ c T D G) {n : Nat} (hn : n < gC G) : 391 ≤ gH G n ∧ gH G n < 1092 ∧ (gH G n = 1091 ∨ gH G n < 391 + gU G) := by
  have hu := h.2.1
  by_cases q : n = 0
  · subst q; rw [h.2.2.2.2.1]; exact ⟨by decide, by decide, Or.inl rfl⟩
  · have := h.2.2.2.2.2.1 n hn (by omega)
    exact ⟨this.1, by omega, Or.inr this.2⟩
theorem VG.e {σ : SG} {c : Nat} {T : List Nat} {D : List Dc} {G : Gh} (h : VG σ c T D G) {n : Nat} (hn : n < gC G) {e : Eg} (he : e ∈ gL G n) : EO σ c T D G n e := (h.2.2.2.2.2.2.2.2.2 n hn).2.2.2.2.2 e he
theorem VG.ef {σ : SG} {c : Nat} {T : List Nat} {D : List Dc} {G : Gh} (h : VG σ c T D G) {n : Nat} (hn : n < gC G) {e : Eg} (he : e ∈ gL G n) : EF σ c D e := by
  obtain ⟨a1, a2, a3, a4, a5, a6, a7⟩ := h.e hn he
  have hu := h.2.1
  exact ⟨a1, by omega, a3, fun f hf => by obtain ⟨d, hd, _⟩ := a7 f hf; exact ⟨d, hd.1, hd.2.1⟩⟩
theorem nd_fil {m : Nat} : ∀ (L : List Nat), L.Nodup → L.length ≤ (L.filter (fun a => decide (a ≠ m))).length + 1 := by
  intro L
  induction L with
  | nil => intro _; exact Nat.zero_le _
  | cons a L ih =>
    intro h
    obtain ⟨h1, h2⟩ := List.nodup_cons.mp h
    rw [List.filter_cons]
    by_cases q : a = m
    · subst q
      rw [if_neg (by rw [decide_eq_true_iff]; exact fun z => z rfl), List.length_cons, List.filter_eq_self.mpr]
      · omega
      · intro x hx
        exact decide_eq_true (fun z => h1 (z ▸ hx))
    · rw [if_pos (decide_eq_true q), List.length_cons, List.length_cons]
      have := ih h2
      omega
theorem nd_len : ∀ (m : Nat) (L : List Nat), L.Nodup → ∀ k, (∀ a ∈ L, k ≤ a ∧ a < m) → L.length ≤ m - k := by
  intro m
  induction m with
  | zero =>
    intro L _ k h
    cases L with
    | nil => exact Nat.zero_le _
    | cons a L => have := h a (List.mem_cons_self ..); omega
  | succ m ih =>
    intro L hn k h
    by_cases q : m < k
    · cases L with
      | nil => exact Nat.zero_le _
      | cons a L => have := h a (List.mem_cons_self ..); omega
    · have h1 := nd_fil (m := m) L hn
      have h2 := ih (L.filter (fun a => decide (a ≠ m))) (hn.sublist List.filter_sublist) k (fun a ha => by
        obtain ⟨z1, z2⟩ := List.mem_filter.mp ha
        have := h a z1
        have := of_decide_eq_true z2
        omega)
      omega
/-- how many entries there can be -/
theorem VG.len {σ : SG} {c : Nat} {T : List Nat} {D : List Dc} {G : Gh} (h : VG σ c T D G) {n : Nat} (hn : n < gC G) : (gL G n).length ≤ 700 := by
  have hv := h.2.2.2.2.2.2.2.2.2 n hn
  have hb := nd_len 1091 ((gL G n).map eA) hv.2.2.2.1 391 (fun a ha => by
    obtain ⟨e, he, rfl⟩ := List.mem_map.mp ha
    have hx := hv.2.2.2.2.2 e he
    have hu := h.2.1
    have h1 := hx.1
    have h2 := hx.2.1
    omega)
  rw [List.length_map] at hb
  exact hb
/-- what stays outside the value's nodes -/
def fV (σ τ : SG) : Prop := (∀ b, (b < 389 ∨ b = 390 ∨ 1092 ≤ b) → sm σ τ b) ∧ ∀ k, k ≠ 3 → sI τ 389 k = sI σ 389 k ∧ sL τ 389 k = sL σ 389 k ∧ sP τ 389 k = sP σ 389 k
theorem fV_refl (σ : SG) : fV σ σ := ⟨fun b _ => sm_refl σ b, fun k _ => ⟨rfl, rfl, rfl⟩⟩
theorem fV_trans {σ τ υ : SG} (h : fV σ τ) (h' : fV τ υ) : fV σ υ := ⟨fun b hb => sm_trans (h.1 b hb) (h'.1 b hb), fun k hk => ⟨(h'.2 k hk).1.trans (h.2 k hk).1, (h'.2 k hk).2.1.trans (h.2 k hk).2.1, (h'.2 k hk).2.2.trans (h.2 k hk).2.2⟩⟩
theorem fV_P {σ τ : SG} {P : Nat → Nat → Prop} (h : fP P σ τ) (hP : ∀ b k, P b k → (391 ≤ b ∧ b < 1092) ∨ (b = 389 ∧ k = 3)) : fV σ τ := ⟨fun b hb k => h b k (fun z => by have := hP b k z; omega), fun k hk => h 389 k (fun z => by have := hP _ _ z; omega)⟩
theorem CS_fV {σ τ : SG} {c : Nat} {T : List Nat} {D : List Dc} (h : CS σ c T D) (hcb : cb c) (hf : fV σ τ) : CS τ c T D := CS_sm h (fun b h1 h2 => hf.1 b (by have : c = 5 ∨ c = 197 := hcb; omega))
/-- another chain at one place -/
def gSet (G : Gh) (n : Nat) (L : List Eg) : Gh := (gN G, gH G, up (gL G) n L, gC G, gU G, gP G)
/-- a chain's nodes are not told otherwise elsewhere -/
theorem VN_keep {σ τ : SG} {c : Nat} {T : List Nat} {D : List Dc} {G : Gh} {n : Nat} (h : VN σ c T D G n) (h2 : sP τ (gH G n) 2 = sP σ (gH G n) 2) (h3 : sP τ (gH G n) 3 = sP σ (gH G n) 3) (he : ∀ e ∈ gL G n, sP τ (eA e) 0 = sP σ (eA e) 0 ∧ sP τ (eA e) 1 = sP σ (eA e) 1 ∧ sL τ (eA e) 4 = sL σ (eA e) 4 ∧ sI τ (eA e) 5 = sI σ (eA e) 5 ∧ sI τ (eA e) 6 = sI σ (eA e) 6 ∧ ((∀ n', n' < gC G → gH G n' ≠ eA e) → sP τ (eA e) 2 = sP σ (eA e) 2)) : VN τ c T D G n := by
  obtain ⟨a1, a2, a3, a4, a5, a6⟩ := h
  refine ⟨by rw [h2]; exact LN_keep _ _ a1 (fun e hm => (he e hm).2.1), by rw [h3]; exact a2, a3, a4, a5, fun e hm => ?_⟩
  obtain ⟨b1', b2', b3, b4, b5, b6, b7⟩ := a6 e hm
  obtain ⟨c0, c1, c4, c5, c6, c2⟩ := he e hm
  refine ⟨b1', b2', c0.trans b3, c4.trans b4, ?_, fun z => ⟨(c2 (b6 z).2).trans (b6 z).1, (b6 z).2⟩, fun f hf => ?_⟩
  · obtain ⟨a, b, x1, x2, x3⟩ := b5
    exact ⟨a, b, c5.trans x1, c6.trans x2, x3⟩
  · obtain ⟨d, x1, x2, x3⟩ := b7 f hf
    exact ⟨d, x1, fun z => ⟨(c2 (x2 z).2).trans (x2 z).1, (x2 z).2⟩, x3⟩
/-- a chain is thinned out -/
theorem VG_sub {σ τ : SG} {c : Nat} {T : List Nat} {D : List Dc} {G : Gh} {n : Nat} {L : List Eg} (h : VG σ c T D G) (hn : n < gC G) (hsub : List.Sublist L (gL G n)) (hL : LN τ L (sP τ (gH G n) 2)) (hr : sP τ (gH G n) 3 = none ∨ ∃ e ∈ L, sP τ (gH G n) 3 = some (eA e)) (hf : fP (fun b k => (b = gH G n ∧ (k = 2 ∨ k = 3)) ∨ (k = 1 ∧ ∃ e ∈ gL G n, b = eA e)) σ τ) : VG τ c T D (gSet G n L) := by
  obtain ⟨g1, g2, g3, g4, g5, g6, g7, g8, g9, g10⟩ := h
  have hh := VG.h ⟨g1, g2, g3, g4, g5, g6, g7, g8, g9, g10⟩ hn
  have ea : ∀ e ∈ gL G n, 391 ≤ eA e ∧ eA e < 1091 := fun e he => by have := (VG.e ⟨g1, g2, g3, g4, g5, g6, g7, g8, g9, g10⟩ hn he); exact ⟨this.1, by have := this.2.1; omega⟩
  have out : ∀ b k, (b < 391 ∨ 1092 ≤ b) → ¬ ((b = gH G n ∧ (k = 2 ∨ k = 3)) ∨ (k = 1 ∧ ∃ e ∈ gL G n, b = eA e)) := fun b k hb z => by
    rcases z with z | ⟨_, e, he, z⟩
    · omega
    · have := ea e he; omega
  refine ⟨((hf 389 3 (out _ _ (by omega))).1).trans g1, g2, g3.sm (fun k => hf 1092 k (out _ _ (by omega))) (fun k => hf 1093 k (out _ _ (by omega))), g4, g5, g6, g7, g8, fun m m' hm hm' hne e he e' he' => ?_, fun m hm => ?_⟩
  · have mem : ∀ j x, x ∈ up (gL G) n L j → x ∈ gL G j := fun j x hx => by
      by_cases q : j = n
      · subst q; rw [up_s] at hx; exact hsub.subset hx
      · rw [up_o q] at hx; exact hx
    exact g9 m m' hm hm' hne e (mem m e he) e' (mem m' e' he')
  · have hv := g10 m hm
    by_cases q : m = n
    · subst q
      obtain ⟨a1, a2, a3, a4, a5, a6⟩ := hv
      refine ⟨?_, ?_, ?_, ?_, ?_, ?_⟩
      · show LN τ (up (gL G) m L m) _; rw [up_s]; exact hL
      · show _ ∨ ∃ e ∈ up (gL G) m L m, _; rw [up_s]; exact hr
      · show srE D (up (gL G) m L m); rw [up_s]; exact a3.sublist hsub
      · show ((up (gL G) m L m).map eA).Nodup; rw [up_s]; exact a4.sublist (hsub.map eA)
      · show unE D (up (gL G) m L m); rw [up_s]; exact a5.sublist hsub
      · show ∀ e ∈ up (gL G) m L m, _
        rw [up_s]
        intro e he
        have heL := hsub.subset he
        have cell : ∀ k, k ≠ 1 → k ≠ 2 → k ≠ 3 → sI τ (eA e) k = sI σ (eA e) k ∧ sL τ (eA e) k = sL σ (eA e) k ∧ sP τ (eA e) k = sP σ (eA e) k := fun k h1 h2 h3 => hf _ _ (by rintro (z | z) <;> omega)
        have c2 : (∀ n', n' < gC G → gH G n' ≠ eA e) → sP τ (eA e) 2 = sP σ (eA e) 2 := fun z => (hf _ _ (by
          rintro (y | y)
          · exact z m hm y.1.symm
          · omega)).2.2
        obtain ⟨b1', b2', b3, b4, b5, b6, b7⟩ := a6 e heL
        refine ⟨b1', b2', ((cell 0 (by decide) (by decide) (by decide)).2.2).trans b3, ((cell 4 (by decide) (by decide) (by decide)).2.1).trans b4, ?_, fun z => ⟨(c2 (b6 z).2).trans (b6 z).1, (b6 z).2⟩, fun f hf' => ?_⟩
        · obtain ⟨a, b, x1, x2, x3⟩ := b5
          exact ⟨a, b, ((cell 5 (by decide) (by decide) (by decide)).1).trans x1, ((cell 6 (by decide) (by decide) (by decide)).1).trans x2, x3⟩
        · obtain ⟨d, x1, x2, x3⟩ := b7 f hf'
          exact ⟨d, x1, fun z => ⟨(c2 (x2 z).2).trans (x2 z).1, (x2 z).2⟩, x3⟩
    · have hhm : gH G m ≠ gH G n := fun z => q (g7 m n hm hn z)
      have nin : ∀ k, k = 2 ∨ k = 3 → ¬ ((gH G m = gH G n ∧ (k = 2 ∨ k = 3)) ∨ (k = 1 ∧ ∃ e ∈ gL G n, gH G m = eA e)) := fun k hk z => by
        rcases z with z | z
        · exact hhm z.1
        · omega
      have key := VN_keep (τ := τ) hv ((hf _ 2 (nin 2 (Or.inl rfl))).2.2) ((hf _ 3 (nin 3 (Or.inr rfl))).2.2) (fun e he => by
        have cell : ∀ k, k ≠ 2 → k ≠ 3 → sI τ (eA e) k = sI σ (eA e) k ∧ sL τ (eA e) k = sL σ (eA e) k ∧ sP τ (eA e) k = sP σ (eA e) k := fun k h2 h3 => hf _ _ (by
          rintro (z | ⟨_, x, hx, z⟩)
          · omega
          · exact g9 m n hm hn q e he x hx z)
        refine ⟨(cell 0 (by decide) (by decide)).2.2, (cell 1 (by decide) (by decide)).2.2, (cell 4 (by decide) (by decide)).2.1, (cell 5 (by decide) (by decide)).1, (cell 6 (by decide) (by decide)).1, fun z => (hf _ _ (by
          rintro (y | y)
          · exact z n hn y.1.symm
          · omega)).2.2⟩)
      unfold VN at key ⊢
      have e1 : gL (gSet G n L) m = gL G m := up_o q
      rw [e1]
      exact key
theorem X8_dropRivals {U c n f : Nat} {σ : SG} {T : List Nat} {D : List Dc} {G : Gh} {d : Dc} (hU : 4000 < U) (hcb : cb c) (hg : GSc T D) (hC : CS σ c T D) (h : VG σ c T D G) (hn : n < gC G) (hd : D[f]? = some d) :
    ∃ τ, x_X8_dropRivals U 389 (some (gH G n)) (ad c (some f)) σ = some τ ∧ VG τ c T D (gSet G n ((gL G n).filter (fun e => !riv D f d e))) ∧ fV σ τ := by
  have hh := h.h hn
  have hv := h.2.2.2.2.2.2.2.2.2 n hn
  have hlen := h.len hn
  unfold x_X8_dropRivals
  rw [ck_eq (nd_sh hh.1 hh.2.1)]
  have hE : ∀ e ∈ ([] : List Eg) ++ gL G n, EF σ c D e ∧ eA e ≠ gH G n := fun e he => by
    have heL : e ∈ gL G n := by simpa using he
    refine ⟨h.ef hn heL, fun z => ?_⟩
    obtain ⟨_, _, _, _, _, b6, b7⟩ := h.e hn heL
    cases hF : eF e with
    | none => exact (b6 hF).2 n hn z.symm
    | some g =>
      obtain ⟨x, x1, x2, x3⟩ := b7 g hF
      by_cases q : fty T D x = 13
      · obtain ⟨y1, y2, y3, _⟩ := x3 q
        have := h.2.2.2.2.2.2.1 _ _ y2 hn (y3.trans z)
        omega
      · exact (x2 q).2 n hn z.symm
  obtain ⟨τ, t1, t2, t3⟩ := X8_drop_L (U := U) (K := fun σ36 => sb (uP σ36 (gH G n) 3 none) fun σ37 => some σ37) hcb hg hh.1 hh.2.1 hd (gL G n) [] U σ hC hv.1 hE (by simpa using hv.2.2.2.1) (by omega)
  have hhd : (gL G n).head?.map eA = sP σ (gH G n) 2 := by
    have := hv.1
    cases hL : gL G n with
    | nil => rw [hL] at this; exact this.symm
    | cons a L => rw [hL] at this; exact this.1.symm
  rw [hhd] at t1
  have t1' : x_X8_dropRivals_L8 U 389 (fun σ36 => sb (uP σ36 (gH G n) 3 none) fun σ37 => some σ37) (some (gH G n)) (ad c (some f)) U none (sP σ (gH G n) 2) σ = sb (uP τ (gH G n) 3 none) fun σ37 => some σ37 := t1
  rw [t1', sb_eq]
  have ff : fP (fun b k => (b = gH G n ∧ (k = 2 ∨ k = 3)) ∨ (k = 1 ∧ ∃ e ∈ gL G n, b = eA e)) σ (uP τ (gH G n) 3 none) := by
    refine fP_trans (fP_mono t3 (fun b k z => ?_)) (fun b k hk => ⟨rfl, rfl, sP_o (ne2 (fun zy => hk (Or.inl ⟨zy.1, Or.inr zy.2⟩)))⟩)
    rcases z with z | ⟨z, e, he, y⟩
    · exact Or.inl ⟨z.1, Or.inl z.2⟩
    · exact Or.inr ⟨z, e, by simpa using he, y⟩
  refine ⟨_, rfl, VG_sub h hn List.filter_sublist ?_ (Or.inl (sP_s _ _ _ _)) ff, fV_P ff (fun b k z => ?_)⟩
  · rw [sP_o (Or.inr (by decide))]
    exact LN_keep _ _ t2 (fun e he => by rw [sP_o (Or.inr (by decide))])
  · rcases z with z | ⟨_, e, he, z⟩
    · omega
    · have hx := h.ef hn he; have h1 := hx.1; have h2 := hx.2.1; omega
/-! ===== the class's value: a new node, or the old one ===== -/
def twE (D : List Dc) (o : Option Nat) (L : List Eg) : List Eg := L.takeWhile (fun e => decide (key D (eF e) ≤ key D o))
def dwE (D : List Dc) (o : Option Nat) (L : List Eg) : List Eg := L.dropWhile (fun e => decide (key D (eF e) ≤ key D o))
theorem tdE (D : List Dc) (o : Option Nat) (L : List Eg) : twE D o L ++ dwE D o L = L := List.takeWhile_append_dropWhile
def insE (D : List Dc) (e : Eg) (L : List Eg) : List Eg := twE D (eF e) L ++ e :: dwE D (eF e) L
/-- the node that a value replaces -/
def ruE (D : List Dc) (o : Option Nat) (L : List Eg) : Option Eg := match o, (twE D o L).getLast? with
  | some f, some b => if eF b = some f ∧ (∀ d, D[f]? = some d → dR d = false) then some b else none
  | _, _ => none
/-- a new node in a chain -/
def gNew (D : List Dc) (G : Gh) (n : Nat) (o : Option Nat) (mt : Option Nat) : Gh := match mt with
  | none => (gN G, gH G, up (gL G) n (insE D (391 + gU G, o, 0, 0, []) (gL G n)), gC G, gU G + 1, gP G)
  | some t => (up (gN G) (gC G) t, up (gH G) (gC G) (391 + gU G), up (up (gL G) n (insE D (391 + gU G, o, gC G, 0, []) (gL G n))) (gC G) [], gC G + 1, gU G + 1, gP G)
theorem mem_insE {D : List Dc} {e x : Eg} {L : List Eg} : x ∈ insE D e L ↔ x = e ∨ x ∈ L := by
  have h : x ∈ L ↔ x ∈ twE D (eF e) L ∨ x ∈ dwE D (eF e) L := by
    conv => lhs; rw [← tdE D (eF e) L]
    exact List.mem_append
  unfold insE
  rw [List.mem_append, List.mem_cons, h]
  constructor
  · rintro (z | z | z)
    · exact Or.inr (Or.inl z)
    · exact Or.inl z
    · exact Or.inr (Or.inr z)
  · rintro (z | z | z)
    · exact Or.inr (Or.inl z)
    · exact Or.inl z
    · exact Or.inr (Or.inr z)
theorem dwE_gt {D : List Dc} {o : Option Nat} : ∀ (L : List Eg), srE D L → ∀ x ∈ dwE D o L, key D o < key D (eF x) := by
  intro L
  induction L with
  | nil => intro _ x hx; cases hx
  | cons a L ih =>
    intro h x hx
    obtain ⟨h1, h2⟩ := List.pairwise_cons.mp h
    unfold dwE at hx
    rw [List.dropWhile_cons] at hx
    by_cases q : key D (eF a) ≤ key D o
    · rw [decide_eq_true q, if_pos rfl] at hx; exact ih h2 x hx
    · rw [decide_eq_false q, if_neg (by decide)] at hx
      rcases List.mem_cons.mp hx with z | z
      · rw [z]; omega
      · have := h1 x z; omega
theorem twE_le {D : List Dc} {o : Option Nat} {L : List Eg} : ∀ x ∈ twE D o L, key D (eF x) ≤ key D o := fun x hx => of_decide_eq_true (List.all_eq_true.mp List.all_takeWhile x hx)
theorem insE_srE {D : List Dc} {e : Eg} {L : List Eg} (h : srE D L) : srE D (insE D e L) := by
  unfold srE insE
  have h' : srE D (twE D (eF e) L ++ dwE D (eF e) L) := by rw [tdE]; exact h
  obtain ⟨h1, h2, h3⟩ := List.pairwise_append.mp h'
  refine List.pairwise_append.mpr ⟨h1, List.pairwise_cons.mpr ⟨fun x hx => Nat.le_of_lt (dwE_gt L h x hx), h2⟩, fun x hx y hy => ?_⟩
  rcases List.mem_cons.mp hy with z | z
  · rw [z]; exact twE_le x hx
  · exact h3 x hx y z
theorem insE_nd {D : List Dc} {e : Eg} {L : List Eg} (h : (L.map eA).Nodup) (he : ∀ x ∈ L, eA x ≠ eA e) : ((insE D e L).map eA).Nodup := by
  unfold insE
  have h' : ((twE D (eF e) L ++ dwE D (eF e) L).map eA).Nodup := by rw [tdE]; exact h
  rw [List.map_append] at h'
  obtain ⟨h1, h2, h3⟩ := List.nodup_append.mp h'
  have hm : ∀ x, x ∈ twE D (eF e) L ∨ x ∈ dwE D (eF e) L → x ∈ L := fun x hx => by rw [← tdE D (eF e) L]; exact List.mem_append.mpr hx
  rw [List.map_append, List.map_cons]
  refine List.nodup_append.mpr ⟨h1, List.nodup_cons.mpr ⟨fun z => ?_, h2⟩, fun a ha b hb => ?_⟩
  · obtain ⟨x, hx, hxe⟩ := List.mem_map.mp z
    exact he x (hm x (Or.inr hx)) hxe
  · rcases List.mem_cons.mp hb with z | z
    · obtain ⟨x, hx, hxe⟩ := List.mem_map.mp ha
      rw [z, ← hxe]; exact he x (hm x (Or.inl hx))
    · exact h3 a ha b z
/-- a field that stands once and is in a chain is the last one up to its key -/
theorem tw_last {T : List Nat} {D : List Dc} (hg : GSc T D) {m f : Nat} {L : List Eg} {e : Eg} {d : Dc} (hs : srE D L) (hd : isF D m f d) (hL : ∀ x ∈ L, ∀ g, eF x = some g → ∃ y, isF D m g y) (he : e ∈ L) (hef : eF e = some f) : ∃ b, (twE D (some f) L).getLast? = some b ∧ eF b = some f ∧ b ∈ L := by
  have hm : e ∈ twE D (some f) L := by
    rw [← tdE D (some f) L] at he
    rcases List.mem_append.mp he with z | z
    · exact z
    · have := dwE_gt L hs e z
      rw [hef] at this
      omega
  cases hb : (twE D (some f) L).getLast? with
  | none => rw [List.getLast?_eq_none_iff.mp hb] at hm; cases hm
  | some b =>
    obtain ⟨A, hA⟩ := List.getLast?_eq_some_iff.mp hb
    have hbm : b ∈ twE D (some f) L := by rw [hA]; simp
    have hbL : b ∈ L := by rw [← tdE D (some f) L]; exact List.mem_append.mpr (Or.inl hbm)
    have k1 := twE_le b hbm
    have k2 : key D (eF e) ≤ key D (eF b) := by
      have hst : srE D (twE D (some f) L) := hs.sublist (List.takeWhile_sublist _)
      rw [hA] at hm hst
      rcases List.mem_append.mp hm with z | z
      · exact (List.pairwise_append.mp hst).2.2 e z b (by simp)
      · rw [List.mem_singleton.mp z]; exact Nat.le_refl _
    rw [hef] at k2
    have kk : key D (eF b) = key D (some f) := Nat.le_antisymm k1 k2
    refine ⟨b, rfl, ?_, hbL⟩
    have hfn := (hg.nu hd.1 hd.2.1).2.1
    cases hF : eF b with
    | none =>
      rw [hF] at kk
      have : (9223372036854775807 : Nat) = nmn D f := kk
      omega
    | some g =>
      rw [hF] at kk
      obtain ⟨y, hy⟩ := hL b hbL g hF
      have hk : nmn D g = nmn D f := kk
      rw [nmn_some hy.1, nmn_some hd.1] at hk
      rw [num_inj hg hy hd hk]
theorem insE_unE {T : List Nat} {D : List Dc} (hg : GSc T D) {m : Nat} {L : List Eg} {e : Eg} (hs : srE D L) (hun : unE D L) (hL : ∀ x ∈ L, ∀ g, eF x = some g → ∃ y, isF D m g y) (ho : ∀ f, eF e = some f → ∃ d, isF D m f d) (hr : ruE D (eF e) L = none) : unE D (insE D e L) := by
  have no : ∀ x ∈ L, ∀ f d, eF e = some f → eF x = some f → D[f]? = some d → dR d = true := by
    intro x hx f d hef hxf hd
    cases hR : dR d with
    | true => rfl
    | false =>
      exfalso
      obtain ⟨d', hd'⟩ := ho f hef
      obtain ⟨b, b1', b2', _⟩ := tw_last hg hs hd' hL hx hxf
      unfold ruE at hr
      rw [hef, b1'] at hr
      simp only at hr
      rw [if_pos ⟨b2', fun d'' hd'' => by rw [hd] at hd''; cases hd''; exact hR⟩] at hr
      cases hr
  unfold unE insE
  have h' : unE D (twE D (eF e) L ++ dwE D (eF e) L) := by rw [tdE]; exact hun
  have hm : ∀ x, x ∈ twE D (eF e) L ∨ x ∈ dwE D (eF e) L → x ∈ L := fun x hx => by rw [← tdE D (eF e) L]; exact List.mem_append.mpr hx
  obtain ⟨h1, h2, h3⟩ := List.pairwise_append.mp h'
  refine List.pairwise_append.mpr ⟨h1, List.pairwise_cons.mpr ⟨fun x hx f d hef hxf hd => no x (hm x (Or.inr hx)) f d hef hxf hd, h2⟩, fun x hx y hy => ?_⟩
  rcases List.mem_cons.mp hy with z | z
  · rw [z]; exact fun f d hxf hef hd => no x (hm x (Or.inl hx)) f d hef hxf hd
  · exact h3 x hx y z
/-- how the class puts a new node -/
theorem X8_put_62 {U c n : Nat} {σ : SG} {T : List Nat} {D : List Dc} {G : Gh} {o : Option Nat} (h : VG σ c T D G) (hn : n < gC G) (hu : gU G < 700) (k : Nat) :
    ∃ τ, x_X8_put_62 U 389 (some (gH G n)) (ad c o) (prN none (twE D o (gL G n))) σ = some (some (391 + gU G), τ) ∧ LN τ (insE D (391 + gU G, o, k, 0, []) (gL G n)) (sP τ (gH G n) 2) ∧ sP τ (gH G n) 3 = some (391 + gU G) ∧ sP τ (391 + gU G) 0 = ad c o ∧ sP τ (391 + gU G) 2 = none ∧ sP τ (391 + gU G) 3 = none ∧ sL τ (391 + gU G) 4 = 0 ∧ sI τ (391 + gU G) 5 = 0 ∧ sI τ (391 + gU G) 6 = 0 ∧ sI τ 389 3 = nI (gU G + 1) ∧ fP (fun b k => (b = 389 ∧ k = 3) ∨ b = 391 + gU G ∨ (b = gH G n ∧ (k = 2 ∨ k = 3)) ∨ (k = 1 ∧ ∃ e ∈ gL G n, b = eA e)) σ τ := by
  have hh := h.h hn
  have hv := h.2.2.2.2.2.2.2.2.2 n hn
  have ea : ∀ e ∈ gL G n, 391 ≤ eA e ∧ eA e < 391 + gU G := fun e he => ⟨(h.e hn he).1, (h.e hn he).2.1⟩
  have hha : gH G n ≠ 391 + gU G := by rcases hh.2.2 with z | z <;> omega
  unfold x_X8_put_62 x_X8_put_94 x_X8_put_156
  rw [h.1, if_neg (nI_neg (by omega)), show (700 : Int32) = nI 700 from rfl, if_pos ((ltI (by omega) (by decide)).mpr hu), ix_in hu (by decide), if_neg (by intro z; cases z), sb_eq, ck_eq (nd_sh (by omega) (by omega)), nI_1]
  obtain ⟨σ13, b1', b2', b3, b4, b5, b6, b7, b8, b9⟩ := X4_begin (σ := uI σ 389 3 (nI (gU G + 1))) (a := 391 + gU G) (f := ad c o)
  rw [b1', b1_eq]
  -- how the state was before the links
  have o13 : ∀ b k, b ≠ 391 + gU G → (b ≠ 389 ∨ k ≠ 3) → sI σ13 b k = sI σ b k ∧ sL σ13 b k = sL σ b k ∧ sP σ13 b k = sP σ b k := fun b k h1 h2 => by
    obtain ⟨x1, x2, x3⟩ := b2' b h1 k
    exact ⟨x1.trans (sI_o h2), x2, x3⟩
  have L13 : LN σ13 (gL G n) (sP σ13 (gH G n) 2) := by
    rw [(o13 _ 2 hha (Or.inr (by decide))).2.2]
    exact LN_keep _ _ hv.1 (fun e he => (o13 _ 1 (by have := ea e he; omega) (Or.inr (by decide))).2.2)
  have u13 : sI σ13 389 3 = nI (gU G + 1) := ((b2' 389 (by omega) 3).1).trans (sI_s _ _ _ _)
  have spl : insE D (391 + gU G, o, k, 0, []) (gL G n) = twE D o (gL G n) ++ (391 + gU G, o, k, 0, []) :: dwE D o (gL G n) := rfl
  have hL := tdE D o (gL G n)
  rcases listE_last (L := twE D o (gL G n)) with hA | ⟨A, b, hA⟩
  · rw [hA, if_pos (show prN none [] = none from rfl), ck_eq (nd_sh hh.1 hh.2.1), sb_eq, sb_eq, ck_eq (nd_sh hh.1 hh.2.1), sb_eq]
    have hdw : dwE D o (gL G n) = gL G n := by rw [hA] at hL; exact hL
    refine ⟨_, rfl, ?_, sP_s _ _ _ _, ?_, ?_, ?_, ?_, ?_, ?_, ?_, ?_⟩
    · rw [spl, hA, hdw, sP_o (Or.inr (by decide)), sP_s]
      refine ⟨rfl, ?_⟩
      show LN _ (gL G n) (sP _ (391 + gU G) 1)
      rw [sP_o (Or.inr (by decide)), sP_o (Or.inr (by decide)), sP_s]
      exact LN_keep _ _ L13 (fun e he => by rw [sP_o (Or.inr (by decide)), sP_o (Or.inr (by decide)), sP_o (Or.inl (by have := ea e he; omega))])
    · rw [sP_o (Or.inr (by decide)), sP_o (Or.inr (by decide)), sP_o (Or.inr (by decide))]; exact b3
    · rw [sP_o (Or.inr (by decide)), sP_o (Or.inl (Ne.symm hha)), sP_o (Or.inr (by decide))]; exact b5
    · rw [sP_o (Or.inl (Ne.symm hha)), sP_o (Or.inr (by decide)), sP_o (Or.inr (by decide))]; exact b6
    · exact b7
    · exact b8
    · exact b9
    · exact u13
    · intro x j hj
      obtain ⟨y1, y2, y3⟩ := o13 x j (fun z => hj (Or.inr (Or.inl z))) (ne2 (fun zy => hj (Or.inl zy)))
      refine ⟨y1, y2, ?_⟩
      rw [sP_o (ne2 (fun zy => hj (Or.inr (Or.inr (Or.inl ⟨zy.1, Or.inr zy.2⟩))))), sP_o (ne2 (fun zy => hj (Or.inr (Or.inr (Or.inl ⟨zy.1, Or.inl zy.2⟩))))), sP_o (Or.inl (fun z => hj (Or.inr (Or.inl z))))]
      exact y3
  · have hbL : b ∈ gL G n := by rw [← hL, hA]; simp
    have hbe := ea b hbL
    rw [hA, prN_last, if_neg (by intro z; cases z), ck_eq (nd_sh hbe.1 (by omega)), sb_eq, sb_eq, ck_eq (nd_sh hh.1 hh.2.1), sb_eq]
    have hnd := hv.2.2.2.1
    have hL' : A ++ b :: dwE D o (gL G n) = gL G n := by
      have e1 : A ++ b :: dwE D o (gL G n) = (A ++ [b]) ++ dwE D o (gL G n) := by simp
      rw [e1, ← hA]; exact hL
    rw [← hL'] at hnd L13
    rw [List.map_append, List.map_cons] at hnd
    obtain ⟨m1, m2, m3⟩ := List.nodup_append.mp hnd
    obtain ⟨m4, m5⟩ := List.nodup_cons.mp m2
    have mem : ∀ e, e ∈ A ∨ e ∈ dwE D o (gL G n) → e ∈ gL G n := fun e he => by
      rw [← hL']
      rcases he with z | z
      · simp [z]
      · simp [z]
    refine ⟨_, rfl, ?_, sP_s _ _ _ _, ?_, ?_, ?_, ?_, ?_, ?_, ?_, ?_⟩
    · rw [spl, hA, sP_o (Or.inr (by decide)), sP_o (Or.inr (by decide)), sP_o (Or.inr (by decide)), List.append_assoc]
      refine LN_cut (σ := σ13) (b := b) (B := dwE D o (gL G n)) (B' := (391 + gU G, o, k, 0, []) :: dwE D o (gL G n)) ?_ A _ L13 (fun e he => ?_)
      · refine ⟨?_, ?_⟩
        · rw [sP_o (Or.inr (by decide)), sP_s]; try rfl
        show LN _ (dwE D o (gL G n)) (sP _ (391 + gU G) 1)
        rw [sP_o (Or.inr (by decide)), sP_o (Or.inl (by omega)), sP_s]
        refine LN_keep _ _ (LN_mid A _ L13) (fun e he => ?_)
        have := ea e (mem e (Or.inr he))
        rw [sP_o (Or.inr (by decide)), sP_o (Or.inl (fun z => m4 (by rw [← z]; exact List.mem_map_of_mem he))), sP_o (Or.inl (by omega))]
      · have := ea e (mem e (Or.inl he))
        rw [sP_o (Or.inr (by decide)), sP_o (Or.inl (m3 _ (List.mem_map_of_mem he) _ (List.mem_cons_self ..))), sP_o (Or.inl (by omega))]
    · rw [sP_o (Or.inr (by decide)), sP_o (Or.inr (by decide)), sP_o (Or.inr (by decide))]; exact b3
    · rw [sP_o (Or.inr (by decide)), sP_o (Or.inr (by decide)), sP_o (Or.inr (by decide))]; exact b5
    · rw [sP_o (Or.inl (Ne.symm hha)), sP_o (Or.inr (by decide)), sP_o (Or.inr (by decide))]; exact b6
    · exact b7
    · exact b8
    · exact b9
    · exact u13
    · intro x j hj
      obtain ⟨y1, y2, y3⟩ := o13 x j (fun z => hj (Or.inr (Or.inl z))) (ne2 (fun zy => hj (Or.inl zy)))
      refine ⟨y1, y2, ?_⟩
      rw [sP_o (ne2 (fun zy => hj (Or.inr (Or.inr (Or.inl ⟨zy.1, Or.inr zy.2⟩))))), sP_o (ne2 (fun zy => hj (Or.inr (Or.inr (Or.inr ⟨zy.2, b, hbL, zy.1⟩))))), sP_o (Or.inl (fun z => hj (Or.inr (Or.inl z))))]
      exact y3
/-! ===== the class's value: putting, the whole of it ===== -/
theorem VG_new {σ τ : SG} {c n k : Nat} {T : List Nat} {D : List Dc} {G G' : Gh} {o : Option Nat} (hg : GSc T D) (h : VG σ c T D G) (hn : n < gC G) (hu : gU G < 700) (ho : ∀ f, o = some f → ∃ d, isF D (gN G n) f d) (hr : ruE D o (gL G n) = none)
    (u1 : gU G' = gU G + 1) (u2 : gP G' = gP G) (u3 : gC G' = gC G ∨ gC G' = gC G + 1) (u4 : ∀ m, m < gC G → gN G' m = gN G m ∧ gH G' m = gH G m) (u5 : ∀ m, m < gC G → m ≠ n → gL G' m = gL G m) (u6 : gL G' n = insE D (391 + gU G, o, k, 0, []) (gL G n)) (u7 : gC G < gC G' → gH G' (gC G) = 391 + gU G ∧ gL G' (gC G) = [] ∧ isM D (gN G' (gC G)))
    (u8 : o = none → gC G' = gC G) (u9 : ∀ f d, o = some f → D[f]? = some d → (fty T D d ≠ 13 → gC G' = gC G) ∧ (fty T D d = 13 → gC G < gC G' ∧ k = gC G ∧ ftg T D d = some (gN G' k)))
    (t1 : LN τ (insE D (391 + gU G, o, k, 0, []) (gL G n)) (sP τ (gH G n) 2)) (t2 : sP τ (gH G n) 3 = some (391 + gU G)) (t3 : sP τ (391 + gU G) 0 = ad c o) (t4 : sP τ (391 + gU G) 2 = none) (t5 : sP τ (391 + gU G) 3 = none) (t6 : sL τ (391 + gU G) 4 = 0) (t7 : sI τ (391 + gU G) 5 = 0) (t8 : sI τ (391 + gU G) 6 = 0) (t9 : sI τ 389 3 = nI (gU G + 1)) (hf : fP (fun b k => (b = 389 ∧ k = 3) ∨ b = 391 + gU G ∨ (b = gH G n ∧ (k = 2 ∨ k = 3)) ∨ (k = 1 ∧ ∃ e ∈ gL G n, b = eA e)) σ τ) : VG τ c T D G' := by
  have hh := h.h hn
  have H := h
  obtain ⟨g1, g2, g3, g4, g5, g6, g7, g8, g9, g10⟩ := h
  have ea : ∀ m, m < gC G → ∀ e ∈ gL G m, 391 ≤ eA e ∧ eA e < 391 + gU G := fun m hm e he => ⟨(H.e hm he).1, (H.e hm he).2.1⟩
  have hfr : ∀ m, m < gC G → gH G m ≠ 391 + gU G := fun m hm => by rcases (H.h hm).2.2 with z | z <;> omega
  have C1 : ∀ m, m < gC G' → m < gC G ∨ (m = gC G ∧ gC G < gC G') := fun m hm => by omega
  have out : ∀ b k, (b < 389 ∨ b = 390 ∨ 1092 ≤ b) → ¬ ((b = 389 ∧ k = 3) ∨ b = 391 + gU G ∨ (b = gH G n ∧ (k = 2 ∨ k = 3)) ∨ (k = 1 ∧ ∃ e ∈ gL G n, b = eA e)) := fun b k hb z => by
    rcases z with z | z | z | ⟨_, e, he, z⟩
    · omega
    · omega
    · omega
    · have := ea n hn e he; omega
  -- the new entry has a node of its own
  have newH : (fty T D = fty T D) → True := fun _ => trivial
  refine ⟨by rw [u1]; exact t9, by omega, ?_, by omega, ?_, fun m hm h0 => ?_, fun m m' hm hm' he => ?_, fun m hm => ?_, fun m m' hm hm' hne e he e' he' => ?_, fun m hm => ?_⟩
  · rw [u2]; exact g3.sm (fun k => hf 1092 k (out _ _ (by omega))) (fun k => hf 1093 k (out _ _ (by omega)))
  · rw [(u4 0 g4).2]; exact g5
  · rw [u1]
    rcases C1 m hm with z | ⟨z, z2⟩
    · rw [(u4 m z).2]; have := g6 m z h0; omega
    · rw [z, (u7 z2).1]; omega
  · rcases C1 m hm with z | ⟨z, z2⟩ <;> rcases C1 m' hm' with y | ⟨y, y2⟩
    · rw [(u4 m z).2, (u4 m' y).2] at he; exact g7 m m' z y he
    · rw [(u4 m z).2, y, (u7 y2).1] at he; exact absurd he (hfr m z)
    · rw [(u4 m' y).2, z, (u7 z2).1] at he; exact absurd he.symm (hfr m' y)
    · omega
  · rcases C1 m hm with z | ⟨z, z2⟩
    · rw [(u4 m z).1]; exact g8 m z
    · rw [z]; exact (u7 z2).2.2
  · have ent : ∀ j x, j < gC G' → x ∈ gL G' j → (j < gC G ∧ x ∈ gL G j) ∨ (j = n ∧ eA x = 391 + gU G) := fun j x hj hx => by
      rcases C1 j hj with z | ⟨z, z2⟩
      · by_cases q : j = n
        · subst q
          rw [u6] at hx
          rcases mem_insE.mp hx with y | y
          · exact Or.inr ⟨rfl, by rw [y]; rfl⟩
          · exact Or.inl ⟨z, y⟩
        · rw [u5 j z q] at hx; exact Or.inl ⟨z, hx⟩
      · rw [z, (u7 z2).2.1] at hx; cases hx
    rcases ent m e hm he with ⟨z, z1⟩ | ⟨z, z1⟩ <;> rcases ent m' e' hm' he' with ⟨y, y1⟩ | ⟨y, y1⟩
    · exact g9 m m' z y hne e z1 e' y1
    · rw [y1]; have := ea m z e z1; omega
    · rw [z1]; have := ea m' y e' y1; omega
    · omega
  · -- what was true of an old entry
    have keepE : ∀ j, j < gC G → ∀ e ∈ gL G j, EO σ c T D G j e → EO τ c T D G' j e := by
      intro j hj e he hE
      have hae := ea j hj e he
      have cell : ∀ k, k ≠ 1 → k ≠ 2 → k ≠ 3 → sI τ (eA e) k = sI σ (eA e) k ∧ sL τ (eA e) k = sL σ (eA e) k ∧ sP τ (eA e) k = sP σ (eA e) k := fun k h1 h2 h3 => hf _ _ (by rintro (z | z | z | z) <;> omega)
      have c2 : (∀ n', n' < gC G → gH G n' ≠ eA e) → sP τ (eA e) 2 = sP σ (eA e) 2 := fun z => (hf _ _ (by
        rintro (y | y | y | y)
        · omega
        · omega
        · exact z n hn y.1.symm
        · omega)).2.2
      have hH : (∀ n', n' < gC G → gH G n' ≠ eA e) → ∀ n', n' < gC G' → gH G' n' ≠ eA e := fun z n' hn' => by
        rcases C1 n' hn' with y | ⟨y, y2⟩
        · rw [(u4 n' y).2]; exact z n' y
        · rw [y, (u7 y2).1]; omega
      obtain ⟨b1', b2', b3, b4, b5, b6, b7⟩ := hE
      refine ⟨b1', by omega, ((cell 0 (by decide) (by decide) (by decide)).2.2).trans b3, ((cell 4 (by decide) (by decide) (by decide)).2.1).trans b4, ?_, fun z => ⟨(c2 (b6 z).2).trans (b6 z).1, hH (b6 z).2⟩, fun f hf' => ?_⟩
      · obtain ⟨a, b, x1, x2, x3⟩ := b5
        rw [u2]
        exact ⟨a, b, ((cell 5 (by decide) (by decide) (by decide)).1).trans x1, ((cell 6 (by decide) (by decide) (by decide)).1).trans x2, x3⟩
      · obtain ⟨d, x1, x2, x3⟩ := b7 f hf'
        refine ⟨d, by rw [(u4 j hj).1]; exact x1, fun z => ⟨(c2 (x2 z).2).trans (x2 z).1, hH (x2 z).2⟩, fun z => ?_⟩
        obtain ⟨y1, y2, y3, y4⟩ := x3 z
        exact ⟨y1, by omega, by rw [(u4 _ y2).2]; exact y3, by rw [(u4 _ y2).1]; exact y4⟩
    rcases C1 m hm with z | ⟨z, z2⟩
    · have hv := g10 m z
      by_cases q : m = n
      · subst q
        obtain ⟨a1, a2, a3, a4, a5, a6⟩ := hv
        unfold VN
        rw [u6, (u4 m z).2]
        have oL : ∀ x ∈ gL G m, ∀ g, eF x = some g → ∃ y, isF D (gN G m) g y := fun x hx g hgx => by
          obtain ⟨y, y1, _⟩ := (a6 x hx).2.2.2.2.2.2 g hgx
          exact ⟨y, y1⟩
        have hH : gC G' = gC G → ∀ n', n' < gC G' → gH G' n' ≠ 391 + gU G := fun y n' hn' => by
          rw [(u4 n' (by omega)).2]; exact hfr n' (by omega)
        have l1 : 391 + gU G < 391 + gU G' := by omega
        have kf : ∀ f, o = some f → ∃ d, isF D (gN G' m) f d ∧ (fty T D d ≠ 13 → sP τ (391 + gU G) 2 = none ∧ ∀ n', n' < gC G' → gH G' n' ≠ 391 + gU G) ∧ (fty T D d = 13 → m < k ∧ k < gC G' ∧ gH G' k = 391 + gU G ∧ ftg T D d = some (gN G' k)) := by
          intro f hf'
          obtain ⟨d, hd⟩ := ho f hf'
          obtain ⟨w1, w2⟩ := u9 f d hf' hd.1
          refine ⟨d, by rw [(u4 m z).1]; exact hd, fun y => ⟨t4, hH (w1 y)⟩, fun y => ?_⟩
          obtain ⟨v1, v2, v3⟩ := w2 y
          exact ⟨by omega, by omega, by rw [v2]; exact (u7 v1).1, v3⟩
        have keyE : EO τ c T D G' m (391 + gU G, o, k, 0, []) := ⟨Nat.le_add_right _ _, l1, t3, t6, ⟨0, 0, t7, t8, Nat.le_refl _, Nat.zero_le _, rfl⟩, fun y => ⟨t4, hH (u8 y)⟩, kf⟩
        refine ⟨t1, Or.inr ⟨(391 + gU G, o, k, 0, []), mem_insE.mpr (Or.inl rfl), t2⟩, insE_srE a3, insE_nd a4 (fun x hx => by have := ea m z x hx; show eA x ≠ 391 + gU G; omega), insE_unE hg a3 a5 oL ho hr, fun e he => ?_⟩
        rcases mem_insE.mp he with y | y
        · rw [y]; exact keyE
        · exact keepE m z e y (a6 e y)
      · have hhm : gH G m ≠ gH G n := fun y => q (g7 m n z hn y)
        have nin : ∀ k, k = 2 ∨ k = 3 → ¬ ((gH G m = 389 ∧ k = 3) ∨ gH G m = 391 + gU G ∨ (gH G m = gH G n ∧ (k = 2 ∨ k = 3)) ∨ (k = 1 ∧ ∃ e ∈ gL G n, gH G m = eA e)) := fun k hk y => by
          have h1 := (H.h z).1
          have h2 := hfr m z
          rcases y with y | y | y | ⟨y, _⟩ <;> omega
        obtain ⟨a1, a2, a3, a4, a5, a6⟩ := hv
        unfold VN
        rw [u5 m z q, (u4 m z).2]
        refine ⟨?_, ?_, a3, a4, a5, fun e he => keepE m z e he (a6 e he)⟩
        · rw [(hf _ 2 (nin 2 (Or.inl rfl))).2.2]
          refine LN_keep _ _ a1 (fun e he => (hf _ 1 ?_).2.2)
          have := ea m z e he
          rintro (y | y | y | ⟨_, x, hx, y⟩)
          · omega
          · omega
          · omega
          · exact g9 m n z hn q e he x hx y
        · rw [(hf _ 3 (nin 3 (Or.inr rfl))).2.2]; exact a2
    · subst z
      obtain ⟨v1, v2, v3⟩ := u7 z2
      unfold VN
      rw [v1, v2]
      exact ⟨t4, Or.inl t5, List.Pairwise.nil, List.nodup_nil, List.Pairwise.nil, fun e he => by cases he⟩
/-- a named type is found, and is what its kind says -/
theorem ftg_msg {T : List Nat} {D : List Dc} (hg : GSc T D) {i : Nat} {d : Dc} (hd : D[i]? = some d) (h2 : dK d = 2) : (fty T D d = 13 → ∃ t, ftg T D d = some t ∧ isM D t) ∧ (fty T D d = 14 → ∃ t x, ftg T D d = some t ∧ D[t]? = some x ∧ dK x = 1) ∧ (fty T D d < 13 → ftg T D d = none) := by
  have hok := (hg.all.2.2 i d hd h2).1
  have hT := (hg.fld hd h2).2.2.2.1
  unfold okT at hok
  unfold fty ftg dTy dTg
  by_cases hn : nmd d = true
  · rw [hn] at hok
    cases er : rsl (lkC T D) T (wl T 701 0) D d with
    | none => rw [er] at hok; cases hok
    | some t =>
      have hk : ∃ x, D[t]? = some x ∧ dK x ≤ 1 := by
        rw [← lkR_eq hg.all.1] at er
        unfold rsl at er
        refine rsN_k _ _ _ (fun j hj => ?_) t er
        split at hj
        · obtain ⟨x, a1, a2, _⟩ := lkR_k hj; exact ⟨x, a1, a2⟩
        · exact rsU_k _ _ _ hj
      obtain ⟨x, hx, hx1⟩ := hk
      rw [hn]
      simp only [if_true]
      rw [knd_some hx]
      by_cases q : dK x = 0
      · rw [if_pos q]
        exact ⟨fun _ => ⟨t, rfl, x, hx, q⟩, fun z => (by omega), fun z => (by omega)⟩
      · rw [if_neg q]
        exact ⟨fun z => (by omega), fun _ => ⟨t, x, rfl, hx, by omega⟩, fun z => (by omega)⟩
  · have hn' := Bool.eq_false_iff.mpr hn
    rw [hn']
    simp only [Bool.false_eq_true, if_false]
    refine ⟨fun z => ?_, fun z => ?_, fun _ => trivial⟩
    · exact absurd (decide_eq_true ⟨h2, z⟩) hn
    · omega
/-- which message a field opens -/
def mtO (T : List Nat) (D : List Dc) (o : Option Nat) : Option Nat := match o with
  | none => none
  | some f => match D[f]? with
    | none => none
    | some d => if fty T D d = 13 then ftg T D d else none
/-- a chain without the rivals of a field -/
def drG (D : List Dc) (o : Option Nat) (L : List Eg) : List Eg := match o with
  | none => L
  | some f => match D[f]? with
    | none => L
    | some d => if dO d = none then L else L.filter (fun e => !riv D f d e)
theorem gSet_self (G : Gh) (n : Nat) : gSet G n (gL G n) = G := by
  obtain ⟨a, b, l, c, u, p⟩ := G
  unfold gSet gL gN gH gC gU gP
  simp only
  have : up l n (l n) = l := by
    funext t
    unfold up
    by_cases q : t = n
    · rw [if_pos q, q]
    · rw [if_neg q]
  rw [this]
/-- the class puts one more value of a field, or unknown bytes -/
theorem X8_put {U c n : Nat} {σ : SG} {T : List Nat} {D : List Dc} {G : Gh} {o : Option Nat} (hU : 4000 < U) (hcb : cb c) (hg : GSc T D) (hC : CS σ c T D) (h : VG σ c T D G) (hn : n < gC G) (hu : gU G < 700) (ho : ∀ f, o = some f → ∃ d, isF D (gN G n) f d) :
    ∃ a τ, x_X8_put U 389 (some (gH G n)) (ad c o) σ = some (some a, τ) ∧ fV σ τ ∧ CS τ c T D ∧ (∀ b, ruE D o (drG D o (gL G n)) = some b → a = eA b ∧ VG τ c T D (gSet G n (drG D o (gL G n)))) ∧ (ruE D o (drG D o (gL G n)) = none → a = 391 + gU G ∧ VG τ c T D (gNew D (gSet G n (drG D o (gL G n))) n o (mtO T D o))) := by
  have hl := hg.2.1
  -- from a chain without rivals
  have core : ∀ (υ : SG) (L : List Eg), fV σ υ → CS υ c T D → VG υ c T D (gSet G n L) → drG D o (gL G n) = L → ∃ a τ, x_X8_put_17 U 389 (some (gH G n)) (ad c o) υ = some (some a, τ) ∧ fV σ τ ∧ CS τ c T D ∧ (∀ b, ruE D o L = some b → a = eA b ∧ VG τ c T D (gSet G n L)) ∧ (ruE D o L = none → a = 391 + gU G ∧ VG τ c T D (gNew D (gSet G n L) n o (mtO T D o))) := by
    intro υ L fυ cυ vυ _
    have gLn : gL (gSet G n L) n = L := up_s _ _ _
    have hv := vυ.2.2.2.2.2.2.2.2.2 n hn
    unfold VN at hv
    rw [gLn] at hv
    have hh := vυ.h hn
    have hlen := vυ.len hn
    rw [gLn] at hlen
    have ef : ∀ e ∈ L, EF υ c D e := fun e he => vυ.ef hn (by rw [gLn]; exact he)
    have hok : ∀ f, o = some f → ∃ d, D[f]? = some d ∧ dK d = 2 := fun f hf => by obtain ⟨d, hd⟩ := ho f hf; exact ⟨d, hd.1, hd.2.1⟩
    have hlast : x_X8_lastUpTo U 389 (some (gH G n)) (lN (key D o)) υ = some (prN none (twE D o L)) := X8_lastUpTo (h := gH G n) (v := key D o) (L := L) hU hcb hg cυ (key_lt hg hok) hh.1 hh.2.1 hv.1 ef (by omega) hv.2.2.1 hv.2.1
    unfold x_X8_put_17
    have hk := C_key (o := o) (K := fun s => x_X8_put_33 U 389 (some (gH G n)) (ad c o) s (some (gH G n)) υ) hcb hg cυ hok
    rw [hk]
    unfold x_X8_put_33
    rw [hlast, b1_eq]
    -- a new node
    have new : ruE D o L = none → ∃ a τ, x_X8_put_62 U 389 (some (gH G n)) (ad c o) (prN none (twE D o L)) υ = some (some a, τ) ∧ fV σ τ ∧ CS τ c T D ∧ (∀ b, ruE D o L = some b → a = eA b ∧ VG τ c T D (gSet G n L)) ∧ (ruE D o L = none → a = 391 + gU G ∧ VG τ c T D (gNew D (gSet G n L) n o (mtO T D o))) := by
      intro hr
      obtain ⟨τ, t0, t1, t2, t3, t4, t5, t6, t7, t8, t9, tf⟩ := X8_put_62 (U := U) (o := o) vυ hn hu (match mtO T D o with | none => 0 | some _ => gC G)
      rw [gLn] at t0 t1
      have fτ : fV υ τ := fV_P tf (fun b k z => by
        have hgu : gU (gSet G n L) = gU G := rfl
        rcases z with z | z | z | ⟨_, e, he, z⟩
        · exact Or.inr z
        · exact Or.inl (by omega)
        · have h1 := hh.1; have h2 := hh.2.1; exact Or.inl (by omega)
        · rw [gLn] at he; have hx := ef e he; have h1 := hx.1; have h2 := hx.2.1; exact Or.inl (by omega))
      · refine ⟨391 + gU G, τ, t0, fV_trans fυ fτ, CS_fV cυ hcb fτ, fun b hb => (by rw [hr] at hb; cases hb), fun _ => ⟨rfl, ?_⟩⟩
        have ho' : ∀ f, o = some f → ∃ d, isF D (gN (gSet G n L) n) f d := ho
        cases hm : mtO T D o with
        | none =>
          rw [hm] at t1
          refine VG_new (n := n) (k := 0) (o := o) hg vυ hn hu ho' (by rw [gLn]; exact hr) rfl rfl (Or.inl rfl) (fun m _ => ⟨rfl, rfl⟩) (fun m _ hmn => up_o hmn) ?_ (fun z => absurd z (Nat.lt_irrefl _)) (fun _ => rfl) (fun f d hf hd => ⟨fun _ => rfl, fun z => ?_⟩) (by rw [gLn]; exact t1) t2 t3 t4 t5 t6 t7 t8 t9 tf
          · show up (gL (gSet G n L)) n _ n = _
            rw [up_s]
          · exfalso
            obtain ⟨x, hx⟩ := ho f hf
            have := hx.1
            rw [hd] at this
            cases this
            obtain ⟨t, ht, _⟩ := (ftg_msg hg hd hx.2.1).1 z
            unfold mtO at hm
            rw [hf] at hm
            simp only at hm
            rw [hd] at hm
            simp only at hm
            rw [if_pos z, ht] at hm
            cases hm
        | some t =>
          rw [hm] at t1
          -- the field opens a message
          obtain ⟨f, hf⟩ : ∃ f, o = some f := by
            cases o with
            | none => cases hm
            | some f => exact ⟨f, rfl⟩
          obtain ⟨x, hx⟩ := ho f hf
          have hm' := hm
          unfold mtO at hm'
          rw [hf] at hm'
          simp only at hm'
          rw [hx.1] at hm'
          simp only at hm'
          by_cases q : fty T D x = 13
          · rw [if_pos q] at hm'
            obtain ⟨t', ht', hMt⟩ := (ftg_msg hg hx.1 hx.2.1).1 q
            rw [hm'] at ht'
            cases ht'
            refine VG_new (n := n) (k := gC G) (o := o) hg vυ hn hu ho' (by rw [gLn]; exact hr) rfl rfl (Or.inr rfl) (fun m hmC => ⟨up_o (Nat.ne_of_lt hmC), up_o (Nat.ne_of_lt hmC)⟩) (fun m hmC hmn => (up_o (Nat.ne_of_lt hmC)).trans (up_o hmn)) ?_ (fun _ => ⟨up_s _ _ _, up_s _ _ _, ?_⟩) (fun z => (by rw [hf] at z; cases z)) (fun f' d hf' hd => ⟨fun z => ?_, fun z => ⟨Nat.lt_succ_self _, rfl, ?_⟩⟩) (by rw [gLn]; exact t1) t2 t3 t4 t5 t6 t7 t8 t9 tf
            · show up (up (gL (gSet G n L)) n _) (gC G) [] n = _
              rw [up_o (Nat.ne_of_lt hn), up_s]
              try rfl
            · show isM D (up (gN G) (gC G) t (gC G))
              rw [up_s]; exact hMt
            · rw [hf] at hf'
              cases hf'
              rw [hx.1] at hd
              cases hd
              exact absurd q z
            · rw [hf] at hf'
              cases hf'
              rw [hx.1] at hd
              cases hd
              show ftg T D x = some (up (gN G) (gC G) t (gC G))
              rw [up_s]; exact hm'
          · rw [if_neg q] at hm'; cases hm'
    have same : ruE D o L = none → (if prN none (twE D o L) = none then x_X8_put_62 U 389 (some (gH G n)) (ad c o) (prN none (twE D o L)) υ else if ad c o = none then x_X8_put_62 U 389 (some (gH G n)) (ad c o) (prN none (twE D o L)) υ else ck 4 (prN none (twE D o L)) fun q35 => if sP υ q35 0 = ad c o then (ck 3 (ad c o) fun q39 => if sI υ q39 11 = 0 then some (prN none (twE D o L), υ) else x_X8_put_62 U 389 (some (gH G n)) (ad c o) (prN none (twE D o L)) υ) else x_X8_put_62 U 389 (some (gH G n)) (ad c o) (prN none (twE D o L)) υ) = x_X8_put_62 U 389 (some (gH G n)) (ad c o) (prN none (twE D o L)) υ := by
      intro hr
      rcases listE_last (L := twE D o L) with hA | ⟨A, b, hA⟩
      · rw [hA, if_pos (show prN none [] = none from rfl)]
      · have hbL : b ∈ L := by rw [← tdE D o L, hA]; simp
        obtain ⟨x1, x2, x3, x4⟩ := ef b hbL
        rw [hA, prN_last, if_neg (by intro z; cases z)]
        cases ho' : o with
        | none => rw [if_pos (show ad c none = none from rfl)]
        | some f =>
          obtain ⟨d, hd⟩ := ho f ho'
          have hfl := (List.getElem?_eq_some_iff.mp hd.1).1
          rw [if_neg (by intro z; cases z), ck_eq (nd_sh x1 (by omega)), x3, ifd ad_inj]
          by_cases q : eF b = some f
          · rw [if_pos q, ad_some, ck_eq (it_sh hcb (by omega)), (cυ.it hd.1).1.2.2.2.2.2.2.2.2.1]
            cases hR : dR d with
            | true => rw [if_neg (by decide)]
            | false =>
              exfalso
              unfold ruE at hr
              rw [ho'] at hr hA
              rw [show (twE D (some f) L).getLast? = some b by rw [hA]; simp] at hr
              simp only at hr
              rw [if_pos ⟨q, fun d' hd' => by rw [hd.1] at hd'; cases hd'; exact hR⟩] at hr
              cases hr
          · rw [if_neg q]
    cases hr : ruE D o L with
    | none =>
      obtain ⟨a, τ, r1, r2, r3, r4, r5⟩ := new hr
      refine ⟨a, τ, ?_, r2, r3, fun b hb => (by cases hb), fun _ => r5 hr⟩
      rw [← r1]
      exact same hr
    | some b =>
      have hr' := hr
      unfold ruE at hr'
      cases ho' : o with
      | none => rw [ho'] at hr'; cases hr'
      | some f =>
        rw [ho'] at hr'
        cases hbl : (twE D (some f) L).getLast? with
        | none => rw [hbl] at hr'; cases hr'
        | some b' =>
          rw [hbl] at hr'
          simp only at hr'
          by_cases q : eF b' = some f ∧ (∀ d, D[f]? = some d → dR d = false)
          · rw [if_pos q] at hr'
            cases hr'
            obtain ⟨d, hd⟩ := ho f ho'
            have hfl := (List.getElem?_eq_some_iff.mp hd.1).1
            obtain ⟨A, hA⟩ := List.getLast?_eq_some_iff.mp hbl
            have hbL : b ∈ L := by rw [← tdE D (some f) L, hA]; simp
            obtain ⟨x1, x2, x3, x4⟩ := ef b hbL
            refine ⟨eA b, υ, ?_, fυ, cυ, fun b'' hb'' => (by cases hb''; exact ⟨rfl, vυ⟩), fun z => (by cases z)⟩
            show (if prN none (twE D (some f) L) = none then _ else _) = _
            rw [hA, prN_last, if_neg (by intro z; cases z), if_neg (by intro z; cases z), ck_eq (nd_sh x1 (by omega)), x3, q.1, if_pos rfl, ad_some, ck_eq (it_sh hcb (by omega)), (cυ.it hd.1).1.2.2.2.2.2.2.2.2.1, q.2 d hd.1, if_pos (show zI false = 0 from rfl)]
          · rw [if_neg q] at hr'; cases hr'
  unfold x_X8_put
  cases ho' : o with
  | none =>
    rw [if_pos (show ad c none = none from rfl)]
    rw [ho'] at core
    refine core σ (gL G n) (fV_refl σ) hC ?_ rfl
    rw [gSet_self]; exact h
  | some f =>
    obtain ⟨d, hd⟩ := ho f ho'
    have hfl := (List.getElem?_eq_some_iff.mp hd.1).1
    rw [ho'] at core
    have hdr : drG D (some f) (gL G n) = if dO d = none then gL G n else (gL G n).filter (fun e => !riv D f d e) := by unfold drG; simp only; rw [hd.1]
    rw [if_neg (by intro z; cases z), ad_some, ck_eq (it_sh hcb (by omega)), (hC.it hd.1).1.2.2.2.1, ifd ad_none]
    by_cases q : dO d = none
    · rw [if_pos q]
      rw [if_pos q] at hdr
      rw [hdr]
      refine core σ (gL G n) (fV_refl σ) hC ?_ hdr
      rw [gSet_self]; exact h
    · rw [if_neg q]
      rw [if_neg q] at hdr
      obtain ⟨υ, d1, d2, d3⟩ := X8_dropRivals hU hcb hg hC h hn hd.1
      have d1' : x_X8_dropRivals U 389 (some (gH G n)) (some (c + 5 + f)) σ = some υ := d1
      rw [d1', b1_eq, hdr]
      exact core υ _ d3 (CS_fV hC hcb d3) d2 hdr
/-! ===== a value, as both see it; the class's side ===== -/
abbrev It : Type := Int64 × List Nat × Nat
/-- a value: the message of each opened one, how many, what each field holds, unknown bytes -/
abbrev AV : Type := (Nat → Nat) × Nat × (Nat → Nat → List It) × (Nat → List Nat)
def aN (A : AV) : Nat → Nat := A.1
def aC (A : AV) : Nat := A.2.1
def aE (A : AV) : Nat → Nat → List It := A.2.2.1
def aU (A : AV) : Nat → List Nat := A.2.2.2
/-- a value that counts as none -/
def noth (T : List Nat) (D : List Dc) (d : Dc) (v : Int64) (t : List Nat) : Bool := !dR d && decide (dO d = none) && decide (fty T D d ≠ 13) && (if nmr (fty T D d) then decide (v = 0) else decide (t = []))
def rivB (D : List Dc) (f : Nat) (d : Dc) (g : Nat) : Bool := match D[g]? with
  | none => false
  | some x => decide (dO d ≠ none ∧ g ≠ f ∧ dO x = dO d)
/-- one more value of a field -/
def aPut (T : List Nat) (D : List Dc) (A : AV) (n f : Nat) (d : Dc) (v : Int64) (t : List Nat) : AV := (aN A, aC A, up (aE A) n (fun g => if g = f then (if dR d then aE A n f ++ [(v, t, 0)] else if noth T D d v t then [] else [(v, t, 0)]) else if rivB D f d g then [] else aE A n g), aU A)
/-- a message is opened that was not there -/
def aNew (D : List Dc) (A : AV) (n f : Nat) (d : Dc) (t : Nat) : AV := (up (aN A) (aC A) t, aC A + 1, up (up (aE A) n (fun g => if g = f then aE A n f ++ [(0, [], aC A)] else if rivB D f d g then [] else aE A n g)) (aC A) (fun _ => []), up (aU A) (aC A) [])
/-- a message is opened again -/
def aOld (D : List Dc) (A : AV) (n f : Nat) (d : Dc) : AV := (aN A, aC A, up (aE A) n (fun g => if g ≠ f ∧ rivB D f d g then [] else aE A n g), aU A)
def aUnk (A : AV) (n : Nat) (t : List Nat) : AV := (aN A, aC A, aE A, up (aU A) n (aU A n ++ t))
def flo (o : Option Nat) (L : List Eg) : List Eg := L.filter (fun e => decide (eF e = o))
def itm (T : List Nat) (D : List Dc) (d : Dc) (e : Eg) : It := if fty T D d = 13 then (0, [], eK e) else if nmr (fty T D d) then (eV e, [], 0) else (0, eT e, 0)
def live (T : List Nat) (D : List Dc) (d : Dc) (e : Eg) : Bool := !noth T D d (eV e) (eT e)
def VEn (T : List Nat) (D : List Dc) (m : Nat) (L : List Eg) (E : Nat → List It) (u : List Nat) : Prop := (∀ f d, isF D m f d → ((flo (some f) L).filter (live T D d)).map (itm T D d) = E f) ∧ ((flo none L).map eT).flatten = u
def VE (T : List Nat) (D : List Dc) (G : Gh) (A : AV) : Prop := gC G = aC A ∧ (∀ n, n < gC G → gN G n = aN A n) ∧ ∀ n, n < gC G → VEn T D (gN G n) (gL G n) (aE A n) (aU A n)
theorem flo_mem {o : Option Nat} {L : List Eg} {e : Eg} : e ∈ flo o L ↔ e ∈ L ∧ eF e = o := by
  unfold flo
  rw [List.mem_filter, decide_eq_true_iff]
theorem flo_app (o : Option Nat) (A B : List Eg) : flo o (A ++ B) = flo o A ++ flo o B := List.filter_append ..
theorem flo_cons (o : Option Nat) (e : Eg) (B : List Eg) : flo o (e :: B) = (if eF e = o then [e] else []) ++ flo o B := by
  unfold flo
  rw [List.filter_cons]
  by_cases q : eF e = o
  · rw [decide_eq_true q, if_pos rfl, if_pos q]; try rfl
  · rw [decide_eq_false q, if_neg (by decide), if_neg q]; try rfl
theorem flo_nil {o : Option Nat} {L : List Eg} (h : ∀ e ∈ L, eF e ≠ o) : flo o L = [] := by
  unfold flo
  rw [List.filter_eq_nil_iff]
  intro e he
  rw [decide_eq_true_iff]
  exact h e he
theorem flo_dr {D : List Dc} {f : Nat} {d : Dc} {L : List Eg} (hd : D[f]? = some d) (hL : ∀ x ∈ L, ∀ g, eF x = some g → ∃ y, D[g]? = some y) (o : Option Nat) : flo o (drG D (some f) L) = match o with | none => flo none L | some g => if rivB D f d g then [] else flo (some g) L := by
  have e0 : drG D (some f) L = if dO d = none then L else L.filter (fun e => !riv D f d e) := by unfold drG; simp only; rw [hd]
  rw [e0]
  by_cases q : dO d = none
  · rw [if_pos q]
    cases o with
    | none => rfl
    | some g =>
      have : rivB D f d g = false := by
        unfold rivB
        cases D[g]? with
        | none => rfl
        | some x => exact decide_eq_false (fun z => z.1 q)
      simp only
      rw [this]
      try rfl
  · rw [if_neg q]
    unfold flo
    rw [List.filter_filter]
    cases o with
    | none =>
      apply List.filter_congr
      intro e _
      by_cases z : eF e = none
      · have : riv D f d e = false := by unfold riv; rw [z]
        rw [decide_eq_true z, this]; try rfl
      · rw [decide_eq_false z]; try rfl
    | some g =>
      simp only
      cases hx : D[g]? with
      | none =>
        have : rivB D f d g = false := by unfold rivB; rw [hx]
        rw [this]
        simp only [Bool.false_eq_true, if_false]
        apply List.filter_congr
        intro e he
        by_cases z : eF e = some g
        · obtain ⟨y, hy⟩ := hL e he g z
          rw [hx] at hy; cases hy
        · rw [decide_eq_false z]; try rfl
      | some x =>
        have e1 : rivB D f d g = decide (g ≠ f ∧ dO x = dO d) := by
          unfold rivB
          rw [hx]
          simp only
          by_cases w : g ≠ f ∧ dO x = dO d
          · rw [decide_eq_true w, decide_eq_true ⟨q, w.1, w.2⟩]
          · rw [decide_eq_false w, decide_eq_false (fun z => w z.2)]
        have e2 : ∀ e, eF e = some g → riv D f d e = decide (g ≠ f ∧ dO x = dO d) := fun e he => by unfold riv; rw [he]; simp only; rw [hx]
        rw [e1]
        by_cases w : g ≠ f ∧ dO x = dO d
        · rw [decide_eq_true w, if_pos rfl, List.filter_eq_nil_iff]
          intro e _
          by_cases z : eF e = some g
          · rw [decide_eq_true z, e2 e z, decide_eq_true w]; decide
          · rw [decide_eq_false z]; simp
        · rw [decide_eq_false w, if_neg (by decide)]
          apply List.filter_congr
          intro e _
          by_cases z : eF e = some g
          · rw [decide_eq_true z, e2 e z, decide_eq_false w]; try rfl
          · rw [decide_eq_false z]; try rfl
theorem flo_ins {D : List Dc} {e : Eg} {L : List Eg} (hs : srE D L) (o : Option Nat) : flo o (insE D e L) = if eF e = o then flo o L ++ [e] else flo o L := by
  have hL := tdE D (eF e) L
  unfold insE
  rw [flo_app, flo_cons]
  by_cases q : eF e = o
  · rw [if_pos q, if_pos q]
    have h0 : flo o (dwE D (eF e) L) = [] := flo_nil (fun x hx z => by
      have := dwE_gt L hs x hx
      rw [z, q] at this
      omega)
    conv => rhs; rw [← hL, flo_app, h0, List.append_nil]
    rw [h0, List.append_nil]
  · rw [if_neg q, if_neg q, List.nil_append]
    conv => rhs; rw [← hL, flo_app]
/-- a node's number and text are told -/
def setE (a : Nat) (v : Int64) (t : List Nat) (L : List Eg) : List Eg := L.map (fun e => if eA e = a then (eA e, eF e, eK e, v, t) else e)
theorem setE_a {a : Nat} {v : Int64} {t : List Nat} {L : List Eg} : (setE a v t L).map eA = L.map eA := by
  unfold setE
  rw [List.map_map]
  apply List.map_congr_left
  intro e _
  show eA (if eA e = a then (eA e, eF e, eK e, v, t) else e) = eA e
  split <;> rfl
theorem setE_f {a : Nat} {v : Int64} {t : List Nat} (e : Eg) : eF (if eA e = a then (eA e, eF e, eK e, v, t) else e) = eF e := by split <;> rfl
theorem setE_no {a : Nat} {v : Int64} {t : List Nat} {L : List Eg} (h : ∀ e ∈ L, eA e ≠ a) : setE a v t L = L := by
  unfold setE
  have := List.map_congr_left (l := L) (f := fun e => if eA e = a then (eA e, eF e, eK e, v, t) else e) (g := id) (fun e he => if_neg (h e he))
  rw [this, List.map_id]
theorem flo_set {a : Nat} {v : Int64} {t : List Nat} {o : Option Nat} {L : List Eg} : flo o (setE a v t L) = setE a v t (flo o L) := by
  unfold flo setE
  rw [List.filter_map]
  congr 1
  apply List.filter_congr
  intro e _
  show decide (eF (if eA e = a then (eA e, eF e, eK e, v, t) else e) = o) = _
  rw [setE_f]
theorem setE_app {a : Nat} {v : Int64} {t : List Nat} {A B : List Eg} : setE a v t (A ++ B) = setE a v t A ++ setE a v t B := List.map_append ..
theorem LN_set {σ : SG} {a : Nat} {v : Int64} {t : List Nat} : ∀ (L : List Eg) (p : Option Nat), LN σ (setE a v t L) p ↔ LN σ L p := by
  intro L
  induction L with
  | nil => intro p; exact Iff.rfl
  | cons e L ih =>
    intro p
    have e1 : setE a v t (e :: L) = (if eA e = a then (eA e, eF e, eK e, v, t) else e) :: setE a v t L := rfl
    have e2 : eA (if eA e = a then (eA e, eF e, eK e, v, t) else e) = eA e := by split <;> rfl
    rw [e1]
    show (p = some (eA _) ∧ LN σ (setE a v t L) (sP σ (eA _) 1)) ↔ _
    rw [e2, ih]
    exact Iff.rfl
/-- a node's number and text change, the texts grow -/
theorem VG_set {σ τ : SG} {c n a x y : Nat} {T : List Nat} {D : List Dc} {G : Gh} {v : Int64} {t P' : List Nat} (h : VG σ c T D G) (hn : n < gC G) (ha : ∃ e ∈ gL G n, eA e = a) (h4 : sL τ a 4 = v) (h5 : sI τ a 5 = nI x) (h6 : sI τ a 6 = nI y) (hxy : x ≤ y) (hy : y ≤ P'.length) (ht : slc P' x y = t) (hP : RB τ 1092 P' 0) (hpre : ∀ x y, y ≤ (gP G).length → slc P' x y = slc (gP G) x y) (hpl : (gP G).length ≤ P'.length) (hf : fP (fun b k => (b = a ∧ (k = 4 ∨ k = 5 ∨ k = 6)) ∨ b = 1092 ∨ b = 1093) σ τ) : VG τ c T D (gN G, gH G, up (gL G) n (setE a v t (gL G n)), gC G, gU G, P') := by
  obtain ⟨e0, he0, rfl⟩ := ha
  have H := h
  obtain ⟨g1, g2, g3, g4, g5, g6, g7, g8, g9, g10⟩ := h
  have hE0 := H.e hn he0
  have b0 := hE0.1
  have b1' := hE0.2.1
  have cell : ∀ b k, b < 1092 → (b ≠ eA e0 ∨ k < 4) → sI τ b k = sI σ b k ∧ sL τ b k = sL σ b k ∧ sP τ b k = sP σ b k := fun b k h1 h2 => hf b k (by rintro (z | z | z) <;> omega)
  have mem : ∀ j e, e ∈ up (gL G) n (setE (eA e0) v t (gL G n)) j → ∃ e' ∈ gL G j, eA e = eA e' ∧ eF e = eF e' ∧ eK e = eK e' ∧ ((e = e' ∧ (j ≠ n ∨ eA e ≠ eA e0)) ∨ (j = n ∧ eA e = eA e0 ∧ eV e = v ∧ eT e = t)) := fun j e he => by
    by_cases q : j = n
    · subst q
      rw [up_s] at he
      obtain ⟨e', he', hx⟩ := List.mem_map.mp he
      by_cases w : eA e' = eA e0
      · rw [if_pos w] at hx
        exact ⟨e', he', by rw [← hx]; rfl, by rw [← hx]; rfl, by rw [← hx]; rfl, Or.inr ⟨rfl, by rw [← hx]; exact w, by rw [← hx]; rfl, by rw [← hx]; rfl⟩⟩
      · rw [if_neg w] at hx
        exact ⟨e', he', by rw [hx], by rw [hx], by rw [hx], Or.inl ⟨hx.symm, Or.inr (by rw [← hx]; exact w)⟩⟩
    · rw [up_o q] at he
      exact ⟨e, he, rfl, rfl, rfl, Or.inl ⟨rfl, Or.inl q⟩⟩
  refine ⟨((cell 389 3 (by decide) (Or.inr (by decide))).1).trans g1, g2, hP, g4, g5, g6, g7, g8, fun m m' hm hm' hne e he e' he' => ?_, fun m hm => ?_⟩
  · obtain ⟨x1, hx1, q1, _⟩ := mem m e he
    obtain ⟨x2, hx2, q2, _⟩ := mem m' e' he'
    rw [q1, q2]
    exact g9 m m' hm hm' hne x1 hx1 x2 hx2
  · obtain ⟨a1, a2, a3, a4, a5, a6⟩ := g10 m hm
    have hhm := H.h hm
    -- each entry
    have each : ∀ e ∈ up (gL G) n (setE (eA e0) v t (gL G n)) m, EO τ c T D (gN G, gH G, up (gL G) n (setE (eA e0) v t (gL G n)), gC G, gU G, P') m e := by
      intro e he
      obtain ⟨e', he', q1, q2, q3, q4⟩ := mem m e he
      obtain ⟨b1, b2, b3, b4, b5, b6, b7⟩ := a6 e' he'
      have l1 : eA e' < 1092 := by omega
      refine ⟨by rw [q1]; exact b1, by rw [q1]; exact b2, by rw [q1, q2, (cell (eA e') 0 l1 (Or.inr (by decide))).2.2]; exact b3, ?_, ?_, fun z => ?_, fun f hf' => ?_⟩
      · rcases q4 with ⟨z, w⟩ | ⟨z, w1, w2, w3⟩
        · subst z
          have hne : eA e ≠ eA e0 := by
            rcases w with w | w
            · exact g9 m n hm hn w e he' e0 he0
            · exact w
          rw [(cell (eA e) 4 l1 (Or.inl hne)).2.1]; exact b4
        · rw [w1, w2]; exact h4
      · rcases q4 with ⟨z, w⟩ | ⟨z, w1, w2, w3⟩
        · subst z
          have hne : eA e ≠ eA e0 := by
            rcases w with w | w
            · exact g9 m n hm hn w e he' e0 he0
            · exact w
          obtain ⟨i, j, x1, x2, x3, x4, x5⟩ := b5
          exact ⟨i, j, ((cell (eA e) 5 l1 (Or.inl hne)).1).trans x1, ((cell (eA e) 6 l1 (Or.inl hne)).1).trans x2, x3, Nat.le_trans x4 hpl, (hpre i j x4).trans x5⟩
        · exact ⟨x, y, by rw [w1]; exact h5, by rw [w1]; exact h6, hxy, hy, by rw [w3]; exact ht⟩
      · rw [q2] at z
        rw [q1, (cell (eA e') 2 l1 (Or.inr (by decide))).2.2]
        exact b6 z
      · rw [q2] at hf'
        obtain ⟨d, x1, x2, x3⟩ := b7 f hf'
        rw [q1, q3, (cell (eA e') 2 l1 (Or.inr (by decide))).2.2]
        exact ⟨d, x1, x2, x3⟩
    have hL2 : sP τ (gH G m) 2 = sP σ (gH G m) 2 := (cell _ 2 hhm.2.1 (Or.inr (by decide))).2.2
    have hL3 : sP τ (gH G m) 3 = sP σ (gH G m) 3 := (cell _ 3 hhm.2.1 (Or.inr (by decide))).2.2
    have lnk : LN τ (gL G m) (sP σ (gH G m) 2) := LN_keep _ _ a1 (fun e he => (cell _ 1 (by have := (a6 e he).2.1; omega) (Or.inr (by decide))).2.2)
    by_cases q : m = n
    · subst q
      have eL : up (gL G) m (setE (eA e0) v t (gL G m)) m = setE (eA e0) v t (gL G m) := up_s _ _ _
      refine ⟨?_, ?_, ?_, ?_, ?_, each⟩
      · show LN τ (up (gL G) m (setE (eA e0) v t (gL G m)) m) _
        rw [eL, LN_set]
        show LN τ (gL G m) (sP τ (gH G m) 2)
        rw [hL2]; exact lnk
      · show sP τ (gH G m) 3 = none ∨ ∃ e ∈ up (gL G) m (setE (eA e0) v t (gL G m)) m, sP τ (gH G m) 3 = some (eA e)
        rw [eL, hL3]
        rcases a2 with z | ⟨r, hr, z⟩
        · exact Or.inl z
        · refine Or.inr ⟨_, List.mem_map_of_mem hr, ?_⟩
          rw [z]
          congr 1
          split <;> rfl
      · show srE D (up (gL G) m (setE (eA e0) v t (gL G m)) m)
        rw [eL]
        unfold srE setE
        rw [List.pairwise_map]
        refine a3.imp (fun {p q} h => ?_)
        rw [setE_f, setE_f]; exact h
      · show ((up (gL G) m (setE (eA e0) v t (gL G m)) m).map eA).Nodup
        rw [eL, setE_a]; exact a4
      · show unE D (up (gL G) m (setE (eA e0) v t (gL G m)) m)
        rw [eL]
        unfold unE setE
        rw [List.pairwise_map]
        refine a5.imp (fun {p q} h => ?_)
        rw [setE_f, setE_f]; exact h
    · have eL : up (gL G) n (setE (eA e0) v t (gL G n)) m = gL G m := up_o q
      refine ⟨?_, ?_, ?_, ?_, ?_, each⟩
      · show LN τ (up (gL G) n (setE (eA e0) v t (gL G n)) m) (sP τ (gH G m) 2)
        rw [eL, hL2]; exact lnk
      · show sP τ (gH G m) 3 = none ∨ ∃ e ∈ up (gL G) n (setE (eA e0) v t (gL G n)) m, sP τ (gH G m) 3 = some (eA e)
        rw [eL, hL3]; exact a2
      · show srE D (up (gL G) n (setE (eA e0) v t (gL G n)) m)
        rw [eL]; exact a3
      · show ((up (gL G) n (setE (eA e0) v t (gL G n)) m).map eA).Nodup
        rw [eL]; exact a4
      · show unE D (up (gL G) n (setE (eA e0) v t (gL G n)) m)
        rw [eL]; exact a5
/-! ===== the class puts numbers, texts, unknown bytes, messages ===== -/
/-- only one chain changes -/
theorem VE_put {T : List Nat} {D : List Dc} {G G2 : Gh} {A : AV} {n f : Nat} {d : Dc} {v : Int64} {t : List Nat} {e : Eg} (h : VE T D G A) (hn : n < gC G) (hF : isF D (gN G n) f d) (h13 : fty T D d ≠ 13) (c1 : gC G2 = gC G) (c2 : ∀ m, m < gC G → gN G2 m = gN G m) (c3 : ∀ m, m < gC G → m ≠ n → gL G2 m = gL G m) (hit : itm T D d e = (v, t, 0)) (hlv : live T D d e = !noth T D d v t)
    (cf : flo (some f) (gL G2 n) = if dR d then flo (some f) (gL G n) ++ [e] else [e]) (cg : ∀ g, g ≠ f → flo (some g) (gL G2 n) = if rivB D f d g then [] else flo (some g) (gL G n)) (cn : flo none (gL G2 n) = flo none (gL G n)) : VE T D G2 (aPut T D A n f d v t) := by
  obtain ⟨h1, h2, h3⟩ := h
  refine ⟨c1.trans h1, fun m hm => (c2 m (by omega)).trans (h2 m (by omega)), fun m hm => ?_⟩
  rw [c2 m (by omega)]
  by_cases q : m = n
  · subst q
    obtain ⟨k1, k2⟩ := h3 m hn
    refine ⟨fun g x hx => ?_, by rw [cn]; exact k2⟩
    show _ = up (aE A) m _ m g
    rw [up_s]
    by_cases w : g = f
    · subst w
      have : x = d := by have := hx.1; rw [hF.1] at this; exact (Option.some.inj this).symm
      subst this
      rw [if_pos rfl, cf]
      cases hR : dR x with
      | true =>
        have nz : noth T D x v t = false := by unfold noth; rw [hR]; try rfl
        rw [if_pos rfl, if_pos rfl, List.filter_append, List.map_append, k1 g x hx, List.filter_cons, hlv, nz]
        show _ ++ [itm T D x e] = _
        rw [hit]
      | false =>
        rw [if_neg (by decide), if_neg (by decide), List.filter_cons, hlv]
        cases nz : noth T D x v t with
        | true => rfl
        | false =>
          show [itm T D x e] = _
          rw [hit]; try rfl
    · rw [if_neg w, cg g w]
      cases rivB D f d g with
      | true => rfl
      | false => exact k1 g x hx
  · rw [c3 m (by omega) q]
    show VEn T D _ _ (up (aE A) n _ m) _
    rw [up_o q]
    exact h3 m (by omega)
theorem flo_un {D : List Dc} {f : Nat} {d : Dc} {L : List Eg} {b : Eg} (hun : unE D L) (hd : D[f]? = some d) (hR : dR d = false) (hb : b ∈ L) (hbf : eF b = some f) : flo (some f) L = [b] := by
  have hu : unE D (flo (some f) L) := hun.sublist List.filter_sublist
  have hm : b ∈ flo (some f) L := flo_mem.mpr ⟨hb, hbf⟩
  cases hL : flo (some f) L with
  | nil => rw [hL] at hm; cases hm
  | cons x K =>
    cases K with
    | nil => rw [hL] at hm; rw [List.mem_singleton.mp hm]
    | cons y K =>
      exfalso
      rw [hL] at hu
      obtain ⟨h1, _⟩ := List.pairwise_cons.mp hu
      have hx : x ∈ flo (some f) L := by rw [hL]; exact List.mem_cons_self ..
      have hy : y ∈ flo (some f) L := by rw [hL]; exact List.mem_cons_of_mem _ (List.mem_cons_self ..)
      have := h1 y (List.mem_cons_self ..) f d (flo_mem.mp hx).2 (flo_mem.mp hy).2 hd
      rw [hR] at this; cases this
theorem nodup_map_inj {L : List Eg} (h : (L.map eA).Nodup) : ∀ {x y : Eg}, x ∈ L → y ∈ L → eA x = eA y → x = y := by
  induction L with
  | nil => intro x y hx; cases hx
  | cons a L ih =>
    intro x y hx hy hxy
    rw [List.map_cons] at h
    obtain ⟨h1, h2⟩ := List.nodup_cons.mp h
    rcases List.mem_cons.mp hx with z | z <;> rcases List.mem_cons.mp hy with w | w
    · rw [z, w]
    · exact absurd (by rw [← z, hxy]; exact List.mem_map_of_mem w) h1
    · exact absurd (by rw [← w, ← hxy]; exact List.mem_map_of_mem z) h1
    · exact ih h2 z w hxy
/-- how chains differ after a put -/
def CPt (D : List Dc) (G G1 : Gh) (n f : Nat) (d : Dc) (a : Nat) : Prop := (∃ e ∈ gL G1 n, eA e = a) ∧ ∀ (v : Int64) (t : List Nat), ∃ e, eV e = v ∧ eT e = t ∧ flo (some f) (setE a v t (gL G1 n)) = (if dR d then flo (some f) (gL G n) ++ [e] else [e]) ∧ (∀ g, g ≠ f → flo (some g) (setE a v t (gL G1 n)) = if rivB D f d g then [] else flo (some g) (gL G n)) ∧ flo none (setE a v t (gL G1 n)) = flo none (gL G n)
theorem VG.fi {σ : SG} {c : Nat} {T : List Nat} {D : List Dc} {G : Gh} (h : VG σ c T D G) {n : Nat} (hn : n < gC G) : ∀ x ∈ gL G n, ∀ g, eF x = some g → ∃ y, isF D (gN G n) g y := fun x hx g hgx => by
  obtain ⟨y, y1, _⟩ := (h.e hn hx).2.2.2.2.2.2 g hgx
  exact ⟨y, y1⟩
theorem rivB_self {D : List Dc} {f : Nat} {d : Dc} : rivB D f d f = false := by
  unfold rivB
  cases D[f]? with
  | none => rfl
  | some x => exact decide_eq_false (fun z => z.2.1 rfl)
theorem drG_sub {D : List Dc} {o : Option Nat} {L : List Eg} : List.Sublist (drG D o L) L := by
  unfold drG
  split
  · exact List.Sublist.refl _
  · split
    · exact List.Sublist.refl _
    · split
      · exact List.Sublist.refl _
      · exact List.filter_sublist
/-- the class puts a value of a field that opens no message: the node, and how chains differ -/
theorem C_put {U c n f : Nat} {σ : SG} {T : List Nat} {D : List Dc} {G : Gh} {d : Dc} (hU : 4000 < U) (hcb : cb c) (hg : GSc T D) (hC : CS σ c T D) (h : VG σ c T D G) (hn : n < gC G) (hu : gU G < 700) (hF : isF D (gN G n) f d) (h13 : fty T D d ≠ 13) :
    ∃ a τ G1, x_X8_put U 389 (some (gH G n)) (ad c (some f)) σ = some (some a, τ) ∧ fV σ τ ∧ CS τ c T D ∧ VG τ c T D G1 ∧ 391 ≤ a ∧ a < 1091 ∧ gC G1 = gC G ∧ gN G1 = gN G ∧ gH G1 = gH G ∧ (∀ m, m ≠ n → gL G1 m = gL G m) ∧ gP G1 = gP G ∧ gU G1 ≤ gU G + 1 ∧ CPt D G G1 n f d a := by
  obtain ⟨a, τ, p1, p2, p3, p4, p5⟩ := X8_put (o := some f) hU hcb hg hC h hn hu (fun g hg' => by cases hg'; exact ⟨d, hF⟩)
  have hv := h.2.2.2.2.2.2.2.2.2 n hn
  have fi := h.fi hn
  have hfd : ∀ x ∈ gL G n, ∀ g, eF x = some g → ∃ y, D[g]? = some y := fun x hx g hgx => by obtain ⟨y, hy⟩ := fi x hx g hgx; exact ⟨y, hy.1⟩
  have hdr := flo_dr (L := gL G n) hF.1 hfd
  have hsub : List.Sublist (drG D (some f) (gL G n)) (gL G n) := drG_sub
  have hmt : mtO T D (some f) = none := by unfold mtO; simp only; rw [hF.1]; simp only; rw [if_neg h13]
  have hf1 : flo (some f) (drG D (some f) (gL G n)) = flo (some f) (gL G n) := by rw [hdr (some f)]; simp only; rw [rivB_self]; try rfl
  cases hr : ruE D (some f) (drG D (some f) (gL G n)) with
  | some b =>
    obtain ⟨q1, q2⟩ := p4 b hr
    have hr' := hr
    unfold ruE at hr'
    cases hbl : (twE D (some f) (drG D (some f) (gL G n))).getLast? with
    | none => rw [hbl] at hr'; cases hr'
    | some b' =>
      rw [hbl] at hr'
      simp only at hr'
      by_cases q : eF b' = some f ∧ (∀ d, D[f]? = some d → dR d = false)
      · rw [if_pos q] at hr'
        cases hr'
        obtain ⟨Z, hZ⟩ := List.getLast?_eq_some_iff.mp hbl
        have hb1 : b ∈ drG D (some f) (gL G n) := by rw [← tdE D (some f) (drG D (some f) (gL G n)), hZ]; simp
        have hbL := hsub.subset hb1
        have hR := q.2 d hF.1
        have fb : flo (some f) (drG D (some f) (gL G n)) = [b] := flo_un (hv.2.2.2.2.1.sublist hsub) hF.1 hR hb1 q.1
        have hbe := h.e hn hbL
        have b0 := hbe.1
        have b1' := hbe.2.1
        refine ⟨a, τ, _, p1, p2, p3, q2, by omega, by omega, rfl, rfl, rfl, fun m hm => up_o hm, rfl, Nat.le_succ _, ⟨b, ?_, q1.symm⟩, fun v t => ⟨(eA b, eF b, eK b, v, t), rfl, rfl, ?_, fun g hgf => ?_, ?_⟩⟩
        · show b ∈ up (gL G) n _ n
          rw [up_s]; exact hb1
        · show flo (some f) (setE a v t (up (gL G) n _ n)) = _
          rw [up_s, flo_set, fb, hR, q1]
          show [if eA b = eA b then _ else _] = _
          rw [if_pos rfl]; try rfl
        · show flo (some g) (setE a v t (up (gL G) n _ n)) = _
          rw [up_s, flo_set, hdr (some g)]
          simp only
          cases rivB D f d g with
          | true => rfl
          | false =>
            simp only [Bool.false_eq_true, if_false]
            refine setE_no (fun e he => ?_)
            obtain ⟨e1, e2⟩ := flo_mem.mp he
            rw [q1]
            intro z
            have : e = b := by
              have hnd := hv.2.2.2.1
              exact nodup_map_inj hnd e1 hbL z
            rw [this, q.1] at e2
            exact hgf (Option.some.inj e2).symm
        · show flo none (setE a v t (up (gL G) n _ n)) = _
          rw [up_s, flo_set, hdr none]
          refine setE_no (fun e he => ?_)
          obtain ⟨e1, e2⟩ := flo_mem.mp he
          rw [q1]
          intro z
          have : e = b := nodup_map_inj hv.2.2.2.1 e1 hbL z
          rw [this, q.1] at e2
          cases e2
      · rw [if_neg q] at hr'; cases hr'
  | none =>
    obtain ⟨q1, q2⟩ := p5 hr
    rw [hmt] at q2
    have hsr : srE D (drG D (some f) (gL G n)) := hv.2.2.1.sublist hsub
    have fresh : ∀ e ∈ drG D (some f) (gL G n), eA e ≠ 391 + gU G := fun e he => by have := (h.e hn (hsub.subset he)).2.1; omega
    have gl : gL (gNew D (gSet G n (drG D (some f) (gL G n))) n (some f) none) n = insE D (391 + gU G, some f, 0, 0, []) (drG D (some f) (gL G n)) := by
      show up (up (gL G) n (drG D (some f) (gL G n))) n (insE D (391 + gU G, some f, 0, 0, []) (up (gL G) n (drG D (some f) (gL G n)) n)) n = _
      rw [up_s, up_s]
    refine ⟨a, τ, _, p1, p2, p3, q2, by omega, by omega, rfl, rfl, rfl, fun m hm => (up_o hm).trans (up_o hm), rfl, Nat.le_refl _, ⟨(391 + gU G, some f, 0, 0, []), by rw [gl]; exact mem_insE.mpr (Or.inl rfl), q1.symm⟩, fun v t => ⟨(391 + gU G, some f, 0, v, t), rfl, rfl, ?_, fun g hgf => ?_, ?_⟩⟩
    · rw [gl, flo_set, flo_ins hsr, if_pos (show eF (391 + gU G, some f, 0, 0, []) = some f from rfl), setE_app, q1, setE_no (fun e he => fresh e (flo_mem.mp he).1), hf1]
      have e1 : setE (391 + gU G) v t [(391 + gU G, some f, 0, 0, [])] = [(391 + gU G, some f, 0, v, t)] := by
        show [if 391 + gU G = 391 + gU G then _ else _] = _
        rw [if_pos rfl]; try rfl
      rw [e1]
      cases hR : dR d with
      | true => rfl
      | false =>
        -- it stands once, and is not there
        have h0 : flo (some f) (gL G n) = [] := by
          rw [← hf1]
          refine flo_nil (fun e he hef => ?_)
          obtain ⟨b, b1', b2', _⟩ := tw_last hg hsr hF (fun x hx => fi x (hsub.subset hx)) he hef
          unfold ruE at hr
          rw [b1'] at hr
          simp only at hr
          rw [if_pos ⟨b2', fun d' hd' => by rw [hF.1] at hd'; cases hd'; exact hR⟩] at hr
          cases hr
        rw [h0]; try rfl
    · rw [gl, flo_set, flo_ins hsr, if_neg (show ¬ eF (391 + gU G, some f, 0, 0, []) = some g from fun z => hgf (Option.some.inj z).symm), q1, setE_no (fun e he => fresh e (flo_mem.mp he).1), hdr (some g)]
    · rw [gl, flo_set, flo_ins hsr, if_neg (show ¬ eF (391 + gU G, some f, 0, 0, []) = none from fun z => by cases z), q1, setE_no (fun e he => fresh e (flo_mem.mp he).1), hdr none]
/-! ===== the class's value: numbers, texts, unknown bytes, messages ===== -/
theorem VE_of {T : List Nat} {D : List Dc} {G G1 : Gh} {A : AV} {n f a : Nat} {d : Dc} {v v' : Int64} {t t' P' : List Nat} (h : VE T D G A) (hn : n < gC G) (hF : isF D (gN G n) f d) (h13 : fty T D d ≠ 13) (c1 : gC G1 = gC G) (c2 : gN G1 = gN G) (c3 : ∀ m, m ≠ n → gL G1 m = gL G m) (hp : CPt D G G1 n f d a) (hnum : nmr (fty T D d) = true → v' = v ∧ t' = []) (htxt : nmr (fty T D d) = false → v' = 0 ∧ t' = t) : VE T D (gN G1, gH G1, up (gL G1) n (setE a v t (gL G1 n)), gC G1, gU G1, P') (aPut T D A n f d v' t') := by
  obtain ⟨e, e1, e2, e3, e4, e5⟩ := hp.2 v t
  have eL : gL (gN G1, gH G1, up (gL G1) n (setE a v t (gL G1 n)), gC G1, gU G1, P') n = setE a v t (gL G1 n) := up_s _ _ _
  refine VE_put (e := e) h hn hF h13 c1 (fun m _ => by show gN G1 m = _; rw [c2]) (fun m _ hm => ?_) ?_ ?_ (by rw [eL]; exact e3) (fun g hgf => by rw [eL]; exact e4 g hgf) (by rw [eL]; exact e5)
  · show up (gL G1) n _ m = _
    rw [up_o hm]; exact c3 m hm
  · unfold itm
    rw [if_neg h13]
    cases hq : nmr (fty T D d) with
    | true => obtain ⟨w1, w2⟩ := hnum hq; rw [if_pos rfl, e1, w1, w2]
    | false => obtain ⟨w1, w2⟩ := htxt hq; rw [if_neg (by decide), e2, w1, w2]
  · unfold live noth
    cases hq : nmr (fty T D d) with
    | true => obtain ⟨w1, w2⟩ := hnum hq; rw [e1, w1]; try rfl
    | false => obtain ⟨w1, w2⟩ := htxt hq; rw [e2, w2]; try rfl
/-- what stays while bytes are read into a value -/
def fX (σ τ : SG) : Prop := (∀ b, (b < 389 ∨ b = 390 ∨ 1096 ≤ b) → sm σ τ b) ∧ (∀ k, k ≠ 3 → sI τ 389 k = sI σ 389 k ∧ sL τ 389 k = sL σ 389 k ∧ sP τ 389 k = sP σ 389 k) ∧ sI τ 1094 5 = sI σ 1094 5 ∧ sI τ 1095 5 = sI σ 1095 5 ∧ sI τ 1092 2 = sI σ 1092 2
theorem fX_refl (σ : SG) : fX σ σ := ⟨fun b _ => sm_refl σ b, fun k _ => ⟨rfl, rfl, rfl⟩, rfl, rfl, rfl⟩
theorem fX_trans {σ τ υ : SG} (h : fX σ τ) (h' : fX τ υ) : fX σ υ := ⟨fun b hb => sm_trans (h.1 b hb) (h'.1 b hb), fun k hk => ⟨(h'.2.1 k hk).1.trans (h.2.1 k hk).1, (h'.2.1 k hk).2.1.trans (h.2.1 k hk).2.1, (h'.2.1 k hk).2.2.trans (h.2.1 k hk).2.2⟩, h'.2.2.1.trans h.2.2.1, h'.2.2.2.1.trans h.2.2.2.1, h'.2.2.2.2.trans h.2.2.2.2⟩
theorem fX_V {σ τ : SG} (h : fV σ τ) : fX σ τ := ⟨fun b hb => h.1 b (by omega), h.2, (h.1 1094 (by decide) 5).1, (h.1 1095 (by decide) 5).1, (h.1 1092 (by decide) 2).1⟩
theorem CS_fX {σ τ : SG} {c : Nat} {T : List Nat} {D : List Dc} (h : CS σ c T D) (hcb : cb c) (hf : fX σ τ) : CS τ c T D := CS_sm h (fun b h1 h2 => hf.1 b (by have : c = 5 ∨ c = 197 := hcb; omega))
/-- what the bits of a number mean -/
noncomputable def mng (t : Nat) (x : Int64) : Int64 := (x_X9_meaning (nI t) x).getD 0
theorem X9_meaning {t : Nat} (ht : t ≤ 14) (x : Int64) : x_X9_meaning (nI t) x = some (mng t x) := by
  have : t = 0 ∨ t = 1 ∨ t = 2 ∨ t = 3 ∨ t = 4 ∨ t = 5 ∨ t = 6 ∨ t = 7 ∨ t = 8 ∨ t = 9 ∨ t = 10 ∨ t = 11 ∨ t = 12 ∨ t = 13 ∨ t = 14 := by omega
  unfold mng
  rcases this with z | z | z | z | z | z | z | z | z | z | z | z | z | z | z <;> subst z
  all_goals first | rfl | (unfold x_X9_meaning; simp only [show nI 10 = (10 : Int32) from rfl]; by_cases q : x = 0 <;> simp [q])
/-- a number is put -/
theorem C_setN {c n f a : Nat} {σ : SG} {T : List Nat} {D : List Dc} {G G1 : Gh} {A : AV} {d : Dc} {v : Int64} (hV : VG σ c T D G1) (hE : VE T D G A) (hn : n < gC G) (hF : isF D (gN G n) f d) (h13 : fty T D d ≠ 13) (hnm : nmr (fty T D d) = true) (c1 : gC G1 = gC G) (c2 : gN G1 = gN G) (c3 : ∀ m, m ≠ n → gL G1 m = gL G m) (hp : CPt D G G1 n f d a) : ∃ G2, VG (uL σ a 4 v) c T D G2 ∧ VE T D G2 (aPut T D A n f d v []) ∧ gC G2 = gC G ∧ gN G2 = gN G ∧ gH G2 = gH G1 ∧ gP G2 = gP G1 ∧ gU G2 = gU G1 ∧ fX σ (uL σ a 4 v) := by
  obtain ⟨e, he, hea⟩ := hp.1
  have hn1 : n < gC G1 := by omega
  obtain ⟨b1, b2, b3, b4, ⟨x, y, x1, x2, x3, x4, x5⟩, b6, b7⟩ := hV.e hn1 he
  rw [hea] at b1 b2 x1 x2
  have hu := hV.2.1
  refine ⟨_, VG_set (v := v) (t := eT e) (P' := gP G1) hV hn1 ⟨e, he, hea⟩ (sL_s _ _ _ _) x1 x2 x3 x4 x5 (hV.2.2.1.sm (sm_uL (by omega)) (sm_uL (by omega))) (fun _ _ _ => rfl) (Nat.le_refl _) (fP_L (Or.inl ⟨rfl, Or.inl rfl⟩)), VE_of hE hn hF h13 c1 c2 c3 hp (fun _ => ⟨rfl, rfl⟩) (fun z => by rw [hnm] at z; cases z), c1, c2, rfl, rfl, rfl, ?_⟩
  exact ⟨fun b hb => sm_uL (by omega), fun k hk => ⟨rfl, sL_o (Or.inl (by omega)), rfl⟩, rfl, rfl, rfl⟩
theorem C_num {U c n f : Nat} {σ : SG} {T : List Nat} {D : List Dc} {G : Gh} {A : AV} {d : Dc} (hU : 4000 < U) (hcb : cb c) (hg : GSc T D) (hC : CS σ c T D) (h : VG σ c T D G) (hE : VE T D G A) (hn : n < gC G) (hu : gU G < 700) (hF : isF D (gN G n) f d) (h13 : fty T D d ≠ 13) (hnm : nmr (fty T D d) = true) :
    ∃ τ G', x_X9_putNumber U 1094 (some (gH G n)) (ad c (some f)) σ = some (1, τ) ∧ VG τ c T D G' ∧ VE T D G' (aPut T D A n f d (mng (fty T D d) (sL σ 1094 4)) []) ∧ CS τ c T D ∧ fX σ τ ∧ sI τ 1094 3 = sI σ 1094 3 ∧ gU G' ≤ gU G + 1 ∧ gC G' = gC G ∧ gN G' = gN G ∧ gH G' = gH G ∧ gP G' = gP G := by
  have hl := hg.2.1
  have hfl := (List.getElem?_eq_some_iff.mp hF.1).1
  have hft : fty T D d ≤ 14 := dTy_lt (hg.fld hF.1 hF.2.1).2.2.2.1
  obtain ⟨a, υ, G1, p1, p2, p3, p4, p5, p6, p7, p8, p9, p10, p11, p12, p13⟩ := C_put hU hcb hg hC h hn hu hF h13
  unfold x_X9_putNumber
  have ety : sI υ (c + 5 + f) 8 = nI (fty T D d) := (p3.it hF.1).2.1
  have enum : sL υ 1094 4 = sL σ 1094 4 := (p2.1 1094 (by decide) 4).2.1
  rw [p1, b2_eq, if_neg (by intro z; cases z), ad_some, ck_eq (it_sh hcb (by omega)), ety, enum, X9_meaning hft, b1_eq, ck_eq (nd_sh p5 (by omega)), sb_eq]
  obtain ⟨G2, q1, q2, q3, q4, q5, q6, q7, q8⟩ := C_setN (v := mng (fty T D d) (sL σ 1094 4)) p4 hE hn hF h13 hnm p7 p8 p10 p13
  refine ⟨_, G2, rfl, q1, q2, CS_fX p3 hcb q8, fX_trans (fX_V p2) q8, ?_, by omega, q3, q4, by rw [q5]; exact p9, by rw [q6]; exact p11⟩
  show sI υ 1094 3 = _
  exact (p2.1 1094 (by decide) 3).1
theorem slc_pre {P Q : List Nat} {x y : Nat} (hy : y ≤ P.length) : slc (P ++ Q) x y = slc P x y := by
  by_cases q : x ≤ y
  · unfold slc
    rw [List.drop_append_of_le_length (by omega), List.take_append_of_le_length (by rw [List.length_drop]; omega)]
  · rw [slc_nil (by omega), slc_nil (by omega)]
/-- the value's own cells alone are read -/
theorem VG_sm {σ τ : SG} {c : Nat} {T : List Nat} {D : List Dc} {G : Gh} (h : VG σ c T D G) (hs : ∀ b, (b = 389 ∨ (391 ≤ b ∧ b ≤ 1093)) → sm σ τ b) : VG τ c T D G := by
  have H := h
  obtain ⟨g1, g2, g3, g4, g5, g6, g7, g8, g9, g10⟩ := h
  refine ⟨((hs 389 (Or.inl rfl) 3).1).trans g1, g2, g3.sm (hs _ (by omega)) (hs _ (by omega)), g4, g5, g6, g7, g8, g9, fun m hm => ?_⟩
  have hh := H.h hm
  refine VN_keep (g10 m hm) ((hs _ (by omega) 2).2.2) ((hs _ (by omega) 3).2.2) (fun e he => ?_)
  have hx := H.e hm he
  have h1 := hx.1
  have h2 := hx.2.1
  have c := hs (eA e) (by omega)
  exact ⟨(c 0).2.2, (c 1).2.2, (c 4).2.1, (c 5).1, (c 6).1, fun _ => (c 2).2.2⟩
/-- a text is copied to a node -/
theorem C_copy {U c n f a p q : Nat} {σ : SG} {T S : List Nat} {D : List Dc} {G G1 : Gh} (hU : 4000 < U) (hcb : cb c) (hC : CS σ c T D) (hV : VG σ c T D G1) (hS : RB σ 1 S 0) (hn1 : n < gC G1) (ha : ∃ e ∈ gL G1 n, eA e = a) (hpq : p ≤ q) (hq : q ≤ S.length) (hP : (gP G1).length + (q - p) ≤ 1000) :
    ∃ v τ, x_X9_copy U 1094 (some a) (nI p) (nI q) σ = some (1, τ) ∧ VG τ c T D (gN G1, gH G1, up (gL G1) n (setE a v (slc S p q) (gL G1 n)), gC G1, gU G1, gP G1 ++ slc S p q) ∧ CS τ c T D ∧ fX σ τ ∧ sI τ 1094 3 = nI q := by
  obtain ⟨e, he, hea⟩ := ha
  obtain ⟨b1, b2, b3, b4, b5, b6, b7⟩ := hV.e hn1 he
  rw [hea] at b1 b2 b4
  have hu := hV.2.1
  have hSl : S.length ≤ 700 := hS.2.2.1
  have hT := hV.2.2.1
  unfold x_X9_copy
  rw [X0_size hT, b1_eq, ck_eq (nd_sh b1 (by omega)), sb_eq]
  have S1 : RB (uI σ a 5 (nI (gP G1).length)) 1 S 0 := hS.sm (sm_uI (by omega)) (sm_uI (by omega))
  have T1 : RB (uI σ a 5 (nI (gP G1).length)) 1092 (gP G1) 0 := hT.sm (sm_uI (by omega)) (sm_uI (by omega))
  obtain ⟨υ, a1, a2, a3⟩ := X0_addAll (a := 1092) (b := 1) (k := p) (to := q) (w := (gP G1, 0)) (by decide) (by unfold apt; omega) hpq hq hU T1 S1
  have e1 : (S.drop p).take (q - p) = slc S p q := rfl
  rw [e1, wrL_fit _ _ (show (gP G1).length + (slc S p q).length ≤ ln (1092 + 1) by rw [slc_len hpq hq]; exact hP)] at a2
  have a2' : RB υ 1092 (gP G1 ++ slc S p q) 0 := a2
  rw [a1, b1_eq, X0_size a2', b1_eq, sb_eq, sb_eq]
  have hlen : (gP G1 ++ slc S p q).length = (gP G1).length + (q - p) := by rw [List.length_append, slc_len hpq hq]
  have cell : ∀ b k, b < 1092 → (b ≠ a ∨ (k ≠ 5 ∧ k ≠ 6)) → sI (uI (uI υ a 6 (nI (gP G1 ++ slc S p q).length)) 1094 3 (nI q)) b k = sI σ b k ∧ sL (uI (uI υ a 6 (nI (gP G1 ++ slc S p q).length)) 1094 3 (nI q)) b k = sL σ b k ∧ sP (uI (uI υ a 6 (nI (gP G1 ++ slc S p q).length)) 1094 3 (nI q)) b k = sP σ b k := fun b k h1 h2 => by
    obtain ⟨y1, y2, y3⟩ := a3 b (by omega) (by omega) k
    refine ⟨?_, y2, y3⟩
    rw [sI_o (Or.inl (by omega)), sI_o (by omega), y1, sI_o (by omega)]
  refine ⟨eV e, _, rfl, ?_, ?_, ?_, sI_s _ _ _ _⟩
  · -- the wire's place is no cell of the value
    have V3 := VG_set (τ := uI υ a 6 (nI (gP G1 ++ slc S p q).length)) (v := eV e) (t := slc S p q) (P' := gP G1 ++ slc S p q) (x := (gP G1).length) (y := (gP G1 ++ slc S p q).length) hV hn1 ⟨e, he, hea⟩ ?_ ?_ (sI_s _ _ _ _) (by omega) (Nat.le_refl _) ?_ ?_ ?_ (by omega) ?_
    · exact VG_sm V3 (fun b hb => sm_uI (by omega))
    · show sL υ a 4 = _
      rw [(a3 a (by omega) (by omega) 4).2.1]; exact b4
    · rw [sI_o (Or.inr (by decide)), (a3 a (by omega) (by omega) 5).1, sI_s]
    · unfold slc
      rw [List.drop_left, List.take_of_length_le]
      rw [List.length_append, Nat.add_sub_cancel_left]
      exact Nat.le_refl _
    · exact a2'.sm (sm_uI (by omega)) (sm_uI (by omega))
    · exact fun x y hy => slc_pre hy
    · intro b k hk
      by_cases hb : b = 1092 ∨ b = 1093
      · exact absurd (Or.inr hb) hk
      · obtain ⟨y1, y2, y3⟩ := a3 b (fun z => hb (Or.inl z)) (fun z => hb (Or.inr z)) k
        refine ⟨?_, y2, y3⟩
        rw [sI_o (ne2 (fun z => hk (Or.inl ⟨z.1, Or.inr (Or.inr z.2)⟩))), y1, sI_o (ne2 (fun z => hk (Or.inl ⟨z.1, Or.inr (Or.inl z.2)⟩)))]
  · exact CS_sm hC (fun b h1 h2 k => cell b k (by have : c = 5 ∨ c = 197 := hcb; omega) (Or.inl (by have : c = 5 ∨ c = 197 := hcb; omega)))
  · refine ⟨fun b hb k => ?_, fun k hk => cell 389 k (by decide) (Or.inl (by omega)), ?_, ?_, ?_⟩
    · rcases Nat.lt_or_ge b 1092 with z | z
      · exact cell b k z (Or.inl (by omega))
      · obtain ⟨y1, y2, y3⟩ := a3 b (by omega) (by omega) k
        refine ⟨?_, y2, y3⟩
        rw [sI_o (Or.inl (by omega)), sI_o (Or.inl (by omega)), y1, sI_o (Or.inl (by omega))]
    · rw [sI_o (Or.inr (by decide)), sI_o (Or.inl (by omega)), (a3 1094 (by omega) (by omega) 5).1, sI_o (Or.inl (by omega))]
    · rw [sI_o (Or.inl (by decide)), sI_o (Or.inl (by omega)), (a3 1095 (by omega) (by omega) 5).1, sI_o (Or.inl (by omega))]
    · rw [sI_o (Or.inl (by decide)), sI_o (Or.inl (by omega)), a2'.2.1, hT.2.1]
