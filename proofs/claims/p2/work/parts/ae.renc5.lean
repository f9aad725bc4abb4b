/-! ===== the reference writes rows ===== -/
theorem VS_keep {σ τ : SG} {s : Nat} {T : List Nat} {D : List Dc} {A : AV} {H : Rh} (h : VS σ s T D A H) (ci : ∀ b k, (b = 1101 ∧ 80 ≤ k ∧ k ≤ 84) ∨ (1160 ≤ b ∧ b ≤ 1162) ∨ (1165 ≤ b ∧ b ≤ 1175) → sI τ b k = sI σ b k ∧ sL τ b k = sL σ b k) : VS τ s T D A H := by
  obtain ⟨g1, g2, g3, g4, g5, g6, g7⟩ := h
  refine ⟨((ci 1101 80 (by omega)).1).trans g1, ⟨((ci 1101 82 (by omega)).1).trans g2.1, g2.2.1, fun i r hi => ?_⟩, ⟨((ci 1101 84 (by omega)).1).trans g3.1, fun i c hi => ((ci 1175 i (by omega)).1).trans (g3.2.1 i c hi), g3.2.2⟩, ⟨((ci 1101 83 (by omega)).1).trans g4.1, g4.2.1, fun i u hu => ?_⟩, ⟨((ci 1101 81 (by omega)).1).trans g5.1, g5.2.1, g5.2.2.1, fun m hm => ?_⟩, g6, g7⟩
  · obtain ⟨y1, y2⟩ := g2.2.2 i r hi
    exact ⟨RWs_sm y1 (fun b h1 h2 => ci b i (by omega)), ((ci 1171 i (by omega)).1).trans y2⟩
  · obtain ⟨u1, u2, a, u3, u4, u5⟩ := g4.2.2 i u hu
    exact ⟨u1, ((ci 1172 i (by omega)).1).trans u2, a, ((ci 1173 i (by omega)).1).trans u3, ((ci 1174 i (by omega)).1).trans u4, u5⟩
  · obtain ⟨n1, n2, n3, n4, n5⟩ := g5.2.2.2 m hm
    exact ⟨n1, ((ci 1160 m (by omega)).1).trans n2, ((ci 1161 m (by omega)).1).trans n3, ((ci 1162 m (by omega)).1).trans n4, n5⟩
theorem fw_I {σ τ : SG} (h : fw σ τ) {b k : Nat} (hb : b ≠ 1103) (hk : b = 1101 → k ≠ 3 ∧ k ≠ 4) : sI τ b k = sI σ b k ∧ sL τ b k = sL σ b k := by
  by_cases q : b = 1101
  · subst q
    have := hk rfl
    exact ⟨h.2.1 k (by simp; omega), h.2.2.1 k⟩
  · exact ⟨(h.1 b q hb k).1, (h.1 b q hb k).2.1⟩
theorem VS_fw {σ τ : SG} {s : Nat} {T : List Nat} {D : List Dc} {A : AV} {H : Rh} (h : VS σ s T D A H) (hf : fw σ τ) : VS τ s T D A H := VS_keep h (fun b k hb => fw_I hf (by omega) (by omega))
theorem RS_fw {σ τ : SG} {s : Nat} {T : List Nat} {D : List Dc} (h : RS σ s T D) (hf : fw σ τ) : RS τ s T D := RS_keep h (fun b k hb => (fw_I hf (by unfold PKP at hb; omega) (by unfold PKP at hb; omega)).1)
/-- a row's text -/
theorem N_wtxt {U i a n : Nat} {P : List Nat} (hn : a + n ≤ P.length) (hP : P.length ≤ 700) (hi : i < 800) : ∀ (j k U1 : Nat) (σ : SG) (w : List Nat × Int32), k + j = n → j < U1 → sI σ 1168 i = nI a → sI σ 1169 i = nI n → RI σ 1175 P → ROr σ w → ∃ τ, x_X12_encodeStep_L240 U 1101 (nI i) U1 (nI k) σ = some τ ∧ ROr τ (wrL 4000 w (slc P (a + k) (a + n))) ∧ fw σ τ := by
  intro j
  induction j with
  | zero =>
    intro k U1 σ w hk hu h68 h69 hR hw
    obtain ⟨V, rfl⟩ : ∃ V, U1 = V + 1 := ⟨U1 - 1, by omega⟩
    rw [x_X12_encodeStep_L240, ix_in hi (by decide), h69, if_neg (fun q => by have := (ltI (by omega) (by omega)).mp q; omega), slc_nil (by omega)]
    exact ⟨σ, rfl, hw, fw_refl' _⟩
  | succ j ih =>
    intro k U1 σ w hk hu h68 h69 hR hw
    obtain ⟨V, rfl⟩ : ∃ V, U1 = V + 1 := ⟨U1 - 1, by omega⟩
    have hl : a + k < P.length := by omega
    rw [x_X12_encodeStep_L240, ix_in hi (by decide), h69, if_pos ((ltI (by omega) (by omega)).mpr (by omega)), ix_in hi (by decide), h68, nI_add, ix_in (by omega) (by decide), hR _ _ (List.getElem?_eq_getElem hl), nI_1, slc_cons (show a + k < a + n by omega) hl]
    obtain ⟨τ, t1, t2, t3⟩ := X12_put (c := P[a + k]) hw
    rw [t1, b1_eq]
    obtain ⟨υ, u1, u2, u3⟩ := ih (k + 1) V τ _ (by omega) (by omega) ((fw_I t3 (by decide) (by omega)).1.trans h68) ((fw_I t3 (by decide) (by omega)).1.trans h69) (fun x c hx => ((fw_I t3 (by decide) (by omega)).1).trans (hR x c hx)) t2
    exact ⟨υ, u1, u2, fw_trans t3 u3⟩
/-- one unknown field's bytes -/
theorem N_wunk1 {U i a n : Nat} {P : List Nat} {K : SG → Option SG} {v1 : Int32} (hn : a + n ≤ P.length) (hP : P.length ≤ 700) (hi : i < 400) : ∀ (j k U1 : Nat) (σ : SG) (w : List Nat × Int32), k + j = n → j < U1 → sI σ 1173 i = nI a → sI σ 1174 i = nI n → RI σ 1175 P → ROr σ w → ∃ τ, x_X12_putUnknown_L22 U 1101 K v1 (nI i) U1 (nI k) σ = K τ ∧ ROr τ (wrL 4000 w (slc P (a + k) (a + n))) ∧ fw σ τ := by
  intro j
  induction j with
  | zero =>
    intro k U1 σ w hk hu h68 h69 hR hw
    obtain ⟨V, rfl⟩ : ∃ V, U1 = V + 1 := ⟨U1 - 1, by omega⟩
    rw [x_X12_putUnknown_L22, ix_in hi (by decide), h69, if_neg (fun q => by have := (ltI (by omega) (by omega)).mp q; omega), slc_nil (by omega)]
    exact ⟨σ, rfl, hw, fw_refl' _⟩
  | succ j ih =>
    intro k U1 σ w hk hu h68 h69 hR hw
    obtain ⟨V, rfl⟩ : ∃ V, U1 = V + 1 := ⟨U1 - 1, by omega⟩
    have hl : a + k < P.length := by omega
    rw [x_X12_putUnknown_L22, ix_in hi (by decide), h69, if_pos ((ltI (by omega) (by omega)).mpr (by omega)), ix_in hi (by decide), h68, nI_add, ix_in (by omega) (by decide), hR _ _ (List.getElem?_eq_getElem hl), nI_1, slc_cons (show a + k < a + n by omega) hl]
    obtain ⟨τ, t1, t2, t3⟩ := X12_put (c := P[a + k]) hw
    rw [t1, b1_eq]
    obtain ⟨υ, u1, u2, u3⟩ := ih (k + 1) V τ _ (by omega) (by omega) ((fw_I t3 (by decide) (by omega)).1.trans h68) ((fw_I t3 (by decide) (by omega)).1.trans h69) (fun x c hx => ((fw_I t3 (by decide) (by omega)).1).trans (hR x c hx)) t2
    exact ⟨υ, u1, u2, fw_trans t3 u3⟩
theorem N_wunk {U n c : Nat} {P : List Nat} {L : List (Nat × List Nat)} (hU4 : 4000 < U) (hP : P.length ≤ 700) (hl : L.length ≤ 350) (hc : c ≤ 351) (hn : n < 400) : ∀ (j i U1 : Nat) (σ : SG) (w : List Nat × Int32), i + j = L.length → j < U1 → sI σ 1101 83 = nI L.length → (∀ i u, L[i]? = some u → u.1 < c ∧ UKs σ P i u) → RI σ 1175 P → ROr σ w → ∃ τ, x_X12_putUnknown_L2 U 1101 (nI n) U1 (nI i) σ = some τ ∧ ROr τ (wrL 4000 w (((L.drop i).filter (fun u => decide (u.1 = n))).map (fun u => u.2)).flatten) ∧ fw σ τ := by
  intro j
  induction j with
  | zero =>
    intro i U1 σ w hi hu h83 hL hR hw
    obtain ⟨V, rfl⟩ : ∃ V, U1 = V + 1 := ⟨U1 - 1, by omega⟩
    rw [x_X12_putUnknown_L2, h83, if_neg (fun q => by have := (ltI (by omega) (by omega)).mp q; omega), List.drop_eq_nil_of_le (by omega)]
    exact ⟨σ, rfl, hw, fw_refl' _⟩
  | succ j ih =>
    intro i U1 σ w hi hu h83 hL hR hw
    obtain ⟨V, rfl⟩ : ∃ V, U1 = V + 1 := ⟨U1 - 1, by omega⟩
    have hil : i < L.length := by omega
    obtain ⟨u1, u2, a, u3, u4, u5, u6⟩ := hL i L[i] (List.getElem?_eq_getElem hil)
    have hdr : L.drop i = L[i] :: L.drop (i + 1) := List.drop_eq_getElem_cons hil
    rw [x_X12_putUnknown_L2, h83, if_pos ((ltI (by omega) (by omega)).mpr hil), ix_in (by omega) (by decide), u2, ifd (nI_eq (by omega) (by omega)), hdr, List.filter_cons]
    unfold x_X12_putUnknown_55
    rw [nI_1]
    by_cases q : L[i].1 = n
    · rw [if_pos q, if_pos (decide_eq_true q), List.map_cons, List.flatten_cons, wrL_app]
      obtain ⟨τ, t1, t2, t3⟩ := N_wunk1 (U := U) (K := fun σ22 => x_X12_putUnknown_L2 U 1101 (nI n) V (nI (i + 1)) σ22) (v1 := nI n) u5 hP (show i < 400 by omega) L[i].2.length 0 U σ w (by omega) (by omega) u3 u4 hR hw
      rw [Nat.add_zero, u6] at t2
      have t1' : x_X12_putUnknown_L22 U 1101 (fun σ22 => x_X12_putUnknown_L2 U 1101 (nI n) V (nI (i + 1)) σ22) (nI n) (nI i) U 0 σ = x_X12_putUnknown_L2 U 1101 (nI n) V (nI (i + 1)) τ := t1
      rw [t1']
      obtain ⟨υ, v1', v2, v3⟩ := ih (i + 1) V τ _ (by omega) (by omega) ((fw_I t3 (by decide) (by omega)).1.trans h83) (fun x u hx => by
        obtain ⟨y1, y2, b, y3, y4, y5⟩ := hL x u hx
        exact ⟨y1, (fw_I t3 (by decide) (by omega)).1.trans y2, b, (fw_I t3 (by decide) (by omega)).1.trans y3, (fw_I t3 (by decide) (by omega)).1.trans y4, y5⟩) (fun x c hx => ((fw_I t3 (by decide) (by omega)).1).trans (hR x c hx)) t2
      exact ⟨υ, v1', v2, fw_trans t3 v3⟩
    · rw [if_neg q, if_neg (show ¬ decide (L[i].1 = n) = true by rw [decide_eq_true_iff]; exact q)]
      exact ih (i + 1) V σ w (by omega) (by omega) h83 hL hR hw
