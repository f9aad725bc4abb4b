/-! ===== the reference puts numbers, texts, unknown bytes, messages ===== -/
theorem VR.n400 {σ : SG} {s : Nat} {T : List Nat} {D : List Dc} {A : AV} {H : Rh} (h : VR σ s T D A H) : ∀ r ∈ zR H, rN r < 400 := fun r hr => by
  have h1 := (h.2.2.2.2.2.1 r hr).1
  have h2 := h.2.2.2.2.1.2.2.1
  omega
theorem rf_pv {σ τ : SG} (h : fP (fun b k => (b = 1101 ∧ k = 82) ∨ (1165 ≤ b ∧ b ≤ 1171)) σ τ) : fP PV σ τ := fP_mono h (fun b k z => by unfold PV; omega)
/-- a new row is told its number or its text -/
theorem V_end {σ υ τ : SG} {s n f : Nat} {T : List Nat} {D : List Dc} {A : AV} {H : Rh} {d : Dc} {v v' : Int64} {t t' : List Nat} {a : Nat} (hg : GSc T D) (h : VR σ s T D A H) (hn : n < aC A) (hF : isF D (aN A n) f d) (h13 : fty T D d ≠ 13) (hl : (zR H).length < 700) (u2 : RTo υ s T D (zP H) (kR T D n f d (zR H))) (u3 : sI υ 1101 82 = nI ((zR H).length + 1)) (u4 : NwR υ (zR H).length n (fx D s f)) (u5 : fP (fun b k => (b = 1101 ∧ k = 82) ∨ (1165 ≤ b ∧ b ≤ 1171)) σ υ)
    (h71 : sI τ 1171 (zR H).length = zI (!noth T D d v' t')) (hI : ∀ b k, ((b ≠ 1171 ∧ b ≠ 1168 ∧ b ≠ 1169) ∨ k ≠ (zR H).length) → sI τ b k = sI υ b k) (hLn : ∀ b k, (b ≠ 1167 ∨ k ≠ (zR H).length) → sL τ b k = sL υ b k) (hv : sL τ 1167 (zR H).length = v) (h68 : sI τ 1168 (zR H).length = nI a) (h69 : sI τ 1169 (zR H).length = nI t.length) (hat : a + t.length ≤ (zP H).length) (hst : slc (zP H) a (a + t.length) = t)
    (hnum : nmr (fty T D d) = true → v' = v ∧ t' = []) (htxt : nmr (fty T D d) = false → v' = 0 ∧ t' = t) : VR τ s T D (aPut T D A n f d v' t') (kR T D n f d (zR H) ++ [(n, f, v, t, 0, !noth T D d v' t')], zU H, zP H, zW H, zD H) := by
  obtain ⟨w1, w2, w3, w4, w5, w6, w7⟩ := u4
  obtain ⟨p1, p2, p3, p4⟩ := h.2.2.1
  refine VR_put hg h hn hF h13 hl ⟨(hI 1101 84 (Or.inl (by decide))).trans (((u5 1101 84 (by omega)).1).trans p1), fun i c hi => (hI 1175 i (Or.inl (by decide))).trans (((u5 1175 i (by omega)).1).trans (p2 i c hi)), p3, p4⟩ (Nat.le_refl _) (fun _ _ _ => rfl) ⟨by rw [kR_len]; omega, fun i r hi => ?_⟩ ((hI 1101 82 (Or.inl (by decide))).trans u3) ⟨(hI 1165 _ (Or.inl (by decide))).trans w1, (hI 1166 _ (Or.inl (by decide))).trans w2, hv, ⟨a, h68, h69, hat, hst⟩, d, hF.1, hF.2.1, ?_⟩ h71 (fun b k hb => (hI b k (Or.inl (by omega))).trans ((u5 b k (by omega)).1)) hnum htxt
  · have hil := (List.getElem?_eq_some_iff.mp hi).1
    rw [kR_len] at hil
    obtain ⟨y1, y2⟩ := u2.2 i r hi
    exact ⟨RWs_sm y1 (fun b h1 h2 => ⟨hI b i (Or.inr (by omega)), hLn b i (Or.inr (by omega))⟩), (hI 1171 i (Or.inr (by omega))).trans y2⟩
  · rw [if_neg h13]; exact (hI 1170 _ (Or.inl (by decide))).trans w6
/-- each opened message knows its row -/
def BKp (T : List Nat) (D : List Dc) (R : List Rg) (W : Nat → Nat) : Prop := ∀ i r d, R[i]? = some r → D[rF r]? = some d → fty T D d = 13 → W (rK r) = i
theorem kR_inv {T : List Nat} {D : List Dc} {n f : Nat} {d : Dc} {R : List Rg} {i : Nat} {x : Rg} (h : (kR T D n f d R)[i]? = some x) : ∃ r, R[i]? = some r ∧ rN x = rN r ∧ rF x = rF r ∧ rK x = rK r := by
  unfold kR killR at h
  cases hR : dR d with
  | true => rw [hR, if_pos rfl] at h; exact ⟨x, h, rfl, rfl, rfl⟩
  | false =>
    rw [hR, if_neg (show ¬ false = true by decide), List.getElem?_map] at h
    cases hr : R[i]? with
    | none => rw [hr] at h; cases h
    | some r =>
      rw [hr] at h
      have h' : (if kil T D n f d r = true then off r else r) = x := Option.some.inj h
      subst h'
      refine ⟨r, rfl, ?_, ?_, ?_⟩ <;> (split <;> rfl)
theorem BK_kR {T : List Nat} {D : List Dc} {n f : Nat} {d : Dc} {R : List Rg} {W : Nat → Nat} (h : BKp T D R W) : BKp T D (kR T D n f d R) W := by
  intro i x y hx hy h13
  obtain ⟨r, h1, _, h2, h3⟩ := kR_inv hx
  rw [h3]
  exact h i r y h1 (by rw [← h2]; exact hy) h13
/-- how deep each opened message is -/
def DPk (T : List Nat) (D : List Dc) (lm : Nat) (A : AV) (H : Rh) : Prop := (∀ n, n < aC A → zD H n ≤ lm) ∧ (∀ r ∈ zR H, ∀ d, D[rF r]? = some d → fty T D d = 13 → zD H (rK r) = zD H (rN r) + 1) ∧ BKp T D (zR H) (zW H)
theorem DPk_put {T : List Nat} {D : List Dc} {lm n f : Nat} {A : AV} {H : Rh} {d : Dc} {v v' : Int64} {t t' P : List Nat} {b : Bool} (hd : D[f]? = some d) (h13 : fty T D d ≠ 13) (h : DPk T D lm A H) : DPk T D lm (aPut T D A n f d v' t') (kR T D n f d (zR H) ++ [(n, f, v, t, 0, b)], zU H, P, zW H, zD H) := by
  have last : ∀ (r : Rg) (y : Dc), r = (n, f, v, t, 0, b) → D[rF r]? = some y → fty T D y = 13 → False := fun r y e hy hy13 => by
    rw [e] at hy
    have : D[f]? = some y := hy
    rw [hd] at this
    cases this
    exact h13 hy13
  refine ⟨h.1, fun r hr y hy hy13 => ?_, fun i r y hi hy hy13 => ?_⟩
  · show zD H (rK r) = zD H (rN r) + 1
    rcases List.mem_append.mp hr with q | q
    · obtain ⟨z, hz, e1, e2, _, _, e5⟩ := kR_mem q
      rw [e5, e1]
      exact h.2.1 z hz y (by rw [← e2]; exact hy) hy13
    · exact absurd (last r y (List.mem_singleton.mp q) hy hy13) id
  · have hi' : (kR T D n f d (zR H) ++ [(n, f, v, t, 0, b)])[i]? = some r := hi
    by_cases q : i < (kR T D n f d (zR H)).length
    · rw [List.getElem?_append_left q] at hi'
      exact BK_kR h.2.2 i r y hi' hy hy13
    · rw [List.getElem?_append_right (by omega)] at hi'
      have : r ∈ [((n, f, v, t, 0, b) : Rg)] := List.mem_of_getElem? hi'
      exact absurd (last r y (List.mem_singleton.mp this) hy hy13) id
/-- how many bytes the rows and the unknown fields hold -/
def zT (H : Rh) : Nat := ((zR H).map (fun r => (rT r).length)).sum + ((zU H).map (fun u => u.2.length)).sum
theorem kR_T {T : List Nat} {D : List Dc} {n f : Nat} {d : Dc} {R : List Rg} : (kR T D n f d R).map (fun r => (rT r).length) = R.map (fun r => (rT r).length) := by
  unfold kR killR
  cases dR d with
  | true => rfl
  | false =>
    rw [if_neg (show ¬ false = true by decide), List.map_map]
    apply List.map_congr_left
    intro r _
    show (rT (if kil T D n f d r = true then off r else r)).length = _
    split <;> rfl
theorem zT_put {T : List Nat} {D : List Dc} {n f k : Nat} {d : Dc} {H : Rh} {v : Int64} {t P : List Nat} {b : Bool} {w z : Nat → Nat} : zT (kR T D n f d (zR H) ++ [(n, f, v, t, k, b)], zU H, P, w, z) = zT H + t.length := by
  show ((kR T D n f d (zR H) ++ [(n, f, v, t, k, b)]).map (fun r => (rT r).length)).sum + ((zU H).map (fun u => u.2.length)).sum = zT H + t.length
  rw [List.map_append, kR_T, List.sum_append]
  unfold zT
  show _ + (t.length + 0) + _ = _
  omega
theorem nar0 : vp_nar .boolean 0 = zI false := by decide
theorem V_num {U s n f : Nat} {σ : SG} {T : List Nat} {D : List Dc} {A : AV} {H : Rh} {d : Dc} {x : Int64} (hU4 : 4000 < U) (hs : s < 2) (hg : GSc T D) (hS : RS σ s T D) (h : VR σ s T D A H) (hn : n < aC A) (hF : isF D (aN A n) f d) (h13 : fty T D d ≠ 13) (hnm : nmr (fty T D d) = true) (hl : (zR H).length < 700) :
    ∃ τ H', x_X12_putNumber U 1101 (nI n) (nI (fx D s f)) x σ = some τ ∧ VR τ s T D (aPut T D A n f d x []) H' ∧ fP PV σ τ ∧ sI τ 1101 107 = sI σ 1101 107 ∧ (zR H').length = (zR H).length + 1 ∧ zU H' = zU H ∧ zP H' = zP H ∧ zD H' = zD H ∧ ∀ lm, DPk T D lm A H → (DPk T D lm (aPut T D A n f d x []) H' ∧ zT H' = zT H) := by
  have hn4 : n < 400 := by have := h.2.2.2.2.1.2.2.1; omega
  have hl9 := hg.2.1
  obtain ⟨υ, u1, u2, u3, u4, u5⟩ := (N_rowFor hU4 hs hg hF.1 hF.2.1 hn4 h.n400 hS h.2.1 hl).1 (oldR_no h13)
  unfold x_X12_putNumber
  rw [u1, b2_eq, ix_in (by omega) (by decide), sb_eq]
  have hS2 : RS (uL υ 1167 (zR H).length x) s T D := RS_keep hS (fun b k hb => ((rf_pv u5) b k (by unfold PV; unfold PKP at hb; omega)).1)
  obtain ⟨f1, _, _, _, _, f6, _, f8⟩ := hS2.f hF.1 hF.2.1
  have w := u4
  obtain ⟨w1, w2, w3, w4, w5, w6, w7⟩ := w
  have hlen : (kR T D n f d (zR H) ++ [(n, f, x, [], 0, !noth T D d x [])]).length = (zR H).length + 1 := by rw [List.length_append, kR_len]; rfl
  have fv : fP PV σ (uL υ 1167 (zR H).length x) := fP_trans (rf_pv u5) (fP_L (Or.inr ⟨by decide, by decide⟩))
  have live : noth T D d x [] = false → ∃ τ H', some (uL υ 1167 (zR H).length x) = some τ ∧ VR τ s T D (aPut T D A n f d x []) H' ∧ fP PV σ τ ∧ sI τ 1101 107 = sI σ 1101 107 ∧ (zR H').length = (zR H).length + 1 ∧ zU H' = zU H ∧ zP H' = zP H ∧ zD H' = zD H ∧ ∀ lm, DPk T D lm A H → (DPk T D lm (aPut T D A n f d x []) H' ∧ zT H' = zT H) := by
    intro nz
    refine ⟨_, _, rfl, V_end (τ := uL υ 1167 (zR H).length x) (v := x) (t := []) (a := 0) hg h hn hF h13 hl u2 u3 u4 u5 (by rw [nz]; exact w7) (fun _ _ _ => rfl) (fun b k hb => sL_o hb) (sL_s _ _ _ _) w4 w5 (Nat.zero_le _) rfl (fun _ => ⟨rfl, rfl⟩) (fun z => by rw [hnm] at z; cases z), fv, (u5 1101 107 (by omega)).1, hlen, rfl, rfl, rfl, fun lm q => ⟨DPk_put hF.1 h13 q, zT_put⟩⟩
  have dead : noth T D d x [] = true → ∃ τ H', some (uI (uL υ 1167 (zR H).length x) 1171 (zR H).length (vp_nar .boolean 0)) = some τ ∧ VR τ s T D (aPut T D A n f d x []) H' ∧ fP PV σ τ ∧ sI τ 1101 107 = sI σ 1101 107 ∧ (zR H').length = (zR H).length + 1 ∧ zU H' = zU H ∧ zP H' = zP H ∧ zD H' = zD H ∧ ∀ lm, DPk T D lm A H → (DPk T D lm (aPut T D A n f d x []) H' ∧ zT H' = zT H) := by
    intro nz
    refine ⟨_, _, rfl, V_end (τ := uI (uL υ 1167 (zR H).length x) 1171 (zR H).length (vp_nar .boolean 0)) (v := x) (t := []) (a := 0) hg h hn hF h13 hl u2 u3 u4 u5 (by rw [sI_s, nz, nar0]; rfl) (fun b k hb => by rw [sI_o (by omega)]; rfl) (fun b k hb => sL_o hb) (sL_s _ _ _ _) (by rw [sI_o (Or.inl (by decide))]; exact w4) (by rw [sI_o (Or.inl (by decide))]; exact w5) (Nat.zero_le _) rfl (fun _ => ⟨rfl, rfl⟩) (fun z => by rw [hnm] at z; cases z), fP_trans fv (fP_u (Or.inr ⟨by decide, by decide⟩)), by rw [sI_o (Or.inl (by decide))]; exact (u5 1101 107 (by omega)).1, hlen, rfl, rfl, rfl, fun lm q => ⟨DPk_put hF.1 h13 q, zT_put⟩⟩
  have nzE : noth T D d x [] = (!dR d && decide (dO d = none) && decide (x = 0)) := by
    unfold noth
    rw [hnm, if_pos rfl, decide_eq_true h13, Bool.and_true]
  by_cases q0 : x = 0
  · rw [if_pos q0, ix_in (by omega) (by decide), f6, ifz, ix_in (by omega) (by decide), f8, ifd (oq_neg hl9), ix_in (by omega) (by decide), sb_eq]
    cases hR : dR d with
    | true => rw [if_pos (show true = true from rfl)]; exact live (by rw [nzE, hR]; rfl)
    | false =>
      rw [if_neg (show ¬ false = true by decide)]
      by_cases q1 : dO d = none
      · rw [if_pos q1]; exact dead (by rw [nzE, hR, decide_eq_true q1, decide_eq_true q0]; rfl)
      · rw [if_neg q1]; exact live (by rw [nzE, hR, decide_eq_false q1]; rfl)
  · rw [if_neg q0]; exact live (by rw [nzE, decide_eq_false q0, Bool.and_false])
/-- a text that stands at the end of the texts -/
theorem V_txt {U s n f a : Nat} {σ : SG} {T : List Nat} {D : List Dc} {A : AV} {H : Rh} {d : Dc} (hU4 : 4000 < U) (hs : s < 2) (hg : GSc T D) (hS : RS σ s T D) (h : VR σ s T D A H) (hn : n < aC A) (hF : isF D (aN A n) f d) (h13 : fty T D d ≠ 13) (hnm : nmr (fty T D d) = false) (hl : (zR H).length < 700) (ha : a ≤ (zP H).length) :
    ∃ τ H', x_X12_putText_34 U 1101 (nI n) (nI (fx D s f)) (nI a) (nI ((zP H).length - a)) σ = some τ ∧ VR τ s T D (aPut T D A n f d 0 (slc (zP H) a (zP H).length)) H' ∧ fP PV σ τ ∧ sI τ 1101 107 = sI σ 1101 107 ∧ (zR H').length = (zR H).length + 1 ∧ zU H' = zU H ∧ zP H' = zP H ∧ zD H' = zD H ∧ ∀ lm, DPk T D lm A H → (DPk T D lm (aPut T D A n f d 0 (slc (zP H) a (zP H).length)) H' ∧ zT H' = zT H + ((zP H).length - a)) := by
  have hn4 : n < 400 := by have := h.2.2.2.2.1.2.2.1; omega
  have hl9 := hg.2.1
  have hp7 := h.2.2.1.2.2.2
  obtain ⟨υ, u1, u2, u3, u4, u5⟩ := (N_rowFor hU4 hs hg hF.1 hF.2.1 hn4 h.n400 hS h.2.1 hl).1 (oldR_no h13)
  unfold x_X12_putText_34
  rw [u1, b2_eq, ix_in (by omega) (by decide), sb_eq, ix_in (by omega) (by decide), sb_eq]
  have fv : fP PV σ (uI (uI υ 1168 (zR H).length (nI a)) 1169 (zR H).length (nI ((zP H).length - a))) := fP_trans (rf_pv u5) (fP_trans (fP_u (Or.inr ⟨by decide, by decide⟩)) (fP_u (Or.inr ⟨by decide, by decide⟩)))
  have hS2 : RS (uI (uI υ 1168 (zR H).length (nI a)) 1169 (zR H).length (nI ((zP H).length - a))) s T D := RS_PV hS fv
  obtain ⟨f1, _, _, _, _, f6, _, f8⟩ := hS2.f hF.1 hF.2.1
  have w := u4
  obtain ⟨w1, w2, w3, w4, w5, w6, w7⟩ := w
  have hlt : (slc (zP H) a (zP H).length).length = (zP H).length - a := slc_len ha (Nat.le_refl _)
  have hst : slc (zP H) a (a + (slc (zP H) a (zP H).length).length) = slc (zP H) a (zP H).length := by rw [hlt, show a + ((zP H).length - a) = (zP H).length by omega]
  have hlen : (kR T D n f d (zR H) ++ [(n, f, 0, slc (zP H) a (zP H).length, 0, !noth T D d 0 (slc (zP H) a (zP H).length))]).length = (zR H).length + 1 := by rw [List.length_append, kR_len]; rfl
  have live : noth T D d 0 (slc (zP H) a (zP H).length) = false → ∃ τ H', some (uI (uI υ 1168 (zR H).length (nI a)) 1169 (zR H).length (nI ((zP H).length - a))) = some τ ∧ VR τ s T D (aPut T D A n f d 0 (slc (zP H) a (zP H).length)) H' ∧ fP PV σ τ ∧ sI τ 1101 107 = sI σ 1101 107 ∧ (zR H').length = (zR H).length + 1 ∧ zU H' = zU H ∧ zP H' = zP H ∧ zD H' = zD H ∧ ∀ lm, DPk T D lm A H → (DPk T D lm (aPut T D A n f d 0 (slc (zP H) a (zP H).length)) H' ∧ zT H' = zT H + ((zP H).length - a)) := by
    intro nz
    refine ⟨_, _, rfl, V_end (τ := uI (uI υ 1168 (zR H).length (nI a)) 1169 (zR H).length (nI ((zP H).length - a))) (v := 0) (t := slc (zP H) a (zP H).length) (a := a) hg h hn hF h13 hl u2 u3 u4 u5 (by rw [nz, sI_o (Or.inl (by decide)), sI_o (Or.inl (by decide))]; exact w7) (fun b k hb => by rw [sI_o (by omega), sI_o (by omega)]) (fun b k hb => rfl) w3 (by rw [sI_o (Or.inl (by decide)), sI_s]) (by rw [sI_s, hlt]) (by rw [hlt]; omega) hst (fun z => by rw [hnm] at z; cases z) (fun _ => ⟨rfl, rfl⟩), fv, by rw [sI_o (Or.inl (by decide)), sI_o (Or.inl (by decide))]; exact (u5 1101 107 (by omega)).1, hlen, rfl, rfl, rfl, fun lm q => ⟨DPk_put hF.1 h13 q, by rw [zT_put, hlt]⟩⟩
  have dead : noth T D d 0 (slc (zP H) a (zP H).length) = true → ∃ τ H', some (uI (uI (uI υ 1168 (zR H).length (nI a)) 1169 (zR H).length (nI ((zP H).length - a))) 1171 (zR H).length (vp_nar .boolean 0)) = some τ ∧ VR τ s T D (aPut T D A n f d 0 (slc (zP H) a (zP H).length)) H' ∧ fP PV σ τ ∧ sI τ 1101 107 = sI σ 1101 107 ∧ (zR H').length = (zR H).length + 1 ∧ zU H' = zU H ∧ zP H' = zP H ∧ zD H' = zD H ∧ ∀ lm, DPk T D lm A H → (DPk T D lm (aPut T D A n f d 0 (slc (zP H) a (zP H).length)) H' ∧ zT H' = zT H + ((zP H).length - a)) := by
    intro nz
    refine ⟨_, _, rfl, V_end (τ := uI (uI (uI υ 1168 (zR H).length (nI a)) 1169 (zR H).length (nI ((zP H).length - a))) 1171 (zR H).length (vp_nar .boolean 0)) (v := 0) (t := slc (zP H) a (zP H).length) (a := a) hg h hn hF h13 hl u2 u3 u4 u5 (by rw [sI_s, nz, nar0]; rfl) (fun b k hb => by rw [sI_o (by omega), sI_o (by omega), sI_o (by omega)]) (fun b k hb => rfl) w3 (by rw [sI_o (Or.inl (by decide)), sI_o (Or.inl (by decide)), sI_s]) (by rw [sI_o (Or.inl (by decide)), sI_s, hlt]) (by rw [hlt]; omega) hst (fun z => by rw [hnm] at z; cases z) (fun _ => ⟨rfl, rfl⟩), fP_trans fv (fP_u (Or.inr ⟨by decide, by decide⟩)), by rw [sI_o (Or.inl (by decide)), sI_o (Or.inl (by decide)), sI_o (Or.inl (by decide))]; exact (u5 1101 107 (by omega)).1, hlen, rfl, rfl, rfl, fun lm q => ⟨DPk_put hF.1 h13 q, by rw [zT_put, hlt]⟩⟩
  have e0 : slc (zP H) a (zP H).length = [] ↔ (zP H).length - a = 0 := by
    rw [← hlt]
    exact ⟨fun z => by rw [z]; rfl, fun z => List.eq_nil_of_length_eq_zero z⟩
  have nzE : noth T D d 0 (slc (zP H) a (zP H).length) = (!dR d && decide (dO d = none) && decide ((zP H).length - a = 0)) := by
    unfold noth
    rw [hnm, if_neg (show ¬ false = true by decide), decide_eq_true h13, Bool.and_true]
    congr 1
    by_cases z : (zP H).length - a = 0
    · rw [decide_eq_true z, decide_eq_true (e0.mpr z)]
    · rw [decide_eq_false z, decide_eq_false (fun y => z (e0.mp y))]
  have ez : nI ((zP H).length - a) = 0 ↔ (zP H).length - a = 0 := nI_eq (b := 0) (by omega) (by decide)
  rw [ifd ez]
  by_cases q0 : (zP H).length - a = 0
  · rw [if_pos q0, ix_in (by omega) (by decide), f6, ifz, ix_in (by omega) (by decide), f8, ifd (oq_neg hl9), ix_in (by omega) (by decide), sb_eq]
    cases hR : dR d with
    | true => rw [if_pos (show true = true from rfl)]; exact live (by rw [nzE, hR]; rfl)
    | false =>
      rw [if_neg (show ¬ false = true by decide)]
      by_cases q1 : dO d = none
      · rw [if_pos q1]; exact dead (by rw [nzE, hR, decide_eq_true q1, decide_eq_true q0]; rfl)
      · rw [if_neg q1]; exact live (by rw [nzE, hR, decide_eq_false q1]; rfl)
  · rw [if_neg q0]; exact live (by rw [nzE, decide_eq_false q0, Bool.and_false])
/-- the texts grow -/
theorem VR_pool {σ τ : SG} {s : Nat} {T : List Nat} {D : List Dc} {A : AV} {H : Rh} {Q : List Nat} (h : VR σ s T D A H) (h84 : sI τ 1101 84 = nI (zP H ++ Q).length) (hR : RI τ 1175 (zP H ++ Q)) (h8 : ok8 Q) (hl : (zP H ++ Q).length ≤ 700) (hf : fP (fun b k => (b = 1101 ∧ k = 84) ∨ b = 1175) σ τ) : VR τ s T D A (zR H, zU H, zP H ++ Q, zW H, zD H) := by
  obtain ⟨g1, g2, g3, g4, g5, g6, g7⟩ := h
  have ci : ∀ b k, (b ≠ 1101 ∨ k ≠ 84) → b ≠ 1175 → sI τ b k = sI σ b k ∧ sL τ b k = sL σ b k := fun b k h1 h2 => ⟨(hf b k (by omega)).1, (hf b k (by omega)).2.1⟩
  have hpl : (zP H).length ≤ (zP H ++ Q).length := by rw [List.length_append]; omega
  refine ⟨((ci 1101 80 (by omega) (by decide)).1).trans g1, ⟨((ci 1101 82 (by omega) (by decide)).1).trans g2.1, g2.2.1, fun i r hi => ?_⟩, ⟨h84, hR, fun c hc => (List.mem_append.mp hc).elim (g3.2.2.1 c) (h8 c), hl⟩, ⟨((ci 1101 83 (by omega) (by decide)).1).trans g4.1, g4.2.1, fun i u hu => ?_⟩, ⟨((ci 1101 81 (by omega) (by decide)).1).trans g5.1, g5.2.1, g5.2.2.1, fun m hm => ?_⟩, g6, g7⟩
  · obtain ⟨y1, y2⟩ := g2.2.2 i r hi
    obtain ⟨a1, a2, a3, ⟨a, a4, a5, a6, a7⟩, a8⟩ := RWs_sm (τ := τ) y1 (fun b h1 h2 => ci b i (by omega) (by omega))
    exact ⟨⟨a1, a2, a3, ⟨a, a4, a5, Nat.le_trans a6 hpl, by show slc (zP H ++ Q) a (a + (rT r).length) = rT r; rw [slc_pre a6]; exact a7⟩, a8⟩, ((ci 1171 i (by omega) (by decide)).1).trans y2⟩
  · obtain ⟨u1, u2, a, u3, u4, u5, u6⟩ := g4.2.2 i u hu
    exact ⟨u1, ((ci 1172 i (by omega) (by decide)).1).trans u2, a, ((ci 1173 i (by omega) (by decide)).1).trans u3, ((ci 1174 i (by omega) (by decide)).1).trans u4, Nat.le_trans u5 hpl, by show slc (zP H ++ Q) a (a + u.2.length) = u.2; rw [slc_pre u5]; exact u6⟩
  · obtain ⟨n1, n2, n3, n4, n5⟩ := g5.2.2.2 m hm
    exact ⟨n1, ((ci 1160 m (by omega) (by decide)).1).trans n2, ((ci 1161 m (by omega) (by decide)).1).trans n3, ((ci 1162 m (by omega) (by decide)).1).trans n4, n5⟩
