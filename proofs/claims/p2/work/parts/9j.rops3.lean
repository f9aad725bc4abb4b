/-! ===== the reference keeps unknown bytes, opens messages ===== -/
/-- bytes of the tape are copied to the texts -/
def PLs (σ : SG) (P : List Nat) : Prop := sI σ 1101 84 = nI P.length ∧ RI σ 1175 P
theorem N_cp_unk {U e : Nat} {S : List Nat} (hSl : S.length ≤ 700) (he : e ≤ S.length) : ∀ (j k U1 : Nat) (σ : SG) (P : List Nat), k + j = e → j < U1 → RI σ 1102 S → PLs σ P → P.length + j ≤ 700 →
    ∃ τ, x_X12_addUnknown_L48 U 1101 (nI e) U1 (nI k) σ = some τ ∧ PLs τ (P ++ slc S k e) ∧ fP (fun b k => (b = 1101 ∧ k = 84) ∨ b = 1175) σ τ := by
  intro j
  induction j with
  | zero =>
    intro k U1 σ P hk hu hT hP hl
    obtain ⟨V, rfl⟩ : ∃ V, U1 = V + 1 := ⟨U1 - 1, by omega⟩
    rw [x_X12_addUnknown_L48, if_neg (fun q => by have := (ltI (by omega) (by omega)).mp q; omega), slc_nil (by omega), List.append_nil]
    exact ⟨σ, rfl, hP, fP_refl _ _⟩
  | succ j ih =>
    intro k U1 σ P hk hu hT hP hl
    obtain ⟨V, rfl⟩ : ∃ V, U1 = V + 1 := ⟨U1 - 1, by omega⟩
    have hkS : k < S.length := by omega
    have f1 : fP (fun b k => (b = 1101 ∧ k = 84) ∨ b = 1175) σ (uI (uI σ 1175 P.length (nI S[k])) 1101 84 (nI (P.length + 1))) := fP_trans (fP_u (Or.inr rfl)) (fP_u (Or.inl ⟨rfl, rfl⟩))
    rw [x_X12_addUnknown_L48, if_pos ((ltI (by omega) (by omega)).mpr (by omega)), ix_in (by omega) (by decide), hP.1, ix_in (by omega) (by decide), sb_eq, sb_eq, hT _ _ (List.getElem?_eq_getElem hkS), sI_o (Or.inl (by decide)), hP.1, nI_1, nI_1]
    obtain ⟨τ, t1, t2, t3⟩ := ih (k + 1) V (uI (uI σ 1175 P.length (nI S[k])) 1101 84 (nI (P.length + 1))) (P ++ [S[k]]) (by omega) (by omega) (hT.sm (sm_trans (sm_uI (by decide)) (sm_uI (by decide)))) ⟨by rw [sI_s, List.length_append]; rfl, (RI_snoc hP.2).sm (sm_uI (by decide))⟩ (by rw [List.length_append, List.length_singleton]; omega)
    refine ⟨τ, t1, ?_, fP_trans f1 t3⟩
    rw [slc_cons (show k < e by omega) hkS, List.append_cons]
    exact t2
theorem N_cp_txt {U e : Nat} {S : List Nat} {K : SG → Option SG} {v1 v2 v5 : Int32} (hSl : S.length ≤ 700) (he : e ≤ S.length) : ∀ (j k U1 : Nat) (σ : SG) (P : List Nat), k + j = e → j < U1 → RI σ 1102 S → PLs σ P → P.length + j ≤ 700 →
    ∃ τ, x_X12_takeLength_L141 U 1101 K v1 v2 (nI e) v5 U1 (nI k) σ = K τ ∧ PLs τ (P ++ slc S k e) ∧ fP (fun b k => (b = 1101 ∧ k = 84) ∨ b = 1175) σ τ := by
  intro j
  induction j with
  | zero =>
    intro k U1 σ P hk hu hT hP hl
    obtain ⟨V, rfl⟩ : ∃ V, U1 = V + 1 := ⟨U1 - 1, by omega⟩
    rw [x_X12_takeLength_L141, if_neg (fun q => by have := (ltI (by omega) (by omega)).mp q; omega), slc_nil (by omega), List.append_nil]
    exact ⟨σ, rfl, hP, fP_refl _ _⟩
  | succ j ih =>
    intro k U1 σ P hk hu hT hP hl
    obtain ⟨V, rfl⟩ : ∃ V, U1 = V + 1 := ⟨U1 - 1, by omega⟩
    have hkS : k < S.length := by omega
    have f1 : fP (fun b k => (b = 1101 ∧ k = 84) ∨ b = 1175) σ (uI (uI σ 1175 P.length (nI S[k])) 1101 84 (nI (P.length + 1))) := fP_trans (fP_u (Or.inr rfl)) (fP_u (Or.inl ⟨rfl, rfl⟩))
    rw [x_X12_takeLength_L141, if_pos ((ltI (by omega) (by omega)).mpr (by omega)), ix_in (by omega) (by decide), hP.1, ix_in (by omega) (by decide), sb_eq, sb_eq, hT _ _ (List.getElem?_eq_getElem hkS), sI_o (Or.inl (by decide)), hP.1, nI_1, nI_1]
    obtain ⟨τ, t1, t2, t3⟩ := ih (k + 1) V (uI (uI σ 1175 P.length (nI S[k])) 1101 84 (nI (P.length + 1))) (P ++ [S[k]]) (by omega) (by omega) (hT.sm (sm_trans (sm_uI (by decide)) (sm_uI (by decide)))) ⟨by rw [sI_s, List.length_append]; rfl, (RI_snoc hP.2).sm (sm_uI (by decide))⟩ (by rw [List.length_append, List.length_singleton]; omega)
    refine ⟨τ, t1, ?_, fP_trans f1 t3⟩
    rw [slc_cons (show k < e by omega) hkS, List.append_cons]
    exact t2
theorem ok8_slc {S : List Nat} (h : ok8 S) {a b : Nat} : ok8 (slc S a b) := fun c hc => h c (List.mem_of_mem_drop (List.mem_of_mem_take hc))
theorem V_unk {U s n p e : Nat} {σ : SG} {T S : List Nat} {D : List Dc} {A : AV} {H : Rh} (hU4 : 4000 < U) (h : VR σ s T D A H) (hn : n < aC A) (hT : RI σ 1102 S) (h8 : ok8 S) (hSl : S.length ≤ 700) (hpe : p ≤ e) (he : e ≤ S.length) (hul : (zU H).length < 350) (hpl : (zP H).length + (e - p) ≤ 700) :
    ∃ τ H', x_X12_addUnknown U 1101 (nI n) (nI p) (nI e) σ = some τ ∧ VR τ s T D (aUnk A n (slc S p e)) H' ∧ fP PV σ τ ∧ sI τ 1101 107 = sI σ 1101 107 ∧ zR H' = zR H ∧ (zU H').length = (zU H).length + 1 ∧ (zP H').length = (zP H).length + (e - p) ∧ zD H' = zD H ∧ zW H' = zW H ∧ zT H' = zT H + (e - p) := by
  have hlp := h.2.2.1
  have h83 := h.2.2.2.1.1
  unfold x_X12_addUnknown
  rw [h83, ix_in (by omega) (by decide), sb_eq]
  have e1 : sI (uI σ 1172 (zU H).length (nI n)) 1101 83 = nI (zU H).length := by rw [sI_o (Or.inl (by decide))]; exact h83
  have e2 : sI (uI σ 1172 (zU H).length (nI n)) 1101 84 = nI (zP H).length := by rw [sI_o (Or.inl (by decide))]; exact hlp.1
  rw [e1, ix_in (by omega) (by decide), sb_eq, e2]
  have e3 : sI (uI (uI σ 1172 (zU H).length (nI n)) 1173 (zU H).length (nI (zP H).length)) 1101 83 = nI (zU H).length := by rw [sI_o (Or.inl (by decide))]; exact e1
  rw [e3, ix_in (by omega) (by decide), sb_eq, sb_eq, nI_sub hpe]
  have e4 : sI (uI (uI (uI σ 1172 (zU H).length (nI n)) 1173 (zU H).length (nI (zP H).length)) 1174 (zU H).length (nI (e - p))) 1101 83 = nI (zU H).length := by rw [sI_o (Or.inl (by decide))]; exact e3
  rw [e4, nI_1]
  have F1 : fP (fun b k => (b = 1101 ∧ k = 83) ∨ (1172 ≤ b ∧ b ≤ 1174 ∧ k = (zU H).length)) σ (uI (uI (uI (uI σ 1172 (zU H).length (nI n)) 1173 (zU H).length (nI (zP H).length)) 1174 (zU H).length (nI (e - p))) 1101 83 (nI ((zU H).length + 1))) := by
    refine fP_trans (fP_trans (fP_trans (fP_u ?_) (fP_u ?_)) (fP_u ?_)) (fP_u ?_)
    · exact Or.inr ⟨by decide, by decide, rfl⟩
    · exact Or.inr ⟨by decide, by decide, rfl⟩
    · exact Or.inr ⟨by decide, by decide, rfl⟩
    · exact Or.inl ⟨rfl, rfl⟩
  have c72 : sI (uI (uI (uI (uI σ 1172 (zU H).length (nI n)) 1173 (zU H).length (nI (zP H).length)) 1174 (zU H).length (nI (e - p))) 1101 83 (nI ((zU H).length + 1))) 1172 (zU H).length = nI n := by rw [sI_o (Or.inl (by decide)), sI_o (Or.inl (by decide)), sI_o (Or.inl (by decide)), sI_s]
  have c73 : sI (uI (uI (uI (uI σ 1172 (zU H).length (nI n)) 1173 (zU H).length (nI (zP H).length)) 1174 (zU H).length (nI (e - p))) 1101 83 (nI ((zU H).length + 1))) 1173 (zU H).length = nI (zP H).length := by rw [sI_o (Or.inl (by decide)), sI_o (Or.inl (by decide)), sI_s]
  have c74 : sI (uI (uI (uI (uI σ 1172 (zU H).length (nI n)) 1173 (zU H).length (nI (zP H).length)) 1174 (zU H).length (nI (e - p))) 1101 83 (nI ((zU H).length + 1))) 1174 (zU H).length = nI (e - p) := by rw [sI_o (Or.inl (by decide)), sI_s]
  have c83 : sI (uI (uI (uI (uI σ 1172 (zU H).length (nI n)) 1173 (zU H).length (nI (zP H).length)) 1174 (zU H).length (nI (e - p))) 1101 83 (nI ((zU H).length + 1))) 1101 83 = nI ((zU H).length + 1) := sI_s _ _ _ _
  generalize (uI (uI (uI (uI σ 1172 (zU H).length (nI n)) 1173 (zU H).length (nI (zP H).length)) 1174 (zU H).length (nI (e - p))) 1101 83 (nI ((zU H).length + 1))) = σ4 at *
  obtain ⟨τ, t1, t2, t3⟩ := N_cp_unk (U := U) hSl he (e - p) p U σ4 (zP H) (by omega) (by omega) (fun i c hi => ((F1 1102 i (by omega)).1).trans (hT i c hi)) ⟨((F1 1101 84 (by omega)).1).trans hlp.1, fun i c hi => ((F1 1175 i (by omega)).1).trans (hlp.2.1 i c hi)⟩ (by omega)
  have hsl : (slc S p e).length = e - p := slc_len hpe he
  have hPl : (zP H ++ slc S p e).length = (zP H).length + (e - p) := by rw [List.length_append, hsl]
  have fv : fP PV σ τ := fP_trans (fP_mono F1 (fun b k z => by unfold PV; omega)) (fP_mono t3 (fun b k z => by unfold PV; omega))
  have ci : ∀ b k, (b = 1101 → k ≠ 83 ∧ k ≠ 84) → b ≠ 1175 → (1172 ≤ b ∧ b ≤ 1174 → k ≠ (zU H).length) → sI τ b k = sI σ b k ∧ sL τ b k = sL σ b k := fun b k h1 h2 h3 => ⟨((t3 b k (by omega)).1).trans ((F1 b k (by omega)).1), ((t3 b k (by omega)).2.1).trans ((F1 b k (by omega)).2.1)⟩
  refine ⟨τ, (zR H, zU H ++ [(n, slc S p e)], zP H ++ slc S p e, zW H, zD H), t1, ?_, fv, (ci 1101 107 (by decide) (by decide) (by omega)).1, rfl, by show (zU H ++ _).length = _; rw [List.length_append]; rfl, hPl, rfl, rfl, by show ((zR H).map (fun r => (rT r).length)).sum + ((zU H ++ [(n, slc S p e)]).map (fun u => u.2.length)).sum = zT H + (e - p); rw [List.map_append, List.sum_append, ← hsl]; unfold zT; show _ + (_ + ((slc S p e).length + 0)) = _; omega⟩
  obtain ⟨g1, g2, g3, g4, g5, g6, g7⟩ := h
  have hpl' : (zP H).length ≤ (zP H ++ slc S p e).length := by omega
  refine ⟨((ci 1101 80 (by decide) (by decide) (by omega)).1).trans g1, ⟨((ci 1101 82 (by decide) (by decide) (by omega)).1).trans g2.1, g2.2.1, fun i r hi => ?_⟩, ⟨t2.1, t2.2, fun c hc => (List.mem_append.mp hc).elim (g3.2.2.1 c) (ok8_slc h8 c), by show (zP H ++ slc S p e).length ≤ 700; omega⟩, ⟨?_, ?_, fun i u hu => ?_⟩, ⟨((ci 1101 81 (by decide) (by decide) (by omega)).1).trans g5.1, g5.2.1, g5.2.2.1, fun m hm => ?_⟩, g6, fun m hm => ?_⟩
  · obtain ⟨y1, y2⟩ := g2.2.2 i r hi
    obtain ⟨a1, a2, a3, ⟨a, a4, a5, a6, a7⟩, a8⟩ := RWs_sm (τ := τ) y1 (fun b h1 h2 => ci b i (by omega) (by omega) (by omega))
    exact ⟨⟨a1, a2, a3, ⟨a, a4, a5, Nat.le_trans a6 hpl', by show slc (zP H ++ slc S p e) a (a + (rT r).length) = rT r; rw [slc_pre a6]; exact a7⟩, a8⟩, ((ci 1171 i (by omega) (by decide) (by omega)).1).trans y2⟩
  · rw [(t3 1101 83 (by omega)).1, c83]
    show _ = nI (zU H ++ _).length
    rw [List.length_append]; rfl
  · show (zU H ++ _).length ≤ 350
    rw [List.length_append]
    show (zU H).length + 1 ≤ 350
    omega
  · have hu' : (zU H ++ [(n, slc S p e)])[i]? = some u := hu
    by_cases z : i = (zU H).length
    · subst z
      rw [List.getElem?_append_right (Nat.le_refl _), Nat.sub_self] at hu'
      simp at hu'
      subst hu'
      refine ⟨hn, ((t3 1172 _ (by omega)).1).trans c72, (zP H).length, ((t3 1173 _ (by omega)).1).trans c73, by rw [(t3 1174 _ (by omega)).1, c74, hsl], by show (zP H).length + (slc S p e).length ≤ (zP H ++ slc S p e).length; rw [hsl, hPl]; omega, ?_⟩
      show slc (zP H ++ slc S p e) (zP H).length ((zP H).length + (slc S p e).length) = slc S p e
      unfold slc
      rw [List.drop_left, List.take_of_length_le]
      rw [Nat.add_sub_cancel_left]
      exact Nat.le_refl _
    · have hil := (List.getElem?_eq_some_iff.mp hu').1
      rw [List.length_append, List.length_singleton] at hil
      rw [List.getElem?_append_left (by omega)] at hu'
      obtain ⟨u1, u2, a, u3, u4, u5, u6⟩ := g4.2.2 i u hu'
      exact ⟨u1, ((ci 1172 i (by omega) (by decide) (by omega)).1).trans u2, a, ((ci 1173 i (by omega) (by decide) (by omega)).1).trans u3, ((ci 1174 i (by omega) (by decide) (by omega)).1).trans u4, Nat.le_trans u5 hpl', by show slc (zP H ++ slc S p e) a (a + u.2.length) = u.2; rw [slc_pre u5]; exact u6⟩
  · obtain ⟨n1, n2, n3, n4, n5⟩ := g5.2.2.2 m hm
    exact ⟨n1, ((ci 1160 m (by omega) (by decide) (by omega)).1).trans n2, ((ci 1161 m (by omega) (by decide) (by omega)).1).trans n3, ((ci 1162 m (by omega) (by decide) (by omega)).1).trans n4, n5⟩
  · obtain ⟨k1, k2⟩ := g7 m hm
    refine ⟨k1, ?_⟩
    show (((zU H ++ [(n, slc S p e)]).filter (fun u => decide (u.1 = m))).map (fun u => u.2)).flatten = up (aU A) n _ m
    rw [List.filter_append, List.map_append, List.flatten_append, k2, List.filter_cons, List.filter_nil]
    by_cases q : n = m
    · subst q
      rw [decide_eq_true rfl, if_pos rfl, up_s]
      simp
    · rw [decide_eq_false q, if_neg (show ¬ false = true by decide), up_o (fun z => q z.symm)]
      simp
