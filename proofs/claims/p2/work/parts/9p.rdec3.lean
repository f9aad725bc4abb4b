/-! ===== the reference decodes one field: texts, messages ===== -/
theorem aMsg_N {σ : SG} {s n f t : Nat} {T : List Nat} {D : List Dc} {A : AV} {H : Rh} {d : Dc} (h : VR σ s T D A H) (hn : n < aC A) (hF : isF D (aN A n) f d) (h13 : fty T D d = 13) (ht : ftg T D d = some t) : aC A ≤ aC (aMsg D A n f d t).1 ∧ (∀ m, m < aC A → aN (aMsg D A n f d t).1 m = aN A m) ∧ aN (aMsg D A n f d t).1 (aMsg D A n f d t).2 = t := by
  have new : aMsg D A n f d t = (aNew D A n f d t, aC A) → aC A ≤ aC (aMsg D A n f d t).1 ∧ (∀ m, m < aC A → aN (aMsg D A n f d t).1 m = aN A m) ∧ aN (aMsg D A n f d t).1 (aMsg D A n f d t).2 = t := fun e => by
    rw [e]
    exact ⟨Nat.le_succ _, fun m hm => up_o (by omega), up_s _ _ _⟩
  cases hR : dR d with
  | true => exact new (by unfold aMsg; rw [hR])
  | false =>
    cases hE : aE A n f with
    | nil => exact new (by unfold aMsg; rw [hR, hE])
    | cons it K =>
      have e : aMsg D A n f d t = (aOld D A n f d, it.2.2) := by unfold aMsg; rw [hR, hE]
      rw [e]
      refine ⟨Nat.le_refl _, fun m _ => rfl, ?_⟩
      have h7 := (h.2.2.2.2.2.2 n hn).1 f d hF
      rw [hE] at h7
      cases hL : (zR H).filter (pRw n f) with
      | nil => rw [hL] at h7; cases h7
      | cons r L =>
        rw [hL, List.map_cons] at h7
        have hr : r ∈ (zR H).filter (pRw n f) := by rw [hL]; exact List.mem_cons_self ..
        obtain ⟨r1, r2⟩ := List.mem_filter.mp hr
        obtain ⟨r3, r4⟩ := pRw_of r2
        obtain ⟨o1, d2, o2, o3⟩ := h.2.2.2.2.2.1 r r1
        have : d2 = d := by have := o2.1; rw [r4, hF.1] at this; exact (Option.some.inj this).symm
        subst this
        have hit : itR T D d2 r = it := (List.cons.inj h7).1
        unfold itR at hit
        rw [if_pos h13] at hit
        have := (o3 h13).2.2
        rw [ht] at this
        show aN A it.2.2 = t
        rw [← hit]
        exact (Option.some.inj this).symm
/-- the outcome of taking one field -/
def OT (s : Nat) (T : List Nat) (D : List Dc) (S : List Nat) (lm : Nat) (A : AV) (H : Rh) (dp : Nat) (σ : SG) (o : Option (AV × Nat × Option (Nat × Nat × Nat))) (x : Option SG) : Prop := ∃ τ, x = some τ ∧ fP PDc σ τ ∧ (o = none → ¬ sI τ 1101 107 = 0) ∧ (∀ A' p', o = some (A', p', none) → ∃ H', DR τ s T D S lm A' H' p' p' ∧ zX A H A' H' ∧ fP PDn σ τ) ∧ ∀ A' p' k t q, o = some (A', p', some (k, t, q)) → (lm < dp + 1 → ¬ sI τ 1101 107 = 0) ∧ (dp + 1 ≤ lm → ∃ H', DR τ s T D S lm A' H' p' p' ∧ zX A H A' H' ∧ k < aC A' ∧ aN A' k = t ∧ zD H' k = dp + 1 ∧ sI τ 1101 106 = nI (dp + 1) ∧ sI τ 1176 dp = nI k ∧ sI τ 1177 dp = nI q ∧ ∀ i, i < dp → sI τ 1176 i = sI σ 1176 i ∧ sI τ 1177 i = sI σ 1177 i)
theorem OT_Q {s lm dp : Nat} {T S : List Nat} {D : List Dc} {A : AV} {H : Rh} {σ : SG} {o : Option (AV × Nat)} {x : Option SG} (h : OQ s T D S lm A H σ o x) : OT s T D S lm A H dp σ (o.map (fun y => (y.1, y.2, none))) x := by
  obtain ⟨τ, t1, t2, t3, t4⟩ := h
  refine ⟨τ, t1, PDc_n t2, fun z => t3 ?_, fun A' p' z => ?_, fun A' p' k t q z => ?_⟩
  · cases o with
    | none => rfl
    | some y => cases z
  · cases o with
    | none => cases z
    | some y =>
      obtain ⟨A1, p1⟩ := y
      cases z
      obtain ⟨H', w1, w2⟩ := t4 A1 p1 rfl
      exact ⟨H', w1, w2, t2⟩
  · cases o with
    | none => cases z
    | some y => cases z
theorem OT_from {s lm dp : Nat} {T S : List Nat} {D : List Dc} {A : AV} {H : Rh} {σ τ : SG} {o : Option (AV × Nat × Option (Nat × Nat × Nat))} {x : Option SG} (hf : fP PDn σ τ) (h : OT s T D S lm A H dp τ o x) : OT s T D S lm A H dp σ o x := by
  obtain ⟨υ, a, b, c, d, e⟩ := h
  refine ⟨υ, a, fP_trans (PDc_n hf) b, c, fun A' p' z => ?_, fun A' p' k t q z => ?_⟩
  · obtain ⟨H', w1, w2, w3⟩ := d A' p' z
    exact ⟨H', w1, w2, fP_trans hf w3⟩
  · obtain ⟨e1, e2⟩ := e A' p' k t q z
    refine ⟨e1, fun hl => ?_⟩
    obtain ⟨H', w1, w2, w3, w4, w5, w6, w7, w8, w9⟩ := e2 hl
    exact ⟨H', w1, w2, w3, w4, w5, w6, w7, w8, fun i hi => ⟨((w9 i hi).1).trans ((hf 1176 i (by unfold PDn; omega)).1), ((w9 i hi).2).trans ((hf 1177 i (by unfold PDn; omega)).1)⟩⟩
theorem OT_no {s lm dp : Nat} {T S : List Nat} {D : List Dc} {A : AV} {H : Rh} {σ τ : SG} (hf : fP PDn σ τ) (h7 : ¬ sI τ 1101 107 = 0) : OT s T D S lm A H dp σ none (some τ) := ⟨τ, rfl, PDc_n hf, fun _ => h7, fun _ _ z => (by cases z), fun _ _ _ _ _ z => by cases z⟩
theorem N_tlen {U s e n f p p1 lm dp m w : Nat} {σ : SG} {T S : List Nat} {D : List Dc} {A : AV} {H : Rh} {d : Dc} (hU4 : 4000 < U) (hs : s < 2) (hg : GSc T D) (hlm : lm ≤ 20) (he : e ≤ S.length) (hp : p < p1) (hp1 : p1 ≤ e) (hD : DR σ s T D S lm A H p1 p) (hn : n < aC A) (hm : aN A n = m) (hzn : zD H n = dp) (h106 : sI σ 1101 106 = nI dp) (hF : isF D m f d) (hf : fOf D m (w / 8) = some f) (hw : w % 8 = 2) (hk : kdO (fty T D d) = 2 ∨ dR d = true) :
    OT s T D S lm A H dp σ (dSx T D S n m e p w p1 A) (x_X12_takeLength U 1101 (nI n) (nI (fx D s f)) (nI e) σ) := by
  have hSl := hD.2.2.2.1.2.2.1
  have hdl := hD.2.2.1.1 n hn
  rw [hzn] at hdl
  unfold x_X12_takeLength x_X12_takeLength_36 dSx
  rw [if_pos hw]
  obtain ⟨τ, t1, t2, t3, t4⟩ := N_len (U := U) hU4 he hp1 hD
  rw [t1, b1_eq]
  have bad : OT s T D S lm A H dp σ none (sb (uI τ 1101 107 1) fun σ5 => some σ5) := OT_no (fP_trans (PDn_N t2) (fP_u (Or.inl ⟨rfl, by omega⟩))) (by rw [sI_s]; decide)
  cases hl : lnS S p1 e with
  | none =>
    simp only
    by_cases z7 : sI τ 1101 107 = 0
    · rw [if_pos z7]
      rcases t3 hl with z | z | ⟨z, z'⟩
      · exact absurd z7 z
      · rw [if_pos z]; exact bad
      · rw [if_neg z, if_pos z']; exact bad
    · rw [if_neg z7]; exact bad
  | some y =>
    obtain ⟨l, p2⟩ := y
    obtain ⟨v1, v2, v3, D1, v5, v6⟩ := t4 l p2 hl
    have hle := lnS_le hl (by omega)
    have D1' := D1
    obtain ⟨a1, a2, a3, a4, a5, a6, a7, ⟨e1, e2, e3, e4⟩, a9, a10⟩ := D1'
    obtain ⟨f1, _, _, f4, _⟩ := a1.f hF.1 hF.2.1
    have hft : fty T D d ≤ 14 := dTy_lt (hg.fld hF.1 hF.2.1).2.2.2.1
    have hF' : isF D (aN A n) f d := by rw [hm]; exact hF
    rw [if_pos v1, if_neg v2, if_neg v3, ix_in (by omega) (by decide), f4, v6, v5, a2.2.2.1.1]
    simp only
    rw [hf]
    simp only
    rw [hF.1]
    simp only
    have e13 : nI (fty T D d) = 13 ↔ fty T D d = 13 := nI_eq (b := 13) (by omega) (by decide)
    have e2k : nI (kdO (fty T D d)) = 2 ↔ kdO (fty T D d) = 2 := nI_eq (b := 2) (by have := (kdO_nmr hft).2; omega) (by decide)
    rw [ifd e13]
    by_cases q13 : fty T D d = 13
    · have hnm : nmr (fty T D d) = false := by rw [q13]; rfl
      obtain ⟨t, ht, hMt⟩ := (ftg_msg hg hF.1 hF.2.1).1 q13
      rw [if_pos q13, hnm, Bool.and_false, if_neg (show ¬ false = true by decide), if_neg (show ¬ false = true by decide), if_neg (show ¬ (fty T D d = 11 ∧ u8T S p2 (p2 + l) = false) from fun z => by omega), if_pos q13, ht]
      obtain ⟨υ, H', u1, u2, u3, u4, u5, u6, u7, u8, u9, u10, u11, u12⟩ := V_msg hU4 hs hg a1 a2 a3 hlm a7 hn hF' q13 ht (by omega) (by omega) a6
      obtain ⟨m1, m2, m3⟩ := aMsg_N a2 hn hF' q13 ht
      rw [hzn] at u4 u5
      rw [u1, b2_eq]
      simp only
      have fnu : fP PDn σ υ := fP_trans (PDn_N t2) (PDn_V u3)
      have c106 : sI υ 1101 106 = nI dp := ((fnu 1101 106 (by unfold PDn; omega)).1).trans h106
      by_cases z7 : sI υ 1101 107 = 0
      · have hle2 := u4.mp z7
        obtain ⟨w1, w2, w3⟩ := u5 hle2
        rw [if_pos z7, c106, ix_in (by omega) (by decide), sb_eq, sI_o (Or.inl (by decide)), c106, ix_in (by omega) (by decide), sb_eq, sb_eq, sI_o (Or.inl (by decide)), sI_o (Or.inl (by decide)), c106, nI_1]
        have F2 : fP (fun b k => (b = 1101 ∧ k = 106) ∨ b = 1176 ∨ b = 1177) υ (uI (uI (uI υ 1176 dp (nI (aMsg D A n f d t).2)) 1177 dp (nI (p2 + l))) 1101 106 (nI (dp + 1))) := fP_trans (fP_trans (fP_u (Or.inr (Or.inl rfl))) (fP_u (Or.inr (Or.inr rfl)))) (fP_u (Or.inl ⟨rfl, rfl⟩))
        refine ⟨_, rfl, fP_trans (PDc_n fnu) (fP_mono F2 (fun b k z => Or.inr z)), fun z => (by cases z), fun A' p' z => (by cases z), fun A' p' k t' q z => ⟨fun h => by omega, fun _ => ?_⟩⟩
        cases z
        have D2 : DR υ s T D S lm (aMsg D A n f d t).1 H' p2 p2 := DR_V D1 u3 u2 z7 w1 ⟨by omega, by rw [u7]; omega, by rw [u8]; omega, by omega, by rw [u12, u8]; exact e4.2⟩ (Nat.le_refl _)
        obtain ⟨c1, c2, c3, c4, c5, c6, c7, c8, c9, c10⟩ := D2
        refine ⟨H', ⟨RS_keep c1 (fun b k hb => (F2 b k (by unfold PKP at hb; omega)).1), VR_keep c2 (fun b k hb => ⟨(F2 b k (by omega)).1, (F2 b k (by omega)).2.1⟩), c3, ⟨((F2 1101 73 (by omega)).1).trans c4.1, RI_P c4.2.1 F2 (fun k => by omega), c4.2.2⟩, ((F2 1101 109 (by omega)).1).trans c5, ((F2 1101 107 (by omega)).1).trans c6, ((F2 1101 85 (by omega)).1).trans c7, c8, c9, c10⟩, ⟨m1, fun m' hm' => ⟨m2 m' hm', u11 m' hm'⟩⟩, u10, m3, w2, sI_s _ _ _ _, ?_, ?_, fun i hi => ⟨?_, ?_⟩⟩
        · rw [sI_o (Or.inl (by decide)), sI_o (Or.inl (by decide)), sI_s]
        · rw [sI_o (Or.inl (by decide)), sI_s]
        · rw [sI_o (Or.inl (by decide)), sI_o (Or.inl (by decide)), sI_o (Or.inr (by omega))]
          exact (fnu 1176 i (by unfold PDn; omega)).1
        · rw [sI_o (Or.inl (by decide)), sI_o (Or.inr (by omega)), sI_o (Or.inl (by decide))]
          exact (fnu 1177 i (by unfold PDn; omega)).1
      · rw [if_neg z7]
        refine ⟨υ, rfl, PDc_n fnu, fun z => (by cases z), fun A' p' z => (by cases z), fun A' p' k t' q z => ⟨fun _ => z7, fun h => ?_⟩⟩
        exact absurd (u4.mpr h) z7
    · rw [if_neg q13, ix_in (by omega) (by decide), f4, N_kindOf hft, b1_eq, ifd e2k]
      by_cases q2 : kdO (fty T D d) = 2
      · have hnm : nmr (fty T D d) = false := (kdO_nmr hft).1.mp q2
        rw [if_pos q2, hnm, Bool.and_false, if_neg (show ¬ false = true by decide), if_neg (show ¬ false = true by decide), if_neg q13]
        obtain ⟨υ, u1, u2, u3⟩ := N_cp_txt (U := U) (e := p2 + l) (K := fun σ45 => sb (uI σ45 1101 109 (nI (p2 + l))) fun σ46 => b1 (x_X12_putText U 1101 (nI n) (nI (fx D s f)) (nI (zP H).length) σ46) fun σ48 => some σ48) (v1 := nI n) (v2 := nI (fx D s f)) (v5 := nI (zP H).length) hSl (by omega) l p2 U τ (zP H) rfl (by omega) a4.2.1 ⟨a2.2.2.1.1, a2.2.2.1.2.1⟩ (by omega)
        rw [u1, sb_eq]
        have hsl : (slc S p2 (p2 + l)).length = l := by rw [slc_len (Nat.le_add_right _ _) (by omega)]; omega
        have hPl : (zP H ++ slc S p2 (p2 + l)).length = (zP H).length + l := by rw [List.length_append, hsl]
        have V1 := VR_pool (τ := υ) a2 u2.1 u2.2 (ok8_slc a4.2.2.2) (by omega) u3
        have F3 : fP PN υ (uI υ 1101 109 (nI (p2 + l))) := fP_u ⟨rfl, Or.inr (Or.inr rfl)⟩
        have F4 : fP PV τ υ := fP_mono u3 (fun b k z => by unfold PV; omega)
        have D2 : DR υ s T D S lm A (zR H, zU H, zP H ++ slc S p2 (p2 + l), zW H, zD H) p2 p2 → True := fun _ => trivial
        have c7 : sI υ 1101 107 = 0 := ((u3 1101 107 (by omega)).1).trans a6
        -- the state with the text, at the end of it
        generalize hψ : uI υ 1101 109 (nI (p2 + l)) = ψ at *
        have V2 : VR ψ s T D A (zR H, zU H, zP H ++ slc S p2 (p2 + l), zW H, zD H) := VR_keep V1 (fun b k hb => ⟨(F3 b k (by unfold PN; omega)).1, (F3 b k (by unfold PN; omega)).2.1⟩)
        have S2 : RS ψ s T D := RS_keep (RS_PV a1 F4) (fun b k hb => (F3 b k (by unfold PN; unfold PKP at hb; omega)).1)
        have c9 : sI ψ 1101 109 = nI (p2 + l) := by rw [← hψ, sI_s]
        have c77 : sI ψ 1101 107 = 0 := by rw [← hψ, sI_o (Or.inr (by decide))]; exact c7
        have fψ : fP PDn σ ψ := fP_trans (fP_trans (PDn_N t2) (PDn_V F4)) (PDn_N F3)
        obtain ⟨_, _, _, f4', _⟩ := S2.f hF.1 hF.2.1
        have e11 : nI (fty T D d) = 11 ↔ fty T D d = 11 := nI_eq (b := 11) (by omega) (by decide)
        have c84 : sI ψ 1101 84 = nI (zP H ++ slc S p2 (p2 + l)).length := V2.2.2.1.1
        unfold x_X12_putText
        rw [ix_in (by omega) (by decide), f4', ifd e11, c84, nI_sub (by omega)]
        have hRl : (zR H).length < 700 := by omega
        -- the row is put
        have put : ∀ (ω : SG), fP (fun b k => b = 1101 ∧ k = 107) ψ ω → ∃ ρ H', x_X12_putText_34 U 1101 (nI n) (nI (fx D s f)) (nI (zP H).length) (nI ((zP H ++ slc S p2 (p2 + l)).length - (zP H).length)) ω = some ρ ∧ fP PDn σ ρ ∧ sI ρ 1101 107 = sI ω 1101 107 ∧ (sI ω 1101 107 = 0 → DR ρ s T D S lm (aPut T D A n f d 0 (slc S p2 (p2 + l))) H' (p2 + l) (p2 + l)) ∧ zX A H (aPut T D A n f d 0 (slc S p2 (p2 + l))) H' := by
          intro ω fω
          have V3 : VR ω s T D A (zR H, zU H, zP H ++ slc S p2 (p2 + l), zW H, zD H) := VR_keep V2 (fun b k hb => ⟨(fω b k (by omega)).1, (fω b k (by omega)).2.1⟩)
          have S3 : RS ω s T D := RS_keep S2 (fun b k hb => (fω b k (by unfold PKP at hb; omega)).1)
          obtain ⟨ρ, H', r1, r2, r3, r4, r5, r6, r7, r8, r9⟩ := V_txt (U := U) (a := (zP H).length) hU4 hs hg S3 V3 hn hF' q13 hnm hRl (by show (zP H).length ≤ (zP H ++ _).length; omega)
          have hcut : slc (zP H ++ slc S p2 (p2 + l)) (zP H).length (zP H ++ slc S p2 (p2 + l)).length = slc S p2 (p2 + l) := by
            show ((zP H ++ slc S p2 (p2 + l)).drop (zP H).length).take _ = _
            rw [List.drop_left, hPl, List.take_of_length_le (by omega)]
          have r2' : VR ρ s T D (aPut T D A n f d 0 (slc S p2 (p2 + l))) H' := by
            have := r2
            show VR ρ s T D (aPut T D A n f d 0 (slc S p2 (p2 + l))) H'
            rw [← hcut]; exact this
          have r9' : DPk T D lm (aPut T D A n f d 0 (slc S p2 (p2 + l))) H' := by
            have := (r9 lm a3).1
            rw [← hcut]; exact this
          have fρ : fP PDn σ ρ := fP_trans (fP_trans fψ (fP_mono fω (fun b k z => Or.inl ⟨z.1, by omega⟩))) (PDn_V r3)
          refine ⟨ρ, H', r1, fρ, r4, fun h0 => ?_, Nat.le_refl _, fun m' _ => ⟨rfl, by rw [r8]; rfl⟩⟩
          have k1 : ∀ b k, ¬ (b = 1101 ∧ (k = 81 ∨ k = 82 ∨ k = 83 ∨ k = 84 ∨ k = 107)) → ¬ (1160 ≤ b ∧ b ≤ 1175) → sI ρ b k = sI ψ b k := fun b k y1 y2 => ((r3 b k (by unfold PV; omega)).1).trans ((fω b k (by omega)).1)
          have k2 : ∀ b k, ¬ (b = 1101 ∧ (k = 81 ∨ k = 82 ∨ k = 83 ∨ k = 84 ∨ k = 107 ∨ k = 108 ∨ k = 109)) → ¬ (1160 ≤ b ∧ b ≤ 1175) → sI ρ b k = sI τ b k := fun b k y1 y2 => (k1 b k (by omega) y2).trans (((F3 b k (by unfold PN; omega)).1).trans ((F4 b k (by unfold PV; omega)).1))
          refine ⟨RS_PV S3 r3, r2', r9', ⟨(k2 1101 73 (by omega) (by omega)).trans a4.1, fun i c hi => (k2 1102 i (by omega) (by omega)).trans (a4.2.1 i c hi), a4.2.2⟩, (k1 1101 109 (by omega) (by omega)).trans c9, r4.trans h0, (k2 1101 85 (by omega) (by omega)).trans a7, ⟨?_, ?_, ?_, ?_, ?_⟩, Nat.le_refl _, by omega⟩
          · rw [r5]; show (zR H).length + 1 ≤ p2 + l; omega
          · rw [r6]; show 2 * (zU H).length ≤ p2 + l; omega
          · rw [r7]; show (zP H ++ slc S p2 (p2 + l)).length ≤ p2 + l; omega
          · show 2 * aC A ≤ p2 + l + 2; omega
          · rw [(r9 lm a3).2, r7]; show zT H + ((zP H ++ slc S p2 (p2 + l)).length - (zP H).length) ≤ (zP H ++ slc S p2 (p2 + l)).length; omega
        have good : OT s T D S lm A H dp σ (some (aPut T D A n f d 0 (slc S p2 (p2 + l)), p2 + l, none)) (b1 (x_X12_putText_34 U 1101 (nI n) (nI (fx D s f)) (nI (zP H).length) (nI ((zP H ++ slc S p2 (p2 + l)).length - (zP H).length)) ψ) fun σ48 => some σ48) := by
          obtain ⟨ρ, H', r1, r2, r3, r4, r5⟩ := put ψ (fP_refl _ _)
          rw [r1, b1_eq]
          refine ⟨ρ, rfl, PDc_n r2, fun z => (by cases z), fun A' p' z => ?_, fun A' p' k t q z => by cases z⟩
          cases z
          exact ⟨H', r4 c77, r5, r2⟩
        by_cases q11 : fty T D d = 11
        · have hu := N_isUtf8 (U := U) (f := (zP H).length) (q := (zP H ++ slc S p2 (p2 + l)).length) hU4 V2.2.2.1.2.1 V2.2.2.1.2.2.1 V2.2.2.1.2.2.2 (by omega) (Nat.le_refl _)
          have hu2 : u8T (zP H ++ slc S p2 (p2 + l)) (zP H).length (zP H ++ slc S p2 (p2 + l)).length = u8T S p2 (p2 + l) := by
            rw [hPl]
            have := u8_pool (P := zP H) (S := S) (a := p2) (e := p2 + l) (Nat.le_add_right _ _) (by omega)
            rw [show p2 + l - p2 = l by omega] at this
            exact this
          have hu' : x_X12_isUtf8 U 1101 (nI (zP H).length) (nI ((zP H ++ slc S p2 (p2 + l)).length - (zP H).length)) ψ = some (zI (u8T S p2 (p2 + l))) := by rw [← hu2]; exact hu
          rw [if_pos q11, hu', b1_eq, ifz]
          cases h8 : u8T S p2 (p2 + l) with
          | true =>
            rw [if_pos (show true = true from rfl), if_neg (show ¬ (fty T D d = 11 ∧ true = false) from fun z => by cases z.2)]
            exact good
          | false =>
            rw [if_neg (show ¬ false = true by decide), if_pos (show fty T D d = 11 ∧ false = false from ⟨q11, rfl⟩), sb_eq]
            obtain ⟨ρ, H', r1, r2, r3, r4, r5⟩ := put (uI ψ 1101 107 1) (fP_u ⟨rfl, rfl⟩)
            rw [r1, b1_eq]
            exact OT_no r2 (by rw [r3, sI_s]; decide)
        · rw [if_neg q11, if_neg (show ¬ (fty T D d = 11 ∧ u8T S p2 (p2 + l) = false) from fun z => q11 z.1)]
          exact good
      · have hnm : nmr (fty T D d) = true := by
          cases h : nmr (fty T D d) with
          | true => rfl
          | false => exact absurd ((kdO_nmr hft).1.mpr h) q2
        have hR : dR d = true := hk.elim (fun z => absurd z q2) id
        rw [if_neg q2, hnm, hR, Bool.and_self, if_pos (show true = true from rfl), if_neg q13]
        have key := N_row (U := U) (e := p2 + l) (lm := lm) hU4 hs hg (by omega) q13 hnm 701 p2 U τ A H (by omega) (by omega) (Nat.le_add_right _ _) (DR_b D1 (by omega) (Nat.le_refl _)) hn hF'
        have key2 := OT_from (dp := dp) (PDn_N t2) (OT_Q key)
        cases hrow : dRow T D S n f d (p2 + l) 701 A p2 with
        | none => rw [hrow] at key2; exact key2
        | some A2 => rw [hrow] at key2; exact key2
