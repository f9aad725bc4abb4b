/-! ===== the reference parses a value ===== -/
theorem N_text {U s n f lm p b : Nat} {σ : SG} {T S : List Nat} {D : List Dc} {A : AV} {H : Rh} {d : Dc} {tl : Tl} (hU4 : 4000 < U) (hs : s < 2) (hg : GSc T D) (hD : DR σ s T D S lm A H p b) (hb : b < p) (hn : n < aC A) (hF : isF D (aN A n) f d) (h13 : fty T D d ≠ 13) (hnm : nmr (fty T D d) = false) (htl : TLr H tl) (htk : tk D tl n f d = false) (hqt : S[p]? = some 34 ∨ S[p]? = some 39) : OV s T D S lm A H tl n f d σ ((tvS S (fty T D d) p).map (fun y => (0, y.1, y.2))) (x_X12_parseText U 1101 (nI n) (nI (fx D s f)) σ) := by
  have hD' := hD
  obtain ⟨a1, a2, a3, a4, a5, a6, a7, ⟨e1, e2, e3, e4⟩, a9, a10⟩ := hD'
  have hSl := a4.2.2.1
  have h8 := a4.2.2.2
  have hft : fty T D d ≤ 14 := dTy_lt (hg.fld hF.1 hF.2.1).2.2.2.1
  obtain ⟨c, hc, hcq⟩ : ∃ c, S[p]? = some c ∧ (c = 34 ∨ c = 39) := hqt.elim (fun z => ⟨34, z, Or.inl rfl⟩) (fun z => ⟨39, z, Or.inr rfl⟩)
  have hpl := (List.getElem?_eq_some_iff.mp hc).1
  have hTX : TXT σ (zP H) := ⟨a2.2.2.1.1, a2.2.2.1.2.1⟩
  unfold x_X12_parseText
  rw [a5, a4.at (by omega), b1_eq, sb_eq, nI_1, bA_some hc, hTX.1]
  have F1 : fP P84 σ (uI σ 1101 109 (nI (p + 1))) := fP_u (by unfold P84; omega)
  have L1 := LR_P a4 F1 (by unfold P84; omega) (fun k => by unfold P84; omega)
  have T1 : TXT (uI σ 1101 109 (nI (p + 1))) (zP H) := ⟨(sI_o (Or.inr (by decide))).trans hTX.1, fun i x hi => (sI_o (Or.inl (by decide))).trans (hTX.2 i x hi)⟩
  obtain ⟨τ, t1, t2, t3, t4⟩ := N_tx_L (U := U) (qt := c) (S := S) (K := fun σ24 => x_X12_parseText_128 U 1101 (nI n) (nI (fx D s f)) (nI (zP H).length) σ24) (v1 := nI n) (v2 := nI (fx D s f)) (v4 := nI (zP H).length) (by omega) (by omega) 701 (p + 1) U (zP H) (uI σ 1101 109 (nI (p + 1))) (by omega) (by omega) (by omega) (by omega) L1 T1 (sI_s _ _ _ _) ((sI_o (Or.inr (by decide))).trans a6)
  rw [t1]
  have FA := fP_trans F1 t2
  have FD : fP PDn σ τ := fP_mono FA (fun b k z => by unfold P84 at z; unfold PDn; omega)
  have etv : tvS S (fty T D d) p = match txS S c 701 (p + 1) with
    | none => none
    | some (x, q) => if fty T D d = 11 ∧ u8T x 0 x.length = false then none else some (x, q) := by
    unfold tvS
    rw [hc]
    simp only
    rw [if_pos hcq]
    cases txS S c 701 (p + 1) <;> rfl
  rw [etv]
  unfold x_X12_parseText_128
  rw [sb_eq, sI_o (Or.inr (show (107 : Nat) ≠ 109 by decide))]
  cases htx : txS S c 701 (p + 1) with
  | none =>
    rw [if_neg (t3 htx)]
    exact OV_no (fP_trans FD (fP_u (by unfold PDn; omega))) (by rw [sI_o (Or.inr (by decide))]; exact t3 htx)
  | some y =>
    obtain ⟨x, q⟩ := y
    obtain ⟨u1, u2, u3, u4⟩ := t4 x q htx
    have hlt := txS_lt _ _ _ _ htx
    simp only
    rw [if_pos u1, u2, nI_1, show q - 1 + 1 = q by omega]
    -- the state with the text, at its end
    have FP : fP (fun b k => (b = 1101 ∧ (k = 84 ∨ k = 107 ∨ k = 109)) ∨ b = 1175) σ (uI τ 1101 109 (nI q)) := fP_trans FA (fP_u (by omega))
    have g7 : sI (uI τ 1101 109 (nI q)) 1101 107 = 0 := (sI_o (Or.inr (by decide))).trans u1
    have g9 : sI (uI τ 1101 109 (nI q)) 1101 109 = nI q := sI_s _ _ _ _
    have g84 : sI (uI τ 1101 109 (nI q)) 1101 84 = nI (zP H ++ x).length := (sI_o (Or.inr (by decide))).trans u3.1
    have gR : RI (uI τ 1101 109 (nI q)) 1175 (zP H ++ x) := fun i y hi => (sI_o (Or.inl (by decide))).trans (u3.2 i y hi)
    generalize uI τ 1101 109 (nI q) = ψ at *
    have hxl : x.length < q - (p + 1) := by omega
    have hPl : (zP H ++ x).length = (zP H).length + x.length := List.length_append
    let τ0 : SG := (fun b k => if (b = 1101 ∧ k = 84) ∨ b = 1175 then sI ψ b k else sI σ b k, fun b k => if (b = 1101 ∧ k = 84) ∨ b = 1175 then sL ψ b k else sL σ b k, fun b k => if (b = 1101 ∧ k = 84) ∨ b = 1175 then sP ψ b k else sP σ b k)
    have z1 : ∀ b k, (b = 1101 ∧ k = 84) ∨ b = 1175 → sI τ0 b k = sI ψ b k ∧ sL τ0 b k = sL ψ b k := fun b k hb => ⟨if_pos hb, if_pos hb⟩
    have z2 : ∀ b k, ¬ ((b = 1101 ∧ k = 84) ∨ b = 1175) → sI τ0 b k = sI σ b k ∧ sL τ0 b k = sL σ b k ∧ sP τ0 b k = sP σ b k := fun b k hb => ⟨if_neg hb, if_neg hb, if_neg hb⟩
    have V0 : VR τ0 s T D A (zR H, zU H, zP H ++ x, zW H, zD H) := VR_pool a2 ((z1 1101 84 (Or.inl ⟨rfl, rfl⟩)).1.trans g84) (fun i y hi => (z1 1175 i (Or.inr rfl)).1.trans (gR i y hi)) u4 (by omega) z2
    have V2 : VR ψ s T D A (zR H, zU H, zP H ++ x, zW H, zD H) := VR_keep V0 (fun b k hb => by
      by_cases q : (b = 1101 ∧ k = 84) ∨ b = 1175
      · exact ⟨(z1 b k q).1.symm, (z1 b k q).2.symm⟩
      · obtain ⟨y1, y2, _⟩ := z2 b k q
        obtain ⟨y4, y5, _⟩ := FP b k (by omega)
        exact ⟨y4.trans y1.symm, y5.trans y2.symm⟩)
    have S2 : RS ψ s T D := RS_keep a1 (fun b k hb => (FP b k (by unfold PKP at hb; omega)).1)
    have FD2 : fP PDn σ ψ := fP_mono FP (fun b k z => by unfold PDn; omega)
    obtain ⟨f1, _, _, f4', _⟩ := S2.f hF.1 hF.2.1
    have e11 : nI (fty T D d) = 11 ↔ fty T D d = 11 := nI_eq (b := 11) (by omega) (by decide)
    unfold x_X12_putText
    rw [ix_in (by omega) (by decide), f4', ifd e11, g84, nI_sub (by omega)]
    have hRl : (zR H).length < 700 := by omega
    have hcut : slc (zP H ++ x) (zP H).length (zP H ++ x).length = x := by
      unfold slc
      rw [List.drop_left, hPl, List.take_of_length_le (by omega)]
    -- the row is put
    have put : ∀ (ω : SG), fP (fun b k => b = 1101 ∧ k = 107) ψ ω → ∃ ρ H', x_X12_putText_34 U 1101 (nI n) (nI (fx D s f)) (nI (zP H).length) (nI ((zP H ++ x).length - (zP H).length)) ω = some ρ ∧ fP PDn σ ρ ∧ sI ρ 1101 107 = sI ω 1101 107 ∧ (sI ω 1101 107 = 0 → DR ρ s T D S lm (aPut T D A n f d 0 x) H' q q) ∧ zX A H (aPut T D A n f d 0 x) H' ∧ TLr H' ((n, f) :: tl) := by
      intro ω fω
      have V3 : VR ω s T D A (zR H, zU H, zP H ++ x, zW H, zD H) := VR_keep V2 (fun b k hb => ⟨(fω b k (by omega)).1, (fω b k (by omega)).2.1⟩)
      have S3 : RS ω s T D := RS_keep S2 (fun b k hb => (fω b k (by unfold PKP at hb; omega)).1)
      obtain ⟨ρ, H', r1, r2, r3, r4, r5, r6, r7, r8, r9⟩ := V_txt (U := U) (a := (zP H).length) hU4 hs hg S3 V3 hn hF h13 hnm hRl (by show (zP H).length ≤ (zP H ++ x).length; omega)
      have r2' : VR ρ s T D (aPut T D A n f d 0 x) H' := by
        have := r2
        rw [show slc (zP (zR H, zU H, zP H ++ x, zW H, zD H)) (zP H).length (zP (zR H, zU H, zP H ++ x, zW H, zD H)).length = x from hcut] at this
        exact this
      have r9' : DPk T D lm (aPut T D A n f d 0 x) H' := by
        have := (r9 lm a3).1
        rw [show slc (zP (zR H, zU H, zP H ++ x, zW H, zD H)) (zP H).length (zP (zR H, zU H, zP H ++ x, zW H, zD H)).length = x from hcut] at this
        exact this
      have fρ : fP PDn σ ρ := fP_trans (fP_trans FD2 (fP_mono fω (fun b k z => Or.inl ⟨z.1, by omega⟩))) (PDn_V r3)
      have htl2 : TLr (zR H, zU H, zP H ++ x, zW H, zD H) tl := htl
      refine ⟨ρ, H', r1, fρ, r4, fun h0 => ?_, ⟨Nat.le_refl _, fun m' _ => ⟨rfl, by rw [r8]; rfl⟩⟩, TLr_put (H := (zR H, zU H, zP H ++ x, zW H, zD H)) hU4 hs hg S3 V3 hn hF.1 hF.2.1 hRl r2' htl2 htk (inv_txt r1)⟩
      have k1 : ∀ b k, ¬ (b = 1101 ∧ (k = 81 ∨ k = 82 ∨ k = 83 ∨ k = 84 ∨ k = 107)) → ¬ (1160 ≤ b ∧ b ≤ 1175) → sI ρ b k = sI ψ b k := fun b k y1 y2 => ((r3 b k (by unfold PV; omega)).1).trans ((fω b k (by omega)).1)
      have k2 : ∀ b k, ¬ (b = 1101 ∧ (k = 81 ∨ k = 82 ∨ k = 83 ∨ k = 84 ∨ k = 107 ∨ k = 108 ∨ k = 109)) → ¬ (1160 ≤ b ∧ b ≤ 1175) → sI ρ b k = sI σ b k := fun b k y1 y2 => (fρ b k (by unfold PDn; omega)).1
      refine ⟨RS_PV S3 r3, r2', r9', ⟨(k2 1101 73 (by omega) (by omega)).trans a4.1, fun i c hi => (k2 1102 i (by omega) (by omega)).trans (a4.2.1 i c hi), a4.2.2⟩, (k1 1101 109 (by omega) (by omega)).trans g9, r4.trans h0, (k2 1101 85 (by omega) (by omega)).trans a7, ⟨?_, ?_, ?_, ?_, ?_⟩, Nat.le_refl _, by omega⟩
      · rw [r5]; show (zR H).length + 1 ≤ q; omega
      · rw [r6]; show 2 * (zU H).length ≤ q; omega
      · rw [r7]; show (zP H ++ x).length ≤ q; omega
      · show 2 * aC A ≤ q + 2; omega
      · rw [(r9 lm a3).2, r7]; show zT H + ((zP H ++ x).length - (zP H).length) ≤ (zP H ++ x).length; omega
    have good : OV s T D S lm A H tl n f d σ (some (0, x, q)) (b1 (x_X12_putText_34 U 1101 (nI n) (nI (fx D s f)) (nI (zP H).length) (nI ((zP H ++ x).length - (zP H).length)) ψ) fun σ48 => some σ48) := by
      obtain ⟨ρ, H', r1, r2, r3, r4, r5, r6⟩ := put ψ (fP_refl _ _)
      rw [r1, b1_eq]
      refine ⟨ρ, rfl, r2, fun z => (by cases z), fun v' x' q' z => ?_⟩
      cases z
      exact ⟨H', r4 g7, r5, r6⟩
    by_cases q11 : fty T D d = 11
    · have hu := N_isUtf8 (U := U) (f := (zP H).length) (q := (zP H ++ x).length) hU4 V2.2.2.1.2.1 V2.2.2.1.2.2.1 V2.2.2.1.2.2.2 (by omega) (Nat.le_refl _)
      have hu2 : u8T (zP H ++ x) (zP H).length (zP H ++ x).length = u8T x 0 x.length := by rw [hPl]; exact u8_pre
      have hu' : x_X12_isUtf8 U 1101 (nI (zP H).length) (nI ((zP H ++ x).length - (zP H).length)) ψ = some (zI (u8T x 0 x.length)) := by rw [← hu2]; exact hu
      rw [if_pos q11, hu', b1_eq, ifz]
      cases hu8 : u8T x 0 x.length with
      | true =>
        rw [if_pos (show true = true from rfl), if_neg (show ¬ (fty T D d = 11 ∧ true = false) from fun z => by cases z.2)]
        exact good
      | false =>
        rw [if_neg (show ¬ false = true by decide), if_pos (show fty T D d = 11 ∧ false = false from ⟨q11, rfl⟩), sb_eq]
        obtain ⟨ρ, H', r1, r2, r3, r4, r5, r6⟩ := put (uI ψ 1101 107 1) (fP_u ⟨rfl, rfl⟩)
        rw [r1, b1_eq]
        exact OV_no r2 (by rw [r3, sI_s]; decide)
    · rw [if_neg q11, if_neg (show ¬ (fty T D d = 11 ∧ u8T x 0 x.length = false) from fun z => q11 z.1)]
      exact good
theorem pL_quote : ∀ c, c < 256 → pL c = true → c ≠ 34 ∧ c ≠ 39 := by decide +kernel
theorem bvS_let {S : List Nat} {p : Nat} (h : bP pL S p = false) : bvS S p = none := by
  unfold bvS
  cases hf : fi (slc S p (weS S p)) [[102, 97, 108, 115, 101], [116, 114, 117, 101]] 0 with
  | none => rfl
  | some i =>
    exfalso
    have hm := fi_some _ _ hf
    have h0 : ∃ c, (slc S p (weS S p))[0]? = some c ∧ pL c = true := by
      rcases List.mem_cons.mp hm with z | z
      · rw [z]; exact ⟨102, rfl, rfl⟩
      · rcases List.mem_cons.mp z with z | z
        · rw [z]; exact ⟨116, rfl, rfl⟩
        · cases z
    obtain ⟨c, hc, hl⟩ := h0
    unfold slc at hc
    have h1 : 0 < weS S p - p := by
      rcases Nat.eq_zero_or_pos (weS S p - p) with z | z
      · rw [z] at hc; cases hc
      · exact z
    rw [List.getElem?_take_of_lt h1, List.getElem?_drop, Nat.add_zero] at hc
    unfold bP at h
    rw [hc] at h
    have h' : pL c = false := h
    rw [hl] at h'
    cases h'
theorem N_plain {U s n f lm p b : Nat} {σ : SG} {T S : List Nat} {D : List Dc} {A : AV} {H : Rh} {d : Dc} {tl : Tl} (hU4 : 4000 < U) (hs : s < 2) (hg : GSc T D) (hD : DR σ s T D S lm A H p b) (hb : b < p) (hn : n < aC A) (hF : isF D (aN A n) f d) (h13 : fty T D d ≠ 13) (htl : TLr H tl) (htk : tk D tl n f d = false) : OV s T D S lm A H tl n f d σ (pVal T D S d p) (x_X12_parsePlain U 1101 (nI n) (nI (fx D s f)) σ) := by
  have hD' := hD
  obtain ⟨a1, a2, a3, a4, a5, a6, a7, a8, a9, a10⟩ := hD'
  have hSl := a4.2.2.1
  have h8 := a4.2.2.2
  have hft : fty T D d ≤ 14 := dTy_lt (hg.fld hF.1 hF.2.1).2.2.2.1
  obtain ⟨f1, _, _, f4, _⟩ := a1.f hF.1 hF.2.1
  have e11 : nI (fty T D d) = 11 ↔ fty T D d = 11 := nI_eq (b := 11) (by omega) (by decide)
  have e12 : nI (fty T D d) = 12 ↔ fty T D d = 12 := nI_eq (b := 12) (by omega) (by decide)
  have wrong : OV s T D S lm A H tl n f d σ none (sb (uI σ 1101 107 1) fun σ20 => some σ20) := by
    rw [sb_eq]
    exact OV_no (fP_u (by unfold PDn; omega)) (by rw [sI_s]; decide)
  unfold x_X12_parsePlain x_X12_parsePlain_31 x_X12_parsePlain_36 x_X12_parsePlain_52 x_X12_parsePlain_57
  rw [a5, a4.at (by omega), b1_eq, ix_in (by omega) (by decide), f4, ifd e11, ix_in (by omega) (by decide), f4, ifd e12, show (34 : Int32) = nI 34 from rfl, show (39 : Int32) = nI 39 from rfl]
  simp only [ifA h8 (show 34 < 256 by decide), ifA h8 (show 39 < 256 by decide)]
  unfold pVal
  cases hnm : nmr (fty T D d) with
  | false =>
    have h12 : fty T D d = 11 ∨ fty T D d = 12 := by
      unfold nmr at hnm
      have := of_decide_eq_false hnm
      omega
    rw [if_neg (show ¬ false = true by decide)]
    have go : OV s T D S lm A H tl n f d σ ((tvS S (fty T D d) p).map (fun y => (0, y.1, y.2))) (if S[p]? = some 34 then (if (1 : Int32) = 1 then (if (1 : Int32) = 0 then (b1 (x_X12_isLetter (bA S p) σ) fun v12 => if v12 = 0 then (b1 (x_X12_parseNumber U 1101 (nI n) (nI (fx D s f)) σ) fun σ15 => some σ15) else (b1 (x_X12_parseName U 1101 (nI n) (nI (fx D s f)) σ) fun σ17 => some σ17)) else (b1 (x_X12_parseText U 1101 (nI n) (nI (fx D s f)) σ) fun σ19 => some σ19)) else (sb (uI σ 1101 107 1) fun σ20 => some σ20)) else if S[p]? = some 39 then (if (1 : Int32) = 1 then (if (1 : Int32) = 0 then (b1 (x_X12_isLetter (bA S p) σ) fun v12 => if v12 = 0 then (b1 (x_X12_parseNumber U 1101 (nI n) (nI (fx D s f)) σ) fun σ15 => some σ15) else (b1 (x_X12_parseName U 1101 (nI n) (nI (fx D s f)) σ) fun σ17 => some σ17)) else (b1 (x_X12_parseText U 1101 (nI n) (nI (fx D s f)) σ) fun σ19 => some σ19)) else (sb (uI σ 1101 107 1) fun σ20 => some σ20)) else (if (1 : Int32) = 0 then (if (1 : Int32) = 0 then (b1 (x_X12_isLetter (bA S p) σ) fun v12 => if v12 = 0 then (b1 (x_X12_parseNumber U 1101 (nI n) (nI (fx D s f)) σ) fun σ15 => some σ15) else (b1 (x_X12_parseName U 1101 (nI n) (nI (fx D s f)) σ) fun σ17 => some σ17)) else (b1 (x_X12_parseText U 1101 (nI n) (nI (fx D s f)) σ) fun σ19 => some σ19)) else (sb (uI σ 1101 107 1) fun σ20 => some σ20))) := by
      rw [if_pos (show (1 : Int32) = 1 from rfl), if_neg (show ¬ (1 : Int32) = 0 by decide), if_neg (show ¬ (1 : Int32) = 0 by decide), b1_id]
      by_cases q1 : S[p]? = some 34
      · rw [if_pos q1]; exact N_text hU4 hs hg hD hb hn hF h13 hnm htl htk (Or.inl q1)
      rw [if_neg q1]
      by_cases q2 : S[p]? = some 39
      · rw [if_pos q2]; exact N_text hU4 hs hg hD hb hn hF h13 hnm htl htk (Or.inr q2)
      rw [if_neg q2]
      have : tvS S (fty T D d) p = none := by
        unfold tvS
        cases hs : S[p]? with
        | none => rfl
        | some c =>
          simp only
          rw [if_neg]
          rintro (z | z)
          · exact q1 (by rw [hs, z])
          · exact q2 (by rw [hs, z])
      rw [this]
      exact wrong
    rcases h12 with z | z
    · rw [if_pos z]; exact go
    · rw [if_neg (by omega), if_pos z]; exact go
  | true =>
    have n11 : fty T D d ≠ 11 := fun z => by rw [z] at hnm; cases hnm
    have n12 : fty T D d ≠ 12 := fun z => by rw [z] at hnm; cases hnm
    rw [if_neg n11, if_neg n12, if_pos (show true = true from rfl), if_neg (show ¬ (0 : Int32) = 1 by decide), if_pos trivial, if_pos trivial, V_isLetter h8, b1_eq, ifz, b1_id, b1_id]
    have nolet : bP pL S p = false → (nvS T D S d p).map (fun y => (y.1, ([] : List Nat), y.2)) = if fty T D d = 10 then none else (numS S (fty T D d) p).map (fun y => (y.1, [], y.2)) := by
      intro hlt
      unfold nvS
      by_cases q10 : fty T D d = 10
      · rw [if_pos q10, if_pos q10, bvS_let hlt]; rfl
      · rw [if_neg q10, if_neg q10, if_neg (fun z => by rw [hlt] at z; cases z.2)]
    have quote : (S[p]? = some 34 ∨ S[p]? = some 39) → (nvS T D S d p).map (fun y => (y.1, ([] : List Nat), y.2)) = none := by
      intro hq
      obtain ⟨c, hc, hcq⟩ : ∃ c, S[p]? = some c ∧ (c = 34 ∨ c = 39) := hq.elim (fun z => ⟨34, z, Or.inl rfl⟩) (fun z => ⟨39, z, Or.inr rfl⟩)
      have hlt : bP pL S p = false := by unfold bP; rw [hc]; rcases hcq with z | z <;> rw [z] <;> rfl
      rw [nolet hlt]
      have : numS S (fty T D d) p = none := by
        unfold numS
        have n45 : S[p]? ≠ some 45 := fun z => by rw [hc] at z; have := Option.some.inj z; omega
        have hdg : bP pD S p = false := by unfold bP; rw [hc]; rcases hcq with z | z <;> rw [z] <;> rfl
        rw [if_neg n45, rn_no hdg, if_pos (Or.inl rfl)]
      rw [this]
      show (if fty T D d = 10 then none else none) = none
      rw [ite_self]
    by_cases q1 : S[p]? = some 34
    · rw [if_pos q1, quote (Or.inl q1)]; exact wrong
    rw [if_neg q1]
    by_cases q2 : S[p]? = some 39
    · rw [if_pos q2, quote (Or.inr q2)]; exact wrong
    rw [if_neg q2]
    cases hlt : bP pL S p with
    | true => rw [if_pos (show true = true from rfl)]; exact N_name hU4 hs hg hD hb hn hF hnm htl htk hlt
    | false =>
      rw [if_neg (show ¬ false = true by decide), nolet hlt]
      exact N_number hU4 hs hg hD hb hn hF hnm htl htk
