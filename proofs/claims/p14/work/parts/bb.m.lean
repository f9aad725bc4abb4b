/-! ===== the reference parses: the loop with its stack ===== -/
/-- one field, a message left to be read -/
def qSx (T : List Nat) (D : List Dc) (S : List Nat) (n m p : Nat) (A : AV) (tl : Tl) : Option (AV × Tl × Nat × Option (Nat × Nat)) := match fNm T D m (slc S p (weS S p)) with
  | none => none
  | some f => match D[f]? with
    | none => none
    | some d => if tk D tl n f d then none else if fty T D d = 13 then (if S[tbS S (weS S p)]? = some 123 then (match ftg T D d with
        | none => none
        | some t => some ((aMsg D A n f d t).1, (n, f) :: tl, tbS S (weS S p) + 1, some ((aMsg D A n f d t).2, t))) else none)
      else if S[tbS S (weS S p)]? = some 58 then (match pVal T D S d (tbS S (tbS S (weS S p) + 1)) with
        | none => none
        | some (v, x, q) => some (aPut T D A n f d v x, (n, f) :: tl, q, none)) else none
def qFn (rc : AV → Tl → Nat → Nat → Nat → Option (AV × Tl × Nat)) (o : Option (AV × Tl × Nat × Option (Nat × Nat))) : Option (AV × Tl × Nat) := match o with
  | none => none
  | some (A, tl, p, none) => some (A, tl, p)
  | some (A, tl, p, some (k, t)) => rc A tl k t p
theorem qSt_x {T : List Nat} {D : List Dc} {S : List Nat} {rc : AV → Tl → Nat → Nat → Nat → Option (AV × Tl × Nat)} {n m p : Nat} {A : AV} {tl : Tl} : qSt T D S rc n m p A tl = qFn rc (qSx T D S n m p A tl) := by
  unfold qSt qSx
  cases fNm T D m (slc S p (weS S p)) with
  | none => rfl
  | some f =>
    simp only
    cases D[f]? with
    | none => rfl
    | some d =>
      simp only
      cases tk D tl n f d with
      | true => rfl
      | false =>
        rw [if_neg (show ¬ false = true by decide), if_neg (show ¬ false = true by decide)]
        by_cases q13 : fty T D d = 13
        · rw [if_pos q13, if_pos q13]
          by_cases qb : S[tbS S (weS S p)]? = some 123
          · rw [if_pos qb, if_pos qb]
            try (cases ftg T D d <;> rfl)
          · rw [if_neg qb, if_neg qb]; try rfl
        · rw [if_neg q13, if_neg q13]
          by_cases qb : S[tbS S (weS S p)]? = some 58
          · rw [if_pos qb, if_pos qb]
            try (cases pVal T D S d (tbS S (tbS S (weS S p) + 1)) <;> rfl)
          · rw [if_neg qb, if_neg qb]; try rfl
theorem qSx_lt {T : List Nat} {D : List Dc} {S : List Nat} {n m p : Nat} {A A' : AV} {tl tl' : Tl} {p' : Nat} {o : Option (Nat × Nat)} (hg : GSc T D) (hp : p ≤ S.length) (h : qSx T D S n m p A tl = some (A', tl', p', o)) : p + 1 < p' ∧ p' ≤ S.length := by
  have := qSt_lt (rc := fun A tl k t q => some (A, tl, q)) (n := n) (m := m) (A := A) (A' := A') (tl := tl) (tl' := tl') (p' := p') hg hp (fun A tl k t q A' tl' q' hq h => by cases h; exact ⟨Nat.le_refl _, hq⟩) (by
    rw [qSt_x, h]
    cases o with
    | none => rfl
    | some y => rfl)
  exact this
/-- what a step with a field gives -/
def OY (s : Nat) (T : List Nat) (D : List Dc) (S : List Nat) (lm : Nat) (A : AV) (H : Rh) (dp : Nat) (σ : SG) (o : Option (AV × Tl × Nat × Option (Nat × Nat))) (x : Option SG) : Prop := ∃ τ, x = some τ ∧ fP PDc σ τ ∧ (o = none → ¬ sI τ 1101 107 = 0) ∧ (∀ A' tl' p', o = some (A', tl', p', none) → ∃ H', DR τ s T D S lm A' H' p' p' ∧ zX A H A' H' ∧ TLr H' tl' ∧ fP PDn σ τ) ∧ ∀ A' tl' p' k t, o = some (A', tl', p', some (k, t)) → (lm < dp + 1 → ¬ sI τ 1101 107 = 0) ∧ (dp + 1 ≤ lm → ∃ H', DR τ s T D S lm A' H' p' p' ∧ zX A H A' H' ∧ TLr H' tl' ∧ k < aC A' ∧ aN A' k = t ∧ zD H' k = dp + 1 ∧ sI τ 1101 106 = nI (dp + 1) ∧ sI τ 1176 dp = nI k ∧ ∀ i, i < dp → sI τ 1176 i = sI σ 1176 i)
theorem OY_no {s lm dp : Nat} {T S : List Nat} {D : List Dc} {A : AV} {H : Rh} {σ τ : SG} (hf : fP PDn σ τ) (h7 : ¬ sI τ 1101 107 = 0) : OY s T D S lm A H dp σ none (some τ) := ⟨τ, rfl, PDc_n hf, fun _ => h7, fun _ _ _ z => (by cases z), fun _ _ _ _ _ z => by cases z⟩
theorem DR_9 {σ τ : SG} {s lm p b p' : Nat} {T S : List Nat} {D : List Dc} {A : AV} {H : Rh} (h : DR σ s T D S lm A H p b) (hf : fP P109 σ τ) (h9 : sI τ 1101 109 = nI p') (hp : p ≤ p') (hp' : p' ≤ S.length) : DR τ s T D S lm A H p' b := DR_N h (fP_mono hf (fun b k z => by unfold P109 at z; unfold PN; omega)) h9 (((hf 1101 107 (by unfold P109; omega)).1).trans h.2.2.2.2.2.1) hp hp'
theorem P109_n {σ τ : SG} (h : fP P109 σ τ) : fP PDn σ τ := fP_mono h (fun b k z => by unfold P109 at z; unfold PDn; omega)
/-- a field, from its name on -/
theorem N_qfld {U s n m lm dp p : Nat} {σ : SG} {T S : List Nat} {D : List Dc} {A : AV} {H : Rh} {tl : Tl} (hU4 : 4000 < U) (hs : s < 2) (hg : GSc T D) (hlm : lm ≤ 20) (hD : DR σ s T D S lm A H p p) (htl : TLr H tl) (hn : n < aC A) (hm : aN A n = m) (hz : zD H n = dp) (h106 : sI σ 1101 106 = nI dp) (hdp : dp ≤ 20) : OY s T D S lm A H dp σ (qSx T D S n m p A tl) (b1 (x_X12_nameEnd U 1101 (sI σ 1101 109) σ) fun v19 => ix (nI n) 400 fun j20 => b1 (x_X12_fieldNamed U 1101 (sI σ 1160 j20) (sI σ 1101 109) v19 σ) fun v25 => if v25 = (-1) then (x_X12_parseNext_145 U 1101 σ) else (b1 (x_X12_toldBefore U 1101 (nI n) v25 σ) fun v29 => if v29 = 0 then (b1 (x_X12_textBlanks U 1101 v19 σ) fun v32 => sb (uI σ 1101 109 v32) fun σ33 => b1 (x_X12_byteAt 1101 (sI σ33 1101 109) σ33) fun v35 => ix v25 120 fun j36 => if sI σ33 1118 j36 = 13 then (x_X12_parseNext_186 U 1101 (nI n) v25 123 v35 σ33) else (x_X12_parseNext_186 U 1101 (nI n) v25 58 v35 σ33)) else (x_X12_parseNext_145 U 1101 σ))) := by
  have hD' := hD
  obtain ⟨a1, a2, a3, a4, a5, a6, a7, ⟨e1, e2, e3, e4⟩, a9, a10⟩ := hD'
  have hSl := a4.2.2.1
  have h8 := a4.2.2.2
  have hc := a2.2.2.2.2.1
  have hmM : isM D m := by rw [← hm]; exact (hc.2.2.2 n hn).1
  obtain ⟨w1, w2⟩ := weS_le a10
  have hne1 : p ≤ neS S p ∧ neS S p ≤ S.length := by
    unfold neS
    split
    · exact ⟨w1, w2⟩
    · exact ⟨Nat.le_refl _, a10⟩
  obtain ⟨l0, l1, l2, l3, l4, l5⟩ := lim_of a1.1
  have wrong : OY s T D S lm A H dp σ none (x_X12_parseNext_145 U 1101 σ) := by
    unfold x_X12_parseNext_145
    rw [sb_eq]
    exact OY_no (fP_u (by unfold PDn; omega)) (by rw [sI_s]; decide)
  have hfn := N_fNamed_L (U := U) (p := p) (q := neS S p) hU4 hs a2.1 hg a1 hmM a4 hne1.1 hne1.2 (cnt D 2) 0 U (by omega) (by omega) (fun i d _ _ h => by omega)
  rw [Nat.add_zero] at hfn
  have hfn' : x_X12_fieldNamed U 1101 (nI (cnt (D.take m) 0)) (nI p) (nI (neS S p)) σ = some (fIx D s (fNm T D m (slc S p (weS S p)))) := by
    rw [← fNm_ne hg a10]
    unfold x_X12_fieldNamed
    rw [a2.1, show (60 : Int32) = nI 60 from rfl, pk_mul]
    exact hfn
  rw [a5, N_nend hU4 a4 a10, b1_eq, ix_in (by omega) (by decide), (hc.2.2.2 n hn).2.1, hm, hfn', b1_eq]
  unfold qSx
  cases hf : fNm T D m (slc S p (weS S p)) with
  | none =>
    rw [if_pos (show fIx D s none = -1 from rfl)]
    exact wrong
  | some f =>
    obtain ⟨d, hd, hnmd⟩ := fNm_some hf
    have hF : isF D (aN A n) f d := by rw [hm]; exact hd
    have hft : fty T D d ≤ 14 := dTy_lt (hg.fld hd.1 hd.2.1).2.2.2.1
    have hwp : p < weS S p := we_lt a10 hnmd.symm (nmT_ne hg hd.1)
    have hneS : neS S p = weS S p := by
      unfold neS
      cases hb : bP pL S p with
      | true => rfl
      | false =>
        exfalso
        obtain ⟨_, _, ⟨c, h4, h5⟩, _⟩ := hg.N f d hd.1
        have h3' : slc T (dA d) (dE d) = slc S p (weS S p) := hnmd
        rw [h3'] at h4
        unfold slc at h4
        rw [List.getElem?_take_of_lt (by omega), List.getElem?_drop, Nat.add_zero] at h4
        unfold bP at hb
        rw [h4] at hb
        have hb' : pL c = false := hb
        rw [h5] at hb'
        cases hb'
    obtain ⟨f1, _, _, f4, _⟩ := a1.f hd.1 hd.2.1
    have hnef : ¬ nI (fx D s f) = -1 := fun z => nI_neg (by omega : fx D s f < 2 ^ 31) (by rw [z]; decide)
    obtain ⟨r1, r2⟩ := tbS_le' w2
    simp only
    rw [hd.1]
    simp only
    rw [show fIx D s (some f) = nI (fx D s f) from rfl, if_neg hnef, N_told hU4 hs hg a1 a2 hd.1 hd.2.1 hn htl, b1_eq, ifz]
    cases htk : tk D tl n f d with
    | true =>
      rw [if_pos (show true = true from rfl), if_pos (show true = true from rfl)]
      exact wrong
    | false =>
      have F1 : fP P109 σ (uI σ 1101 109 (nI (tbS S (weS S p)))) := fP_u ⟨rfl, rfl⟩
      have D1 : DR (uI σ 1101 109 (nI (tbS S (weS S p)))) s T D S lm A H (tbS S (weS S p)) p := DR_9 hD F1 (sI_s _ _ _ _) (by omega) r2
      have c106 : sI (uI σ 1101 109 (nI (tbS S (weS S p)))) 1101 106 = nI dp := (sI_o (Or.inr (by decide))).trans h106
      rw [if_neg (show ¬ false = true by decide), if_neg (show ¬ false = true by decide), hneS, N_tblanks hU4 a4 w2, b1_eq, sb_eq, sI_s]
      generalize uI σ 1101 109 (nI (tbS S (weS S p))) = σ1 at *
      have D1' := D1
      obtain ⟨b1, b2, b3, b4, b5, b6, b7, b8, b9, b10⟩ := D1'
      obtain ⟨_, _, _, g4, _⟩ := b1.f hd.1 hd.2.1
      have e13 : nI (fty T D d) = 13 ↔ fty T D d = 13 := nI_eq (b := 13) (by omega) (by decide)
      rw [b4.at (by omega), b1_eq, ix_in (by omega) (by decide), g4, ifd e13]
      unfold x_X12_parseNext_186
      rw [show (123 : Int32) = nI 123 from rfl, ifA h8 (by decide), show (58 : Int32) = nI 58 from rfl, ifA h8 (by decide), sb_eq, b5, nI_1]
      have wrong1 : OY s T D S lm A H dp σ none (sb (uI σ1 1101 107 1) fun σ62 => some σ62) := by
        rw [sb_eq]
        exact OY_no (fP_trans (P109_n F1) (fP_u (by unfold PDn; omega))) (by rw [sI_s]; decide)
      by_cases q13 : fty T D d = 13
      · rw [if_pos q13, if_pos q13]
        by_cases qb : S[tbS S (weS S p)]? = some 123
        · have hbl := (List.getElem?_eq_some_iff.mp qb).1
          rw [if_pos qb, if_pos qb]
          have F2 : fP P109 σ1 (uI σ1 1101 109 (nI (tbS S (weS S p) + 1))) := fP_u ⟨rfl, rfl⟩
          have D2 := DR_9 D1 F2 (sI_s _ _ _ _) (show tbS S (weS S p) ≤ tbS S (weS S p) + 1 by omega) (by omega)
          have d106 : sI (uI σ1 1101 109 (nI (tbS S (weS S p) + 1))) 1101 106 = nI dp := (sI_o (Or.inr (by decide))).trans c106
          generalize uI σ1 1101 109 (nI (tbS S (weS S p) + 1)) = σ2 at *
          have D2' := D2
          obtain ⟨c1, c2, c3, c4, c5, c6, c7, c8, c9, c10⟩ := D2'
          obtain ⟨_, _, _, k4, _⟩ := c1.f hd.1 hd.2.1
          obtain ⟨t, ht, hMt⟩ := (ftg_msg hg hd.1 hd.2.1).1 q13
          obtain ⟨υ, H', u1, u2, u3, u4, u5, u6, u7, u8, u9, u10, u11, u12⟩ := V_msg hU4 hs hg c1 c2 c3 hlm c7 hn hF q13 ht (by omega) (by omega) c6
          obtain ⟨m1, m2, m3⟩ := aMsg_N c2 hn hF q13 ht
          rw [hz] at u4 u5
          rw [ix_in (by omega) (by decide), k4, ifd e13, if_pos q13, u1, b2_eq, ht]
          simp only
          have fnu : fP PDn σ υ := fP_trans (fP_trans (P109_n F1) (P109_n F2)) (PDn_V u3)
          have x106 : sI υ 1101 106 = nI dp := ((u3 1101 106 (by unfold PV; omega)).1).trans d106
          rw [x106, ix_in (by omega) (by decide), sb_eq, sb_eq, sI_o (Or.inl (by decide)), x106, nI_1]
          have F3 : fP (fun b k => (b = 1101 ∧ k = 106) ∨ b = 1176) υ (uI (uI υ 1176 dp (nI (aMsg D A n f d t).2)) 1101 106 (nI (dp + 1))) := fP_trans (fP_u (Or.inr rfl)) (fP_u (Or.inl ⟨rfl, rfl⟩))
          have y76 : sI (uI (uI υ 1176 dp (nI (aMsg D A n f d t).2)) 1101 106 (nI (dp + 1))) 1176 dp = nI (aMsg D A n f d t).2 := by rw [sI_o (Or.inl (by decide)), sI_s]
          have y06 : sI (uI (uI υ 1176 dp (nI (aMsg D A n f d t).2)) 1101 106 (nI (dp + 1))) 1101 106 = nI (dp + 1) := sI_s _ _ _ _
          have yst : ∀ i, i < dp → sI (uI (uI υ 1176 dp (nI (aMsg D A n f d t).2)) 1101 106 (nI (dp + 1))) 1176 i = sI σ 1176 i := fun i hi => by
            rw [sI_o (Or.inl (by decide)), sI_o (Or.inr (by omega))]
            exact (fnu 1176 i (by unfold PDn; omega)).1
          generalize uI (uI υ 1176 dp (nI (aMsg D A n f d t).2)) 1101 106 (nI (dp + 1)) = ω at *
          have x7 : sI ω 1101 107 = sI υ 1101 107 := (F3 1101 107 (by omega)).1
          refine ⟨ω, rfl, fP_trans (PDc_n fnu) (fP_mono F3 (fun b k z => by unfold PDc; omega)), fun z => (by cases z), fun A' tl' p' z => (by cases z), fun A' tl' p' k t' z => ?_⟩
          cases z
          refine ⟨fun hl => ?_, fun hl => ?_⟩
          · rw [x7]; exact fun y => by have := u4.mp y; omega
          · have z7 := u4.mpr hl
            obtain ⟨v1, v2, v3⟩ := u5 hl
            have e2' : (zR H').length ≤ tbS S (weS S p) + 1 := by have := u6; omega
            have D3 : DR υ s T D S lm (aMsg D A n f d t).1 H' (tbS S (weS S p) + 1) (tbS S (weS S p) + 1) := DR_V D2 u3 u2 z7 v1 ⟨e2', by rw [u7]; omega, by rw [u8]; omega, by omega, by rw [u12, u8]; exact e4.2⟩ (Nat.le_refl _)
            obtain ⟨g1, g2, g3, g4', g5, g6, g7, g8, g9, g10⟩ := D3
            exact ⟨H', ⟨RS_keep g1 (fun b k hb => (F3 b k (by unfold PKP at hb; omega)).1), VR_keep g2 (fun b k hb => ⟨(F3 b k (by omega)).1, (F3 b k (by omega)).2.1⟩), g3, LR_P g4' F3 (by omega) (fun k => by omega), ((F3 1101 109 (by omega)).1).trans g5, x7.trans g6, ((F3 1101 85 (by omega)).1).trans g7, g8, g9, g10⟩, ⟨m1, fun m' hm' => ⟨m2 m' hm', u11 m' hm'⟩⟩, TLr_put hU4 hs hg c1 c2 hn hd.1 hd.2.1 (by omega) u2 htl htk (inv_msg u1), u10, m3, v2, y06, y76, yst⟩
        · rw [if_neg qb, if_neg qb]
          exact wrong1
      · rw [if_neg q13, if_neg q13]
        by_cases qb : S[tbS S (weS S p)]? = some 58
        · have hbl := (List.getElem?_eq_some_iff.mp qb).1
          rw [if_pos qb, if_pos qb]
          have F2 : fP P109 σ1 (uI σ1 1101 109 (nI (tbS S (weS S p) + 1))) := fP_u ⟨rfl, rfl⟩
          have D2 := DR_9 D1 F2 (sI_s _ _ _ _) (show tbS S (weS S p) ≤ tbS S (weS S p) + 1 by omega) (by omega)
          generalize uI σ1 1101 109 (nI (tbS S (weS S p) + 1)) = σ2 at *
          have D2' := D2
          obtain ⟨c1, c2, c3, c4, c5, c6, c7, c8, c9, c10⟩ := D2'
          obtain ⟨_, _, _, k4, _⟩ := c1.f hd.1 hd.2.1
          obtain ⟨s1, s2⟩ := tbS_le' c10
          rw [ix_in (by omega) (by decide), k4, ifd e13, if_neg q13, c5, N_tblanks hU4 c4 c10, b1_eq, sb_eq, b1_id]
          have F3 : fP P109 σ2 (uI σ2 1101 109 (nI (tbS S (tbS S (weS S p) + 1)))) := fP_u ⟨rfl, rfl⟩
          have D3 := DR_9 D2 F3 (sI_s _ _ _ _) s1 s2
          generalize uI σ2 1101 109 (nI (tbS S (tbS S (weS S p) + 1))) = σ3 at *
          have key := N_plain (U := U) hU4 hs hg D3 (by omega) hn hF q13 htl htk
          obtain ⟨τ, t1, t2, t3, t4⟩ := key
          have FA : fP PDn σ τ := fP_trans (fP_trans (fP_trans (P109_n F1) (P109_n F2)) (P109_n F3)) t2
          cases hv : pVal T D S d (tbS S (tbS S (weS S p) + 1)) with
          | none =>
            exact ⟨τ, t1, PDc_n FA, fun _ => t3 hv, fun _ _ _ z => (by cases z), fun _ _ _ _ _ z => by cases z⟩
          | some y =>
            obtain ⟨v, x, q⟩ := y
            obtain ⟨H', v1, v2, v3⟩ := t4 v x q hv
            refine ⟨τ, t1, PDc_n FA, fun z => (by cases z), fun A' tl' p' z => ?_, fun _ _ _ _ _ z => by cases z⟩
            cases z
            exact ⟨H', v1, v2, v3, FA⟩
        · rw [if_neg qb, if_neg qb]
          exact wrong1
/-! ===== the reference's parse ===== -/
/-- the reference between two messages of a parse -/
def DRf (σ : SG) (s : Nat) (T : List Nat) (D : List Dc) (S : List Nat) (lm : Nat) (A : AV) (H : Rh) (p : Nat) : Prop := RS σ s T D ∧ VR σ s T D A H ∧ DPk T D lm A H ∧ LR σ S ∧ sI σ 1101 107 = 0 ∧ sI σ 1101 85 = nI lm ∧ BDd A H p ∧ p ≤ S.length
theorem DRf_DR {σ : SG} {s lm p : Nat} {T S : List Nat} {D : List Dc} {A : AV} {H : Rh} (h : DRf σ s T D S lm A H p) (h9 : sI σ 1101 109 = nI p) : DR σ s T D S lm A H p p := by
  obtain ⟨a1, a2, a3, a4, a5, a6, a7, a8⟩ := h
  exact ⟨a1, a2, a3, a4, h9, a5, a6, a7, Nat.le_refl _, a8⟩
def LQ (U s : Nat) (T : List Nat) (D : List Dc) (S : List Nat) (lm : Nat) (K : SG → Option (Int32 × SG)) (dp p : Nat) (A : AV) (H : Rh) (U1 : Nat) (σ : SG) (o : Option (AV × Tl × Nat)) : Prop :=
  (o = none → ∃ τ, x_X12_parse_L29 U 1101 K U1 σ = K τ ∧ fP PDc σ τ ∧ ¬ sI τ 1101 107 = 0) ∧
  ∀ A' tl' p', o = some (A', tl', p') → ∃ τ H' U2, x_X12_parse_L29 U 1101 K U1 σ = x_X12_parse_L29 U 1101 K U2 τ ∧ U1 ≤ U2 + (p' - p) + 1 ∧ DRf τ s T D S lm A' H' p' ∧ (1 < dp → sI τ 1101 109 = nI p') ∧ fP PDc σ τ ∧ sI τ 1101 106 = nI (dp - 1) ∧ (∀ i, i < dp → sI τ 1176 i = sI σ 1176 i) ∧ zX A H A' H' ∧ TLr H' tl'
theorem N_qlp {U s lm n m dp : Nat} {T S : List Nat} {D : List Dc} {K : SG → Option (Int32 × SG)} {rc : AV → Tl → Nat → Nat → Nat → Option (AV × Tl × Nat)} (hU4 : 4000 < U) (hs : s < 2) (hg : GSc T D) (hlm : lm ≤ 20) (hSl : S.length ≤ 700) (hdp : 0 < dp)
    (hno : lm < dp + 1 → ∀ A' tl' k t q, rc A' tl' k t q = none)
    (hrl : ∀ A tl k t q A' tl' q', q ≤ S.length → rc A tl k t q = some (A', tl', q') → q ≤ q' ∧ q' ≤ S.length)
    (hrc : dp + 1 ≤ lm → ∀ (τ : SG) (A' : AV) (H' : Rh) (tl' : Tl) (k t p' U1 : Nat), DR τ s T D S lm A' H' p' p' → TLr H' tl' → k < aC A' → aN A' k = t → zD H' k = dp + 1 → sI τ 1101 106 = nI (dp + 1) → sI τ 1176 dp = nI k → (S.length - p') + 2 < U1 → LQ U s T D S lm K (dp + 1) p' A' H' U1 τ (rc A' tl' k t p')) :
    ∀ (j p U1 : Nat) (σ : SG) (A : AV) (H : Rh) (tl : Tl), S.length < j + p → (S.length - p) + 2 < U1 → DR σ s T D S lm A H p p → TLr H tl → n < aC A → aN A n = m → zD H n = dp → sI σ 1101 106 = nI dp → sI σ 1176 (dp - 1) = nI n → LQ U s T D S lm K dp p A H U1 σ (qLp T D S rc n m dp j A tl p) := by
  intro j
  induction j with
  | zero => intro p U1 σ A H tl hj _ hD; have := hD.2.2.2.2.2.2.2.2.2; omega
  | succ j ih =>
    intro p U1 σ A H tl hj hu hD htl hn hm hz h106 h76
    obtain ⟨V, rfl⟩ : ∃ V, U1 = V + 1 := ⟨U1 - 1, by omega⟩
    have hD' := hD
    obtain ⟨a1, a2, a3, a4, a5, a6, a7, a8, a9, a10⟩ := hD'
    have h8 := a4.2.2.2
    have hdl := a3.1 n hn
    rw [hz] at hdl
    have h0 : (0 : Int32) < nI dp := (ltI (a := 0) (by decide) (by omega)).mpr hdp
    have e1 : nI dp - 1 = nI (dp - 1) := nI_sub (b := 1) (by omega)
    obtain ⟨r1, r2⟩ := tbS_le' a10
    -- the blanks in front
    have F1 : fP P109 σ (uI σ 1101 109 (nI (tbS S p))) := fP_u ⟨rfl, rfl⟩
    have D1 : DR (uI σ 1101 109 (nI (tbS S p))) s T D S lm A H (tbS S p) p := DR_9 hD F1 (sI_s _ _ _ _) r1 r2
    have c106 : sI (uI σ 1101 109 (nI (tbS S p))) 1101 106 = nI dp := (sI_o (Or.inr (by decide))).trans h106
    have c76 : ∀ i, sI (uI σ 1101 109 (nI (tbS S p))) 1176 i = sI σ 1176 i := fun i => sI_o (Or.inl (by decide))
    have stp : x_X12_parse_L29 U 1101 K (V + 1) σ = b1 (x_X12_parseNext U 1101 σ) fun σ15 => x_X12_parse_L29 U 1101 K V σ15 := by
      rw [x_X12_parse_L29, h106, if_pos h0, if_pos a6]
    unfold LQ
    rw [stp]
    unfold x_X12_parseNext
    rw [h106, e1, ix_in (by omega) (by decide), a5, N_tblanks hU4 a4 a10, b1_eq, sb_eq, h76]
    generalize uI σ 1101 109 (nI (tbS S p)) = σ1 at *
    have D1' := D1
    obtain ⟨b1', b2', b3', b4', b5', b6', b7', b8', b9', b10'⟩ := D1'
    have FD1 : fP PDc σ σ1 := PDc_n (P109_n F1)
    -- once something is wrong the loop ends
    have ends : ∀ (ψ : SG) (V : Nat), 0 < V → fP PDc σ ψ → ¬ sI ψ 1101 107 = 0 → ∃ τ, x_X12_parse_L29 U 1101 K V ψ = K τ ∧ fP PDc σ τ ∧ ¬ sI τ 1101 107 = 0 := by
      intro ψ V hV fψ h7
      obtain ⟨W, rfl⟩ : ∃ W, V = W + 1 := ⟨V - 1, by omega⟩
      rw [x_X12_parse_L29, if_neg h7, ite_self]
      exact ⟨ψ, rfl, fψ, h7⟩
    have epe : nI (tbS S p) = nI S.length ↔ tbS S p = S.length := nI_eq (by omega) (by omega)
    have edp : nI dp = 1 ↔ dp = 1 := nI_eq (b := 1) (by omega) (by decide)
    -- out of a message
    have pop : ∀ (υ : SG), fP (fun b k => b = 1101 ∧ k = 107) σ1 υ → x_X12_parseNext_85 U 1101 υ = some (uI (uI υ 1101 106 (nI (dp - 1))) 1101 109 (nI (tbS S p + 1))) := by
      intro υ hυ
      unfold x_X12_parseNext_85
      rw [sb_eq, sb_eq, (hυ 1101 106 (by omega)).1, c106, e1, sI_o (Or.inr (by decide)), (hυ 1101 109 (by omega)).1, b5', nI_1]
    have popF : ∀ (υ : SG), fP (fun b k => b = 1101 ∧ (k = 106 ∨ k = 109)) υ (uI (uI υ 1101 106 (nI (dp - 1))) 1101 109 (nI (tbS S p + 1))) := fun υ => fP_trans (fP_u ⟨rfl, Or.inl rfl⟩) (fP_u ⟨rfl, Or.inr rfl⟩)
    have rightO : ∃ τ, x_X12_parseNext_85 U 1101 σ1 = some τ ∧ DRf τ s T D S lm A H (tbS S p) ∧ sI τ 1101 109 = nI (tbS S p + 1) ∧ fP PDc σ τ ∧ sI τ 1101 106 = nI (dp - 1) ∧ (∀ i, sI τ 1176 i = sI σ 1176 i) := by
      have F2 := popF σ1
      refine ⟨_, pop σ1 (fP_refl _ _), ⟨RS_keep b1' (fun b k hb => (F2 b k (by unfold PKP at hb; omega)).1), VR_keep b2' (fun b k hb => ⟨(F2 b k (by omega)).1, (F2 b k (by omega)).2.1⟩), b3', LR_P b4' F2 (by omega) (fun k => by omega), ((F2 1101 107 (by omega)).1).trans b6', ((F2 1101 85 (by omega)).1).trans b7', ?_, b10'⟩, sI_s _ _ _ _, fP_trans FD1 (fP_mono F2 (fun b k z => by unfold PDc PDn; omega)), ?_, fun i => ?_⟩
      · obtain ⟨g1, g2, g3, g4, g5⟩ := b8'
        exact ⟨by omega, by omega, by omega, by omega, g5⟩
      · rw [sI_o (Or.inr (by decide)), sI_s]
      · rw [sI_o (Or.inl (by decide)), sI_o (Or.inl (by decide))]; exact c76 i
    have wrongO : ∃ τ, (sb (uI σ1 1101 107 1) fun σ14 => x_X12_parseNext_85 U 1101 σ14) = some τ ∧ fP PDc σ τ ∧ ¬ sI τ 1101 107 = 0 := by
      rw [sb_eq, pop _ (fP_u ⟨rfl, rfl⟩)]
      refine ⟨_, rfl, fP_trans (fP_trans FD1 (fP_u (by unfold PDc PDn; omega))) (fP_mono (popF _) (fun b k z => by unfold PDc PDn; omega)), ?_⟩
      rw [sI_o (Or.inr (by decide)), sI_o (Or.inr (by decide)), sI_s]
      decide
    rw [qLp]
    unfold x_X12_parseNext_48 x_X12_parseNext_64 x_X12_parseNext_77
    rw [b5', b4'.1, ifd epe, ifd epe, c106, ifd edp, ifd edp, b4'.at (by omega), b1_eq, show (125 : Int32) = nI 125 from rfl, ifA h8 (by decide), if_pos (show (1 : Int32) = 1 from rfl), if_neg (show ¬ (1 : Int32) = 0 by decide), if_neg (show ¬ (0 : Int32) = 1 by decide), if_pos (show (0 : Int32) = 0 from rfl)]
    cases hsx : S[tbS S p]? with
    | none =>
      have hend : tbS S p = S.length := by
        have := List.getElem?_eq_none_iff.mp hsx
        omega
      rw [if_pos hend, if_pos hend]
      simp only
      by_cases qd : dp = 1
      · rw [if_pos qd, if_pos qd]
        obtain ⟨τ, t1, t2, t3, t4, t5, t6⟩ := rightO
        rw [t1, b1_eq]
        refine ⟨fun z => (by cases z), fun A' tl' p' z => ?_⟩
        cases z
        exact ⟨τ, H, V, rfl, by omega, t2, fun z => by omega, t4, t5, fun i _ => t6 i, zX_refl _ _, htl⟩
      · rw [if_neg qd, if_neg qd]
        obtain ⟨τ, t1, t2, t3⟩ := wrongO
        rw [t1, b1_eq]
        exact ⟨fun _ => ends τ V (by omega) t2 t3, fun A' tl' p' z => by cases z⟩
    | some x =>
      have hpl := (List.getElem?_eq_some_iff.mp hsx).1
      have ex : some x = some 125 ↔ x = 125 := ⟨fun z => Option.some.inj z, fun z => by rw [z]⟩
      rw [if_neg (show ¬ tbS S p = S.length by omega), if_neg (show ¬ tbS S p = S.length by omega), ifd ex]
      simp only
      by_cases qx : x = 125
      · rw [if_pos qx, if_pos qx]
        by_cases qd : dp = 1
        · rw [if_pos qd, if_neg (show ¬ 1 < dp by omega)]
          obtain ⟨τ, t1, t2, t3⟩ := wrongO
          rw [t1, b1_eq]
          exact ⟨fun _ => ends τ V (by omega) t2 t3, fun A' tl' p' z => by cases z⟩
        · rw [if_neg qd, if_pos (show 1 < dp by omega)]
          obtain ⟨τ, t1, t2, t3, t4, t5, t6⟩ := rightO
          rw [t1, b1_eq]
          refine ⟨fun z => (by cases z), fun A' tl' p' z => ?_⟩
          cases z
          obtain ⟨g1, g2, g3, g4, g5, g6, ⟨y1, y2, y3, y4, y5⟩, g8⟩ := t2
          exact ⟨τ, H, V, rfl, by omega, ⟨g1, g2, g3, g4, g5, g6, ⟨by omega, by omega, by omega, by omega, y5⟩, by omega⟩, fun _ => t3, t4, t5, fun i _ => t6 i, zX_refl _ _, htl⟩
      · rw [if_neg qx, if_neg qx]
        have D2 : DR σ1 s T D S lm A H (tbS S p) (tbS S p) := DR_b D1 r1 (Nat.le_refl _)
        have key := N_qfld (U := U) hU4 hs hg hlm D2 htl hn hm hz c106 (by omega)
        rw [b5'] at key
        obtain ⟨τ, t1, t2, t3, t4, t5⟩ := key
        rw [t1, b1_eq, qSt_x]
        have FA := fP_trans FD1 t2
        cases hq : qSx T D S n m (tbS S p) A tl with
        | none =>
          exact ⟨fun _ => ends τ V (by omega) FA (t3 hq), fun A' tl' p' z => by cases z⟩
        | some y =>
          obtain ⟨A1, tl1, p1, o⟩ := y
          obtain ⟨s1, s2⟩ := qSx_lt hg r2 hq
          cases o with
          | none =>
            obtain ⟨H1, D3, x1, x2, F3⟩ := t4 A1 tl1 p1 hq
            simp only [qFn]
            have cs : ∀ b k, (b = 1101 ∧ k = 106) ∨ b = 1176 → sI τ b k = sI σ1 b k := fun b k hb => (F3 b k (by unfold PDn; omega)).1
            have key2 := ih p1 V τ A1 H1 tl1 (by omega) (by omega) D3 x2 (by have := x1.1; omega) ((x1.2 n hn).1.trans hm) ((x1.2 n hn).2.trans hz) ((cs 1101 106 (by omega)).trans c106) ((cs 1176 _ (by omega)).trans ((c76 _).trans h76))
            obtain ⟨k1, k2⟩ := key2
            refine ⟨fun z => ?_, fun A' tl' p' z => ?_⟩
            · obtain ⟨υ, u1, u2, u3⟩ := k1 z
              exact ⟨υ, u1, fP_trans FA u2, u3⟩
            · have hle := qLp_le hg hrl j p1 A1 A' tl1 tl' p' s2 z
              obtain ⟨υ, H', U2, u1, u2, u3, u4, u5, u6, u7, u8, u9⟩ := k2 A' tl' p' z
              exact ⟨υ, H', U2, u1, by omega, u3, u4, fP_trans FA u5, u6, fun i hi => (u7 i hi).trans ((cs 1176 i (by omega)).trans (c76 i)), zX_trans x1 u8, u9⟩
          | some c =>
            obtain ⟨k, t⟩ := c
            obtain ⟨y1, y2⟩ := t5 A1 tl1 p1 k t hq
            simp only [qFn]
            by_cases hl : dp + 1 ≤ lm
            · obtain ⟨H1, D3, x1, x2, x3, x4, x5, x6, x7, x8⟩ := y2 hl
              have key2 := hrc hl τ A1 H1 tl1 k t p1 V D3 x2 x3 x4 x5 x6 x7 (by omega)
              obtain ⟨k1, k2⟩ := key2
              cases hr : rc A1 tl1 k t p1 with
              | none =>
                obtain ⟨υ, u1, u2, u3⟩ := k1 hr
                exact ⟨fun _ => ⟨υ, u1, fP_trans FA u2, u3⟩, fun A' tl' p' z => by cases z⟩
              | some y =>
                obtain ⟨A2, tl2, p2⟩ := y
                have hle := hrl _ _ _ _ _ _ _ _ s2 hr
                obtain ⟨υ, H2, U2, u1, u2, u3, u4, u5, u6, u7, u8, u9⟩ := k2 A2 tl2 p2 hr
                simp only
                have x17 := zX_trans x1 u8
                have D4 : DR υ s T D S lm A2 H2 p2 p2 := DRf_DR u3 (u4 (by omega))
                have key3 := ih p2 U2 υ A2 H2 tl2 (by omega) (by omega) D4 u9 (by have := x17.1; omega) ((x17.2 n hn).1.trans hm) ((x17.2 n hn).2.trans hz) u6 ((u7 (dp - 1) (by omega)).trans ((x8 (dp - 1) (by omega)).trans ((c76 _).trans h76)))
                obtain ⟨k3, k4⟩ := key3
                rw [u1]
                refine ⟨fun z => ?_, fun A' tl' p' z => ?_⟩
                · obtain ⟨ω, o1, o2, o3⟩ := k3 z
                  exact ⟨ω, o1, fP_trans (fP_trans FA u5) o2, o3⟩
                · have hle2 := qLp_le hg hrl j p2 A2 A' tl2 tl' p' hle.2 z
                  obtain ⟨ω, H', U3, o1, o2, o3, o4, o5, o6, o7, o8, o9⟩ := k4 A' tl' p' z
                  exact ⟨ω, H', U3, o1, by omega, o3, o4, fP_trans (fP_trans FA u5) o5, o6, fun i hi => (o7 i hi).trans ((u7 i (by omega)).trans ((x8 i hi).trans (c76 i))), zX_trans x17 o8, o9⟩
            · rw [hno (by omega)]
              exact ⟨fun _ => ends τ V (by omega) FA (y1 (by omega)), fun A' tl' p' z => by cases z⟩
theorem N_qms {U s lm : Nat} {T S : List Nat} {D : List Dc} {K : SG → Option (Int32 × SG)} (hU4 : 4000 < U) (hs : s < 2) (hg : GSc T D) (hlm : lm ≤ 20) (hSl : S.length ≤ 700) : ∀ (j dp : Nat) (σ : SG) (A : AV) (H : Rh) (tl : Tl) (n m p U1 : Nat), j + dp = 25 → 0 < dp → dp ≤ lm → DR σ s T D S lm A H p p → TLr H tl → n < aC A → aN A n = m → zD H n = dp → sI σ 1101 106 = nI dp → sI σ 1176 (dp - 1) = nI n → (S.length - p) + 2 < U1 → LQ U s T D S lm K dp p A H U1 σ (qMs T D S lm j dp A tl n m p) := by
  intro j
  induction j with
  | zero => intro dp σ A H tl n m p U1 hj h0 hdp; omega
  | succ j ih =>
    intro dp σ A H tl n m p U1 hj h0 hdp hD htl hn hm hz h106 h76 hu
    rw [qMs, if_neg (show ¬ lm < dp by omega)]
    refine N_qlp hU4 hs hg hlm hSl h0 (fun hl A' tl' k t q => ?_) (fun A tl k t q A' tl' q' hq h => qMs_le hg j (dp + 1) A tl k t q A' tl' q' hq h) (fun hl τ A' H' tl' k t p' U1 D' htl' hk ht hz' y1 y2 hu' => ih (dp + 1) τ A' H' tl' k t p' U1 (by omega) (by omega) hl D' htl' hk ht hz' y1 y2 hu') 701 p U1 σ A H tl (by have := hD.2.2.2.2.2.2.2.2.2; omega) hu hD htl hn hm hz h106 h76
    obtain ⟨i, rfl⟩ : ∃ i, j = i + 1 := ⟨j - 1, by omega⟩
    rw [qMs, if_pos hl]
theorem TLr_0 : TLr r0 [] := fun n f => ⟨fun z => (by cases z), fun z => by obtain ⟨r, hr, _⟩ := z; cases hr⟩
theorem N_par {U s : Nat} {σ : SG} {T S : List Nat} {D : List Dc} {x y : Int32} (hU4 : 4000 < U) (hs : s < 2) (hg : GSc T D) (hS : RS σ s T D) (hT : RTr σ S) (h8 : ok8 S) (hl : S.length ≤ 700) :
    ((msg D x = none ∨ y < 1 ∨ 20 < y) → ∃ τ, x_X12_parse U 1101 (nI s) x y σ = some (0, τ) ∧ fP Pdec σ τ ∧ sI τ 1101 5 = 1 ∧ sI τ 1101 79 = 0 ∧ sI τ 1101 1 = 0) ∧
    ∀ m lm, msg D x = some m → y = nI lm → 1 ≤ lm → lm ≤ 20 → ∃ τ, x_X12_parse U 1101 (nI s) x y σ = x_X12_finish U 1101 τ ∧ fP Pdec σ τ ∧ sI τ 1101 79 = 0 ∧ sI τ 1101 1 = 0 ∧ (pcS T D S lm m = none → ¬ sI τ 1101 107 = 0) ∧ ∀ A, pcS T D S lm m = some A → ∃ H p, DRf τ s T D S lm A H p ∧ zD H 0 = 1 ∧ aN A 0 = m := by
  obtain ⟨b1', b2'⟩ := N_begins (U := U) (x := x) (y := y) hs hg hS hT h8 hl
  unfold x_X12_parse
  refine ⟨fun h => ?_, fun m lm hm hy h1 h20 => ?_⟩
  · obtain ⟨τ, t1, t2⟩ := b1' h
    rw [t1, b2_eq, if_pos rfl]
    exact ⟨τ, rfl, t2⟩
  · obtain ⟨τ, t1, t2, t3, t4, t5, t6, t7, t8, t9, t10⟩ := b2' m lm hm hy h1 h20
    rw [t1, b2_eq, if_neg (show ¬ (1 : Int32) = 0 by decide), sb_eq, show (0 : Int32) = nI 0 from rfl, ix_in (by decide) (by decide), sb_eq, sb_eq]
    have F : fP (fun b k => (b = 1101 ∧ (k = 106 ∨ k = 109)) ∨ b = 1176) τ (uI (uI (uI τ 1101 109 (nI 0)) 1176 0 (nI 0)) 1101 106 1) := by
      refine fP_trans (fP_trans (fP_u ?_) (fP_u ?_)) (fP_u ?_)
      · exact Or.inl ⟨rfl, by omega⟩
      · exact Or.inr rfl
      · exact Or.inl ⟨rfl, by omega⟩
    have c9 : sI (uI (uI (uI τ 1101 109 (nI 0)) 1176 0 (nI 0)) 1101 106 1) 1101 109 = nI 0 := rfl
    have c6 : sI (uI (uI (uI τ 1101 109 (nI 0)) 1176 0 (nI 0)) 1101 106 1) 1101 106 = nI 1 := rfl
    have c76 : sI (uI (uI (uI τ 1101 109 (nI 0)) 1176 0 (nI 0)) 1101 106 1) 1176 0 = nI 0 := rfl
    generalize (uI (uI (uI τ 1101 109 (nI 0)) 1176 0 (nI 0)) 1101 106 1) = ω at *
    have D0 : DR ω s T D S lm (a0 m) r0 0 0 := ⟨RS_keep t5 (fun b k hb => (F b k (by unfold PKP at hb; omega)).1), VR_keep t6 (fun b k hb => ⟨(F b k (by omega)).1, (F b k (by omega)).2.1⟩), t7, ⟨((F 1101 73 (by omega)).1).trans t8.1, RI_P t8.2.1 F (fun k => by omega), t8.2.2⟩, c9, ((F 1101 107 (by omega)).1).trans t9, ((F 1101 85 (by omega)).1).trans t10, ⟨Nat.zero_le _, Nat.zero_le _, Nat.zero_le _, Nat.le_refl _, Nat.zero_le _⟩, Nat.le_refl _, Nat.zero_le _⟩
    have Fd : fP Pdec σ ω := fP_trans t2 (fP_mono F (fun b k z => by unfold Pdec PDc PDn; omega))
    obtain ⟨k1, k2⟩ := N_qms (U := U) (K := fun σ16 => x_X12_parse_50 U 1101 σ16) hU4 hs hg h20 hl 24 1 ω (a0 m) r0 [] 0 m 0 U (by omega) (by decide) h1 D0 TLr_0 Nat.one_pos rfl rfl c6 c76 (by omega)
    have ef : ∀ ψ, x_X12_parse_50 U 1101 ψ = x_X12_finish U 1101 ψ := fun ψ => b2_id _
    have i79 : ∀ ψ, fP PDc ω ψ → sI ψ 1101 79 = 0 ∧ sI ψ 1101 1 = 0 := fun ψ hψ => ⟨((hψ 1101 79 (by unfold PDc PDn; omega)).1).trans (((F 1101 79 (by omega)).1).trans t3), ((hψ 1101 1 (by unfold PDc PDn; omega)).1).trans (((F 1101 1 (by omega)).1).trans t4)⟩
    unfold pcS
    cases hd : qMs T D S lm 24 1 (a0 m) [] 0 m 0 with
    | none =>
      obtain ⟨ψ, p1, p2, p3⟩ := k1 hd
      rw [p1]
      exact ⟨ψ, ef ψ, fP_trans Fd (fP_mono p2 (fun b k z => Or.inl z)), (i79 ψ p2).1, (i79 ψ p2).2, fun _ => p3, fun A z => by cases z⟩
    | some y =>
      obtain ⟨A, tl', p'⟩ := y
      obtain ⟨ψ, H', U2, p1, p2, p3, p4, p5, p6, p7, p8, p9⟩ := k2 A tl' p' hd
      have hp' := p3.2.2.2.2.2.2.2
      rw [p1]
      obtain ⟨V, rfl⟩ : ∃ V, U2 = V + 1 := ⟨U2 - 1, by omega⟩
      rw [x_X12_parse_L29, p6, if_neg (show ¬ (0 : Int32) < nI (1 - 1) by decide)]
      exact ⟨ψ, ef ψ, fP_trans Fd (fP_mono p5 (fun b k z => Or.inl z)), (i79 ψ p5).1, (i79 ψ p5).2, fun z => (by cases z), fun A' z => by cases z; exact ⟨H', p', p3, (p8.2 0 Nat.one_pos).2, (p8.2 0 Nat.one_pos).1⟩⟩
/-! ===== parse, as both answer ===== -/
theorem numS_4 {S : List Nat} {t p q : Nat} {v : Int64} (h : numS S t p = some (v, q)) : okV4 t v := by
  intro ht
  subst ht
  unfold numS at h
  generalize hp1 : (if S[p]? = some 45 then p + 1 else p) = p1 at h
  split at h
  · cases h
  · cases hn : nmF (rl pD S p1) 0 with
    | none => rw [hn] at h; cases h
    | some x =>
      rw [hn] at h
      simp only at h
      by_cases q9 : x ≤ mxO 4 (decide (S[p]? = some 45))
      · rw [if_pos q9] at h
        have e := (Prod.mk.inj (Option.some.inj h)).1
        by_cases q45 : S[p]? = some 45
        · rw [decide_eq_true q45] at q9
          have q9' : x ≤ 2 ^ 31 := q9
          rw [if_pos q45] at e
          have := nLv (v := (true, x)) (decide_eq_true (by
            show x ≤ 2147483647 ∨ (true = true ∧ x = 2147483648)
            by_cases z : x = 2147483648
            · exact Or.inr ⟨rfl, z⟩
            · exact Or.inl (by omega)))
          rw [show nL (true, x) = v from e] at this
          exact this.symm
        · rw [decide_eq_false q45] at q9
          have q9' : x ≤ 2 ^ 31 - 1 := q9
          rw [if_neg q45] at e
          have := nLv (v := (false, x)) (decide_eq_true (by
            show x ≤ 2147483647 ∨ (false = true ∧ x = 2147483648)
            exact Or.inl (by omega)))
          rw [show nL (false, x) = v from e] at this
          exact this.symm
      · rw [if_neg q9] at h; cases h
theorem pVal_4 {T : List Nat} {D : List Dc} {S : List Nat} {d : Dc} {p q : Nat} {v : Int64} {x : List Nat} (h : pVal T D S d p = some (v, x, q)) : okV4 (fty T D d) v := by
  intro h4
  unfold pVal at h
  have hnm : nmr (fty T D d) = true := by rw [h4]; try rfl
  rw [hnm, if_pos rfl] at h
  cases hn : nvS T D S d p with
  | none => rw [hn] at h; cases h
  | some y =>
    obtain ⟨v', q'⟩ := y
    rw [hn] at h
    have e := (Prod.mk.inj (Option.some.inj h)).1
    have e' : v' = v := e
    unfold nvS at hn
    rw [if_neg (by omega), if_neg (fun z => by omega)] at hn
    rw [← e']
    exact numS_4 hn h4
theorem VO_qsx {T : List Nat} {D : List Dc} {S : List Nat} {n m p : Nat} {A A' : AV} {tl tl' : Tl} {p' : Nat} {o : Option (Nat × Nat)} (hA : VO T D A) (h : qSx T D S n m p A tl = some (A', tl', p', o)) : VO T D A' := by
  unfold qSx at h
  cases hf : fNm T D m (slc S p (weS S p)) with
  | none => rw [hf] at h; cases h
  | some f =>
    rw [hf] at h
    simp only at h
    cases hd : D[f]? with
    | none => rw [hd] at h; cases h
    | some d =>
      rw [hd] at h
      simp only at h
      split at h
      · cases h
      · split at h
        · split at h
          · cases ht : ftg T D d with
            | none => rw [ht] at h; cases h
            | some t =>
              rw [ht] at h
              simp only at h
              have e := (Prod.mk.inj (Option.some.inj h)).1
              rw [← e]
              exact VO_msg hA
          · cases h
        · split at h
          · cases hv : pVal T D S d (tbS S (tbS S (weS S p) + 1)) with
            | none => rw [hv] at h; cases h
            | some y =>
              obtain ⟨v, x, q⟩ := y
              rw [hv] at h
              simp only at h
              have e := (Prod.mk.inj (Option.some.inj h)).1
              rw [← e]
              exact VO_put hd hA (pVal_4 hv)
          · cases h
theorem VO_qlp {T : List Nat} {D : List Dc} {S : List Nat} {rc : AV → Tl → Nat → Nat → Nat → Option (AV × Tl × Nat)} {n m dp : Nat} (hrc : ∀ A tl k t q A' tl' q', VO T D A → rc A tl k t q = some (A', tl', q') → VO T D A') : ∀ (j : Nat) (A : AV) (tl : Tl) (p : Nat) (A' : AV) (tl' : Tl) (p' : Nat), VO T D A → qLp T D S rc n m dp j A tl p = some (A', tl', p') → VO T D A' := by
  intro j
  induction j with
  | zero => intro A tl p A' tl' p' _ h; cases h
  | succ j ih =>
    intro A tl p A' tl' p' hA h
    rw [qLp] at h
    cases hs : S[tbS S p]? with
    | none =>
      rw [hs] at h
      simp only at h
      split at h
      · cases h; exact hA
      · cases h
    | some c =>
      rw [hs] at h
      simp only at h
      split at h
      · split at h
        · cases h; exact hA
        · cases h
      · rw [qSt_x] at h
        cases hq : qSx T D S n m (tbS S p) A tl with
        | none => rw [hq] at h; cases h
        | some y =>
          obtain ⟨A1, tl1, p1, o⟩ := y
          have h1 := VO_qsx hA hq
          rw [hq] at h
          cases o with
          | none => exact ih A1 tl1 p1 A' tl' p' h1 h
          | some c =>
            obtain ⟨k, t⟩ := c
            simp only [qFn] at h
            cases hr : rc A1 tl1 k t p1 with
            | none => rw [hr] at h; cases h
            | some y =>
              obtain ⟨A2, tl2, p2⟩ := y
              rw [hr] at h
              exact ih A2 tl2 p2 A' tl' p' (hrc _ _ _ _ _ _ _ _ h1 hr) h
theorem VO_qms {T : List Nat} {D : List Dc} {S : List Nat} {lm : Nat} : ∀ (j dp : Nat) (A : AV) (tl : Tl) (n m p : Nat) (A' : AV) (tl' : Tl) (p' : Nat), VO T D A → qMs T D S lm j dp A tl n m p = some (A', tl', p') → VO T D A' := by
  intro j
  induction j with
  | zero => intro dp A tl n m p A' tl' p' _ h; cases h
  | succ j ih =>
    intro dp A tl n m p A' tl' p' hA h
    rw [qMs] at h
    split at h
    · cases h
    · exact VO_qlp (fun A tl k t q A' tl' q' hA h => ih (dp + 1) A tl k t q A' tl' q' hA h) 701 A tl p A' tl' p' hA h
theorem VO_pc {T : List Nat} {D : List Dc} {S : List Nat} {lm m : Nat} {A : AV} (h : pcS T D S lm m = some A) : VO T D A := by
  unfold pcS at h
  cases hq : qMs T D S lm 24 1 (a0 m) [] 0 m 0 with
  | none => rw [hq] at h; cases h
  | some y =>
    obtain ⟨A1, tl1, p1⟩ := y
    rw [hq] at h
    cases h
    exact VO_qms 24 1 (a0 m) [] 0 m 0 _ _ _ VO_a0 hq
/-- what is parsed is a forest, and small -/
theorem pc_AW {U s : Nat} {σ : SG} {T S : List Nat} {D : List Dc} {x y : Int32} (hU4 : 4000 < U) (hs : s < 2) (hg : GSc T D) (hC : CS σ (cA s) T D) (hB : RB σ 1 S 0) (hS : RS σ s T D) (hT : RTr σ S) : ∀ A, rdV D (pcS T D S) x y = some A → (∃ z, AW T D A z) ∧ AK T D A := by
  intro A hA
  have hcb := cA_cb (s := s)
  have hl : S.length ≤ 700 := hB.2.2.1
  have h8 : ok8 S := hB.2.2.2.2
  by_cases hbad : msg D x = none ∨ y < 1 ∨ 20 < y
  · rw [rdV_no hbad] at hA; cases hA
  · cases hm : msg D x with
    | none => exact absurd (Or.inl hm) hbad
    | some m =>
      have h1 : ¬ y < 1 := fun z => hbad (Or.inr (Or.inl z))
      have h2 : ¬ 20 < y := fun z => hbad (Or.inr (Or.inr z))
      obtain ⟨lm, rfl, h1', h20⟩ := lim_n h1 h2
      rw [rdV_yes hm h1' h20] at hA
      obtain ⟨hM, _⟩ := msg_some hm
      obtain ⟨τ1, a1, a2, a3, a4, a5, a6, a7⟩ := C_begin hcb hC hM
      have B1 : RB τ1 1 S 0 := hB.sm (a5 1 (by decide) (by decide) (by decide)) (a5 2 (by decide) (by decide) (by decide))
      obtain ⟨τ2, r1, r2, r3⟩ := C_qread (lm := lm) hU4 hcb hg h20 a4 a2 a3 B1 a6 a7
      obtain ⟨G, tl, p, hG⟩ := r3 A hA
      obtain ⟨w1, w2⟩ := C_forest hg hG.2.1 hG.2.2.1
      obtain ⟨τ3, b1', b2', b3, b4, b5, b6⟩ := (N_par (U := U) (x := x) (y := nI lm) hU4 hs hg hS hT h8 hl).2 m lm hm rfl h1' h20
      obtain ⟨H, p', hH, hz, _⟩ := b6 A hA
      obtain ⟨c1, c2, c3, c4, c5, c6, c7, c8⟩ := hH
      refine ⟨⟨zD H, c2.2.2.2.2.1.2.1, hz, fun n hn => ⟨Nat.le_trans (c3.1 n hn) h20, fun k hk => ?_⟩, w2⟩, VO_pc hA, ?_, fun n hn => (c2.2.2.2.2.1.2.2.2 n hn).1⟩
      · obtain ⟨q1, q2⟩ := w1 n hn k hk
        obtain ⟨r, hr, e1, _, d, e2, e3, e4⟩ := (chN_r hg c2 hn).mp hk
        have := c3.2.1 r hr d e2 e3
        rw [e4, e1] at this
        exact ⟨q1, q2, this⟩
      · have := tX_rows hg c2
        have := c7.2.2.2.2
        have := c2.2.2.1.2.2.2
        omega
theorem N_parse {U s : Nat} {σ : SG} {T S : List Nat} {D : List Dc} {x y : Int32} (hU4 : 4000 < U) (hs : s < 2) (hg : GSc T D) (hS : RS σ s T D) (hT : RTr σ S) (h8 : ok8 S) (hl : S.length ≤ 700) : ∃ v τ, x_X12_parse U 1101 (nI s) x y σ = some (v, τ) ∧ fP Pdf σ τ ∧ sI τ 1101 1 = 0 ∧ sI τ 1101 5 = fdC (seR T D (rdV D (pcS T D S) x y)).1 ∧ (∀ w, (seR T D (rdV D (pcS T D S) x y)).1 = .inl (some (.int w)) → v = w) ∧ VRo τ s T D (seR T D (rdV D (pcS T D S) x y)).2 ∧ ∀ A, (seR T D (rdV D (pcS T D S) x y)).2 = some A → msg D x = some (aN A 0) := by
  obtain ⟨n1, n2⟩ := N_par (U := U) (x := x) (y := y) hU4 hs hg hS hT h8 hl
  by_cases hbad : msg D x = none ∨ y < 1 ∨ 20 < y
  · obtain ⟨τ, t1, t2, t3, t4, t5⟩ := n1 hbad
    rw [rdV_no hbad]
    exact ⟨0, τ, t1, fP_mono t2 (fun b k z => Or.inl z), t5, t3, fun w z => (by cases z), t4, fun A z => by cases z⟩
  · cases hm : msg D x with
    | none => exact absurd (Or.inl hm) hbad
    | some m =>
      have h1 : ¬ y < 1 := fun z => hbad (Or.inr (Or.inl z))
      have h2 : ¬ 20 < y := fun z => hbad (Or.inr (Or.inr z))
      obtain ⟨lm, rfl, h1', h20⟩ := lim_n h1 h2
      obtain ⟨τ, t1, t2, t3, t4, t5, t6⟩ := n2 m lm hm rfl h1' h20
      rw [rdV_yes hm h1' h20, t1]
      have F1 : fP Pdf σ τ := fP_mono t2 (fun b k z => Or.inl z)
      cases hd : pcS T D S lm m with
      | none =>
        rw [N_finish_no (t5 hd)]
        exact ⟨0, _, rfl, fP_trans F1 (fP_u (Or.inr (Or.inl ⟨rfl, Or.inl rfl⟩))), by rw [sI_o (Or.inr (by decide))]; exact t4, sI_s _ _ _ _, fun w z => (by cases z), by show sI _ 1101 79 = 0; rw [sI_o (Or.inr (by decide))]; exact t3, fun A z => by cases z⟩
      | some A =>
        obtain ⟨H, p', hH, hz, h0⟩ := t6 A hd
        obtain ⟨c1, c2, c3, c4, c5, c6, c7, c8⟩ := hH
        obtain ⟨ψ, p1, p2, p3⟩ := N_finish (U := U) hU4 hg c5 c2 c3 c7.2.2.2.2 t3
        have e1 : sI ψ 1101 1 = 0 := ((p1 1101 1 (by unfold Pfin; omega)).1).trans t4
        unfold seR
        simp only
        by_cases q : 200 < nV T D A
        · obtain ⟨q1, q2, q3⟩ := p2 q
          rw [q1, if_pos q]
          exact ⟨0, ψ, rfl, fP_trans F1 (fP_mono p1 (fun b k z => Or.inr z)), e1, q2, fun w z => (by cases z), q3, fun A' z => by cases z⟩
        · obtain ⟨q1, q2, q3, q4⟩ := p3 q
          rw [q1, if_neg q]
          exact ⟨_, ψ, rfl, fP_trans F1 (fP_mono p1 (fun b k z => Or.inr z)), e1, q2, fun w z => (by cases z; rfl), ⟨q3, q4⟩, fun A' z => by cases z; rw [h0]⟩
/-! ===== check: the spec ===== -/
/-- what an old type's values are understood by -/
def und (t u : Nat) : Bool := decide (t = u ∨ (t = 0 ∧ (u = 1 ∨ u = 14)) ∨ (t = 2 ∧ (u = 3 ∨ u = 1)) ∨ (t = 4 ∧ u = 5) ∨ (t = 10 ∧ (u = 0 ∨ u = 1 ∨ u = 2 ∨ u = 3 ∨ u = 14)) ∨ (t = 11 ∧ u = 12) ∨ (t = 14 ∧ (u = 0 ∨ u = 1)))
theorem C_und : ∀ t, t < 15 → ∀ u, u < 15 → x_X1_isUnderstood (nI t) (nI u) = some (zI (und t u)) := by decide +kernel
theorem N_und : ∀ t, t < 15 → ∀ u, u < 15 → (t = u → und t u = true) ∧ (t ≠ u → x_X12_widens (nI t) (nI u) = some (zI (und t u))) := by decide +kernel
/-- a field's oneof -/
def dOo (D : List Dc) (i : Nat) : Option Nat := match D[i]? with
  | some d => dO d
  | none => none
theorem dOo_some {D : List Dc} {i : Nat} {d : Dc} (h : D[i]? = some d) : dOo D i = dO d := by unfold dOo; rw [h]
def ordM (D : List Dc) (t : Nat) : Nat := cnt (D.take t) 0
def cod (D E : List Dc) (t u : Nat) : Nat := ordM D t * 16 + ordM E u
/-- whether a lower field that is not in one oneof with this one is in the new one's -/
def trnP (D E : List Dc) (u f g h : Nat) : Bool := match fOf E u (nmn D h) with
  | none => false
  | some i => decide (dOo E i = dOo E g) && !(decide (dOo D h ≠ none) && decide (dOo D h = dOo D f))
def trn (D E : List Dc) (m u f g : Nat) : Bool := decide (dOo E g ≠ none) && (chF D m).any (fun h => decide (nmn D h < nmn D f) && trnP D E u f g h)
abbrev Fr : Type := Nat × Nat × Nat × Bool
/-- one step: a reason, and the way on -/
def kSt (T E' : List Nat) (D E : List Dc) (stk : List Fr) (met : List Nat) : Nat × List Fr × List Nat := match stk with
  | [] => (0, [], met)
  | (m, u, k, b) :: Q => match (chF D m)[k]? with
    | none => (0, Q, met)
    | some f => match fOf E u (nmn D f) with
      | none => (0, (m, u, k + 1, false) :: Q, met)
      | some g => match D[f]?, E[g]? with
        | some d, some e => if dR d ≠ dR e then (1, (m, u, k, b) :: Q, met) else if und (fty T D d) (fty E' E e) = false then (2, (m, u, k, b) :: Q, met) else match (if fty T D d = 13 then ftg T D d else none), ftg E' E e with
          | some t, some v => if cod D E t v ∈ met then (if trn D E m u f g then (3, (m, u, k, b) :: Q, met) else (0, (m, u, k + 1, false) :: Q, met)) else (0, (t, v, 0, false) :: (m, u, k, true) :: Q, cod D E t v :: met)
          | _, _ => if trn D E m u f g then (3, (m, u, k, b) :: Q, met) else (0, (m, u, k + 1, false) :: Q, met)
        | _, _ => (0, Q, met)
def kRun (T E' : List Nat) (D E : List Dc) : Nat → List Fr → List Nat → Option (Nat × List Fr)
  | 0, _, _ => none
  | _ + 1, [], _ => some (0, [])
  | j + 1, fr :: Q, met => if (kSt T E' D E (fr :: Q) met).1 = 0 then kRun T E' D E j (kSt T E' D E (fr :: Q) met).2.1 (kSt T E' D E (fr :: Q) met).2.2 else some ((kSt T E' D E (fr :: Q) met).1, (kSt T E' D E (fr :: Q) met).2.1)
/-- a frame whose field leads into a message that was met -/
def PHk (T E' : List Nat) (D E : List Dc) (m u k : Nat) (met : List Nat) : Prop := ∃ f g d e t v, (chF D m)[k]? = some f ∧ fOf E u (nmn D f) = some g ∧ D[f]? = some d ∧ E[g]? = some e ∧ dR d = dR e ∧ fty T D d = 13 ∧ fty E' E e = 13 ∧ ftg T D d = some t ∧ ftg E' E e = some v ∧ cod D E t v ∈ met
def frOk (T E' : List Nat) (D E : List Dc) (met : List Nat) (fr : Fr) : Prop := isM D fr.1 ∧ isM E fr.2.1 ∧ (fr.2.2.2 = true → PHk T E' D E fr.1 fr.2.1 fr.2.2.1 met) ∧ fr.2.2.1 ≤ (chF D fr.1).length
def KI (T E' : List Nat) (D E : List Dc) (stk : List Fr) (met : List Nat) : Prop := (∀ fr ∈ stk, frOk T E' D E met fr) ∧ (∀ fr ∈ stk.tail, fr.2.2.2 = true) ∧ stk.length ≤ met.length ∧ met.Nodup ∧ ∀ c ∈ met, c < 256
theorem PHk_mono {T E' : List Nat} {D E : List Dc} {m u k c : Nat} {met : List Nat} (h : PHk T E' D E m u k met) : PHk T E' D E m u k (c :: met) := by
  obtain ⟨f, g, d, e, t, v, h1, h2, h3, h4, h5, h6, h7, h8, h9, h10⟩ := h
  exact ⟨f, g, d, e, t, v, h1, h2, h3, h4, h5, h6, h7, h8, h9, List.mem_cons_of_mem _ h10⟩
theorem ordM_lt {T : List Nat} {D : List Dc} {t : Nat} (hg : GSc T D) (h : isM D t) : ordM D t < 16 := by
  obtain ⟨d, hd, h0⟩ := h
  have h1 := cnt_take_lt hd h0
  have h2 := (lim_of hg.2.2.2.1).1
  unfold ordM
  omega
theorem cod_lt {T E' : List Nat} {D E : List Dc} {t v : Nat} (hg : GSc T D) (hh : GSc E' E) (h1 : isM D t) (h2 : isM E v) : cod D E t v < 256 := by
  have := ordM_lt hg h1
  have := ordM_lt hh h2
  unfold cod
  omega
theorem und13 : ∀ u, u < 15 → und 13 u = true → u = 13 := by decide +kernel
/-- the cases of a step -/
theorem kSt_cases {T E' : List Nat} {D E : List Dc} {m u k : Nat} {b : Bool} {Q : List Fr} {met : List Nat} (hg : GSc T D) (hh : GSc E' E) (hM : isM D m) (hN : isM E u) :
    ((chF D m)[k]? = none ∧ kSt T E' D E ((m, u, k, b) :: Q) met = (0, Q, met)) ∨ ∃ f d, (chF D m)[k]? = some f ∧ isF D m f d ∧ ((fOf E u (nmn D f) = none ∧ kSt T E' D E ((m, u, k, b) :: Q) met = (0, (m, u, k + 1, false) :: Q, met)) ∨ ∃ g e, fOf E u (nmn D f) = some g ∧ isF E u g e ∧ ((dR d ≠ dR e ∧ kSt T E' D E ((m, u, k, b) :: Q) met = (1, (m, u, k, b) :: Q, met)) ∨ (dR d = dR e ∧ und (fty T D d) (fty E' E e) = false ∧ kSt T E' D E ((m, u, k, b) :: Q) met = (2, (m, u, k, b) :: Q, met)) ∨ (dR d = dR e ∧ und (fty T D d) (fty E' E e) = true ∧ ((∃ t v, fty T D d = 13 ∧ fty E' E e = 13 ∧ ftg T D d = some t ∧ ftg E' E e = some v ∧ isM D t ∧ isM E v ∧ cod D E t v ∉ met ∧ kSt T E' D E ((m, u, k, b) :: Q) met = (0, (t, v, 0, false) :: (m, u, k, true) :: Q, cod D E t v :: met)) ∨ ((fty T D d = 13 → ∃ t v, fty E' E e = 13 ∧ ftg T D d = some t ∧ ftg E' E e = some v ∧ isM D t ∧ isM E v ∧ cod D E t v ∈ met) ∧ kSt T E' D E ((m, u, k, b) :: Q) met = (if trn D E m u f g then (3, (m, u, k, b) :: Q, met) else (0, (m, u, k + 1, false) :: Q, met))))))) := by
  unfold kSt
  simp only
  cases hf : (chF D m)[k]? with
  | none => exact Or.inl ⟨rfl, rfl⟩
  | some f =>
    right
    obtain ⟨d, hd⟩ := (chF_mem hg hM).mp (List.mem_of_getElem? hf)
    refine ⟨f, d, rfl, hd, ?_⟩
    simp only
    cases hgf : fOf E u (nmn D f) with
    | none => exact Or.inl ⟨rfl, rfl⟩
    | some g =>
      right
      obtain ⟨e, he⟩ := fOf_isF hh hN hgf
      refine ⟨g, e, rfl, he, ?_⟩
      simp only
      rw [hd.1, he.1]
      simp only
      have hft : fty T D d ≤ 14 := dTy_lt (hg.fld hd.1 hd.2.1).2.2.2.1
      have hfu : fty E' E e ≤ 14 := dTy_lt (hh.fld he.1 he.2.1).2.2.2.1
      by_cases q1 : dR d = dR e
      · right
        rw [if_neg (fun z => z q1)]
        cases q2 : und (fty T D d) (fty E' E e) with
        | false => rw [if_pos rfl]; exact Or.inl ⟨q1, rfl, rfl⟩
        | true =>
          right
          rw [if_neg (by decide)]
          refine ⟨q1, rfl, ?_⟩
          by_cases q13 : fty T D d = 13
          · have q13' : fty E' E e = 13 := by rw [q13] at q2; exact und13 _ (by omega) q2
            obtain ⟨t, ht, hMt⟩ := (ftg_msg hg hd.1 hd.2.1).1 q13
            obtain ⟨v, hv, hMv⟩ := (ftg_msg hh he.1 he.2.1).1 q13'
            rw [if_pos q13, ht, hv]
            simp only
            by_cases qm : cod D E t v ∈ met
            · right
              rw [if_pos qm]
              exact ⟨fun _ => ⟨t, v, q13', rfl, rfl, hMt, hMv, qm⟩, rfl⟩
            · left
              rw [if_neg qm]
              exact ⟨t, v, q13, q13', rfl, rfl, hMt, hMv, qm, rfl⟩
          · right
            rw [if_neg q13]
            exact ⟨fun z => absurd z q13, rfl⟩
      · left
        rw [if_pos q1]
        exact ⟨q1, rfl⟩
theorem KI_step {T E' : List Nat} {D E : List Dc} {fr : Fr} {Q : List Fr} {met : List Nat} (hg : GSc T D) (hh : GSc E' E) (h : KI T E' D E (fr :: Q) met) : KI T E' D E (kSt T E' D E (fr :: Q) met).2.1 (kSt T E' D E (fr :: Q) met).2.2 := by
  obtain ⟨m, u, k, b⟩ := fr
  obtain ⟨h1, h2, h3, h4, h5⟩ := h
  have h2' : ∀ fr ∈ Q, fr.2.2.2 = true := h2
  obtain ⟨hM, hN, hP⟩ := h1 _ (List.mem_cons_self ..)
  have hM' : isM D m := hM
  have hN' : isM E u := hN
  have hQ : ∀ fr ∈ Q, frOk T E' D E met fr := fun fr hfr => h1 fr (List.mem_cons_of_mem _ hfr)
  rw [List.length_cons] at h3
  have stay : KI T E' D E ((m, u, k, b) :: Q) met := ⟨h1, h2, by rw [List.length_cons]; exact h3, h4, h5⟩
  have adv : (∃ f, (chF D m)[k]? = some f) → KI T E' D E ((m, u, k + 1, false) :: Q) met := fun ⟨f, hf⟩ => ⟨fun fr hfr => by
    rcases List.mem_cons.mp hfr with z | z
    · rw [z]; exact ⟨hM, hN, fun y => (by cases y), (List.getElem?_eq_some_iff.mp hf).1⟩
    · exact hQ fr z, h2', by rw [List.length_cons]; exact h3, h4, h5⟩
  rcases kSt_cases (k := k) (b := b) (Q := Q) (met := met) hg hh hM' hN' with ⟨_, e⟩ | ⟨f, d, hf, hd, ⟨_, e⟩ | ⟨g, e0, hgf, he, ⟨_, e⟩ | ⟨_, _, e⟩ | ⟨q1, q2, ⟨t, v, t1, t2, t3, t4, t5, t6, t7, e⟩ | ⟨t1, e⟩⟩⟩⟩
  · rw [e]
    refine ⟨hQ, fun fr hfr => h2' fr (List.mem_of_mem_tail hfr), by show Q.length ≤ met.length; omega, h4, h5⟩
  · rw [e]; exact adv ⟨f, hf⟩
  · rw [e]; exact stay
  · rw [e]; exact stay
  · rw [e]
    refine ⟨fun fr hfr => ?_, fun fr hfr => ?_, by simp; omega, List.nodup_cons.mpr ⟨t7, h4⟩, fun c hc => ?_⟩
    · rcases List.mem_cons.mp hfr with z | z
      · rw [z]; exact ⟨t5, t6, fun y => (by cases y), Nat.zero_le _⟩
      · rcases List.mem_cons.mp z with z | z
        · rw [z]
          exact ⟨hM, hN, fun _ => ⟨f, g, d, e0, t, v, hf, hgf, hd.1, he.1, q1, t1, t2, t3, t4, List.mem_cons_self ..⟩, hP.2⟩
        · obtain ⟨x1, x2, x3⟩ := hQ fr z
          exact ⟨x1, x2, fun y => PHk_mono (x3.1 y), x3.2⟩
    · rcases List.mem_cons.mp hfr with z | z
      · rw [z]
      · exact h2' fr z
    · rcases List.mem_cons.mp hc with z | z
      · rw [z]; exact cod_lt hg hh t5 t6
      · exact h5 c z
  · rw [e]
    split
    · exact stay
    · exact adv ⟨f, hf⟩
/-- how much is left to do -/
def kM (D : List Dc) (stk : List Fr) (met : List Nat) : Nat := (256 - met.length) * 400 + (stk.map (fun fr => 2 * ((chF D fr.1).length - fr.2.2.1) + (if fr.2.2.2 then 0 else 1) + 1)).sum
theorem kM_step {T E' : List Nat} {D E : List Dc} {fr : Fr} {Q : List Fr} {met : List Nat} (hg : GSc T D) (hh : GSc E' E) (h : KI T E' D E (fr :: Q) met) (h0 : (kSt T E' D E (fr :: Q) met).1 = 0) : kM D (kSt T E' D E (fr :: Q) met).2.1 (kSt T E' D E (fr :: Q) met).2.2 < kM D (fr :: Q) met := by
  have hK := KI_step hg hh h
  obtain ⟨m, u, k, b⟩ := fr
  obtain ⟨h1, h2, h3, h4, h5⟩ := h
  obtain ⟨hM, hN, hP⟩ := h1 _ (List.mem_cons_self ..)
  have hM' : isM D m := hM
  have hN' : isM E u := hN
  have adv : k < (chF D m).length → kM D ((m, u, k + 1, false) :: Q) met < kM D ((m, u, k, b) :: Q) met := by
    intro hk
    unfold kM
    rw [List.map_cons, List.sum_cons, List.map_cons, List.sum_cons]
    have : 2 * ((chF D m).length - (k + 1)) + (if false = true then 0 else 1) + 1 < 2 * ((chF D m).length - k) + (if b then 0 else 1) + 1 := by
      rw [if_neg (show ¬ false = true by decide)]
      omega
    show _ + (2 * ((chF D m).length - (k + 1)) + (if false = true then 0 else 1) + 1 + _) < _ + (2 * ((chF D m).length - k) + (if b then 0 else 1) + 1 + _)
    omega
  rcases kSt_cases (k := k) (b := b) (Q := Q) (met := met) hg hh hM' hN' with ⟨_, e⟩ | ⟨f, d, hf, hd, ⟨_, e⟩ | ⟨g, e0, hgf, he, ⟨_, e⟩ | ⟨_, _, e⟩ | ⟨q1, q2, ⟨t, v, t1, t2, t3, t4, t5, t6, t7, e⟩ | ⟨t1, e⟩⟩⟩⟩
  · rw [e]
    show kM D Q met < kM D ((m, u, k, b) :: Q) met
    unfold kM
    rw [List.map_cons, List.sum_cons]
    show _ + _ < _ + ((2 * ((chF D m).length - k) + (if b then 0 else 1) + 1) + _)
    omega
  · rw [e]; exact adv (List.getElem?_eq_some_iff.mp hf).1
  · rw [e] at h0; cases h0
  · rw [e] at h0; cases h0
  · have hk := (List.getElem?_eq_some_iff.mp hf).1
    have hb : b = false := by
      cases hb : b with
      | false => rfl
      | true =>
        exfalso
        obtain ⟨f', g', d', e', t', v', y1, y2, y3, y4, y5, y6, y7, y8, y9, y10⟩ := hP.1 hb
        have y1' : (chF D m)[k]? = some f' := y1
        rw [hf] at y1'
        cases y1'
        have y2' : fOf E u (nmn D f) = some g' := y2
        rw [hgf] at y2'
        cases y2'
        rw [hd.1] at y3
        cases y3
        rw [he.1] at y4
        cases y4
        rw [t3] at y8
        cases y8
        rw [t4] at y9
        cases y9
        exact t7 y10
    rw [e] at hK ⊢
    obtain ⟨k1, k2, k3, k4, k5⟩ := hK
    have hlen : (cod D E t v :: met).length ≤ 256 := by
      have := nd_len 256 _ k4 0 (fun a ha => ⟨Nat.zero_le _, k5 a ha⟩)
      omega
    rw [List.length_cons] at hlen
    unfold kM
    rw [List.map_cons, List.sum_cons, List.map_cons, List.sum_cons, List.map_cons, List.sum_cons, List.length_cons, hb]
    have hcl := chF_len (a := t) hg.2.1
    show (256 - (met.length + 1)) * 400 + ((2 * ((chF D t).length - 0) + (if false = true then 0 else 1) + 1) + ((2 * ((chF D m).length - k) + (if true = true then 0 else 1) + 1) + _)) < (256 - met.length) * 400 + ((2 * ((chF D m).length - k) + (if false = true then 0 else 1) + 1) + _)
    rw [if_neg (show ¬ false = true by decide), if_pos (show true = true from rfl)]
    omega
  · rw [e]
    rw [e] at h0
    split
    · rename_i z
      rw [if_pos z] at h0
      cases h0
    · exact adv (List.getElem?_eq_some_iff.mp hf).1
theorem kRun_ends {T E' : List Nat} {D E : List Dc} (hg : GSc T D) (hh : GSc E' E) : ∀ (j : Nat) (stk : List Fr) (met : List Nat), KI T E' D E stk met → kM D stk met < j → ∃ y, kRun T E' D E j stk met = some y := by
  intro j
  induction j with
  | zero => intro stk met _ h; omega
  | succ j ih =>
    intro stk met hK hj
    cases stk with
    | nil => exact ⟨_, rfl⟩
    | cons fr Q =>
      rw [kRun]
      by_cases h0 : (kSt T E' D E (fr :: Q) met).1 = 0
      · rw [if_pos h0]
        have := kM_step hg hh hK h0
        exact ih _ _ (KI_step hg hh hK) (by omega)
      · rw [if_neg h0]
        exact ⟨_, rfl⟩
/-! ===== check: the class ===== -/
theorem ad_inj9 {c : Nat} {x y : Option Nat} : ad c x = ad c y ↔ x = y := by
  constructor
  · intro z
    cases x with
    | none =>
      cases y with
      | none => rfl
      | some b => cases z
    | some a =>
      cases y with
      | none => cases z
      | some b =>
        rw [ad_some, ad_some] at z
        have := Option.some.inj z
        congr 1
        omega
  · intro z; rw [z]
theorem cb5 : cb 5 := Or.inl rfl
theorem cb197 : cb 197 := Or.inr rfl
theorem LK_next {σ : SG} {c : Nat} : ∀ (L : List Nat) (p : Option Nat) (k i : Nat), LK σ c L p → L[k]? = some i → sP σ (c + 5 + i) 16 = ad c (L[k + 1]?) := by
  intro L
  induction L with
  | nil => intro p k i _ h; cases h
  | cons a L ih =>
    intro p k i h hk
    obtain ⟨_, h2⟩ := h
    cases k with
    | zero =>
      cases hk
      cases L with
      | nil => exact h2
      | cons b L => exact h2.1
    | succ k => exact ih _ k i h2 hk
theorem ckN_ad {β : Type} {c : Nat} {o : Option Nat} {f : Option β} (hcb : cb c) (h : ∀ i, o = some i → i < 180) : ckN 3 (ad c o) f = f := by
  cases o with
  | none => rfl
  | some i =>
    show (if sh (c + 5 + i) = 3 then f else none) = f
    rw [if_pos (it_sh hcb (h i rfl))]
theorem C_fresh {U m u h : Nat} {σ : SG} {T E' : List Nat} {D E : List Dc} {d : Dc} (hU : 4000 < U) (hg : GSc T D) (hh : GSc E' E) (hC : CS σ 5 T D) (hC' : CS σ 197 E' E) (hN : isM E u) (hd : isF D m h d) : x_X3_memberNumbered U (197 + 5 + u) (sL σ (5 + 5 + h) 6) σ = some (ad 197 (fOf E u (nmn D h))) := by
  obtain ⟨dm, hdm, _⟩ := id hN
  have hul := (List.getElem?_eq_some_iff.mp hdm).1
  rw [C_tag (U := U) cb5 hg hC hd.1 hd.2.1, C_numbered hU cb197 hC' hul]
  congr 2
  unfold fOf
  rw [nmn_some hd.1]
  have hb := (hg.fld hd.1 hd.2.1).2.2.1
  apply find_congr
  intro i hi
  obtain ⟨e, he⟩ := (chF_mem hh hN).mp hi
  have hnu := hh.nu he.1 he.2.1
  rw [hnu.1]
  exact decide_eq_decide.mpr (lN_inj (by omega) (by omega))
theorem C_torn_L {U m u f g : Nat} {σ : SG} {T E' : List Nat} {D E : List Dc} {d e : Dc} (hU : 4000 < U) (hg : GSc T D) (hh : GSc E' E) (hC : CS σ 5 T D) (hC' : CS σ 197 E' E) (hM : isM D m) (hN : isM E u) (hd : isF D m f d) (he : isF E u g e) : ∀ (L : List Nat) (p : Option Nat) (U1 : Nat), LK σ 5 L p → (∀ i ∈ L, i ∈ chF D m) → L.length < U1 → x_X1_isTornApart_L28 U (some (5 + 5 + f)) (some (197 + 5 + g)) (some (197 + 5 + u)) σ U1 p = some (zI ((L.takeWhile (fun h => decide (h ≠ f))).any (trnP D E u f g))) := by
  have hl := hg.2.1
  have hl' := hh.2.1
  have hfl := (List.getElem?_eq_some_iff.mp hd.1).1
  have hgl := (List.getElem?_eq_some_iff.mp he.1).1
  obtain ⟨dm, hdm, _⟩ := id hN
  have hul := (List.getElem?_eq_some_iff.mp hdm).1
  have o3 : sP σ (5 + 5 + f) 3 = ad 5 (dO d) := (hC.it hd.1).1.2.2.2.1
  have g3 : sP σ (197 + 5 + g) 3 = ad 197 (dO e) := (hC'.it he.1).1.2.2.2.1
  intro L
  induction L with
  | nil =>
    intro p U1 h _ hu
    obtain ⟨V, rfl⟩ : ∃ V, U1 = V + 1 := ⟨U1 - 1, by simp at hu; omega⟩
    rw [x_X1_isTornApart_L28, if_pos (show p = none from h)]; try rfl
  | cons h L ih =>
    intro p U1 hp hL hu
    rw [List.length_cons] at hu
    obtain ⟨V, rfl⟩ : ∃ V, U1 = V + 1 := ⟨U1 - 1, by omega⟩
    obtain ⟨h1, h2⟩ := hp
    obtain ⟨x, hx⟩ := (chF_mem hg hM).mp (hL h (List.mem_cons_self ..))
    have hhl := (List.getElem?_eq_some_iff.mp hx.1).1
    have h3 : sP σ (5 + 5 + h) 3 = ad 5 (dO x) := (hC.it hx.1).1.2.2.2.1
    have ihh := ih _ V h2 (fun i hi => hL i (List.mem_cons_of_mem _ hi)) (by omega)
    rw [x_X1_isTornApart_L28, h1, if_neg (show ¬ some (5 + 5 + h) = none by intro z; cases z), List.takeWhile_cons]
    by_cases q : h = f
    · rw [if_pos (show some (5 + 5 + h) = some (5 + 5 + f) by rw [q]), decide_eq_false (fun z => z q), if_neg (show ¬ false = true by decide)]; try rfl
    have hne : ¬ some (5 + 5 + h) = some (5 + 5 + f) := fun z => q (by have := Option.some.inj z; omega)
    rw [if_neg hne, decide_eq_true q, if_pos (show true = true from rfl), List.any_cons, ck_eq (it_sh cb5 (by omega)), ck_eq (it_sh cb197 (by omega)), C_fresh hU hg hh hC hC' hN hx, b1_eq, h3, ifd ad_none, ck_eq (it_sh cb5 (by omega)), o3, ifd ad_inj9]
    have nx : x_X1_isTornApart_96 U (x_X1_isTornApart_L28 U (some (5 + 5 + f)) (some (197 + 5 + g)) (some (197 + 5 + u)) σ V) (some (5 + 5 + f)) (some (197 + 5 + g)) (some (197 + 5 + u)) (some (5 + 5 + h)) σ = some (zI ((L.takeWhile (fun h => decide (h ≠ f))).any (trnP D E u f g))) := by
      unfold x_X1_isTornApart_96
      rw [ck_eq (it_sh cb5 (by omega))]
      exact ihh
    unfold x_X1_isTornApart_69 x_X1_isTornApart_70
    rw [nx]
    unfold trnP
    rw [dOo_some hx.1, dOo_some hd.1, dOo_some he.1]
    cases hfo : fOf E u (nmn D h) with
    | none =>
      rw [if_pos (show ad 197 none = none from rfl), if_pos (show ad 197 none = none from rfl), Bool.false_or, ite_self, ite_self]
    | some i =>
      obtain ⟨y, hy⟩ := fOf_isF hh hN hfo
      have hil := (List.getElem?_eq_some_iff.mp hy.1).1
      have i3 : sP σ (197 + 5 + i) 3 = ad 197 (dO y) := (hC'.it hy.1).1.2.2.2.1
      rw [if_neg (show ¬ ad 197 (some i) = none by intro z; cases z), if_neg (show ¬ ad 197 (some i) = none by intro z; cases z), ad_some, ck_eq (it_sh cb197 (by omega)), ck_eq (it_sh cb197 (by omega)), ck_eq (it_sh cb197 (by omega)), ck_eq (it_sh cb197 (by omega)), i3, g3, ifd ad_inj9, ifd ad_inj9, if_pos (show (0 : Int32) = 0 from rfl), if_neg (show ¬ (1 : Int32) = 0 by decide), ite_self]
      simp only
      rw [dOo_some hy.1]
      by_cases q1 : dO y = dO e
      · rw [if_pos q1, decide_eq_true q1, Bool.true_and]
        by_cases q2 : dO x = none
        · rw [if_pos q2, decide_eq_false (fun z => z q2), Bool.false_and, Bool.not_false, Bool.true_or]; try rfl
        · rw [if_neg q2, decide_eq_true q2, Bool.true_and]
          by_cases q3 : dO x = dO d
          · rw [if_pos q3, decide_eq_true q3, Bool.not_true, Bool.false_or]
          · rw [if_neg q3, decide_eq_false q3, Bool.not_false, Bool.true_or]; try rfl
      · rw [if_neg q1, decide_eq_false q1, Bool.false_and, Bool.false_or, ite_self, ite_self]
theorem any_tw {D : List Dc} {f : Nat} {P : Nat → Bool} : ∀ (L : List Nat), srt D L → f ∈ L → L.any (fun h => decide (nmn D h < nmn D f) && P h) = (L.takeWhile (fun h => decide (h ≠ f))).any P := by
  intro L
  induction L with
  | nil => intro _ h; cases h
  | cons a L ih =>
    intro hs hf
    obtain ⟨h1, h2⟩ := List.pairwise_cons.mp hs
    rw [List.any_cons, List.takeWhile_cons]
    by_cases q : a = f
    · subst q
      rw [decide_eq_false (Nat.lt_irrefl _), Bool.false_and, Bool.false_or, decide_eq_false (fun z => z rfl), if_neg (show ¬ false = true by decide)]
      rw [List.any_nil, List.any_eq_false]
      intro x hx
      have := h1 x hx
      rw [decide_eq_false (by omega), Bool.false_and]
      decide
    · have hfL : f ∈ L := (List.mem_cons.mp hf).elim (fun z => absurd z.symm q) id
      have := h1 f hfL
      rw [decide_eq_true this, Bool.true_and, decide_eq_true q, if_pos (show true = true from rfl), List.any_cons, ih h2 hfL]
theorem C_torn {U m u f g : Nat} {σ : SG} {T E' : List Nat} {D E : List Dc} {d e : Dc} (hU : 4000 < U) (hg : GSc T D) (hh : GSc E' E) (hC : CS σ 5 T D) (hC' : CS σ 197 E' E) (hM : isM D m) (hN : isM E u) (hd : isF D m f d) (he : isF E u g e) : x_X1_isTornApart U (some (5 + 5 + f)) (some (197 + 5 + g)) (some (197 + 5 + u)) σ = some (zI (trn D E m u f g)) := by
  have hl := hg.2.1
  have hl' := hh.2.1
  have hfl := (List.getElem?_eq_some_iff.mp hd.1).1
  have hgl := (List.getElem?_eq_some_iff.mp he.1).1
  obtain ⟨dm, hdm, _⟩ := id hM
  have hml := (List.getElem?_eq_some_iff.mp hdm).1
  have o2 : sP σ (5 + 5 + f) 2 = ad 5 (dS d) := (hC.it hd.1).1.2.2.1
  have g3 : sP σ (197 + 5 + g) 3 = ad 197 (dO e) := (hC'.it he.1).1.2.2.2.1
  have hch := chF_len (a := m) hl
  unfold x_X1_isTornApart trn
  rw [ck_eq (it_sh cb197 (by omega)), g3, ifd ad_none, ck_eq (it_sh cb5 (by omega)), o2, hd.2.2, if_neg (show ¬ ad 5 (some m) = none by intro z; cases z), if_neg (show ¬ some (197 + 5 + u) = none by intro z; cases z), ad_some, ck_eq (it_sh cb5 (by omega)), dOo_some he.1]
  by_cases q : dO e = none
  · rw [if_pos q, decide_eq_false (fun z => z q), Bool.false_and]; try rfl
  · rw [if_neg q, decide_eq_true q, Bool.true_and, C_torn_L hU hg hh hC hC' hM hN hd he (chF D m) _ U (hC.ch hml) (fun i hi => hi) (by omega), any_tw (chF D m) (chD_srt hg hM _) ((chF_mem hg hM).mpr ⟨d, hd⟩)]
/-- the class's way -/
def CF (D : List Dc) (σ : SG) : List Fr → Prop
  | [] => True
  | fr :: Q => sP σ 1098 Q.length = ad 5 ((chF D fr.1)[fr.2.2.1]?) ∧ sP σ 1099 Q.length = ad 197 (some fr.2.1) ∧ CF D σ Q
theorem CF_keep {D : List Dc} {σ τ : SG} : ∀ (Q : List Fr), CF D σ Q → (∀ k, k < Q.length → sP τ 1098 k = sP σ 1098 k ∧ sP τ 1099 k = sP σ 1099 k) → CF D τ Q := by
  intro Q
  induction Q with
  | nil => intro _ _; exact trivial
  | cons fr Q ih =>
    intro h hk
    obtain ⟨h1, h2, h3⟩ := h
    exact ⟨(hk _ (by simp)).1.trans h1, (hk _ (by simp)).2.trans h2, ih h3 (fun k hk' => hk k (by simp; omega))⟩
def fKc (σ τ : SG) : Prop := ∀ b, b ≠ 1097 → b ≠ 1098 → b ≠ 1099 → b ≠ 1100 → sm σ τ b
theorem fKc_refl (σ : SG) : fKc σ σ := fun b _ _ _ _ => sm_refl σ b
theorem fKc_trans {σ τ υ : SG} (h : fKc σ τ) (h' : fKc τ υ) : fKc σ υ := fun b h1 h2 h3 h4 => sm_trans (h b h1 h2 h3 h4) (h' b h1 h2 h3 h4)
def KCs (σ : SG) (T E' : List Nat) (D E : List Dc) (stk : List Fr) (met : List Nat) : Prop := CS σ 5 T D ∧ CS σ 197 E' E ∧ sI σ 1097 4 = nI stk.length ∧ CF D σ stk ∧ ∀ c, c < 256 → sI σ 1100 c = zI (decide (c ∈ met))
theorem CS_fKc {σ τ : SG} {c : Nat} {T : List Nat} {D : List Dc} (h : CS σ c T D) (hcb : cb c) (hf : fKc σ τ) : CS τ c T D := by
  have hc : c = 5 ∨ c = 197 := hcb
  exact CS_sm h (fun b h1 h2 => hf b (by omega) (by omega) (by omega) (by omega))
theorem nar19 : vp_nar .boolean 1 = zI true := by decide
theorem nar0' : vp_nar .boolean 0 = zI false := by decide
theorem C_enter {t v : Nat} {σ : SG} {T E' : List Nat} {D E : List Dc} {stk : List Fr} {met : List Nat} (hg : GSc T D) (hh : GSc E' E) (h : KCs σ T E' D E stk met) (hlen : stk.length ≤ met.length) (hnd : met.Nodup) (hlt : ∀ c ∈ met, c < 256) (ht : isM D t) (hv : isM E v) : (cod D E t v ∈ met → x_X1_enter 1097 (ad 5 (some t)) (ad 197 (some v)) σ = some (0, σ)) ∧ (cod D E t v ∉ met → ∃ τ, x_X1_enter 1097 (ad 5 (some t)) (ad 197 (some v)) σ = some (1, τ) ∧ fKc σ τ ∧ sI τ 1097 4 = nI (stk.length + 1) ∧ sP τ 1098 stk.length = ad 5 ((chF D t)[0]?) ∧ sP τ 1099 stk.length = ad 197 (some v) ∧ (∀ k, k ≠ stk.length → sP τ 1098 k = sP σ 1098 k ∧ sP τ 1099 k = sP σ 1099 k) ∧ ∀ c, c < 256 → sI τ 1100 c = zI (decide (c ∈ cod D E t v :: met))) := by
  obtain ⟨h1, h2, h3, h4, h5⟩ := h
  have hl := hg.2.1
  have hl' := hh.2.1
  have hm256 : met.length ≤ 256 := by
    have := nd_len 256 _ hnd 0 (fun a ha => ⟨Nat.zero_le _, hlt a ha⟩)
    omega
  have hc := cod_lt hg hh ht hv
  obtain ⟨dt, hdt, ht0⟩ := id ht
  obtain ⟨dv, hdv, hv0⟩ := id hv
  have htl := (List.getElem?_eq_some_iff.mp hdt).1
  have hvl := (List.getElem?_eq_some_iff.mp hdv).1
  have t1 : sI σ (5 + 5 + t) 1 = nI (ordM D t) := by have := (h1.it hdt).1.2.1; rw [ht0] at this; exact this
  have v1 : sI σ (197 + 5 + v) 1 = nI (ordM E v) := by have := (h2.it hdv).1.2.1; rw [hv0] at this; exact this
  have ecod : nI (ordM D t) * 16 + nI (ordM E v) = nI (cod D E t v) := by
    have e : nI (ordM D t) * 16 = nI (ordM D t * 16) := pk_mul _ 16
    rw [e, nI_add]; try rfl
  have t15 : sP σ (5 + 5 + t) 15 = ad 5 ((chF D t)[0]?) := by
    have := h1.ch htl
    cases hcf : chF D t with
    | nil => rw [hcf] at this; exact this
    | cons a L => rw [hcf] at this; exact this.1
  have hfst : ∀ i, (chF D t)[0]? = some i → i < 180 := fun i hi => by
    have := chF_lt (List.mem_of_getElem? hi)
    omega
  unfold x_X1_enter
  rw [if_neg (show ¬ ad 5 (some t) = none by intro z; cases z), if_neg (show ¬ ad 197 (some v) = none by intro z; cases z), h3, if_neg (nI_neg (by omega)), ad_some, ad_some, ck_eq (it_sh cb5 (by omega)), ck_eq (it_sh cb197 (by omega)), t1, v1, ecod, if_neg (nI_neg (by omega)), if_pos (show nI (cod D E t v) < 256 from (ltI (b := 256) (by omega) (by decide)).mpr hc), ix_in hc (by decide), h5 _ hc, ifz]
  refine ⟨fun hm => ?_, fun hm => ?_⟩
  · rw [decide_eq_true hm, if_pos (show true = true from rfl), ite_self, ite_self]
  · have hs256 : stk.length < 256 := by
      have hn2 : (cod D E t v :: met).Nodup := List.nodup_cons.mpr ⟨hm, hnd⟩
      have := nd_len 256 _ hn2 0 (fun a ha => ⟨Nat.zero_le _, (List.mem_cons.mp ha).elim (fun z => by rw [z]; exact hc) (hlt a)⟩)
      rw [List.length_cons] at this
      omega
    have s1 : sI (uI σ 1100 (cod D E t v) (vp_nar .boolean 1)) 1097 4 = nI stk.length := (sI_o (Or.inl (by decide))).trans h3
    rw [decide_eq_false hm, if_neg (show ¬ false = true by decide), if_pos (show nI stk.length < 256 from (ltI (b := 256) (by omega) (by decide)).mpr hs256), if_pos (show nI stk.length < 256 from (ltI (b := 256) (by omega) (by decide)).mpr hs256), ix_in hc (by decide), sb_eq, s1, ix_in hs256 (by decide)]
    have e15 : sP (uI σ 1100 (cod D E t v) (vp_nar .boolean 1)) (5 + 5 + t) 15 = ad 5 ((chF D t)[0]?) := t15
    rw [e15, ckN_ad cb5 hfst, sb_eq]
    have s2 : sI (uP (uI σ 1100 (cod D E t v) (vp_nar .boolean 1)) 1098 stk.length (ad 5 ((chF D t)[0]?))) 1097 4 = nI stk.length := s1
    rw [s2, ix_in hs256 (by decide), ← ad_some, ckN_ad cb197 (fun i hi => by cases hi; omega), sb_eq, sb_eq]
    have s3 : sI (uP (uP (uI σ 1100 (cod D E t v) (vp_nar .boolean 1)) 1098 stk.length (ad 5 ((chF D t)[0]?))) 1099 stk.length (ad 197 (some v))) 1097 4 = nI stk.length := s1
    rw [s3, nI_1]
    refine ⟨_, rfl, fun b b1 b2 b3 b4 => sm_trans (sm_trans (sm_trans (sm_uI b4) (sm_uP b2)) (sm_uP b3)) (sm_uI b1), sI_s _ _ _ _, ?_, ?_, fun k hk => ⟨?_, ?_⟩, fun c hc' => ?_⟩
    · show sP (uP (uP (uI σ 1100 _ _) 1098 _ _) 1099 _ _) 1098 stk.length = _
      rw [sP_o (Or.inl (by decide)), sP_s]
    · show sP (uP (uP (uI σ 1100 _ _) 1098 _ _) 1099 _ _) 1099 stk.length = _
      rw [sP_s]
    · show sP (uP (uP (uI σ 1100 _ _) 1098 _ _) 1099 _ _) 1098 k = _
      rw [sP_o (Or.inl (by decide)), sP_o (Or.inr hk)]; try rfl
    · show sP (uP (uP (uI σ 1100 _ _) 1098 _ _) 1099 _ _) 1099 k = _
      rw [sP_o (Or.inr hk), sP_o (Or.inl (by decide))]; try rfl
    · rw [sI_o (Or.inl (by decide))]
      show sI (uI σ 1100 (cod D E t v) (vp_nar .boolean 1)) 1100 c = _
      by_cases q : c = cod D E t v
      · rw [q, sI_s, nar19, decide_eq_true (List.mem_cons_self ..)]
      · rw [sI_o (Or.inr q), h5 c hc']
        congr 1
        exact decide_eq_decide.mpr ⟨fun z => List.mem_cons_of_mem _ z, fun z => (List.mem_cons.mp z).elim (fun y => absurd y q) id⟩
/-! ===== check: the class's loop ===== -/
theorem C_look {U : Nat} {fr : Fr} {Q : List Fr} {met : List Nat} {σ : SG} {T E' : List Nat} {D E : List Dc} (hU : 4000 < U) (hg : GSc T D) (hh : GSc E' E) (h : KCs σ T E' D E (fr :: Q) met) (hK : KI T E' D E (fr :: Q) met) : ∃ τ, x_X1_look U 1097 σ = some (nI (kSt T E' D E (fr :: Q) met).1, τ) ∧ KCs τ T E' D E (kSt T E' D E (fr :: Q) met).2.1 (kSt T E' D E (fr :: Q) met).2.2 ∧ fKc σ τ := by
  obtain ⟨m, u, k, b⟩ := fr
  have hS := h
  obtain ⟨h1, h2, h3, ⟨c1, c2, c3⟩, h5⟩ := h
  obtain ⟨k1, k2, k3, k4, k5⟩ := id hK
  obtain ⟨hM, hN, _⟩ := k1 _ (List.mem_cons_self ..)
  have hM' : isM D m := hM
  have hN' : isM E u := hN
  have hl := hg.2.1
  have hl' := hh.2.1
  rw [List.length_cons] at h3 k3
  have hm256 : met.length ≤ 256 := by
    have := nd_len 256 _ k4 0 (fun a ha => ⟨Nat.zero_le _, k5 a ha⟩)
    omega
  obtain ⟨dm, hdm, _⟩ := id hM'
  have hml := (List.getElem?_eq_some_iff.mp hdm).1
  obtain ⟨du, hdu, _⟩ := id hN'
  have hul := (List.getElem?_eq_some_iff.mp hdu).1
  have e1 : nI (Q.length + 1) - 1 = nI Q.length := nI_sub (b := 1) (by omega)
  have c1' : sP σ 1098 Q.length = ad 5 ((chF D m)[k]?) := c1
  have c2' : sP σ 1099 Q.length = some (197 + 5 + u) := c2
  have lt256 : nI Q.length < 256 := (ltI (b := 256) (by omega) (by decide)).mpr (by omega)
  unfold x_X1_look
  rw [h3, e1, if_neg (nI_neg (by omega)), if_pos lt256, if_pos lt256, ix_in (by omega) (by decide), c1', ix_in (by omega) (by decide), c2', if_neg (show ¬ some (197 + 5 + u) = none by intro z; cases z), ix_in (by omega) (by decide), c2']
  -- on to the next field
  have adv : ∀ f, (chF D m)[k]? = some f → ∃ τ, (ck 3 (some (5 + 5 + f)) fun q16 => ix (nI Q.length) 256 fun j19 => ckN 3 (sP σ q16 16) <| sb (uP σ 1098 j19 (sP σ q16 16)) fun σ23 => some ((0 : Int32), σ23)) = some (0, τ) ∧ KCs τ T E' D E ((m, u, k + 1, false) :: Q) met ∧ fKc σ τ := by
    intro f hf
    have hfl := chF_lt (List.mem_of_getElem? hf)
    have hnx := LK_next _ _ k f (h1.ch hml) hf
    rw [ck_eq (it_sh cb5 (by omega)), ix_in (by omega) (by decide), hnx, ckN_ad cb5 (fun i hi => by have := chF_lt (List.mem_of_getElem? hi); omega), sb_eq]
    have F : fKc σ (uP σ 1098 Q.length (ad 5 ((chF D m)[k + 1]?))) := fun b _ b2 _ _ => sm_uP b2
    refine ⟨_, rfl, ⟨CS_fKc h1 cb5 F, CS_fKc h2 cb197 F, by rw [List.length_cons]; exact h3, ⟨sP_s _ _ _ _, (sP_o (Or.inl (by decide))).trans c2, CF_keep Q c3 (fun k' hk' => ⟨sP_o (Or.inr (by omega)), sP_o (Or.inl (by decide))⟩)⟩, h5⟩, F⟩
  rcases kSt_cases (k := k) (b := b) (Q := Q) (met := met) hg hh hM' hN' with ⟨hf, e⟩ | ⟨f, d, hf, hd, hrest⟩
  · rw [e, hf, if_pos (show ad 5 none = none from rfl), sb_eq]
    have F : fKc σ (uI σ 1097 4 (nI Q.length)) := fun b b1 _ _ _ => sm_uI b1
    exact ⟨_, rfl, ⟨CS_fKc h1 cb5 F, CS_fKc h2 cb197 F, sI_s _ _ _ _, CF_keep Q c3 (fun _ _ => ⟨rfl, rfl⟩), fun c hc => (sI_o (Or.inl (by decide))).trans (h5 c hc)⟩, F⟩
  · have hfl := (List.getElem?_eq_some_iff.mp hd.1).1
    have hft : fty T D d ≤ 14 := dTy_lt (hg.fld hd.1 hd.2.1).2.2.2.1
    rw [hf, if_neg (show ¬ ad 5 (some f) = none by intro z; cases z), ad_some, ck_eq (it_sh cb5 (by omega)), ck_eq (it_sh cb197 (by omega)), C_fresh hU hg hh h1 h2 hN' hd, b1_eq]
    unfold x_X1_look_80
    rcases hrest with ⟨hgf, e⟩ | ⟨g, x, hgf, hx, hrest⟩
    · rw [e, hgf, if_pos (show ad 197 none = none from rfl)]
      exact adv f hf
    · have hgl := (List.getElem?_eq_some_iff.mp hx.1).1
      have hfu : fty E' E x ≤ 14 := dTy_lt (hh.fld hx.1 hx.2.1).2.2.2.1
      have o11 : sI σ (5 + 5 + f) 11 = zI (dR d) := (h1.it hd.1).1.2.2.2.2.2.2.2.2.1
      have g11 : sI σ (197 + 5 + g) 11 = zI (dR x) := (h2.it hx.1).1.2.2.2.2.2.2.2.2.1
      have o8 : sI σ (5 + 5 + f) 8 = nI (fty T D d) := (h1.it hd.1).2.1
      have g8 : sI σ (197 + 5 + g) 8 = nI (fty E' E x) := (h2.it hx.1).2.1
      have o10 : sP σ (5 + 5 + f) 10 = ad 5 (ftg T D d) := (h1.it hd.1).2.2.1
      have g10 : sP σ (197 + 5 + g) 10 = ad 197 (ftg E' E x) := (h2.it hx.1).2.2.1
      have er : zI (dR d) = zI (dR x) ↔ dR d = dR x := by cases dR d <;> cases dR x <;> decide
      have e13 : nI (fty T D d) = 13 ↔ fty T D d = 13 := nI_eq (b := 13) (by omega) (by decide)
      rw [hgf, if_neg (show ¬ ad 197 (some g) = none by intro z; cases z), ad_some, ck_eq (it_sh cb5 (by omega)), ck_eq (it_sh cb197 (by omega)), o11, g11, ifd er, o8, g8, C_und _ (by omega) _ (by omega), b1_eq, ifz, ifd e13, o10, g10]
      -- the oneofs
      have torn : ∀ υ, υ = σ → ∃ τ, x_X1_look_152 U 1097 (nI Q.length) (some (5 + 5 + f)) (some (197 + 5 + g)) υ = some (nI (if trn D E m u f g then (3, (m, u, k, b) :: Q, met) else (0, (m, u, k + 1, false) :: Q, met)).1, τ) ∧ KCs τ T E' D E (if trn D E m u f g then (3, (m, u, k, b) :: Q, met) else (0, (m, u, k + 1, false) :: Q, met)).2.1 (if trn D E m u f g then (3, (m, u, k, b) :: Q, met) else (0, (m, u, k + 1, false) :: Q, met)).2.2 ∧ fKc σ τ := by
        intro υ hυ
        subst hυ
        unfold x_X1_look_152
        rw [ix_in (by omega) (by decide), c2', C_torn hU hg hh h1 h2 hM' hN' hd hx, b1_eq, ifz]
        cases trn D E m u f g with
        | true =>
          rw [if_pos (show true = true from rfl), if_pos (show true = true from rfl)]
          exact ⟨υ, rfl, hS, fKc_refl υ⟩
        | false =>
          rw [if_neg (show ¬ false = true by decide), if_neg (show ¬ false = true by decide)]
          exact adv f hf
      rcases hrest with ⟨q1, e⟩ | ⟨q1, q2, e⟩ | ⟨q1, q2, ⟨t, v, t1, t2, t3, t4, t5, t6, t7, e⟩ | ⟨t1, e⟩⟩
      · rw [e, if_neg q1]
        exact ⟨σ, rfl, hS, fKc_refl σ⟩
      · rw [e, if_pos q1, q2, if_neg (show ¬ false = true by decide)]
        exact ⟨σ, rfl, hS, fKc_refl σ⟩
      · rw [e, if_pos q1, q2, if_pos (show true = true from rfl), if_pos t1, t3, t4]
        obtain ⟨τ, y1, y2, y3, y4, y5, y6, y7⟩ := (C_enter hg hh hS (by rw [List.length_cons]; exact k3) k4 k5 t5 t6).2 t7
        rw [y1, b2_eq, if_neg (show ¬ (1 : Int32) = 0 by decide)]
        rw [List.length_cons] at y3 y4 y5 y6
        refine ⟨τ, rfl, ⟨CS_fKc h1 cb5 y2, CS_fKc h2 cb197 y2, by rw [List.length_cons, List.length_cons]; exact y3, ⟨by rw [List.length_cons]; exact y4, by rw [List.length_cons]; exact y5, ?_, ?_, ?_⟩, y7⟩, y2⟩
        · exact ((y6 Q.length (by omega)).1).trans c1
        · exact ((y6 Q.length (by omega)).2).trans c2
        · exact CF_keep Q c3 (fun k' hk' => y6 k' (by omega))
      · rw [e, if_pos q1, q2, if_pos (show true = true from rfl)]
        by_cases q13 : fty T D d = 13
        · obtain ⟨t, v, x2, x3, x4, x5, x6, x7⟩ := t1 q13
          rw [if_pos q13, x3, x4, (C_enter hg hh hS (by rw [List.length_cons]; exact k3) k4 k5 x5 x6).1 x7, b2_eq, if_pos (show (0 : Int32) = 0 from rfl)]
          exact torn σ rfl
        · rw [if_neg q13]
          exact torn σ rfl
theorem C_cmp_L {U : Nat} {T E' : List Nat} {D E : List Dc} {K : Int32 → SG → Option (Int32 × SG)} (hU : 4000 < U) (hg : GSc T D) (hh : GSc E' E) : ∀ (j v U1 : Nat) (stk : List Fr) (met : List Nat) (σ : SG) (r : Nat) (stk2 : List Fr), kRun T E' D E j stk met = some (r, stk2) → v + j < 900000 → j < U1 → KCs σ T E' D E stk met → KI T E' D E stk met → ∃ τ met2, x_X1_compare_L38 U 1097 K U1 (nI v) σ = (if r = 0 then some (0, τ) else K (nI r) τ) ∧ KCs τ T E' D E stk2 met2 ∧ KI T E' D E stk2 met2 ∧ fKc σ τ ∧ r ≤ 3 := by
  intro j
  induction j with
  | zero => intro v U1 stk met σ r stk2 h; cases h
  | succ j ih =>
    intro v U1 stk met σ r stk2 h hv hu hC hK
    obtain ⟨V, rfl⟩ : ∃ V, U1 = V + 1 := ⟨U1 - 1, by omega⟩
    have h10 : nI v < 1000000 := (ltI (b := 1000000) (by omega) (by decide)).mpr (by omega)
    rw [x_X1_compare_L38, if_pos h10, hC.2.2.1]
    cases stk with
    | nil =>
      cases h
      rw [if_neg (show ¬ (0 : Int32) < nI ([] : List Fr).length by decide)]
      exact ⟨σ, met, (if_pos rfl).symm, hC, hK, fKc_refl σ, by omega⟩
    | cons fr Q =>
      have hlen : (fr :: Q).length ≤ 256 := by
        obtain ⟨_, _, k3, k4, k5⟩ := hK
        have := nd_len 256 _ k4 0 (fun a ha => ⟨Nat.zero_le _, k5 a ha⟩)
        omega
      rw [kRun] at h
      rw [if_pos (show (0 : Int32) < nI (fr :: Q).length from (ltI (a := 0) (by decide) (by omega)).mpr (by simp))]
      obtain ⟨τ, t1, t2, t3⟩ := C_look hU hg hh hC hK
      have hK2 := KI_step hg hh hK
      have hr3 : (kSt T E' D E (fr :: Q) met).1 ≤ 3 := by
        obtain ⟨m, u, k, b⟩ := fr
        obtain ⟨hM, hN, _⟩ := hK.1 _ (List.mem_cons_self ..)
        rcases kSt_cases (k := k) (b := b) (Q := Q) (met := met) hg hh (show isM D m from hM) (show isM E u from hN) with ⟨_, e⟩ | ⟨f, d, hf, hd, ⟨_, e⟩ | ⟨g, e0, hgf, he, ⟨_, e⟩ | ⟨_, _, e⟩ | ⟨q1, q2, ⟨t, v, t1, t2, t3, t4, t5, t6, t7, e⟩ | ⟨t1, e⟩⟩⟩⟩
        · rw [e]; exact Nat.zero_le 3
        · rw [e]; exact Nat.zero_le 3
        · rw [e]; show (1 : Nat) ≤ 3; decide
        · rw [e]; show (2 : Nat) ≤ 3; decide
        · rw [e]; exact Nat.zero_le 3
        · rw [e]
          split
          · exact Nat.le_refl 3
          · exact Nat.zero_le 3
      have e0 : nI (kSt T E' D E (fr :: Q) met).1 = 0 ↔ (kSt T E' D E (fr :: Q) met).1 = 0 := nI_eq (b := 0) (by omega) (by decide)
      rw [t1, b2_eq, ifd e0, nI_1]
      by_cases q : (kSt T E' D E (fr :: Q) met).1 = 0
      · rw [if_pos q] at h ⊢
        obtain ⟨υ, met2, u1, u2, u3, u4, u5⟩ := ih (v + 1) V _ _ τ r stk2 h (by omega) (by omega) t2 hK2
        exact ⟨υ, met2, u1, u2, u3, fKc_trans t3 u4, u5⟩
      · rw [if_neg q] at h ⊢
        obtain ⟨e1, e2⟩ := Prod.mk.inj (Option.some.inj h)
        rw [← e1, ← e2]
        exact ⟨τ, _, (if_neg q).symm, t2, hK2, t3, hr3⟩
/-- the numbers of a way -/
def wyB (D : List Dc) (fr : Fr) : List Nat := match (chF D fr.1)[fr.2.2.1]? with
  | none => []
  | some f => vB (lN (nmn D f))
theorem CF_get {D : List Dc} {σ : SG} : ∀ (Q : List Fr), CF D σ Q → ∀ k, k < Q.length → ∃ fr, Q.reverse[k]? = some fr ∧ sP σ 1098 k = ad 5 ((chF D fr.1)[fr.2.2.1]?) := by
  intro Q
  induction Q with
  | nil => intro _ k hk; simp at hk
  | cons fr Q ih =>
    intro h k hk
    rw [List.length_cons] at hk
    rw [List.reverse_cons]
    by_cases q : k = Q.length
    · refine ⟨fr, ?_, by rw [q]; exact h.1⟩
      rw [List.getElem?_append_right (by rw [List.length_reverse]; omega), List.length_reverse, q, Nat.sub_self]
      try rfl
    · obtain ⟨fr', h1, h2⟩ := ih h.2.2 k (by omega)
      refine ⟨fr', ?_, h2⟩
      rw [List.getElem?_append_left (by rw [List.length_reverse]; omega)]
      exact h1
theorem C_way_L {U : Nat} {T : List Nat} {D : List Dc} {stk : List Fr} (hU : 4000 < U) (hg : GSc T D) (hM : ∀ fr ∈ stk, isM D fr.1) (hlen : stk.length ≤ 256) : ∀ (j k U1 : Nat) (σ : SG) (w : List Nat × Int32), k + j = stk.length → j < U1 → CS σ 5 T D → sI σ 1097 4 = nI stk.length → CF D σ stk → RW σ 3 w → ∃ τ, x_X1_tellWay_L2 U 1097 U1 (nI k) σ = some τ ∧ RW τ 3 (wrL 4000 w ((stk.reverse.drop k).flatMap (wyB D))) ∧ fb 3 σ τ := by
  have hl := hg.2.1
  intro j
  induction j with
  | zero =>
    intro k U1 σ w hk hu hC h4 hF hw
    obtain ⟨V, rfl⟩ : ∃ V, U1 = V + 1 := ⟨U1 - 1, by omega⟩
    refine ⟨σ, ?_, ?_, fb_refl 3 σ⟩
    · rw [x_X1_tellWay_L2, h4, if_neg (fun z => by have := (ltI (by omega) (by omega)).mp z; omega)]
    · rw [List.drop_eq_nil_of_le (by rw [List.length_reverse]; omega)]; exact hw
  | succ j ih =>
    intro k U1 σ w hk hu hC h4 hF hw
    obtain ⟨V, rfl⟩ : ∃ V, U1 = V + 1 := ⟨U1 - 1, by omega⟩
    obtain ⟨fr, hfr, hp⟩ := CF_get stk hF k (by omega)
    have hkl := (List.getElem?_eq_some_iff.mp hfr).1
    have hfe : stk.reverse[k] = fr := (List.getElem?_eq_some_iff.mp hfr).2
    have hmem : fr ∈ stk := List.mem_reverse.mp (List.mem_of_getElem? hfr)
    have next : ∀ τ w', CS τ 5 T D → fb 3 σ τ → RW τ 3 w' → ∃ υ, x_X1_tellWay_44 U 1097 (x_X1_tellWay_L2 U 1097 V) (nI k) τ = some υ ∧ RW υ 3 (wrL 4000 w' ((stk.reverse.drop (k + 1)).flatMap (wyB D))) ∧ fb 3 τ υ := by
      intro τ w' hC' hf' hw'
      unfold x_X1_tellWay_44
      rw [nI_1]
      exact ih (k + 1) V τ w' (by omega) (by omega) hC' (((hf' 1097 (by decide) (by decide)) 4).1.trans h4) (CF_keep stk hF (fun i _ => ⟨((hf' 1098 (by decide) (by decide)) i).2.2, ((hf' 1099 (by decide) (by decide)) i).2.2⟩)) hw'
    rw [x_X1_tellWay_L2, h4, if_pos ((ltI (by omega) (by omega)).mpr (by omega)), if_pos (show nI k < 256 from (ltI (b := 256) (by omega) (by decide)).mpr (by omega)), ix_in (by omega) (by decide), hp, ix_in (by omega) (by decide), hp, List.drop_eq_getElem_cons hkl, List.flatMap_cons, hfe]
    have ewy : wyB D fr = match (chF D fr.1)[fr.2.2.1]? with
      | none => []
      | some f => vB (lN (nmn D f)) := rfl
    rw [ewy]
    cases hcf : (chF D fr.1)[fr.2.2.1]? with
    | none =>
      rw [if_pos (show ad 5 none = none from rfl)]
      exact next σ w hC (fb_refl 3 σ) hw
    | some f =>
      obtain ⟨d, hd⟩ := (chF_mem hg (hM fr hmem)).mp (List.mem_of_getElem? hcf)
      have hfl := (List.getElem?_eq_some_iff.mp hd.1).1
      rw [if_neg (show ¬ ad 5 (some f) = none by intro z; cases z), ad_some, ck_eq (it_sh cb5 (by omega)), C_tag (U := U) cb5 hg hC hd.1 hd.2.1]
      obtain ⟨τ, t1, t2, t3⟩ := X0_varW (U := U) (x := lN (dN d).2) hU hw
      rw [ln4] at t2
      rw [t1, b1_eq]
      obtain ⟨υ, u1, u2, u3⟩ := next τ _ (CS_fb hC cb5 t3) t3 t2
      refine ⟨υ, u1, ?_, fb_trans t3 u3⟩
      simp only
      rw [nmn_some hd.1, wrL_app]
      exact u2
theorem C_cmp_0 {U : Nat} {T E' : List Nat} {D E : List Dc} {K : SG → Option (Int32 × SG)} {v1 v2 : Option Nat} : ∀ (j k U1 : Nat) (σ : SG), k + j = 256 → j < U1 → (∀ c, c < k → sI σ 1100 c = 0) → ∃ τ, x_X1_compare_L2 U 1097 K v1 v2 U1 (nI k) σ = K τ ∧ (∀ c, c < 256 → sI τ 1100 c = 0) ∧ ∀ b, b ≠ 1100 → sm σ τ b := by
  intro j
  induction j with
  | zero =>
    intro k U1 σ hk hu h
    obtain ⟨V, rfl⟩ : ∃ V, U1 = V + 1 := ⟨U1 - 1, by omega⟩
    have : k = 256 := by omega
    subst this
    rw [x_X1_compare_L2, if_neg (show ¬ nI 256 < 256 by decide)]
    exact ⟨σ, rfl, h, fun b _ => sm_refl σ b⟩
  | succ j ih =>
    intro k U1 σ hk hu h
    obtain ⟨V, rfl⟩ : ∃ V, U1 = V + 1 := ⟨U1 - 1, by omega⟩
    rw [x_X1_compare_L2, if_pos (show nI k < 256 from (ltI (b := 256) (by omega) (by decide)).mpr (by omega)), ix_in (by omega) (by decide), sb_eq, nI_1]
    obtain ⟨τ, t1, t2, t3⟩ := ih (k + 1) V (uI σ 1100 k (vp_nar .boolean 0)) (by omega) (by omega) (fun c hc => by
      by_cases q : c = k
      · rw [q, sI_s]; decide
      · rw [sI_o (Or.inr q)]; exact h c (by omega))
    exact ⟨τ, t1, t2, fun b hb => sm_trans (sm_uI hb) (t3 b hb)⟩
/-- the answer of a check: the reason, and the way -/
def ckS (T E' : List Nat) (D E : List Dc) (m u : Nat) : Nat × List Nat := match kRun T E' D E 103000 [(m, u, 0, false)] [cod D E m u] with
  | none => (0, [])
  | some (r, stk) => if r = 0 then (0, []) else (r, stk.reverse.flatMap (wyB D))
theorem KI_0 {T E' : List Nat} {D E : List Dc} {m u : Nat} (hg : GSc T D) (hh : GSc E' E) (hM : isM D m) (hN : isM E u) : KI T E' D E [(m, u, 0, false)] [cod D E m u] := ⟨fun fr hfr => by
  rw [List.mem_singleton.mp hfr]
  exact ⟨hM, hN, fun z => (by cases z), Nat.zero_le _⟩, fun fr hfr => (by cases hfr), Nat.le_refl _, List.nodup_cons.mpr ⟨by simp, List.nodup_nil⟩, fun c hc => by
  rw [List.mem_singleton.mp hc]
  exact cod_lt hg hh hM hN⟩
theorem kRun_0 {T E' : List Nat} {D E : List Dc} {m u : Nat} (hg : GSc T D) (hh : GSc E' E) (hM : isM D m) (hN : isM E u) : ∃ y, kRun T E' D E 103000 [(m, u, 0, false)] [cod D E m u] = some y := by
  refine kRun_ends hg hh 103000 _ _ (KI_0 hg hh hM hN) ?_
  have hcl := chF_len (a := m) hg.2.1
  show (256 - 1) * 400 + ((2 * ((chF D m).length - 0) + (if false = true then 0 else 1) + 1) + 0) < 103000
  rw [if_neg (show ¬ false = true by decide)]
  omega
theorem wy_len {D : List Dc} : ∀ (L : List Fr), (L.flatMap (wyB D)).length ≤ 10 * L.length := by
  intro L
  induction L with
  | nil => exact Nat.le_refl _
  | cons fr L ih =>
    rw [List.flatMap_cons, List.length_append, List.length_cons]
    have : (wyB D fr).length ≤ 10 := by
      unfold wyB
      split
      · exact Nat.zero_le _
      · exact vB_le _
    omega
def fCk (σ τ : SG) : Prop := ∀ b, b ≠ 3 → b ≠ 4 → b ≠ 1097 → b ≠ 1098 → b ≠ 1099 → b ≠ 1100 → sm σ τ b
/-- what a check answers -/
def chS (T E' : List Nat) (D E : List Dc) (x y : Int32) : mm_R × List Nat := match msg D x, msg E y with
  | some m, some u => (.inl (some (.int (nI (ckS T E' D E m u).1))), (ckS T E' D E m u).2)
  | _, _ => (.inr IAE, [])
theorem C_check {U : Nat} {σ : SG} {T E' : List Nat} {D E : List Dc} {x y : Int32} (hU : 210000 < U) (hg : GSc T D) (hh : GSc E' E) (hC : CS σ 5 T D) (hC' : CS σ 197 E' E) : ∃ τ, x_X11_check U 0 x y σ = some ((chS T E' D E x y).1, τ) ∧ RB τ 3 (chS T E' D E x y).2 0 ∧ fCk σ τ := by
  have hU4 : 4000 < U := by omega
  unfold x_X11_check
  obtain ⟨τ1, a1, a2, a3⟩ := X0_clear (σ := σ) (a := 3)
  have C1 : CS τ1 5 T D := CS_sm hC (fun b h1 h2 => a3 b (by omega))
  have C1' : CS τ1 197 E' E := CS_sm hC' (fun b h1 h2 => a3 b (by omega))
  have s6 : sh 6 = 6 := by decide
  have s198 : sh 198 = 6 := by decide
  have m1 : x_X6_message U 6 x τ1 = some (ad 5 (msg D x)) := C_message hU4 cb5 C1 hg.1
  have m2 : x_X6_message U 198 y τ1 = some (ad 197 (msg E y)) := C_message hU4 cb197 C1' hh.1
  have F1 : fCk σ τ1 := fun b h1 _ _ _ _ _ => a3 b h1
  rw [a1, b1_eq, show x_X2_schema 5 τ1 = some (some 6) from rfl, b1_eq, ck_eq s6, m1, b1_eq, show x_X2_schema 197 τ1 = some (some 198) from rfl, b1_eq, ck_eq s198, m2, b1_eq]
  unfold chS x_X11_check_41
  cases hm : msg D x with
  | none =>
    rw [if_pos (show ad 5 none = none from rfl)]
    exact ⟨τ1, rfl, a2, F1⟩
  | some m =>
    rw [if_neg (show ¬ ad 5 (some m) = none by intro z; cases z)]
    cases hu : msg E y with
    | none =>
      rw [if_pos (show ad 197 none = none from rfl)]
      exact ⟨τ1, rfl, a2, F1⟩
    | some u =>
      rw [if_neg (show ¬ ad 197 (some u) = none by intro z; cases z)]
      obtain ⟨hM, _⟩ := msg_some hm
      obtain ⟨hN, _⟩ := msg_some hu
      simp only
      unfold x_X1_compare
      obtain ⟨τ2, b1', b2', b3'⟩ := C_cmp_0 (U := U) (T := T) (E' := E') (D := D) (E := E) (K := fun σ7 => sb (uI σ7 1097 4 0) fun σ8 => b2 (x_X1_enter 1097 (ad 5 (some m)) (ad 197 (some u)) σ8) fun v10 σ11 => x_X1_compare_L38 U 1097 (fun w18 σ19 => b1 (x_X1_tellWay U 1097 σ19) fun σ21 => some (w18, σ21)) U 0 σ11) (v1 := ad 5 (some m)) (v2 := ad 197 (some u)) 256 0 U τ1 (by omega) (by omega) (fun c hc => by omega)
      have b1'' : x_X1_compare_L2 U 1097 (fun σ7 => sb (uI σ7 1097 4 0) fun σ8 => b2 (x_X1_enter 1097 (ad 5 (some m)) (ad 197 (some u)) σ8) fun v10 σ11 => x_X1_compare_L38 U 1097 (fun w18 σ19 => b1 (x_X1_tellWay U 1097 σ19) fun σ21 => some (w18, σ21)) U 0 σ11) (ad 5 (some m)) (ad 197 (some u)) U 0 τ1 = _ := b1'
      rw [b1'', sb_eq]
      have F3 : fKc τ1 (uI τ2 1097 4 0) := fun b q1 _ _ q4 => sm_trans (b3' b q4) (sm_uI q1)
      have K0 : KCs (uI τ2 1097 4 0) T E' D E [] [] := ⟨CS_fKc C1 cb5 F3, CS_fKc C1' cb197 F3, sI_s _ _ _ _, trivial, fun c hc => by
        rw [sI_o (Or.inl (by decide)), b2' c hc, decide_eq_false (by simp)]; rfl⟩
      generalize uI τ2 1097 4 0 = τ3 at *
      obtain ⟨τ4, y1, y2, y3, y4, y5, y6, y7⟩ := (C_enter hg hh K0 (Nat.le_refl _) List.nodup_nil (fun c hc => by cases hc) hM hN).2 (by simp)
      rw [y1, b2_eq]
      have K1 : KCs τ4 T E' D E [(m, u, 0, false)] [cod D E m u] := ⟨CS_fKc K0.1 cb5 y2, CS_fKc K0.2.1 cb197 y2, y3, ⟨y4, y5, trivial⟩, y7⟩
      obtain ⟨⟨r, stk⟩, hr⟩ := kRun_0 hg hh hM hN
      obtain ⟨τ5, met2, z1, z2, z3, z4, z5⟩ := C_cmp_L (U := U) (K := fun w18 σ19 => b1 (x_X1_tellWay U 1097 σ19) fun σ21 => some (w18, σ21)) hU4 hg hh 103000 0 U _ _ τ4 r stk hr (by omega) (by omega) K1 (KI_0 hg hh hM hN)
      have z1' : x_X1_compare_L38 U 1097 (fun w18 σ19 => b1 (x_X1_tellWay U 1097 σ19) fun σ21 => some (w18, σ21)) U 0 τ4 = _ := z1
      have FK := fKc_trans F3 (fKc_trans y2 z4)
      have F5 : fCk σ τ5 := fun b q1 q2 q3 q4 q5 q6 => sm_trans (F1 b q1 q2 q3 q4 q5 q6) (FK b q3 q4 q5 q6)
      have B5 : RB τ5 3 [] 0 := a2.sm (FK 3 (by decide) (by decide) (by decide) (by decide)) (FK 4 (by decide) (by decide) (by decide) (by decide))
      rw [z1']
      unfold ckS
      rw [hr]
      simp only
      by_cases q0 : r = 0
      · rw [if_pos q0, if_pos q0, b2_eq]
        exact ⟨τ5, rfl, B5, F5⟩
      · rw [if_neg q0, if_neg q0]
        obtain ⟨k1, k2, k3, k4, k5⟩ := z3
        have hlen : stk.length ≤ 256 := by
          have := nd_len 256 _ k4 0 (fun a ha => ⟨Nat.zero_le _, k5 a ha⟩)
          omega
        have B5' : RW τ5 3 ([], 0) := B5
        obtain ⟨τ6, w1, w2, w3⟩ := C_way_L (U := U) (stk := stk) hU4 hg (fun fr hfr => (k1 fr hfr).1) hlen stk.length 0 U τ5 ([], 0) (by omega) (by omega) z2.1 z2.2.2.1 z2.2.2.2.1 B5'
        have w1' : x_X1_tellWay U 1097 τ5 = some τ6 := w1
        rw [w1', b1_eq, b2_eq]
        have hwl := wy_len (D := D) stk.reverse
        rw [List.length_reverse] at hwl
        rw [List.drop_zero, wrL_fit _ _ (by show 0 + _ ≤ 4000; omega)] at w2
        exact ⟨τ6, rfl, w2, fun b q1 q2 q3 q4 q5 q6 => sm_trans (F5 b q1 q2 q3 q4 q5 q6) (w3 b q1 q2)⟩
/-! ===== check: the reference's questions ===== -/
theorem N_fresh {U u x : Nat} {σ : SG} {E' : List Nat} {E : List Dc} (hU : 4000 < U) (hh : GSc E' E) (h : RS σ 1 E' E) (hN : isM E u) (hx : x ≤ 536870911) : x_X12_freshNumbered U 1101 (nI (ordM E u)) (nI x) σ = some (fIx E 1 (fOf E u x)) := by
  have := N_freshNumbered (v := nI x) hU hh h hN
  rw [show nI (ordM E u) = nI (cnt (E.take u) 0) from rfl, this]
  congr 2
  unfold fOf
  apply find_congr
  intro i hi
  obtain ⟨e, he⟩ := (chF_mem hh hN).mp hi
  have hnu := hh.nu he.1 he.2.1
  exact decide_eq_decide.mpr (nI_eq (by omega) (by omega))
/-- a lower field that tears -/
def JP (D E : List Dc) (m u f g i : Nat) (d : Dc) : Prop := dS d = some m ∧ nmn D i < nmn D f ∧ dOo E g ≠ none ∧ trnP D E u f g i = true
theorem N_joined_L {U m u f g : Nat} {σ : SG} {T E' : List Nat} {D E : List Dc} {d e : Dc} (hU : 4000 < U) (hg : GSc T D) (hh : GSc E' E) (hS : RS σ 0 T D) (hS' : RS σ 1 E' E) (hM : isM D m) (hN : isM E u) (hd : isF D m f d) (he : isF E u g e) : ∀ (j q U1 : Nat), q + j = cnt D 2 → j < U1 → ((∃ i x, D[i]? = some x ∧ dK x = 2 ∧ q ≤ cnt (D.take i) 2 ∧ JP D E m u f g i x) → x_X12_joined_L3 U 1101 (nI (ordM D m)) (nI (ordM E u)) (nI (fx D 0 f)) (nI (fx E 1 g)) σ U1 (nI q) = some 1) ∧ ((¬ ∃ i x, D[i]? = some x ∧ dK x = 2 ∧ q ≤ cnt (D.take i) 2 ∧ JP D E m u f g i x) → x_X12_joined_L3 U 1101 (nI (ordM D m)) (nI (ordM E u)) (nI (fx D 0 f)) (nI (fx E 1 g)) σ U1 (nI q) = some 0) := by
  have hl := hg.2.1
  have hl' := hh.2.1
  obtain ⟨l0, l1, l2, l3, l4, l5⟩ := lim_of hS.1
  have hc : sI σ 1106 0 = nI (cnt D 2) := hS.2.1 2 (by decide)
  obtain ⟨f1, _, f3, _, _, _, _, f8⟩ := hS.f hd.1 hd.2.1
  obtain ⟨g1, _, g3, _, _, _, _, g8⟩ := hS'.f he.1 he.2.1
  have hfl : fx D 0 f < 60 := by omega
  have enone : oq D 4 (dO d) = -1 ↔ dO d = none := oq_inj (q := 4) (o := dO d) (o' := none) hl (hg.1.one hd.1 hd.2.1) (fun m hm => by cases hm)
  have enone' : oq E 4 (dO e) = -1 ↔ dO e = none := oq_inj (q := 4) (o := dO e) (o' := none) hl' (hh.1.one he.1 he.2.1) (fun m hm => by cases hm)
  have z0 : (0 : Int32) = nI 0 := rfl
  intro j
  induction j with
  | zero =>
    intro q U1 hq hu
    obtain ⟨V, rfl⟩ : ∃ V, U1 = V + 1 := ⟨U1 - 1, by omega⟩
    refine ⟨fun ⟨i, x, hx, h2, hqi, _⟩ => ?_, fun _ => ?_⟩
    · have := cnt_take_lt hx h2
      omega
    · rw [x_X12_joined_L3, z0, ix_in (by decide) (by decide), hc, if_neg (fun z => by have := (ltI (by omega) (by omega)).mp z; omega)]
  | succ j ih =>
    intro q U1 hq hu
    obtain ⟨V, rfl⟩ : ∃ V, U1 = V + 1 := ⟨U1 - 1, by omega⟩
    obtain ⟨i, x, hx, hk, hi⟩ := plc (D := D) (q := 2) q (by omega)
    have row := (hS.2.2 i x hx).2.2.1 hk
    rw [hi, Nat.mul_zero, Nat.zero_add] at row
    have hix : nmn D i = (dN x).2 := nmn_some hx
    have hfx : nmn D f = (dN d).2 := nmn_some hd.1
    have hbx := (hg.fld hx hk).2.2.1
    have hbd := (hg.fld hd.1 hd.2.1).2.2.1
    obtain ⟨ihy, ihn⟩ := ih (q + 1) V (by omega) (by omega)
    -- whether this field tears
    have stp : (JP D E m u f g i x → x_X12_joined_L3 U 1101 (nI (ordM D m)) (nI (ordM E u)) (nI (fx D 0 f)) (nI (fx E 1 g)) σ (V + 1) (nI q) = some 1) ∧ (¬ JP D E m u f g i x → x_X12_joined_L3 U 1101 (nI (ordM D m)) (nI (ordM E u)) (nI (fx D 0 f)) (nI (fx E 1 g)) σ (V + 1) (nI q) = x_X12_joined_L3 U 1101 (nI (ordM D m)) (nI (ordM E u)) (nI (fx D 0 f)) (nI (fx E 1 g)) σ V (nI (q + 1))) := by
      have hlt : nI (dN x).2 < nI (dN d).2 ↔ (dN x).2 < (dN d).2 := ltI (by omega) (by omega)
      have eo : oq D 4 (dO x) = oq D 4 (dO d) ↔ dO x = dO d := oq_inj (q := 4) hl (hg.1.one hx hk) (hg.1.one hd.1 hd.2.1)
      have ho : oq D 0 (dS x) = nI (ordM D m) ↔ dS x = some m := isM_oq hl hM (hg.1.scK hx)
      have hfr := N_fresh (U := U) (x := (dN x).2) hU hh hS' hN hbx
      have sk56 : x_X12_joined_56 U 1101 (x_X12_joined_L3 U 1101 (nI (ordM D m)) (nI (ordM E u)) (nI (fx D 0 f)) (nI (fx E 1 g)) σ V) (nI (ordM D m)) (nI (ordM E u)) (nI (fx D 0 f)) (nI (fx E 1 g)) (nI q) σ = x_X12_joined_L3 U 1101 (nI (ordM D m)) (nI (ordM E u)) (nI (fx D 0 f)) (nI (fx E 1 g)) σ V (nI (q + 1)) := by
        unfold x_X12_joined_56 x_X12_joined_57 x_X12_joined_89 x_X12_joined_90 x_X12_joined_133
        rw [ix_in (by omega) (by decide), if_pos (show (-1 : Int32) = -1 from rfl), if_pos (show (-1 : Int32) = -1 from rfl), nI_1, ix_in (by omega) (by decide), ix_in (by omega) (by decide), ite_self, ite_self]
      rw [x_X12_joined_L3, z0, ix_in (by decide) (by decide), hc, if_pos ((ltI (by omega) (by omega)).mpr (by omega)), ix_in (by omega) (by decide), row.1, ifd ho, ix_in (by omega) (by decide), ix_in (by omega) (by decide), row.2.2.1, f3, ifd hlt, ix_in (by omega) (by decide), row.2.2.1, hfr, b1_eq, sk56]
      unfold JP
      rw [hix, hfx]
      by_cases q1 : dS x = some m
      · rw [if_pos q1]
        by_cases q2 : (dN x).2 < (dN d).2
        · rw [if_pos q2]
          unfold x_X12_joined_57 x_X12_joined_89 x_X12_joined_90 x_X12_joined_133
          rw [ix_in (i := fx D 0 f) (by omega) (by decide), f8, ifd enone, ix_in (i := q) (by omega) (by decide), ix_in (i := fx D 0 f) (by omega) (by decide), row.2.2.2.2.2.2.2, f8, ifd eo, nI_1, ix_in (i := fx E 1 g) (by omega) (by decide), g8, ifd enone', if_pos (show (0 : Int32) = 0 from rfl), if_neg (show ¬ (1 : Int32) = 0 by decide)]
          unfold trnP
          rw [hix]
          cases hfo : fOf E u (dN x).2 with
          | none =>
            rw [if_pos (show fIx E 1 none = -1 from rfl), if_pos (show fIx E 1 none = -1 from rfl), ite_self, ite_self]
            exact ⟨fun z => (by have z4 := z.2.2.2; cases z4), fun _ => rfl⟩
          | some i' =>
            obtain ⟨y, hy⟩ := fOf_isF hh hN hfo
            obtain ⟨y1, _, _, _, _, _, _, y8⟩ := hS'.f hy.1 hy.2.1
            have hne : ¬ fIx E 1 (some i') = -1 := fun z => nI_neg (by omega : fx E 1 i' < 2 ^ 31) (by show nI (fx E 1 i') < 0; rw [show nI (fx E 1 i') = -1 from z]; decide)
            have eo' : oq E 4 (dO y) = oq E 4 (dO e) ↔ dO y = dO e := oq_inj (q := 4) hl' (hh.1.one hy.1 hy.2.1) (hh.1.one he.1 he.2.1)
            rw [if_neg hne, if_neg hne, show fIx E 1 (some i') = nI (fx E 1 i') from rfl, ix_in (show fx E 1 i' < 120 by omega) (by decide), ix_in (show fx E 1 g < 120 by omega) (by decide), y8, g8, ifd eo']
            simp only
            rw [dOo_some hy.1, dOo_some he.1, dOo_some hx, dOo_some hd.1]
            by_cases p1 : dO e = none
            · rw [if_pos p1, ite_self, ite_self]
              exact ⟨fun z => absurd p1 z.2.2.1, fun _ => rfl⟩
            rw [if_neg p1]
            by_cases p2 : dO y = dO e
            · rw [if_pos p2, decide_eq_true p2, Bool.true_and]
              by_cases p3 : dO d = none
              · rw [if_pos p3]
                refine ⟨fun _ => rfl, fun z => absurd ⟨q1, q2, p1, ?_⟩ z⟩
                by_cases p4 : dO x = none
                · rw [decide_eq_false (fun y => y p4)]; try rfl
                · rw [decide_eq_false (show ¬ dO x = dO d from fun y => p4 (y.trans p3)), Bool.and_false]; try rfl
              · rw [if_neg p3]
                by_cases p4 : dO x = dO d
                · rw [if_pos p4]
                  refine ⟨fun z => ?_, fun _ => rfl⟩
                  have := z.2.2.2
                  rw [decide_eq_true p4, decide_eq_true (show dO x ≠ none from fun y => p3 (p4.symm.trans y))] at this
                  cases this
                · rw [if_neg p4]
                  exact ⟨fun _ => rfl, fun z => absurd ⟨q1, q2, p1, by rw [decide_eq_false p4, Bool.and_false]; rfl⟩ z⟩
            · rw [if_neg p2, decide_eq_false p2, Bool.false_and, ite_self, ite_self]
              exact ⟨fun z => absurd z.2.2.2 (by decide), fun _ => rfl⟩
        · rw [if_neg q2]
          exact ⟨fun z => absurd z.2.1 q2, fun _ => rfl⟩
      · rw [if_neg q1]
        exact ⟨fun z => absurd z.1 q1, fun _ => rfl⟩
    by_cases hJ : JP D E m u f g i x
    · refine ⟨fun _ => stp.1 hJ, fun hno => absurd ⟨i, x, hx, hk, by omega, hJ⟩ hno⟩
    · rw [stp.2 hJ]
      refine ⟨fun ⟨i', x', hx', hk', hqi, hJ'⟩ => ihy ⟨i', x', hx', hk', ?_, hJ'⟩, fun hno => ihn (fun ⟨i', x', hx', hk', hqi, hJ'⟩ => hno ⟨i', x', hx', hk', by omega, hJ'⟩)⟩
      by_cases z : cnt (D.take i') 2 = q
      · have := ord_inj hx' hk' hx hk (by omega)
        subst this
        rw [hx] at hx'
        cases hx'
        exact absurd hJ' hJ
      · omega
theorem N_joined {U m u f g : Nat} {σ : SG} {T E' : List Nat} {D E : List Dc} {d e : Dc} (hU : 4000 < U) (hg : GSc T D) (hh : GSc E' E) (hS : RS σ 0 T D) (hS' : RS σ 1 E' E) (hM : isM D m) (hN : isM E u) (hd : isF D m f d) (he : isF E u g e) : x_X12_joined U 1101 (nI (ordM D m)) (nI (ordM E u)) (nI (fx D 0 f)) (nI (fx E 1 g)) σ = some (zI (trn D E m u f g)) := by
  obtain ⟨l0, l1, l2, l3, l4, l5⟩ := lim_of hS.1
  obtain ⟨k1, k2⟩ := N_joined_L (U := U) hU hg hh hS hS' hM hN hd he (cnt D 2) 0 U (by omega) (by omega)
  have hz : x_X12_joined U 1101 (nI (ordM D m)) (nI (ordM E u)) (nI (fx D 0 f)) (nI (fx E 1 g)) σ = x_X12_joined_L3 U 1101 (nI (ordM D m)) (nI (ordM E u)) (nI (fx D 0 f)) (nI (fx E 1 g)) σ U (nI 0) := rfl
  rw [hz]
  have iff : trn D E m u f g = true ↔ ∃ i x, D[i]? = some x ∧ dK x = 2 ∧ 0 ≤ cnt (D.take i) 2 ∧ JP D E m u f g i x := by
    unfold trn
    rw [Bool.and_eq_true, List.any_eq_true, decide_eq_true_iff]
    constructor
    · rintro ⟨h1, h, hm, h2⟩
      rw [Bool.and_eq_true, decide_eq_true_iff] at h2
      obtain ⟨x, hx⟩ := (chF_mem hg hM).mp hm
      exact ⟨h, x, hx.1, hx.2.1, Nat.zero_le _, hx.2.2, h2.1, h1, h2.2⟩
    · rintro ⟨i, x, hx, hk, _, j1, j2, j3, j4⟩
      refine ⟨j3, i, (chF_mem hg hM).mpr ⟨x, hx, hk, j1⟩, ?_⟩
      rw [Bool.and_eq_true, decide_eq_true_iff]
      exact ⟨j2, j4⟩
  cases ht : trn D E m u f g with
  | true => exact k1 (iff.mp ht)
  | false => exact k2 (fun z => by rw [iff.mpr z] at ht; cases ht)
/-! ===== check: the reference's loop ===== -/
def RFs (D E : List Dc) (σ : SG) : List Fr → Prop
  | [] => True
  | fr :: Q => sI σ 1182 Q.length = nI (ordM D fr.1) ∧ sI σ 1183 Q.length = nI (ordM E fr.2.1) ∧ sI σ 1184 Q.length = nI (2 * fr.2.2.1 + (if fr.2.2.2 then 1 else 0)) ∧ RFs D E σ Q
theorem RFs_keep {D E : List Dc} {σ τ : SG} : ∀ (Q : List Fr), RFs D E σ Q → (∀ b k, (b = 1182 ∨ b = 1183 ∨ b = 1184) → k < Q.length → sI τ b k = sI σ b k) → RFs D E τ Q := by
  intro Q
  induction Q with
  | nil => intro _ _; exact trivial
  | cons fr Q ih =>
    intro h hk
    obtain ⟨h1, h2, h3, h4⟩ := h
    exact ⟨(hk 1182 _ (by omega) (by simp)).trans h1, (hk 1183 _ (by omega) (by simp)).trans h2, (hk 1184 _ (by omega) (by simp)).trans h3, ih h4 (fun b k hb hk' => hk b k hb (by simp; omega))⟩
/-- at the end: the fields of the way -/
def RFw (D : List Dc) (σ : SG) : List Fr → Prop
  | [] => True
  | fr :: Q => sI σ 1182 Q.length = nI (ordM D fr.1) ∧ (∃ a, (a = 2 * fr.2.2.1 + 1 ∨ a = 2 * fr.2.2.1 + 2) ∧ sI σ 1184 Q.length = nI a) ∧ RFw D σ Q
theorem RFw_of {D E : List Dc} {σ τ : SG} : ∀ (Q : List Fr), RFs D E σ Q → (∀ fr ∈ Q, fr.2.2.2 = true) → (∀ b k, (b = 1182 ∨ b = 1184) → k < Q.length → sI τ b k = sI σ b k) → RFw D τ Q := by
  intro Q
  induction Q with
  | nil => intro _ _ _; exact trivial
  | cons fr Q ih =>
    intro h hb hk
    obtain ⟨h1, h2, h3, h4⟩ := h
    refine ⟨(hk 1182 _ (by omega) (by simp)).trans h1, ⟨2 * fr.2.2.1 + 1, Or.inl rfl, ?_⟩, ih h4 (fun x hx => hb x (List.mem_cons_of_mem _ hx)) (fun b k hb' hk' => hk b k hb' (by simp; omega))⟩
    rw [hk 1184 _ (by omega) (by simp), h3, hb fr (List.mem_cons_self ..), if_pos rfl]
/-- what a check of the reference touches -/
def PCk (b k : Nat) : Prop := (b = 1101 ∧ k = 106) ∨ (1181 ≤ b ∧ b ≤ 1184)
def KRr (σ : SG) (T E' : List Nat) (D E : List Dc) (stk : List Fr) (met : List Nat) : Prop := RS σ 0 T D ∧ RS σ 1 E' E ∧ sI σ 1101 106 = nI stk.length ∧ RFs D E σ stk ∧ ∀ c, c < 256 → sI σ 1181 c = zI (decide (c ∈ met))
theorem RS_PCk {σ τ : SG} {s : Nat} {T : List Nat} {D : List Dc} (h : RS σ s T D) (hf : fP PCk σ τ) : RS τ s T D := RS_keep h (fun b k hb => (hf b k (by unfold PKP at hb; unfold PCk; omega)).1)
theorem half2 : ∀ a, a < 1000 → nI a / 2 = nI (a / 2) := by decide +kernel
theorem N_open {t v : Nat} {σ : SG} {T E' : List Nat} {D E : List Dc} {n : Nat} (hg : GSc T D) (hh : GSc E' E) (ht : isM D t) (hv : isM E v) (h106 : sI σ 1101 106 = nI n) (hn : n < 256) : ∃ τ, x_X12_open 1101 (nI (ordM D t)) (nI (ordM E v)) σ = some τ ∧ fP PCk σ τ ∧ sI τ 1101 106 = nI (n + 1) ∧ sI τ 1182 n = nI (ordM D t) ∧ sI τ 1183 n = nI (ordM E v) ∧ sI τ 1184 n = nI 0 ∧ (∀ b k, (b = 1182 ∨ b = 1183 ∨ b = 1184) → k ≠ n → sI τ b k = sI σ b k) ∧ sI τ 1181 (cod D E t v) = zI true ∧ ∀ c, c ≠ cod D E t v → sI τ 1181 c = sI σ 1181 c := by
  have hc := cod_lt hg hh ht hv
  have ecod : (16 : Int32) * nI (ordM D t) + nI (ordM E v) = nI (cod D E t v) := by
    have e : (16 : Int32) * nI (ordM D t) = nI (16 * ordM D t) := pk_mul 16 _
    rw [e, nI_add, Nat.mul_comm]; try rfl
  unfold x_X12_open
  rw [ecod, ix_in hc (by decide), sb_eq, sI_o (Or.inl (by decide)), h106, ix_in (by omega) (by decide), sb_eq, sI_o (Or.inl (by decide)), sI_o (Or.inl (by decide)), h106, ix_in (by omega) (by decide), sb_eq, sI_o (Or.inl (by decide)), sI_o (Or.inl (by decide)), sI_o (Or.inl (by decide)), h106, ix_in (by omega) (by decide), sb_eq, sb_eq, sI_o (Or.inl (by decide)), sI_o (Or.inl (by decide)), sI_o (Or.inl (by decide)), sI_o (Or.inl (by decide)), h106, nI_1]
  refine ⟨_, rfl, fP_trans (fP_trans (fP_trans (fP_trans (fP_u ?_) (fP_u ?_)) (fP_u ?_)) (fP_u ?_)) (fP_u ?_), sI_s _ _ _ _, ?_, ?_, ?_, fun b k hb hk => ?_, ?_, fun c hc' => ?_⟩
  · unfold PCk; omega
  · unfold PCk; omega
  · unfold PCk; omega
  · unfold PCk; omega
  · unfold PCk; omega
  · rw [sI_o (Or.inl (by decide)), sI_o (Or.inl (by decide)), sI_o (Or.inl (by decide)), sI_s]
  · rw [sI_o (Or.inl (by decide)), sI_o (Or.inl (by decide)), sI_s]
  · rw [sI_o (Or.inl (by decide)), sI_s]; try rfl
  · rw [sI_o (by omega), sI_o (by omega), sI_o (by omega), sI_o (by omega), sI_o (by omega)]
  · rw [sI_o (Or.inl (by decide)), sI_o (Or.inl (by decide)), sI_o (Or.inl (by decide)), sI_o (Or.inl (by decide)), sI_s]; exact nar19
  · rw [sI_o (Or.inl (by decide)), sI_o (Or.inl (by decide)), sI_o (Or.inl (by decide)), sI_o (Or.inl (by decide)), sI_o (Or.inr hc')]
/-- one step of the reference, by what it finds -/
theorem N_cstep {U m u k a : Nat} {b : Bool} {n : Nat} {σ : SG} {T E' : List Nat} {D E : List Dc} (hU : 4000 < U) (hg : GSc T D) (hh : GSc E' E) (hS : RS σ 0 T D) (hS' : RS σ 1 E' E) (hM : isM D m) (hN : isM E u) (h106 : sI σ 1101 106 = nI (n + 1)) (hn : n < 256) (h82 : sI σ 1182 n = nI (ordM D m)) (h83 : sI σ 1183 n = nI (ordM E u)) (h84 : sI σ 1184 n = nI a) (ha : a = 2 * k + (if b then 1 else 0)) (hk : k < 300) :
    ((chF D m)[k]? = none → x_X12_checkStep U 1101 σ = some (0, uI σ 1101 106 (nI n))) ∧
    ∀ f d, (chF D m)[k]? = some f → isF D m f d → ((fOf E u (nmn D f) = none → x_X12_checkStep U 1101 σ = some (0, uI σ 1184 n (nI (a + 1)))) ∧ ∀ g e, fOf E u (nmn D f) = some g → isF E u g e → ((b = true → x_X12_checkStep U 1101 σ = some (if trn D E m u f g then 3 else 0, uI σ 1184 n (nI (a + 1)))) ∧ (b = false → (dR d ≠ dR e → x_X12_checkStep U 1101 σ = some (1, uI σ 1184 n (nI (a + 1)))) ∧ (dR d = dR e → und (fty T D d) (fty E' E e) = false → x_X12_checkStep U 1101 σ = some (2, uI σ 1184 n (nI (a + 1)))) ∧ (dR d = dR e → und (fty T D d) (fty E' E e) = true → x_X12_checkStep U 1101 σ = x_X12_checkStep_180 U 1101 (nI (fx D 0 f)) (nI (fx E 1 g)) (uI σ 1184 n (nI (a + 1))))))) := by
  have e1 : nI (n + 1) - 1 = nI n := nI_sub (b := 1) (by omega)
  have ek : a / 2 = k := by rw [ha]; split <;> omega
  have ha1 : a < 1000 := by rw [ha]; split <;> omega
  have hmA : mAt (chF D m) (nI k) = (chF D m)[k]? := by unfold mAt; rw [if_neg (nI_neg (by omega)), clampN (by omega)]
  have hodd : nI a - nI k * 2 = nI (if b then 1 else 0) := by
    have e : nI k * 2 = nI (k * 2) := pk_mul k 2
    rw [e, nI_sub (by omega)]
    congr 1
    rw [ha]
    split <;> omega
  have hfa := N_fieldAt (U := U) (s := 0) (x := nI k) hU (by decide) hg hS hM
  have hfa' : x_X12_fieldAt U 1101 0 (nI (ordM D m)) (nI k) σ = some (fIx D 0 ((chF D m)[k]?)) := by rw [← hmA]; exact hfa
  unfold x_X12_checkStep
  rw [h106, e1, ix_in (by omega) (by decide), ix_in (by omega) (by decide), h82, h84, half2 a ha1, ek, hfa', b1_eq]
  refine ⟨fun hf => ?_, fun f d hf hd => ?_⟩
  · rw [hf, if_pos (show fIx D 0 none = -1 from rfl), sb_eq]
  obtain ⟨f1, _, f3, f4, f5, f6, _, f8⟩ := hS.f hd.1 hd.2.1
  have hne : ¬ nI (fx D 0 f) = -1 := fun z => nI_neg (by omega : fx D 0 f < 2 ^ 31) (by rw [z]; decide)
  have hbd := (hg.fld hd.1 hd.2.1).2.2.1
  have hft : fty T D d ≤ 14 := dTy_lt (hg.fld hd.1 hd.2.1).2.2.2.1
  have hfr := N_fresh (U := U) (x := (dN d).2) hU hh hS' hN hbd
  have hnf : nmn D f = (dN d).2 := nmn_some hd.1
  have F1 : fP PCk σ (uI σ 1184 n (nI (a + 1))) := fP_u (by unfold PCk; omega)
  have S1 := RS_PCk hS F1
  have S1' := RS_PCk hS' F1
  have x82 : sI (uI σ 1184 n (nI (a + 1))) 1182 n = nI (ordM D m) := (sI_o (Or.inl (by decide))).trans h82
  have x83 : sI (uI σ 1184 n (nI (a + 1))) 1183 n = nI (ordM E u) := (sI_o (Or.inl (by decide))).trans h83
  have eb : nI (if b then 1 else 0) = 0 ↔ b = false := by cases b <;> decide
  rw [hf, show fIx D 0 (some f) = nI (fx D 0 f) from rfl, if_neg hne, ix_in (by omega) (by decide), ix_in (by omega) (by decide), h83, f3, hfr, b1_eq, ix_in (by omega) (by decide), h84, half2 a ha1, ek, hodd, ifd eb, hnf]
  unfold x_X12_checkStep_77
  rw [ix_in (show n < 260 by omega) (by decide), ix_in (show n < 260 by omega) (by decide), ix_in (show n < 260 by omega) (by decide), ix_in (show n < 260 by omega) (by decide), h84, nI_1, sb_eq, sb_eq]
  generalize uI σ 1184 n (nI (a + 1)) = σ1 at *
  refine ⟨fun hgn => ?_, fun g e hgs he => ?_⟩
  · rw [hgn, if_pos (show fIx E 1 none = -1 from rfl), if_pos (show fIx E 1 none = -1 from rfl), ite_self]
  obtain ⟨g1, _, g3, g4, g5, g6, _, g8⟩ := S1'.f he.1 he.2.1
  obtain ⟨k1, _, k3, k4, k5, k6, _, k8⟩ := S1.f hd.1 hd.2.1
  have hfu : fty E' E e ≤ 14 := dTy_lt (hh.fld he.1 he.2.1).2.2.2.1
  have hneg : ¬ nI (fx E 1 g) = -1 := fun z => nI_neg (by omega : fx E 1 g < 2 ^ 31) (by rw [z]; decide)
  have er : zI (dR d) = zI (dR e) ↔ dR d = dR e := by cases dR d <;> cases dR e <;> decide
  have et : nI (fty T D d) = nI (fty E' E e) ↔ fty T D d = fty E' E e := nI_eq (by omega) (by omega)
  rw [hgs, show fIx E 1 (some g) = nI (fx E 1 g) from rfl, if_neg hneg, if_neg hneg]
  refine ⟨fun hb => ?_, fun hb => ?_⟩
  · rw [if_neg (show ¬ b = false from fun z => by rw [hb] at z; cases z), if_pos (show (0 : Int32) = 0 from rfl), ix_in (show n < 260 by omega) (by decide), ix_in (show n < 260 by omega) (by decide), x82, x83, N_joined hU hg hh S1 S1' hM hN hd he, b1_eq, ifz]
    split <;> rfl
  · rw [if_pos hb, if_neg (show ¬ (1 : Int32) = 0 by decide), ix_in (i := fx D 0 f) (by omega) (by decide), ix_in (i := fx E 1 g) (by omega) (by decide), k6, g6, ifd er]
    refine ⟨fun q1 => by rw [if_neg q1], fun q1 q2 => ?_, fun q1 q2 => ?_⟩
    · rw [if_pos q1, ix_in (i := fx D 0 f) (by omega) (by decide), ix_in (i := fx E 1 g) (by omega) (by decide), k4, g4, ifd et]
      have hu := N_und (fty T D d) (by omega) (fty E' E e) (by omega)
      have hne' : fty T D d ≠ fty E' E e := fun z => by rw [hu.1 z] at q2; cases q2
      rw [if_neg hne', ix_in (i := fx D 0 f) (by omega) (by decide), ix_in (i := fx E 1 g) (by omega) (by decide), k4, g4, hu.2 hne', b1_eq, q2, if_pos (show zI false = 0 from rfl)]
    · rw [if_pos q1, ix_in (i := fx D 0 f) (by omega) (by decide), ix_in (i := fx E 1 g) (by omega) (by decide), k4, g4, ifd et]
      have hu := N_und (fty T D d) (by omega) (fty E' E e) (by omega)
      by_cases hne' : fty T D d = fty E' E e
      · rw [if_pos hne']
      · rw [if_neg hne', ix_in (i := fx D 0 f) (by omega) (by decide), ix_in (i := fx E 1 g) (by omega) (by decide), k4, g4, hu.2 hne', b1_eq, q2, if_neg (show ¬ zI true = 0 by decide)]
/-- one step of the spec, done by the reference -/
theorem N_kstep {U : Nat} {fr : Fr} {Q : List Fr} {met : List Nat} {σ : SG} {T E' : List Nat} {D E : List Dc} {K : Int32 → SG → Option (Int32 × SG)} (hU : 4000 < U) (hg : GSc T D) (hh : GSc E' E) (h : KRr σ T E' D E (fr :: Q) met) (hK : KI T E' D E (fr :: Q) met) : ((kSt T E' D E (fr :: Q) met).1 = 0 → ∃ τ, (∃ c, c ≤ 2 ∧ 1 ≤ c ∧ ∀ V, x_X12_check_L75 U 1101 K (V + 2) 0 σ = x_X12_check_L75 U 1101 K (V + 2 - c) 0 τ) ∧ KRr τ T E' D E (kSt T E' D E (fr :: Q) met).2.1 (kSt T E' D E (fr :: Q) met).2.2 ∧ fP PCk σ τ) ∧ ((kSt T E' D E (fr :: Q) met).1 ≠ 0 → ∃ τ, (∀ V, x_X12_check_L75 U 1101 K (V + 3) 0 σ = K (nI (kSt T E' D E (fr :: Q) met).1) τ) ∧ RS τ 0 T D ∧ sI τ 1101 106 = nI (kSt T E' D E (fr :: Q) met).2.1.length ∧ RFw D τ (kSt T E' D E (fr :: Q) met).2.1 ∧ fP PCk σ τ) := by
  obtain ⟨m, u, k, b⟩ := fr
  obtain ⟨s1, s2, s3, ⟨r1, r2, r3, r4⟩, s5⟩ := h
  obtain ⟨i1, i2, i3, i4, i5⟩ := id hK
  obtain ⟨hM, hN, hP⟩ := i1 _ (List.mem_cons_self ..)
  have hM' : isM D m := hM
  have hN' : isM E u := hN
  have i2' : ∀ fr ∈ Q, fr.2.2.2 = true := i2
  rw [List.length_cons] at s3 i3
  have hm256 : met.length ≤ 256 := by
    have := nd_len 256 _ i4 0 (fun a ha => ⟨Nat.zero_le _, i5 a ha⟩)
    omega
  have hn : Q.length < 256 := by omega
  have r1' : sI σ 1182 Q.length = nI (ordM D m) := r1
  have r2' : sI σ 1183 Q.length = nI (ordM E u) := r2
  have r3' : sI σ 1184 Q.length = nI (2 * k + (if b then 1 else 0)) := r3
  have pos : ∀ (x : Nat), x < 300 → (0 : Int32) < nI (x + 1) := fun x hx => (ltI (a := 0) (by decide) (by omega)).mpr (by omega)
  -- a step of the loop
  have lp : ∀ (υ ψ : SG) (V : Nat) (r : Int32), sI υ 1101 106 = nI (Q.length + 1) → x_X12_checkStep U 1101 υ = some (r, ψ) → x_X12_check_L75 U 1101 K (V + 1) 0 υ = x_X12_check_L75 U 1101 K V r ψ := by
    intro υ ψ V r h1 h2
    rw [x_X12_check_L75, h1, if_pos (pos _ (by omega)), if_pos (show (0 : Int32) = 0 from rfl), h2, b2_eq]
  have fin : ∀ (ψ : SG) (V n : Nat) (r : Int32), n < 300 → sI ψ 1101 106 = nI (n + 1) → r ≠ 0 → x_X12_check_L75 U 1101 K (V + 1) r ψ = K r ψ := by
    intro ψ V n r hn h1 h2
    rw [x_X12_check_L75, h1, if_pos (pos _ hn), if_neg h2]
  have hch := chF_len (a := m) hg.2.1
  -- the top's place
  have up84 : ∀ (υ : SG) (x : Nat), RS υ 0 T D → RS υ 1 E' E → sI υ 1101 106 = nI (Q.length + 1) → fP PCk σ υ → (∀ b k, (b = 1182 ∨ b = 1183) → sI υ b k = sI σ b k) → (∀ k, k < Q.length → sI υ 1184 k = sI σ 1184 k) → (∀ c, sI υ 1181 c = sI σ 1181 c) → RS (uI υ 1184 Q.length (nI x)) 0 T D ∧ RS (uI υ 1184 Q.length (nI x)) 1 E' E ∧ sI (uI υ 1184 Q.length (nI x)) 1101 106 = nI (Q.length + 1) ∧ fP PCk σ (uI υ 1184 Q.length (nI x)) ∧ (∀ b k, (b = 1182 ∨ b = 1183) → sI (uI υ 1184 Q.length (nI x)) b k = sI σ b k) ∧ (∀ k, k < Q.length → sI (uI υ 1184 Q.length (nI x)) 1184 k = sI σ 1184 k) ∧ (∀ c, sI (uI υ 1184 Q.length (nI x)) 1181 c = sI σ 1181 c) ∧ sI (uI υ 1184 Q.length (nI x)) 1184 Q.length = nI x := by
    intro υ x a1 a2 a3 a4 a5 a6 a7
    have F : fP PCk υ (uI υ 1184 Q.length (nI x)) := fP_u (by unfold PCk; omega)
    exact ⟨RS_PCk a1 F, RS_PCk a2 F, (sI_o (Or.inl (by decide))).trans a3, fP_trans a4 F, fun b k hb => (sI_o (Or.inl (by omega))).trans (a5 b k hb), fun k hk => (sI_o (Or.inr (by omega))).trans (a6 k hk), fun c => (sI_o (Or.inl (by decide))).trans (a7 c), sI_s _ _ _ _⟩
  have base := up84 σ (2 * k + (if b then 1 else 0) + 1) s1 s2 s3 (fP_refl _ σ) (fun _ _ _ => rfl) (fun _ _ => rfl) (fun _ => rfl)
  -- on to the next field
  have nextK : ∀ (υ : SG), RS υ 0 T D → RS υ 1 E' E → sI υ 1101 106 = nI (Q.length + 1) → (∀ b k, (b = 1182 ∨ b = 1183) → sI υ b k = sI σ b k) → (∀ k, k < Q.length → sI υ 1184 k = sI σ 1184 k) → (∀ c, sI υ 1181 c = sI σ 1181 c) → sI υ 1184 Q.length = nI (2 * k + 2) → KRr υ T E' D E ((m, u, k + 1, false) :: Q) met := by
    intro υ a1 a2 a3 a5 a6 a7 a8
    refine ⟨a1, a2, by rw [List.length_cons]; exact a3, ⟨(a5 1182 _ (by omega)).trans r1, (a5 1183 _ (by omega)).trans r2, ?_, RFs_keep Q r4 (fun b k hb hk => ?_)⟩, fun c hc => (a7 c).trans (s5 c hc)⟩
    · show sI υ 1184 Q.length = nI (2 * (k + 1) + (if false = true then 1 else 0))
      rw [a8, if_neg (by decide)]
      congr 1
    · rcases hb with z | z | z
      · rw [z]; exact a5 1182 k (by omega)
      · rw [z]; exact a5 1183 k (by omega)
      · rw [z]; exact a6 k hk
  -- the way where it stops
  have wayK : ∀ (υ : SG) (x : Nat), (x = 2 * k + 1 ∨ x = 2 * k + 2) → (∀ b k, (b = 1182 ∨ b = 1183) → sI υ b k = sI σ b k) → (∀ k, k < Q.length → sI υ 1184 k = sI σ 1184 k) → sI υ 1184 Q.length = nI x → RFw D υ ((m, u, k, b) :: Q) := by
    intro υ x hx a5 a6 a8
    refine ⟨(a5 1182 _ (by omega)).trans r1, ⟨x, hx, a8⟩, RFw_of Q r4 i2' (fun b k hb hk => ?_)⟩
    rcases hb with z | z
    · rw [z]; exact a5 1182 k (by omega)
    · rw [z]; exact a6 k hk
  have hk300 : k < 300 := by have : k ≤ (chF D m).length := hP.2; omega
  have cs := N_cstep (U := U) (k := k) (b := b) hU hg hh s1 s2 hM' hN' s3 hn r1' r2' r3' rfl hk300
  obtain ⟨c1, c2⟩ := cs
  obtain ⟨b1, b2, b3, b4, b5, b6, b7, b8⟩ := base
  rcases kSt_cases (k := k) (b := b) (Q := Q) (met := met) hg hh hM' hN' with ⟨hf, e⟩ | ⟨f, d, hf, hd, hrest⟩
  · rw [e]
    refine ⟨fun _ => ?_, fun z => absurd rfl z⟩
    have F : fP PCk σ (uI σ 1101 106 (nI Q.length)) := fP_u (by unfold PCk; omega)
    refine ⟨_, ⟨1, by decide, by decide, fun V => lp σ _ (V + 1) 0 s3 (c1 hf)⟩, ⟨RS_PCk s1 F, RS_PCk s2 F, sI_s _ _ _ _, RFs_keep Q r4 (fun b k hb _ => sI_o (Or.inl (by omega))), fun c hc => (sI_o (Or.inl (by decide))).trans (s5 c hc)⟩, F⟩
  · obtain ⟨d1, d2⟩ := c2 f d hf hd
    -- the second step, at an odd place
    have second : ∀ (υ : SG), RS υ 0 T D → RS υ 1 E' E → sI υ 1101 106 = nI (Q.length + 1) → (∀ b k, (b = 1182 ∨ b = 1183) → sI υ b k = sI σ b k) → sI υ 1184 Q.length = nI (2 * k + 1) → (fOf E u (nmn D f) = none → x_X12_checkStep U 1101 υ = some (0, uI υ 1184 Q.length (nI (2 * k + 2)))) ∧ ∀ g e, fOf E u (nmn D f) = some g → isF E u g e → x_X12_checkStep U 1101 υ = some (if trn D E m u f g then 3 else 0, uI υ 1184 Q.length (nI (2 * k + 2))) := by
      intro υ a1 a2 a3 a5 a8
      have cs2 := (N_cstep (U := U) (k := k) (b := true) hU hg hh a1 a2 hM' hN' a3 hn ((a5 1182 _ (by omega)).trans r1') ((a5 1183 _ (by omega)).trans r2') a8 (by rw [if_pos rfl]) hk300).2 f d hf hd
      exact ⟨fun hg0 => cs2.1 hg0, fun g e hgs he => (cs2.2 g e hgs he).1 rfl⟩
    rcases hrest with ⟨hgf, e⟩ | ⟨g, x, hgf, hx, hrest⟩
    · rw [e]
      refine ⟨fun _ => ?_, fun z => absurd rfl z⟩
      cases hb : b with
      | true =>
        exfalso
        obtain ⟨f', g', _, _, _, _, y1, y2, _⟩ := hP.1 hb
        have y1' : (chF D m)[k]? = some f' := y1
        rw [hf] at y1'
        cases y1'
        have y2' : fOf E u (nmn D f) = some g' := y2
        rw [hgf] at y2'
        cases y2'
      | false =>
        rw [hb] at d1 b1 b2 b3 b4 b5 b6 b7 b8
        rw [if_neg (show ¬ false = true by decide), Nat.add_zero] at d1 b1 b2 b3 b4 b5 b6 b7 b8
        have st1 := d1 hgf
        generalize uI σ 1184 Q.length (nI (2 * k + 1)) = υ at *
        have st2 := (second υ b1 b2 b3 b5 b8).1 hgf
        obtain ⟨w1, w2, w3, w4, w5, w6, w7, w8⟩ := up84 υ (2 * k + 2) b1 b2 b3 b4 b5 b6 b7
        exact ⟨_, ⟨2, by decide, by decide, fun V => (lp σ υ (V + 1) 0 s3 st1).trans (lp υ _ V 0 b3 st2)⟩, nextK _ w1 w2 w3 w5 w6 w7 w8, w4⟩
    · obtain ⟨p1, p2⟩ := d2 g x hgf hx
      -- at an odd place the oneofs are looked at
      have oddK : ∀ (υ : SG), RS υ 0 T D → RS υ 1 E' E → sI υ 1101 106 = nI (Q.length + 1) → fP PCk σ υ → (∀ b k, (b = 1182 ∨ b = 1183) → sI υ b k = sI σ b k) → (∀ k, k < Q.length → sI υ 1184 k = sI σ 1184 k) → (∀ c, sI υ 1181 c = sI σ 1181 c) → sI υ 1184 Q.length = nI (2 * k + 1) → (trn D E m u f g = false → ∃ τ, (∀ V, x_X12_check_L75 U 1101 K (V + 1) 0 υ = x_X12_check_L75 U 1101 K V 0 τ) ∧ KRr τ T E' D E ((m, u, k + 1, false) :: Q) met ∧ fP PCk σ τ) ∧ (trn D E m u f g = true → ∃ τ, (∀ V, x_X12_check_L75 U 1101 K (V + 2) 0 υ = K 3 τ) ∧ RS τ 0 T D ∧ sI τ 1101 106 = nI (Q.length + 1) ∧ RFw D τ ((m, u, k, b) :: Q) ∧ fP PCk σ τ) := by
        intro υ a1 a2 a3 a4 a5 a6 a7 a8
        have st2 := (second υ a1 a2 a3 a5 a8).2 g x hgf hx
        obtain ⟨w1, w2, w3, w4, w5, w6, w7, w8⟩ := up84 υ (2 * k + 2) a1 a2 a3 a4 a5 a6 a7
        refine ⟨fun ht => ?_, fun ht => ?_⟩
        · rw [ht, if_neg (show ¬ false = true by decide)] at st2
          exact ⟨_, fun V => lp υ _ V 0 a3 st2, nextK _ w1 w2 w3 w5 w6 w7 w8, w4⟩
        · rw [ht, if_pos (show true = true from rfl)] at st2
          exact ⟨_, fun V => (lp υ _ (V + 1) 3 a3 st2).trans (fin _ V Q.length 3 (by omega) w3 (by decide)), w1, w3, wayK _ _ (Or.inr rfl) w5 w6 w8, w4⟩
      cases hb : b with
      | true =>
        -- it was looked at before: only the oneofs are left
        obtain ⟨f', g', d', e', t', v', y1, y2, y3, y4, y5, y6, y7, y8, y9, y10⟩ := hP.1 hb
        have y1' : (chF D m)[k]? = some f' := y1
        rw [hf] at y1'
        cases y1'
        have y2' : fOf E u (nmn D f) = some g' := y2
        rw [hgf] at y2'
        cases y2'
        rw [hd.1] at y3
        cases y3
        rw [hx.1] at y4
        cases y4
        have est : kSt T E' D E ((m, u, k, b) :: Q) met = (if trn D E m u f g then (3, (m, u, k, b) :: Q, met) else (0, (m, u, k + 1, false) :: Q, met)) := by
          rcases hrest with ⟨q1, _⟩ | ⟨_, q2, _⟩ | ⟨q1, q2, ⟨t, v, t1, t2, t3, t4, t5, t6, t7, e⟩ | ⟨t1, e⟩⟩
          · exact absurd y5 q1
          · rw [y6, y7] at q2; exact absurd q2 (by decide)
          · exfalso
            rw [t3] at y8
            cases y8
            rw [t4] at y9
            cases y9
            exact t7 y10
          · exact e
        rw [hb] at est r3'
        rw [if_pos rfl] at r3'
        rw [est]
        have ok := oddK σ s1 s2 s3 (fP_refl _ σ) (fun _ _ _ => rfl) (fun _ _ => rfl) (fun _ => rfl) r3'
        rw [hb] at ok
        cases ht : trn D E m u f g with
        | true =>
          rw [if_pos (show true = true from rfl)]
          refine ⟨fun z => (by cases z), fun _ => ?_⟩
          obtain ⟨τ, t1, t2, t3, t4, t5⟩ := ok.2 ht
          exact ⟨τ, fun V => t1 (V + 1), t2, by show _ = nI ((m, u, k, true) :: Q).length; rw [List.length_cons]; exact t3, t4, t5⟩
        | false =>
          rw [if_neg (show ¬ false = true by decide)]
          refine ⟨fun _ => ?_, fun z => absurd rfl z⟩
          obtain ⟨τ, t1, t2, t3⟩ := ok.1 ht
          exact ⟨τ, ⟨1, by decide, by decide, fun V => t1 (V + 1)⟩, t2, t3⟩
      | false =>
        rw [hb] at p2 b1 b2 b3 b4 b5 b6 b7 b8 hrest oddK wayK
        rw [if_neg (show ¬ false = true by decide), Nat.add_zero] at p2 b1 b2 b3 b4 b5 b6 b7 b8
        obtain ⟨v1, v2, v3⟩ := p2 rfl
        generalize uI σ 1184 Q.length (nI (2 * k + 1)) = υ at *
        rcases hrest with ⟨q1, e⟩ | ⟨q1, q2, e⟩ | ⟨q1, q2, hrest⟩
        · rw [e]
          refine ⟨fun z => (by cases z), fun _ => ?_⟩
          exact ⟨υ, fun V => (lp σ υ (V + 2) 1 s3 (v1 q1)).trans (fin υ (V + 1) Q.length 1 (by omega) b3 (by decide)), b1, by show _ = nI ((m, u, k, false) :: Q).length; rw [List.length_cons]; exact b3, wayK υ _ (Or.inl rfl) b5 b6 b8, b4⟩
        · rw [e]
          refine ⟨fun z => (by cases z), fun _ => ?_⟩
          exact ⟨υ, fun V => (lp σ υ (V + 2) 2 s3 (v2 q1 q2)).trans (fin υ (V + 1) Q.length 2 (by omega) b3 (by decide)), b1, by show _ = nI ((m, u, k, false) :: Q).length; rw [List.length_cons]; exact b3, wayK υ _ (Or.inl rfl) b5 b6 b8, b4⟩
        · have v3' := v3 q1 q2
          obtain ⟨k1, _, _, k4, k5, _⟩ := b1.f hd.1 hd.2.1
          obtain ⟨g1, _, _, g4, g5, _⟩ := b2.f hx.1 hx.2.1
          have hft : fty T D d ≤ 14 := dTy_lt (hg.fld hd.1 hd.2.1).2.2.2.1
          have e13 : nI (fty T D d) = 13 ↔ fty T D d = 13 := nI_eq (b := 13) (by omega) (by decide)
          unfold x_X12_checkStep_180 at v3'
          rw [ix_in (i := fx D 0 f) (by omega) (by decide), k4, ifd e13] at v3'
          have rf : ∀ t v, ftg T D d = some t → ftg E' E x = some v → isM D t → isM E v → sI υ 1119 (fx D 0 f) = nI (ordM D t) ∧ sI υ 1119 (fx E 1 g) = nI (ordM E v) ∧ (16 : Int32) * nI (ordM D t) + nI (ordM E v) = nI (cod D E t v) := by
            intro t v ht hv hMt hMv
            obtain ⟨dt, hdt, ht0⟩ := hMt
            obtain ⟨dv, hdv, hv0⟩ := hMv
            refine ⟨?_, ?_, ?_⟩
            · rw [k5, ht]; show nI (cnt (D.take t) (knd D t)) = _; rw [knd_some hdt, ht0]; try rfl
            · rw [g5, hv]; show nI (cnt (E.take v) (knd E v)) = _; rw [knd_some hdv, hv0]; try rfl
            · have e : (16 : Int32) * nI (ordM D t) = nI (16 * ordM D t) := pk_mul 16 _
              rw [e, nI_add, Nat.mul_comm]; try rfl
          rcases hrest with ⟨t, v, t1, t2, t3, t4, t5, t6, t7, e⟩ | ⟨t1, e⟩
          · rw [e]
            refine ⟨fun _ => ?_, fun z => absurd rfl z⟩
            obtain ⟨x1, x2, x3⟩ := rf t v t3 t4 t5 t6
            have hcl := cod_lt hg hh t5 t6
            have hlook : sI υ 1181 (cod D E t v) = 0 := by rw [b7, s5 _ hcl, decide_eq_false t7]; try rfl
            have hs255 : Q.length + 1 < 256 := by
              have hn2 : (cod D E t v :: met).Nodup := List.nodup_cons.mpr ⟨t7, i4⟩
              have := nd_len 256 _ hn2 0 (fun a ha => ⟨Nat.zero_le _, (List.mem_cons.mp ha).elim (fun z => by rw [z]; exact hcl) (i5 a)⟩)
              rw [List.length_cons] at this
              omega
            obtain ⟨ψ, o1, o2, o3, o4, o5, o6, o7, o8, o9⟩ := N_open hg hh t5 t6 b3 hs255
            rw [if_pos t1, ix_in (i := fx D 0 f) (by omega) (by decide), ix_in (i := fx E 1 g) (by omega) (by decide), x1, x2, x3, ix_in hcl (by decide), hlook, if_pos (show (0 : Int32) = 0 from rfl), ix_in (i := fx D 0 f) (by omega) (by decide), ix_in (i := fx E 1 g) (by omega) (by decide), x1, x2, o1, b1_eq] at v3'
            refine ⟨ψ, ⟨1, by decide, by decide, fun V => lp σ ψ (V + 1) 0 s3 v3'⟩, ⟨RS_PCk b1 o2, RS_PCk b2 o2, by show _ = nI ((t, v, 0, false) :: (m, u, k, true) :: Q).length; rw [List.length_cons, List.length_cons]; exact o3, ⟨by rw [List.length_cons]; exact o4, by rw [List.length_cons]; exact o5, by rw [List.length_cons]; exact o6, ?_, ?_, ?_, ?_⟩, fun c hc => ?_⟩, fP_trans b4 o2⟩
            · exact (o7 1182 Q.length (by omega) (by omega)).trans ((b5 1182 _ (by omega)).trans r1)
            · exact (o7 1183 Q.length (by omega) (by omega)).trans ((b5 1183 _ (by omega)).trans r2)
            · show sI ψ 1184 Q.length = nI (2 * k + (if true = true then 1 else 0))
              rw [if_pos rfl]
              exact (o7 1184 Q.length (by omega) (by omega)).trans b8
            · refine RFs_keep Q r4 (fun b k hb hk => (o7 b k hb (by omega)).trans ?_)
              rcases hb with z | z | z
              · rw [z]; exact b5 1182 k (by omega)
              · rw [z]; exact b5 1183 k (by omega)
              · rw [z]; exact b6 k hk
            · by_cases q : c = cod D E t v
              · rw [q, o8, decide_eq_true (List.mem_cons_self ..)]
              · rw [o9 c q, b7, s5 c hc]
                congr 1
                exact decide_eq_decide.mpr ⟨fun z => List.mem_cons_of_mem _ z, fun z => (List.mem_cons.mp z).elim (fun y => absurd y q) id⟩
          · have st1 : x_X12_checkStep U 1101 σ = some (0, υ) := by
              by_cases q13 : fty T D d = 13
              · obtain ⟨t, v, x2', x3', x4', x5', x6', x7'⟩ := t1 q13
                obtain ⟨x1, x2, x3⟩ := rf t v x3' x4' x5' x6'
                have hcl := cod_lt hg hh x5' x6'
                have hlook : sI υ 1181 (cod D E t v) = 1 := by rw [b7, s5 _ hcl, decide_eq_true x7']; try rfl
                rw [if_pos q13, ix_in (i := fx D 0 f) (by omega) (by decide), ix_in (i := fx E 1 g) (by omega) (by decide), x1, x2, x3, ix_in hcl (by decide), hlook, if_neg (show ¬ (1 : Int32) = 0 by decide)] at v3'
                exact v3'
              · rw [if_neg q13] at v3'
                exact v3'
            rw [e]
            have ok := oddK υ b1 b2 b3 b4 b5 b6 b7 b8
            cases ht : trn D E m u f g with
            | true =>
              rw [if_pos (show true = true from rfl)]
              refine ⟨fun z => (by cases z), fun _ => ?_⟩
              obtain ⟨τ, z1, z2, z3, z4, z5⟩ := ok.2 ht
              exact ⟨τ, fun V => (lp σ υ (V + 2) 0 s3 st1).trans (z1 V), z2, by show _ = nI ((m, u, k, false) :: Q).length; rw [List.length_cons]; exact z3, z4, z5⟩
            | false =>
              rw [if_neg (show ¬ false = true by decide)]
              refine ⟨fun _ => ?_, fun z => absurd rfl z⟩
              obtain ⟨τ, z1, z2, z3⟩ := ok.1 ht
              exact ⟨τ, ⟨2, by decide, by decide, fun V => (lp σ υ (V + 1) 0 s3 st1).trans (z1 V)⟩, z2, z3⟩
/-! ===== the reference's check ===== -/
theorem N_krun {U : Nat} {T E' : List Nat} {D E : List Dc} {K : Int32 → SG → Option (Int32 × SG)} (hU : 4000 < U) (hg : GSc T D) (hh : GSc E' E) : ∀ (j U1 : Nat) (stk : List Fr) (met : List Nat) (σ : SG) (r : Nat) (stk2 : List Fr), kRun T E' D E j stk met = some (r, stk2) → 2 * j + 4 < U1 → KRr σ T E' D E stk met → KI T E' D E stk met → ∃ τ, x_X12_check_L75 U 1101 K U1 0 σ = K (nI r) τ ∧ RS τ 0 T D ∧ sI τ 1101 106 = nI stk2.length ∧ (r ≠ 0 → RFw D τ stk2 ∧ ∃ met2, KI T E' D E stk2 met2) ∧ fP PCk σ τ ∧ r ≤ 3 := by
  intro j
  induction j with
  | zero => intro U1 stk met σ r stk2 h; cases h
  | succ j ih =>
    intro U1 stk met σ r stk2 h hu hR hK
    cases stk with
    | nil =>
      cases h
      obtain ⟨V, rfl⟩ : ∃ V, U1 = V + 1 := ⟨U1 - 1, by omega⟩
      rw [x_X12_check_L75, hR.2.2.1, if_neg (show ¬ (0 : Int32) < nI ([] : List Fr).length by decide)]
      exact ⟨σ, rfl, hR.1, hR.2.2.1, fun z => absurd rfl z, fP_refl _ σ, by omega⟩
    | cons fr Q =>
      rw [kRun] at h
      obtain ⟨n0, n1⟩ := N_kstep (U := U) (K := K) hU hg hh hR hK
      have hK2 := KI_step hg hh hK
      by_cases q : (kSt T E' D E (fr :: Q) met).1 = 0
      · rw [if_pos q] at h
        obtain ⟨τ, ⟨c, c1, c2, c3⟩, t2, t3⟩ := n0 q
        obtain ⟨V, rfl⟩ : ∃ V, U1 = V + 2 := ⟨U1 - 2, by omega⟩
        rw [c3 V]
        obtain ⟨υ, u1, u2, u3, u4, u5, u6⟩ := ih (V + 2 - c) _ _ τ r stk2 h (by omega) t2 hK2
        exact ⟨υ, u1, u2, u3, u4, fP_trans t3 u5, u6⟩
      · rw [if_neg q] at h
        obtain ⟨e1, e2⟩ := Prod.mk.inj (Option.some.inj h)
        obtain ⟨τ, t1, t2, t3, t4, t5⟩ := n1 q
        obtain ⟨V, rfl⟩ : ∃ V, U1 = V + 3 := ⟨U1 - 3, by omega⟩
        rw [t1 V, ← e1, ← e2]
        have hr3 : (kSt T E' D E (fr :: Q) met).1 ≤ 3 := by
          obtain ⟨m, u, k, b⟩ := fr
          obtain ⟨hM, hN, _⟩ := hK.1 _ (List.mem_cons_self ..)
          rcases kSt_cases (k := k) (b := b) (Q := Q) (met := met) hg hh (show isM D m from hM) (show isM E u from hN) with ⟨_, e⟩ | ⟨f, d, hf, hd, ⟨_, e⟩ | ⟨g, e0, hgf, he, ⟨_, e⟩ | ⟨_, _, e⟩ | ⟨q1, q2, ⟨t, v, t1, t2, t3, t4, t5, t6, t7, e⟩ | ⟨t1, e⟩⟩⟩⟩
          · rw [e]; exact Nat.zero_le 3
          · rw [e]; exact Nat.zero_le 3
          · rw [e]; show (1 : Nat) ≤ 3; decide
          · rw [e]; show (2 : Nat) ≤ 3; decide
          · rw [e]; exact Nat.zero_le 3
          · rw [e]
            split
            · exact Nat.le_refl 3
            · exact Nat.zero_le 3
        exact ⟨τ, rfl, t2, t3, fun _ => ⟨t4, _, hK2⟩, t5, hr3⟩
/-- where a check stops every frame has its field -/
theorem stop_f {T E' : List Nat} {D E : List Dc} (hg : GSc T D) (hh : GSc E' E) : ∀ (j : Nat) (stk : List Fr) (met : List Nat) (r : Nat) (stk2 : List Fr), kRun T E' D E j stk met = some (r, stk2) → KI T E' D E stk met → r ≠ 0 → ∀ fr ∈ stk2, ∃ f d, (chF D fr.1)[fr.2.2.1]? = some f ∧ isF D fr.1 f d := by
  intro j
  induction j with
  | zero => intro stk met r stk2 h; cases h
  | succ j ih =>
    intro stk met r stk2 h hK hr
    cases stk with
    | nil => cases h; exact absurd rfl hr
    | cons fr Q =>
      rw [kRun] at h
      by_cases q : (kSt T E' D E (fr :: Q) met).1 = 0
      · rw [if_pos q] at h
        exact ih _ _ r stk2 h (KI_step hg hh hK) hr
      · rw [if_neg q] at h
        obtain ⟨e1, e2⟩ := Prod.mk.inj (Option.some.inj h)
        obtain ⟨m, u, k, b⟩ := fr
        obtain ⟨i1, i2, _⟩ := hK
        have i2' : ∀ fr ∈ Q, fr.2.2.2 = true := i2
        obtain ⟨hM, hN, _⟩ := i1 _ (List.mem_cons_self ..)
        have hQ : ∀ fr ∈ Q, ∃ f d, (chF D fr.1)[fr.2.2.1]? = some f ∧ isF D fr.1 f d := by
          intro fr hfr
          obtain ⟨x1, x2, x3, _⟩ := i1 fr (List.mem_cons_of_mem _ hfr)
          obtain ⟨f, _, _, _, _, _, y1, _⟩ := x3 (i2' fr hfr)
          obtain ⟨d, hd⟩ := (chF_mem hg x1).mp (List.mem_of_getElem? y1)
          exact ⟨f, d, y1, hd⟩
        have top : ∀ f d, (chF D m)[k]? = some f → isF D m f d → ∀ fr ∈ (m, u, k, b) :: Q, ∃ f d, (chF D fr.1)[fr.2.2.1]? = some f ∧ isF D fr.1 f d := by
          intro f d hf hd fr hfr
          rcases List.mem_cons.mp hfr with z | z
          · rw [z]; exact ⟨f, d, hf, hd⟩
          · exact hQ fr z
        rw [← e2]
        rcases kSt_cases (k := k) (b := b) (Q := Q) (met := met) hg hh (show isM D m from hM) (show isM E u from hN) with ⟨_, e⟩ | ⟨f, d, hf, hd, ⟨_, e⟩ | ⟨g, e0, hgf, he, ⟨_, e⟩ | ⟨_, _, e⟩ | ⟨q1, q2, ⟨t, v, t1, t2, t3, t4, t5, t6, t7, e⟩ | ⟨t1, e⟩⟩⟩⟩
        · rw [e] at q; exact absurd rfl q
        · rw [e] at q; exact absurd rfl q
        · rw [e]; exact top f d hf hd
        · rw [e]; exact top f d hf hd
        · rw [e] at q; exact absurd rfl q
        · rw [e] at q ⊢
          split
          · exact top f d hf hd
          · rename_i z
            rw [if_neg z] at q
            exact absurd rfl q
theorem RFw_get {D : List Dc} {σ : SG} : ∀ (Q : List Fr), RFw D σ Q → ∀ k, k < Q.length → ∃ fr a, Q.reverse[k]? = some fr ∧ sI σ 1182 k = nI (ordM D fr.1) ∧ (a = 2 * fr.2.2.1 + 1 ∨ a = 2 * fr.2.2.1 + 2) ∧ sI σ 1184 k = nI a := by
  intro Q
  induction Q with
  | nil => intro _ k hk; simp at hk
  | cons fr Q ih =>
    intro h k hk
    rw [List.length_cons] at hk
    rw [List.reverse_cons]
    by_cases q : k = Q.length
    · obtain ⟨h1, ⟨a, h2, h3⟩, _⟩ := h
      refine ⟨fr, a, ?_, by rw [q]; exact h1, h2, by rw [q]; exact h3⟩
      rw [List.getElem?_append_right (by rw [List.length_reverse]; omega), List.length_reverse, q, Nat.sub_self]
      try rfl
    · obtain ⟨fr', a, h1, h2⟩ := ih h.2.2 k (by omega)
      refine ⟨fr', a, ?_, h2⟩
      rw [List.getElem?_append_left (by rw [List.length_reverse]; omega)]
      exact h1
theorem RFw_keep {D : List Dc} {σ τ : SG} : ∀ (Q : List Fr), RFw D σ Q → (∀ b k, (b = 1182 ∨ b = 1184) → sI τ b k = sI σ b k) → RFw D τ Q := by
  intro Q
  induction Q with
  | nil => intro _ _; exact trivial
  | cons fr Q ih =>
    intro h hk
    obtain ⟨h1, ⟨a, h2, h3⟩, h4⟩ := h
    exact ⟨(hk 1182 _ (by omega)).trans h1, ⟨a, h2, (hk 1184 _ (by omega)).trans h3⟩, ih h4 hk⟩
theorem N_way_L {U r : Nat} {T : List Nat} {D : List Dc} {stk : List Fr} (hU : 4000 < U) (hg : GSc T D) (hr : r ≠ 0) (hr3 : r ≤ 3) (hF : ∀ fr ∈ stk, isM D fr.1 ∧ fr.2.2.1 < 300 ∧ ∃ f d, (chF D fr.1)[fr.2.2.1]? = some f ∧ isF D fr.1 f d) (hlen : stk.length ≤ 256) : ∀ (j k U1 : Nat) (σ : SG) (w : List Nat × Int32), k + j = stk.length → j < U1 → RS σ 0 T D → sI σ 1101 106 = nI stk.length → RFw D σ stk → ROr σ w → ∃ τ, x_X12_check_L97 U 1101 (nI r) U1 (nI k) σ = some (nI r, τ) ∧ ROr τ (wrL 4000 w ((stk.reverse.drop k).flatMap (wyB D))) ∧ fw σ τ := by
  have hr0 : ¬ nI r = 0 := fun z => hr ((nI_eq (b := 0) (by omega) (by decide)).mp z)
  intro j
  induction j with
  | zero =>
    intro k U1 σ w hk hu hS h6 hW hw
    obtain ⟨V, rfl⟩ : ∃ V, U1 = V + 1 := ⟨U1 - 1, by omega⟩
    refine ⟨σ, ?_, ?_, fw_refl σ⟩
    · rw [x_X12_check_L97, h6, if_neg (fun z => by have := (ltI (by omega) (by omega)).mp z; omega)]
    · rw [List.drop_eq_nil_of_le (by rw [List.length_reverse]; omega)]; exact hw
  | succ j ih =>
    intro k U1 σ w hk hu hS h6 hW hw
    obtain ⟨V, rfl⟩ : ∃ V, U1 = V + 1 := ⟨U1 - 1, by omega⟩
    obtain ⟨fr, a, hfr, g1, g2, g3⟩ := RFw_get stk hW k (by omega)
    have hkl := (List.getElem?_eq_some_iff.mp hfr).1
    have hfe : stk.reverse[k] = fr := (List.getElem?_eq_some_iff.mp hfr).2
    have hmem : fr ∈ stk := List.mem_reverse.mp (List.mem_of_getElem? hfr)
    obtain ⟨hM, hk3, f, d, hf, hd⟩ := hF fr hmem
    have ha1 : nI a - 1 = nI (a - 1) := nI_sub (b := 1) (by omega)
    have ek : (a - 1) / 2 = fr.2.2.1 := by omega
    have hmA : mAt (chF D fr.1) (nI fr.2.2.1) = (chF D fr.1)[fr.2.2.1]? := by unfold mAt; rw [if_neg (nI_neg (by omega)), clampN (by omega)]
    have hfa := N_fieldAt (U := U) (s := 0) (x := nI fr.2.2.1) hU (by decide) hg hS hM
    have hfa' : x_X12_fieldAt U 1101 0 (nI (ordM D fr.1)) (nI fr.2.2.1) σ = some (nI (fx D 0 f)) := by
      rw [show nI (fx D 0 f) = fIx D 0 (some f) from rfl, ← hf, ← hmA]; exact hfa
    obtain ⟨f1, _, f3, _⟩ := hS.f hd.1 hd.2.1
    have hbd := (hg.fld hd.1 hd.2.1).2.2.1
    obtain ⟨τ, t1, t2, t3⟩ := N_varW (U := U) (x := lN (dN d).2) hU hw
    rw [x_X12_check_L97, h6, if_pos ((ltI (by omega) (by omega)).mpr (by omega)), if_neg hr0, ix_in (by omega) (by decide), ix_in (by omega) (by decide), g1, g3, ha1, half2 _ (by omega), ek, hfa', b1_eq, ix_in (by omega) (by decide), f3, nI_l (by omega), t1, b1_eq, nI_1]
    obtain ⟨υ, u1, u2, u3⟩ := ih (k + 1) V τ _ (by omega) (by omega) (RS_fw hS t3) (((fw_I t3 (by decide) (by omega)).1).trans h6) (RFw_keep stk hW (fun b k hb => (fw_I t3 (by omega) (by omega)).1)) t2
    refine ⟨υ, u1, ?_, fw_trans t3 u3⟩
    have ewy : wyB D fr = vB (lN (dN d).2) := by unfold wyB; rw [hf]; simp only; rw [nmn_some hd.1]
    rw [List.drop_eq_getElem_cons hkl, List.flatMap_cons, hfe, ewy, wrL_app]
    exact u2
theorem N_ck_0 {U : Nat} {K : SG → Option (Int32 × SG)} {v1 v2 : Int32} : ∀ (j k U1 : Nat) (σ : SG), k + j = 256 → j < U1 → (∀ c, c < k → sI σ 1181 c = 0) → ∃ τ, x_X12_check_L42 U 1101 K v1 v2 U1 (nI k) σ = K τ ∧ (∀ c, c < 256 → sI τ 1181 c = 0) ∧ fP PCk σ τ ∧ (∀ k, sI τ 1101 k = sI σ 1101 k) := by
  intro j
  induction j with
  | zero =>
    intro k U1 σ hk hu h
    obtain ⟨V, rfl⟩ : ∃ V, U1 = V + 1 := ⟨U1 - 1, by omega⟩
    have : k = 256 := by omega
    subst this
    rw [x_X12_check_L42, if_neg (show ¬ nI 256 < 256 by decide)]
    exact ⟨σ, rfl, h, fP_refl _ σ, fun _ => rfl⟩
  | succ j ih =>
    intro k U1 σ hk hu h
    obtain ⟨V, rfl⟩ : ∃ V, U1 = V + 1 := ⟨U1 - 1, by omega⟩
    rw [x_X12_check_L42, if_pos (show nI k < 256 from (ltI (b := 256) (by omega) (by decide)).mpr (by omega)), ix_in (by omega) (by decide), sb_eq, nI_1]
    obtain ⟨τ, t1, t2, t3, t4⟩ := ih (k + 1) V (uI σ 1181 k (vp_nar .boolean 0)) (by omega) (by omega) (fun c hc => by
      by_cases q : c = k
      · rw [q, sI_s]; decide
      · rw [sI_o (Or.inr q)]; exact h c (by omega))
    exact ⟨τ, t1, t2, fP_trans (fP_u (by unfold PCk; omega)) t3, fun k' => (t4 k').trans (sI_o (Or.inl (by decide)))⟩
def PchK (b k : Nat) : Prop := PCk b k ∨ (b = 1101 ∧ (k = 3 ∨ k = 4 ∨ k = 5)) ∨ b = 1103
theorem fw_PchK {σ τ : SG} (h : fw σ τ) : fP PchK σ τ := fun b k hb => by
  by_cases q : b = 1101
  · subst q
    have : k ∉ [3, 4] := by unfold PchK at hb; simp; omega
    exact ⟨h.2.1 k this, h.2.2.1 k, h.2.2.2 k⟩
  · exact h.1 b q (fun z => hb (by unfold PchK; omega)) k
theorem RS_PchK {σ τ : SG} {s : Nat} {T : List Nat} {D : List Dc} (h : RS σ s T D) (hf : fP PchK σ τ) : RS τ s T D := RS_keep h (fun b k hb => (hf b k (by unfold PKP at hb; unfold PchK PCk; omega)).1)
/-- the reference's check -/
theorem N_check {U : Nat} {σ : SG} {T E' : List Nat} {D E : List Dc} {x y : Int32} (hU : 210000 < U) (hg : GSc T D) (hh : GSc E' E) (hS : RS σ 0 T D) (hS' : RS σ 1 E' E) : ∃ v τ, x_X12_check U 1101 x y σ = some (v, τ) ∧ ROr τ ((chS T E' D E x y).2, 0) ∧ sI τ 1101 5 = fdC (chS T E' D E x y).1 ∧ (∀ w, (chS T E' D E x y).1 = .inl (some (.int w)) → v = w) ∧ fP PchK σ τ := by
  have hU4 : 4000 < U := by omega
  have hl := hg.2.1
  have hl' := hh.2.1
  unfold x_X12_check x_X12_check_27
  obtain ⟨σ2, a1, a2, a3⟩ := X12_emptyOut (σ := σ)
  have S2 := RS_fw hS a3
  have S2' := RS_fw hS' a3
  have i1 : x_X12_isMessage 1101 0 x σ2 = some (zI (msg D x).isSome) := N_isMessage (s := 0) (by decide) hl S2
  have i2 : x_X12_isMessage 1101 1 y σ2 = some (zI (msg E y).isSome) := N_isMessage (s := 1) (by decide) hl' S2'
  rw [a1, b1_eq, i1, b1_eq, ifz, i2, b1_eq, ifz]
  have F2 := fw_PchK a3
  have bad : ∃ v τ, x_X12_check_28 U 1101 x y 1 σ2 = some (v, τ) ∧ ROr τ ([], 0) ∧ sI τ 1101 5 = 1 ∧ fP PchK σ τ := by
    unfold x_X12_check_28
    rw [sb_eq, sI_s, if_neg (show ¬ (1 : Int32) = 0 by decide)]
    exact ⟨0, _, rfl, ROr_uI a2 (by decide) (by decide), sI_s _ _ _ _, fP_trans F2 (fP_u (by unfold PchK; omega))⟩
  unfold chS
  cases hm : msg D x with
  | none =>
    obtain ⟨v, τ, b1', b2', b3', b4'⟩ := bad
    rw [Option.isSome_none, if_neg (show ¬ false = true by decide)]
    exact ⟨v, τ, b1', b2', b3', fun w z => (by cases z), b4'⟩
  | some m =>
    rw [Option.isSome_some, if_pos (show true = true from rfl)]
    cases hu : msg E y with
    | none =>
      obtain ⟨v, τ, b1', b2', b3', b4'⟩ := bad
      rw [Option.isSome_none, if_neg (show ¬ false = true by decide)]
      exact ⟨v, τ, b1', b2', b3', fun w z => (by cases z), b4'⟩
    | some u =>
      rw [Option.isSome_some, if_pos (show true = true from rfl)]
      obtain ⟨hM, hx⟩ := msg_some hm
      obtain ⟨hN, hy⟩ := msg_some hu
      simp only
      unfold x_X12_check_28
      rw [sb_eq, sI_s, if_pos (show (0 : Int32) = 0 from rfl)]
      have F5 : fP PchK σ2 (uI σ2 1101 5 0) := fP_u (by unfold PchK; omega)
      have R5 : ROr (uI σ2 1101 5 0) ([], 0) := ROr_uI a2 (by decide) (by decide)
      have c5 : sI (uI σ2 1101 5 0) 1101 5 = 0 := sI_s _ _ _ _
      generalize uI σ2 1101 5 0 = σ5 at *
      have S5 := RS_PchK S2 F5
      have S5' := RS_PchK S2' F5
      obtain ⟨τ2, b1', b2', b3', b4'⟩ := N_ck_0 (U := U) (K := fun σ14 => sb (uI σ14 1101 106 0) fun σ15 => b1 (x_X12_open 1101 x y σ15) fun σ17 => x_X12_check_L75 U 1101 (fun w23 σ24 => x_X12_check_94 U 1101 w23 σ24) U 0 σ17) (v1 := x) (v2 := y) 256 0 U σ5 (by omega) (by omega) (fun c hc => by omega)
      have b1'' : x_X12_check_L42 U 1101 (fun σ14 => sb (uI σ14 1101 106 0) fun σ15 => b1 (x_X12_open 1101 x y σ15) fun σ17 => x_X12_check_L75 U 1101 (fun w23 σ24 => x_X12_check_94 U 1101 w23 σ24) U 0 σ17) x y U 0 σ5 = _ := b1'
      rw [b1'', sb_eq]
      have F6 : fP PCk σ5 (uI τ2 1101 106 0) := fP_trans b3' (fP_u (by unfold PCk; omega))
      have c106 : sI (uI τ2 1101 106 0) 1101 106 = nI 0 := sI_s _ _ _ _
      have c81 : ∀ c, c < 256 → sI (uI τ2 1101 106 0) 1181 c = 0 := fun c hc => (sI_o (Or.inl (by decide))).trans (b2' c hc)
      generalize uI τ2 1101 106 0 = τ3 at *
      obtain ⟨τ4, o1, o2, o3, o4, o5, o6, o7, o8, o9⟩ := N_open hg hh hM hN c106 (by decide)
      have o1' : x_X12_open 1101 x y τ3 = some τ4 := by rw [hx, hy]; exact o1
      rw [o1', b1_eq]
      have F7 := fP_trans F6 o2
      have K1 : KRr τ4 T E' D E [(m, u, 0, false)] [cod D E m u] := ⟨RS_PCk S5 F7, RS_PCk S5' F7, o3, ⟨o4, o5, o6, trivial⟩, fun c hc => by
        by_cases q : c = cod D E m u
        · rw [q, o8, decide_eq_true (List.mem_singleton.mpr rfl)]
        · rw [o9 c q, c81 c hc, decide_eq_false (fun z => q (List.mem_singleton.mp z))]; rfl⟩
      obtain ⟨⟨r, stk⟩, hr⟩ := kRun_0 hg hh hM hN
      obtain ⟨τ5, z1, z2, z3, z4, z5, z6⟩ := N_krun (U := U) (K := fun w23 σ24 => x_X12_check_94 U 1101 w23 σ24) hU4 hg hh 103000 U _ _ τ4 r stk hr (by omega) K1 (KI_0 hg hh hM hN)
      rw [z1]
      have F8 : fP PCk σ5 τ5 := fP_trans F7 z5
      have FA : fP PchK σ τ5 := fP_trans (fP_trans F2 F5) (fP_mono F8 (fun b k z => Or.inl z))
      have R8 : ROr τ5 ([], 0) := ⟨((F8 1101 3 (by unfold PCk; omega)).1).trans R5.1, ((F8 1101 4 (by unfold PCk; omega)).1).trans R5.2.1, fun i c hi => (by cases hi), Nat.zero_le _⟩
      have c58 : sI τ5 1101 5 = 0 := ((F8 1101 5 (by unfold PCk; omega)).1).trans c5
      unfold ckS x_X12_check_94
      rw [hr]
      simp only
      by_cases q0 : r = 0
      · subst q0
        rw [if_pos rfl]
        obtain ⟨V, rfl⟩ : ∃ V, U = V + 1 := ⟨U - 1, by omega⟩
        rw [x_X12_check_L97, if_pos (show nI 0 = 0 from rfl), ite_self]
        exact ⟨_, τ5, rfl, R8, c58, fun w z => (by cases z; rfl), FA⟩
      · obtain ⟨hW, met2, hK2⟩ := z4 q0
        have hst := stop_f hg hh 103000 _ _ r stk hr (KI_0 hg hh hM hN) q0
        obtain ⟨k1, k2, k3, k4, k5⟩ := hK2
        have hlen : stk.length ≤ 256 := by
          have := nd_len 256 _ k4 0 (fun a ha => ⟨Nat.zero_le _, k5 a ha⟩)
          omega
        obtain ⟨τ6, w1, w2, w3⟩ := N_way_L (U := U) (r := r) (stk := stk) hU4 hg q0 z6 (fun fr hfr => ⟨(k1 fr hfr).1, by
          have := (k1 fr hfr).2.2.2
          have := chF_len (a := fr.1) hl
          omega, hst fr hfr⟩) hlen stk.length 0 U τ5 ([], 0) (by omega) (by omega) z2 z3 hW R8
        have w1' : x_X12_check_L97 U 1101 (nI r) U 0 τ5 = some (nI r, τ6) := w1
        rw [w1', if_neg q0]
        have hwl := wy_len (D := D) stk.reverse
        rw [List.length_reverse] at hwl
        rw [List.drop_zero, wrL_fit _ _ (by show 0 + _ ≤ 4000; omega)] at w2
        exact ⟨_, τ6, rfl, w2, ((fw_I w3 (by decide) (by omega)).1).trans c58, fun w z => (by cases z; rfl), fP_trans FA (fw_PchK w3)⟩
/-! ===== find: full names, and the class ===== -/
/-- a type's full name -/
def fnm (T : List Nat) (D : List Dc) : Nat → Nat → List Nat
  | 0, _ => []
  | j + 1, i => match D[i]? with
    | none => []
    | some d => match dS d with
      | none => nmT T d
      | some p => fnm T D j p ++ 46 :: nmT T d
def fnT (T : List Nat) (D : List Dc) (i : Nat) : List Nat := fnm T D (i + 1) i
theorem fnm_more {T : List Nat} {D : List Dc} (hW : WF D) : ∀ (j i : Nat), i < j → fnm T D j i = fnT T D i := by
  intro j
  induction j using Nat.strongRecOn with
  | ind j ih =>
    intro i hi
    obtain ⟨j', rfl⟩ : ∃ j', j = j' + 1 := ⟨j - 1, by omega⟩
    unfold fnT
    rw [fnm, fnm]
    cases hd : D[i]? with
    | none => rfl
    | some d =>
      simp only
      cases hs : dS d with
      | none => rfl
      | some p =>
        simp only
        have hp := (hW.before hd).1 p hs
        rw [ih j' (by omega) p (by omega)]
        by_cases q : i < j' + 1 ∧ i = j'
        · rw [q.2, ih j' (by omega) p (by omega)]
        · rw [ih i (by omega) p hp]
theorem fnT_some {T : List Nat} {D : List Dc} (hW : WF D) {i : Nat} {d : Dc} (hd : D[i]? = some d) : fnT T D i = match dS d with
    | none => nmT T d
    | some p => fnT T D p ++ 46 :: nmT T d := by
  unfold fnT
  rw [fnm, hd]
  simp only
  cases hs : dS d with
  | none => rfl
  | some p =>
    simp only
    have hp := (hW.before hd).1 p hs
    rw [fnm_more hW i p hp]
    try rfl
theorem take_cut {S A N : List Nat} {e : Nat} (he : e ≤ S.length) : S.take e = A ++ 46 :: N ↔ N.length + 1 ≤ e ∧ slc S (e - N.length) e = N ∧ S[e - N.length - 1]? = some 46 ∧ S.take (e - N.length - 1) = A := by
  constructor
  · intro h
    have hl : e = A.length + (N.length + 1) := by
      have := congrArg List.length h
      rw [List.length_take, List.length_append, List.length_cons] at this
      omega
    refine ⟨by omega, ?_, ?_, ?_⟩
    · have : slc S (e - N.length) e = (S.take e).drop (e - N.length) := by
        unfold slc
        rw [List.drop_take]
      rw [this, h, show e - N.length = (A ++ [46]).length by rw [List.length_append, List.length_singleton]; omega, show A ++ 46 :: N = (A ++ [46]) ++ N by rw [List.append_assoc]; rfl, List.drop_left]
    · have : (S.take e)[e - N.length - 1]? = some 46 := by
        rw [h, show e - N.length - 1 = A.length by omega, List.getElem?_append_right (Nat.le_refl _), Nat.sub_self]
        try rfl
      rw [List.getElem?_take_of_lt (by omega)] at this
      exact this
    · have : S.take (e - N.length - 1) = (S.take e).take (e - N.length - 1) := by rw [List.take_take]; congr 1; omega
      rw [this, h, show e - N.length - 1 = A.length by omega, List.take_left]
  · rintro ⟨h1, h2, h3, h4⟩
    have hl := (List.getElem?_eq_some_iff.mp h3).1
    have e1 : S.take e = S.take (e - N.length - 1) ++ (S.drop (e - N.length - 1)).take (N.length + 1) := by
      have : e = (e - N.length - 1) + (N.length + 1) := by omega
      conv => lhs; rw [this]
      rw [List.take_add]
    rw [e1, h4]
    congr 1
    rw [List.drop_eq_getElem_cons hl, List.take_succ_cons, (List.getElem?_eq_some_iff.mp h3).2]
    congr 1
    rw [show e - N.length - 1 + 1 = e - N.length by omega]
    unfold slc at h2
    rw [show e - (e - N.length) = N.length by omega] at h2
    exact h2
theorem take_all {S N : List Nat} {e : Nat} (he : e ≤ S.length) : S.take e = N ↔ N.length ≤ e ∧ slc S (e - N.length) e = N ∧ e - N.length = 0 := by
  constructor
  · intro h
    have hl : e = N.length := by
      have := congrArg List.length h
      rw [List.length_take] at this
      omega
    refine ⟨by omega, ?_, by omega⟩
    unfold slc
    rw [show e - N.length = 0 by omega, List.drop_zero, Nat.sub_zero]
    exact h
  · rintro ⟨h1, h2, h3⟩
    unfold slc at h2
    rw [h3, List.drop_zero, Nat.sub_zero] at h2
    exact h2
theorem C_isFull_L {U c : Nat} {σ : SG} {T S : List Nat} {D : List Dc} (hU4 : 4000 < U) (hcb : cb c) (hg : GSc T D) (hC : CS σ c T D) (hS : RB σ 1 S 0) (hSl : S.length ≤ 700) : ∀ (i e U1 : Nat) (d : Dc), D[i]? = some d → e ≤ S.length → i < U1 → x_X6_isFullName_L8 U (c + 1) (fun w21 => if w21 = 0 then (some 1) else (some 0)) (some 1) σ U1 (nI e) (some (c + 5 + i)) = some (zI (decide (S.take e = fnT T D i))) := by
  have hl := hg.2.1
  have hT7 := hg.2.2.2.2.2.2
  intro i
  induction i using Nat.strongRecOn with
  | ind i ih =>
    intro e U1 d hd he hu
    obtain ⟨V, rfl⟩ : ∃ V, U1 = V + 1 := ⟨U1 - 1, by omega⟩
    have hil := (List.getElem?_eq_some_iff.mp hd).1
    have hn := hg.N i d hd
    have hn1 := hn.1
    have hn2 := hn.2.1
    have hI := (hC.it hd).1
    have hlen : (nmT T d).length = dE d - dA d := slc_len (Nat.le_of_lt hn1) hn2
    rw [x_X6_isFullName_L8, if_neg (show ¬ some (c + 5 + i) = none by intro z; cases z), ck_eq (it_sh hcb (by omega)), hI.2.2.2.2.1, hI.2.2.2.2.2.1, nI_sub (Nat.le_of_lt hn1), hI.2.2.1, fnT_some hg.1 hd, ck_eq (show sh 1 = 0 by decide)]
    by_cases q : e < dE d - dA d
    · have hneg : nI e - nI (dE d - dA d) < 0 := by
        have : ∀ a b : Nat, a < b → b < 2 ^ 30 → nI a - nI b < 0 := by
          intro a b hab hb
          rw [Int32.lt_iff_toInt_lt, Int32.toInt_sub]
          have ea : (nI a).toInt = a := by
            show (nI a).toBitVec.toInt = _
            rw [show (nI a).toBitVec = BitVec.ofNat 32 a from rfl, BitVec.toInt_ofNat', Int.bmod_eq_of_le (by omega) (by omega)]
          have eb : (nI b).toInt = b := by
            show (nI b).toBitVec.toInt = _
            rw [show (nI b).toBitVec = BitVec.ofNat 32 b from rfl, BitVec.toInt_ofNat', Int.bmod_eq_of_le (by omega) (by omega)]
          rw [ea, eb, Int.bmod_eq_of_le (by omega) (by omega)]
          have : (0 : Int32).toInt = 0 := by decide
          omega
        exact this _ _ q (by omega)
      rw [if_pos hneg]
      have : ¬ S.take e = (match dS d with
        | none => nmT T d
        | some p => fnT T D p ++ 46 :: nmT T d) := by
        cases hs : dS d with
        | none =>
          intro z
          have z' : S.take e = nmT T d := z
          have := (take_all he).mp z'
          omega
        | some p =>
          intro z
          have z' : S.take e = fnT T D p ++ 46 :: nmT T d := z
          have := (take_cut he).mp z'
          omega
      rw [decide_eq_false this]; try rfl
    · rw [nI_sub (show dE d - dA d ≤ e by omega), if_neg (nI_neg (by omega))]
      have hsm := X0_isSame (U := U) (a := 1) (b := c + 2) (f := dA d) (to := dE d) (p := e - (dE d - dA d)) hU4 (cb_sh hcb).2.2.2.1 hS hC.1 (Nat.le_of_lt hn1) hn2 (by omega)
      rw [show e - (dE d - dA d) + (dE d - dA d) = e by omega] at hsm
      have hsm' : x_X0_isSame U 1 (nI (e - (dE d - dA d))) (some (c + 1 + 1)) (nI (dA d)) (nI (dE d)) σ = some (zI (decide (slc S (e - (nmT T d).length) e = nmT T d))) := by rw [hlen]; exact hsm
      rw [hsm', b1_eq, ifz]
      cases hs : dS d with
      | none =>
        rw [if_pos (show ad c none = none from rfl)]
        simp only
        have e0 : nI (e - (dE d - dA d)) = 0 ↔ e - (nmT T d).length = 0 := by
          rw [hlen]
          exact nI_eq (b := 0) (by omega) (by decide)
        rw [ifd e0]
        by_cases q2 : slc S (e - (nmT T d).length) e = nmT T d
        · rw [decide_eq_true q2, if_pos (show true = true from rfl)]
          by_cases q3 : e - (nmT T d).length = 0
          · rw [if_pos q3, decide_eq_true ((take_all he).mpr ⟨by omega, q2, q3⟩)]; try rfl
          · rw [if_neg q3, decide_eq_false (fun z => q3 ((take_all he).mp z).2.2)]; try rfl
        · rw [decide_eq_false q2, if_neg (show ¬ false = true by decide), decide_eq_false (fun z => q2 ((take_all he).mp z).2.1)]; try rfl
      | some p =>
        have hp := (hg.1.before hd).1 p hs
        obtain ⟨x, hx, _⟩ := hg.1.scK hd p hs
        rw [if_neg (show ¬ ad c (some p) = none by intro z; cases z), ad_some]
        simp only
        by_cases q2 : slc S (e - (nmT T d).length) e = nmT T d
        · rw [decide_eq_true q2, if_pos (show true = true from rfl)]
          by_cases q3 : e - (dE d - dA d) = 0
          · have hm1 : x_X0_at 1 (nI (e - (dE d - dA d)) - 1) σ = some (-1) := X0_at_neg (by rw [q3]; decide)
            rw [hm1, b1_eq, if_neg (show ¬ (-1 : Int32) = 46 by decide), decide_eq_false (fun z => by have := ((take_cut he).mp z).1; omega)]; try rfl
          · have es : nI (e - (dE d - dA d)) - 1 = nI (e - (dE d - dA d) - 1) := nI_sub (b := 1) (by omega)
            rw [es, X0_at hS (by omega), b1_eq, show (46 : Int32) = nI 46 from rfl, ifA hS.2.2.2.2 (by decide), ih p hp (e - (dE d - dA d) - 1) V x hx (by omega) (by omega)]
            by_cases q4 : S[e - (dE d - dA d) - 1]? = some 46
            · rw [if_pos q4]
              congr 2
              rw [decide_eq_decide, take_cut he, hlen]
              rw [hlen] at q2
              constructor
              · intro z; exact ⟨by omega, q2, q4, z⟩
              · intro z; exact z.2.2.2
            · rw [if_neg q4, decide_eq_false (fun z => by have := ((take_cut he).mp z).2.2.1; rw [hlen] at this; exact q4 this)]; try rfl
        · rw [decide_eq_false q2, if_neg (show ¬ false = true by decide), decide_eq_false (fun z => q2 ((take_cut he).mp z).2.1)]; try rfl
theorem C_isFull {U c i : Nat} {σ : SG} {T S : List Nat} {D : List Dc} {d : Dc} (hU4 : 4000 < U) (hcb : cb c) (hg : GSc T D) (hC : CS σ c T D) (hS : RB σ 1 S 0) (hSl : S.length ≤ 700) (hd : D[i]? = some d) : x_X6_isFullName U (c + 1) (some (c + 5 + i)) (some 1) σ = some (zI (decide (S = fnT T D i))) := by
  have hl := hg.2.1
  have hil := (List.getElem?_eq_some_iff.mp hd).1
  unfold x_X6_isFullName
  have := C_isFull_L (U := U) hU4 hcb hg hC hS hSl i S.length U d hd (Nat.le_refl _) (by omega)
  rw [List.take_length] at this
  rw [ck_eq (show sh 1 = 0 by decide), X0_size hS, b1_eq]
  exact this
/-- the type with a full name -/
def pFull (T : List Nat) (D : List Dc) (S : List Nat) (i : Nat) : Bool := decide (knd D i ≤ 1 ∧ S = fnT T D i)
def fTy (T : List Nat) (D : List Dc) (S : List Nat) : Option Nat := ff (pFull T D S) (List.range D.length) 0
/-- the answer of find -/
def fiA (D : List Dc) (o : Option Nat) : Int32 := match o with
  | none => -1
  | some i => if knd D i = 0 then nI (cnt (D.take i) 0) else nI (cnt D 0 + cnt (D.take i) 1)
theorem C_number_L {U c : Nat} {σ : SG} {T S : List Nat} {D : List Dc} (hU4 : 4000 < U) (hcb : cb c) (hg : GSc T D) (hC : CS σ c T D) (hS : RB σ 1 S 0) (hSl : S.length ≤ 700) : ∀ (j k U1 : Nat), k + j = D.length → j < U1 → x_X6_numberOf_L2 U (c + 1) (fun w14 => ck 3 w14 fun q15 => if sI σ q15 0 = 0 then (some (sI σ q15 1)) else (b1 (x_X6_count (c + 1) 0 σ) fun v20 => some (v20 + (sI σ q15 1)))) (some 1) σ U1 (nI k) = some (fiA D (ff (pFull T D S) ((List.range D.length).drop k) k)) := by
  have hl := hC.lt
  have hJ := hC.2.1
  intro j
  induction j with
  | zero =>
    intro k U1 hk hu
    obtain ⟨V, rfl⟩ : ∃ V, U1 = V + 1 := ⟨U1 - 1, by omega⟩
    rw [x_X6_numberOf_L2, hJ.1, if_neg (fun q => by have := (ltI (by omega) (by omega)).mp q; omega), List.drop_eq_nil_of_le (by rw [List.length_range]; omega)]
    try rfl
  | succ j ih =>
    intro k U1 hk hu
    obtain ⟨V, rfl⟩ : ∃ V, U1 = V + 1 := ⟨U1 - 1, by omega⟩
    have hkl : k < D.length := by omega
    have hd := List.getElem?_eq_getElem hkl
    have hI := hJ.2.2 k _ hd
    have hk5 := hg.1.k5 hd
    have hr := ih (k + 1) V (by omega) (by omega)
    have hrg : (List.range D.length)[k]? = some k := List.getElem?_range hkl
    rw [x_X6_numberOf_L2, hJ.1, if_pos ((ltI (by omega) (by omega)).mpr hkl), X6_item hJ.1 hl hkl, b1_eq, if_neg (by intro z; cases z), ck_eq (it_sh hcb (by omega)), X3_isType hI hk5, b1_eq, ifz, C_isFull hU4 hcb hg hC hS hSl hd, b1_eq, ifz, ff_drop hrg]
    unfold x_X6_numberOf_61
    rw [nI_1, hr]
    have epf : pFull T D S k = (decide (dK D[k] ≤ 1) && decide (S = fnT T D k)) := by
      unfold pFull
      rw [knd_some hd, Bool.decide_and]
    rw [epf]
    cases h1 : decide (dK D[k] ≤ 1) with
    | false => rw [if_neg (show ¬ false = true by decide), Bool.false_and, if_neg (show ¬ false = true by decide)]
    | true =>
      rw [if_pos (show true = true from rfl), Bool.true_and]
      cases h2 : decide (S = fnT T D k) with
      | false => rw [if_neg (show ¬ false = true by decide), if_neg (show ¬ false = true by decide)]
      | true =>
        have hd1 := of_decide_eq_true h1
        rw [if_pos (show true = true from rfl), if_pos (show true = true from rfl), ck_eq (it_sh hcb (by omega)), hI.1, hI.2.1]
        have hcnt : x_X6_count (c + 1) 0 σ = some (nI (cnt D 0)) := X6_count (k := 0) hC.2.2.2 (by decide)
        rw [hcnt, b1_eq]
        unfold fiA
        simp only
        rw [knd_some hd]
        have e0 : nI (dK D[k]) = 0 ↔ dK D[k] = 0 := nI_eq (b := 0) (by omega) (by decide)
        rw [ifd e0]
        by_cases q : dK D[k] = 0
        · rw [if_pos q, if_pos q, q]
        · rw [if_neg q, if_neg q, show dK D[k] = 1 by omega, nI_add]
theorem C_find {U s : Nat} {σ : SG} {T S : List Nat} {D : List Dc} (hU4 : 4000 < U) (hs : s < 2) (hg : GSc T D) (hC : CS σ (cA s) T D) (hS : RB σ 1 S 0) : ∃ τ, x_X11_find U 0 (nI s) σ = some (.inl (some (.int (fiA D (fTy T D S)))), τ) ∧ RB τ 1 [] 0 ∧ ∀ b, b ≠ 1 → sm σ τ b := by
  have hcb := cA_cb (s := s)
  have hSl : S.length ≤ 700 := hS.2.2.1
  have hl := hg.2.1
  have hnum : x_X6_numberOf U (cA s + 1) (some 1) σ = some (fiA D (fTy T D S)) := C_number_L hU4 hcb hg hC hS hSl D.length 0 U (by omega) (by omega)
  obtain ⟨τ, t1, t2, t3⟩ := X0_clear (σ := σ) (a := 1)
  unfold x_X11_find x_X11_find_25
  rw [cOf hs, b1_eq, if_neg (show ¬ some (cA s) = none by intro z; cases z), ck_eq (cb_sh hcb).2.2.2.2, show x_X2_schema (cA s) σ = some (some (cA s + 1)) from rfl, b1_eq, ck_eq (cb_sh hcb).2.2.1, hnum, b1_eq, t1, b1_eq, if_neg (show ¬ some (cA s) = none by intro z; cases z)]
  exact ⟨τ, rfl, t2, t3⟩
/-! ===== find: the reference ===== -/
/-- a name that stands on the tape, up to a dot or the end -/
def isTp (S : List Nat) (p : Nat) (N : List Nat) : Bool := decide (p + N.length ≤ S.length) && (decide (slc S p (p + N.length) = N) && (decide (p + N.length = S.length) || decide (S[p + N.length]? = some 46)))
theorem isTp_iff {S N : List Nat} {p : Nat} : isTp S p N = true ↔ p + N.length ≤ S.length ∧ slc S p (p + N.length) = N ∧ (p + N.length = S.length ∨ S[p + N.length]? = some 46) := by
  unfold isTp
  rw [Bool.and_eq_true, Bool.and_eq_true, Bool.or_eq_true, decide_eq_true_iff, decide_eq_true_iff, decide_eq_true_iff, decide_eq_true_iff]
theorem N_isTape_L {U p q : Nat} {σ : SG} {S N : List Nat} {K : Option Int32} (h : LR σ S) (hN : NMs σ q N) (hp : p + N.length ≤ S.length) (hq : q + N.length ≤ 1200) (h8 : ∀ c ∈ N, c < 256) : ∀ (j k U1 : Nat), k + j = N.length → j < U1 → x_X12_isTape_L15 U 1101 K (nI p) (nI q) (nI N.length) σ U1 (nI k) = if slc S (p + k) (p + N.length) = N.drop k then K else some 0 := by
  have hl := h.2.2.1
  intro j
  induction j with
  | zero =>
    intro k U1 hk hu
    obtain ⟨V, rfl⟩ : ∃ V, U1 = V + 1 := ⟨U1 - 1, by omega⟩
    rw [x_X12_isTape_L15, if_neg (fun z => by have := (ltI (by omega) (by omega)).mp z; omega), slc_nil (by omega), List.drop_eq_nil_of_le (by omega), if_pos rfl]
  | succ j ih =>
    intro k U1 hk hu
    obtain ⟨V, rfl⟩ : ∃ V, U1 = V + 1 := ⟨U1 - 1, by omega⟩
    have hkN : k < N.length := by omega
    have hkS : p + k < S.length := by omega
    have a1 := h.2.1 (p + k) _ (List.getElem?_eq_getElem hkS)
    have a2 := hN k _ (List.getElem?_eq_getElem hkN)
    have b1' := h.2.2.2 _ (List.getElem_mem hkS)
    have b2' := h8 _ (List.getElem_mem hkN)
    rw [x_X12_isTape_L15, if_pos ((ltI (by omega) (by omega)).mpr hkN), nI_add, ix_in (by omega) (by decide), nI_add, ix_in (by omega) (by decide), a1, a2, ifd (nI_eq (by omega) (by omega)), nI_1, slc_cons (by omega) hkS, List.drop_eq_getElem_cons hkN]
    by_cases e : S[p + k] = N[k]
    · have ei : S[p + k] :: slc S (p + k + 1) (p + N.length) = N[k] :: N.drop (k + 1) ↔ slc S (p + (k + 1)) (p + N.length) = N.drop (k + 1) := by
        rw [e, List.cons.injEq]
        exact ⟨fun z => z.2, fun z => ⟨rfl, z⟩⟩
      rw [if_pos e, ih (k + 1) V (by omega) (by omega), ifd ei]
    · rw [if_neg e, if_neg (fun z => e (List.cons.inj z).1)]
theorem N_isTape {U s b j p : Nat} {σ : SG} {S N : List Nat} (hU4 : 4000 < U) (hs : s < 2) (h : LR σ S) (hN : NM σ s b j N) (hp : p ≤ S.length) (h8 : ∀ c ∈ N, c < 256) : x_X12_isTape U 1101 (nI p) (sI σ b j) (sI σ (b + 1) j) σ = some (zI (isTp S p N)) := by
  have hl := h.2.2.1
  obtain ⟨r, h1, h2, h3, h4, h5⟩ := hN
  unfold x_X12_isTape isTp
  rw [h1, h2, h.1, nI_add, ifd (ltI (by omega) (by omega))]
  by_cases q : S.length < p + N.length
  · rw [if_pos q, decide_eq_false (by omega), Bool.false_and]; try rfl
  · rw [if_neg q, decide_eq_true (show p + N.length ≤ S.length by omega), Bool.true_and, ifd (nI_eq (by omega) (by omega))]
    have := N_isTape_L (U := U) (p := p) (K := if p + N.length = S.length then some 1 else ix (nI (p + N.length)) 700 fun j13 => if sI σ 1102 j13 = 46 then some 1 else some 0) h h5 (by omega) (by omega) h8 N.length 0 U (by omega) (by omega)
    have this' : x_X12_isTape_L15 U 1101 (if p + N.length = S.length then some 1 else ix (nI (p + N.length)) 700 fun j13 => if sI σ 1102 j13 = 46 then some 1 else some 0) (nI p) (nI r) (nI N.length) σ U 0 = _ := this
    rw [this', Nat.add_zero, List.drop_zero]
    by_cases q2 : slc S p (p + N.length) = N
    · rw [if_pos q2, decide_eq_true q2, Bool.true_and]
      by_cases q3 : p + N.length = S.length
      · rw [if_pos q3, decide_eq_true q3]; try rfl
      · have hlt : p + N.length < S.length := by omega
        have hc := h.2.2.2 _ (List.getElem_mem hlt)
        have e46 : nI S[p + N.length] = 46 ↔ S[p + N.length]? = some 46 := by
          rw [List.getElem?_eq_getElem hlt]
          constructor
          · intro z; rw [(nI_eq (b := 46) (by omega) (by decide)).mp z]
          · intro z; rw [Option.some.inj z]; try rfl
        rw [if_neg q3, decide_eq_false q3, Bool.false_or, ix_in (by omega) (by decide), h.2.1 _ _ (List.getElem?_eq_getElem hlt), ifd e46]
        by_cases q4 : S[p + N.length]? = some 46
        · rw [if_pos q4, decide_eq_true q4]; try rfl
        · rw [if_neg q4, decide_eq_false q4]; try rfl
    · rw [if_neg q2, decide_eq_false q2, Bool.false_and]; try rfl
/-- a type of a kind in a scope that the tape names -/
def pNt (T : List Nat) (S : List Nat) (q : Nat) (sc : Option Nat) (p : Nat) (d : Dc) : Bool := decide (dK d = q ∧ dS d = sc) && isTp S p (nmT T d)
def nmC (D : List Dc) (o o' : Option Nat) : Int32 := match o with
  | some i => nI (cnt (D.take i) 0)
  | none => match o' with
    | some i => nI (1000 + cnt (D.take i) 1)
    | none => -1
theorem N_nmsg_L {U s p : Nat} {σ : SG} {T S : List Nat} {D : List Dc} {sc : Option Nat} {K : Int32 → Option Int32} {K2 : Option Int32} (hU4 : 4000 < U) (hs : s < 2) (hg : GSc T D) (h : RS σ s T D) (hL : LR σ S) (hp : p ≤ S.length) (hsc : ∀ m, sc = some m → isM D m) : ∀ (j g U1 : Nat), g + j = cnt D 0 → j < U1 → (∀ (i : Nat) (d : Dc), D[i]? = some d → dK d = 0 → cnt (D.take i) 0 < g → pNt T S 0 sc p d = false) → x_X12_named_L6 U 1101 K K2 (nI s) (oq D 0 sc) (nI p) σ U1 (nI (16 * s + g)) = (match ff (pNt T S 0 sc p) D 0 with
    | some i => K (nI (16 * s + cnt (D.take i) 0))
    | none => K2) := by
  have hl := hg.2.1
  obtain ⟨l0, l1, l2, l3, l4, l5⟩ := lim_of h.1
  have hc : sI σ 1104 s = nI (cnt D 0) := h.2.1 0 (by decide)
  intro j
  induction j with
  | zero =>
    intro g U1 hgj hu hall
    obtain ⟨V, rfl⟩ : ∃ V, U1 = V + 1 := ⟨U1 - 1, by omega⟩
    rw [x_X12_named_L6, ix_in hs (by decide), show (16 : Int32) = nI 16 from rfl, pk_mul, hc, nI_add, if_neg (fun q => by have := (ltI (by omega) (by omega)).mp q; omega), ff_no]
    intro x hx
    obtain ⟨i, hi⟩ := List.getElem?_of_mem hx
    by_cases z : dK x = 0
    · exact hall i x hi z (by have := cnt_take_lt hi z; omega)
    · unfold pNt; rw [decide_eq_false (fun y => z y.1), Bool.false_and]
  | succ j ih =>
    intro g U1 hgj hu hall
    obtain ⟨V, rfl⟩ : ∃ V, U1 = V + 1 := ⟨U1 - 1, by omega⟩
    obtain ⟨i, d, hd, hk, hi⟩ := plc (D := D) (q := 0) g (by omega)
    have row := (h.2.2 i d hd).1 hk
    rw [hi] at row
    have hnm := N_isTape (U := U) hU4 hs hL row.2 hp (nmT8 hg (d := d))
    have hnm' : x_X12_isTape U 1101 (nI p) (sI σ 1109 (16 * s + g)) (sI σ 1110 (16 * s + g)) σ = some (zI (isTp S p (nmT T d))) := hnm
    have hoq : oq D 0 (dS d) = oq D 0 sc ↔ dS d = sc := oq_inj (q := 0) hl (hg.1.scK hd) hsc
    rw [x_X12_named_L6, ix_in hs (by decide), show (16 : Int32) = nI 16 from rfl, pk_mul, hc, nI_add, if_pos ((ltI (by omega) (by omega)).mpr (by omega)), ix_in (by omega) (by decide), row.1, ifd hoq, ix_in (by omega) (by decide), ix_in (by omega) (by decide), hnm', b1_eq, ifz]
    unfold x_X12_named_63
    rw [nI_1]
    have go : pNt T S 0 sc p d = false → x_X12_named_L6 U 1101 K K2 (nI s) (oq D 0 sc) (nI p) σ V (nI (16 * s + g + 1)) = (match ff (pNt T S 0 sc p) D 0 with
      | some i => K (nI (16 * s + cnt (D.take i) 0))
      | none => K2) := by
      intro hp'
      refine ih (g + 1) V (by omega) (by omega) (fun i' d' h2 h3 h4 => ?_)
      by_cases z : cnt (D.take i') 0 = g
      · have := ord_inj h2 h3 hd hk (by omega)
        subst this
        rw [hd] at h2
        cases h2
        exact hp'
      · exact hall i' d' h2 h3 (by omega)
    by_cases q1 : dS d = sc
    · rw [if_pos q1]
      cases q2 : isTp S p (nmT T d) with
      | true =>
        rw [if_pos (show true = true from rfl)]
        have hff := ff_here (p := pNt T S 0 sc p) D 0 i d hd (by unfold pNt; rw [decide_eq_true ⟨hk, q1⟩, q2]; rfl) (fun j' x hj' hx => by
          by_cases z : dK x = 0
          · exact hall j' x hx z (by have := cnt_lt_of hx z hj'; omega)
          · unfold pNt; rw [decide_eq_false (fun y => z y.1), Bool.false_and])
        rw [hff, Nat.zero_add]
        simp only
        rw [hi]
      | false =>
        rw [if_neg (show ¬ false = true by decide)]
        exact go (by unfold pNt; rw [q2, Bool.and_false])
    · rw [if_neg q1]
      exact go (by unfold pNt; rw [decide_eq_false (fun y => q1 y.2), Bool.false_and])
theorem N_nenm_L {U s p : Nat} {σ : SG} {T S : List Nat} {D : List Dc} {sc : Option Nat} {K : Int32 → Option Int32} (hU4 : 4000 < U) (hs : s < 2) (hg : GSc T D) (h : RS σ s T D) (hL : LR σ S) (hp : p ≤ S.length) (hsc : ∀ m, sc = some m → isM D m) : ∀ (j g U1 : Nat), g + j = cnt D 1 → j < U1 → (∀ (i : Nat) (d : Dc), D[i]? = some d → dK d = 1 → cnt (D.take i) 1 < g → pNt T S 1 sc p d = false) → x_X12_named_L75 U 1101 K (nI s) (oq D 0 sc) (nI p) σ U1 (nI (8 * s + g)) = (match ff (pNt T S 1 sc p) D 0 with
    | some i => K (nI (8 * s + cnt (D.take i) 1))
    | none => some (-1)) := by
  have hl := hg.2.1
  obtain ⟨l0, l1, l2, l3, l4, l5⟩ := lim_of h.1
  have hc : sI σ 1105 s = nI (cnt D 1) := h.2.1 1 (by decide)
  intro j
  induction j with
  | zero =>
    intro g U1 hgj hu hall
    obtain ⟨V, rfl⟩ : ∃ V, U1 = V + 1 := ⟨U1 - 1, by omega⟩
    rw [x_X12_named_L75, ix_in hs (by decide), show (8 : Int32) = nI 8 from rfl, pk_mul, hc, nI_add, if_neg (fun q => by have := (ltI (by omega) (by omega)).mp q; omega), ff_no]
    intro x hx
    obtain ⟨i, hi⟩ := List.getElem?_of_mem hx
    by_cases z : dK x = 1
    · exact hall i x hi z (by have := cnt_take_lt hi z; omega)
    · unfold pNt; rw [decide_eq_false (fun y => z y.1), Bool.false_and]
  | succ j ih =>
    intro g U1 hgj hu hall
    obtain ⟨V, rfl⟩ : ∃ V, U1 = V + 1 := ⟨U1 - 1, by omega⟩
    obtain ⟨i, d, hd, hk, hi⟩ := plc (D := D) (q := 1) g (by omega)
    have row := (h.2.2 i d hd).2.1 hk
    rw [hi] at row
    have hnm := N_isTape (U := U) hU4 hs hL row.2 hp (nmT8 hg (d := d))
    have hnm' : x_X12_isTape U 1101 (nI p) (sI σ 1112 (8 * s + g)) (sI σ 1113 (8 * s + g)) σ = some (zI (isTp S p (nmT T d))) := hnm
    have hoq : oq D 0 (dS d) = oq D 0 sc ↔ dS d = sc := oq_inj (q := 0) hl (hg.1.scK hd) hsc
    rw [x_X12_named_L75, ix_in hs (by decide), show (8 : Int32) = nI 8 from rfl, pk_mul, hc, nI_add, if_pos ((ltI (by omega) (by omega)).mpr (by omega)), ix_in (by omega) (by decide), row.1, ifd hoq, ix_in (by omega) (by decide), ix_in (by omega) (by decide), hnm', b1_eq, ifz]
    unfold x_X12_named_136
    rw [nI_1]
    have go : pNt T S 1 sc p d = false → x_X12_named_L75 U 1101 K (nI s) (oq D 0 sc) (nI p) σ V (nI (8 * s + g + 1)) = (match ff (pNt T S 1 sc p) D 0 with
      | some i => K (nI (8 * s + cnt (D.take i) 1))
      | none => some (-1)) := by
      intro hp'
      refine ih (g + 1) V (by omega) (by omega) (fun i' d' h2 h3 h4 => ?_)
      by_cases z : cnt (D.take i') 1 = g
      · have := ord_inj h2 h3 hd hk (by omega)
        subst this
        rw [hd] at h2
        cases h2
        exact hp'
      · exact hall i' d' h2 h3 (by omega)
    by_cases q1 : dS d = sc
    · rw [if_pos q1]
      cases q2 : isTp S p (nmT T d) with
      | true =>
        rw [if_pos (show true = true from rfl)]
        have hff := ff_here (p := pNt T S 1 sc p) D 0 i d hd (by unfold pNt; rw [decide_eq_true ⟨hk, q1⟩, q2]; rfl) (fun j' x hj' hx => by
          by_cases z : dK x = 1
          · exact hall j' x hx z (by have := cnt_lt_of hx z hj'; omega)
          · unfold pNt; rw [decide_eq_false (fun y => z y.1), Bool.false_and])
        rw [hff, Nat.zero_add]
        simp only
        rw [hi]
      | false =>
        rw [if_neg (show ¬ false = true by decide)]
        exact go (by unfold pNt; rw [q2, Bool.and_false])
    · rw [if_neg q1]
      exact go (by unfold pNt; rw [decide_eq_false (fun y => q1 y.2), Bool.false_and])
theorem N_named {U s p : Nat} {σ : SG} {T S : List Nat} {D : List Dc} {sc : Option Nat} (hU4 : 4000 < U) (hs : s < 2) (hg : GSc T D) (h : RS σ s T D) (hL : LR σ S) (hp : p ≤ S.length) (hsc : ∀ m, sc = some m → isM D m) : x_X12_named U 1101 (nI s) (oq D 0 sc) (nI p) σ = some (nmC D (ff (pNt T S 0 sc p) D 0) (ff (pNt T S 1 sc p) D 0)) := by
  obtain ⟨l0, l1, l2, l3, l4, l5⟩ := lim_of h.1
  have hl := hg.2.1
  unfold x_X12_named
  have k1 := N_nmsg_L (U := U) (K := fun w22 => some (w22 - (16 * nI s))) (K2 := x_X12_named_L75 U 1101 (fun w44 => some ((1000 + w44) - (8 * nI s))) (nI s) (oq D 0 sc) (nI p) σ U (8 * nI s)) hU4 hs hg h hL hp hsc (cnt D 0) 0 U (by omega) (by omega) (fun i d _ _ h => by omega)
  have k2 := N_nenm_L (U := U) (K := fun w44 => some ((1000 + w44) - (8 * nI s))) hU4 hs hg h hL hp hsc (cnt D 1) 0 U (by omega) (by omega) (fun i d _ _ h => by omega)
  have e16 : (16 : Int32) * nI s = nI (16 * s) := pk_mul 16 s
  have e8 : (8 : Int32) * nI s = nI (8 * s) := pk_mul 8 s
  rw [Nat.add_zero] at k1 k2
  rw [e8] at k1 k2 ⊢
  rw [e16] at k1 ⊢
  rw [k1, k2]
  unfold nmC
  cases h0 : ff (pNt T S 0 sc p) D 0 with
  | some i =>
    simp only
    rw [nI_sub (by omega), show 16 * s + cnt (D.take i) 0 - 16 * s = cnt (D.take i) 0 by omega]
  | none =>
    simp only
    cases h1 : ff (pNt T S 1 sc p) D 0 with
    | some i =>
      simp only
      rw [show (1000 : Int32) = nI 1000 from rfl, nI_add, nI_sub (by omega)]
      congr 2
      omega
    | none => rfl
