/-! ===== the reference parses: the loop with its stack ===== -/
/-- one field, a message left to be read -/
def qSx (T : List Nat) (D : List Dc) (S : List Nat) (n m p : Nat) (A : AV) (tl : Tl) : Option (AV × Tl × Nat × Option (Nat × Nat)) := match fNm T D m (slc S p (weS S p)) with
  | none => none
  | some f => match D[f]? with
    | none => none
    | some d => if tk D tl n f d then none else if fty T D d = 13 then (if S[tbS S (weS S p)]? = some 123 then (match ftg T D d with
        | none => none
        | some t => some ((aMsg D A n f d t).1, (n, f) :: tl, tbS S (weS S p) + 1, some ((aMsg D A n f d t).2, t))) else none)
      else if S[tbS S (weS S p)]? = some 58 then (match pVal T D S d (tbS S (tbS S (weS S p) + 1)) with
        | none => none
        | some (v, x, q) => some (aPut T D A n f d v x, (n, f) :: tl, q, none)) else none
def qFn (rc : AV → Tl → Nat → Nat → Nat → Option (AV × Tl × Nat)) (o : Option (AV × Tl × Nat × Option (Nat × Nat))) : Option (AV × Tl × Nat) := match o with
  | none => none
  | some (A, tl, p, none) => some (A, tl, p)
  | some (A, tl, p, some (k, t)) => rc A tl k t p
theorem qSt_x {T : List Nat} {D : List Dc} {S : List Nat} {rc : AV → Tl → Nat → Nat → Nat → Option (AV × Tl × Nat)} {n m p : Nat} {A : AV} {tl : Tl} : qSt T D S rc n m p A tl = qFn rc (qSx T D S n m p A tl) := by
  unfold qSt qSx
  cases fNm T D m (slc S p (weS S p)) with
  | none => rfl
  | some f =>
    simp only
    cases D[f]? with
    | none => rfl
    | some d =>
      simp only
      cases tk D tl n f d with
      | true => rfl
      | false =>
        rw [if_neg (show ¬ false = true by decide), if_neg (show ¬ false = true by decide)]
        by_cases q13 : fty T D d = 13
        · rw [if_pos q13, if_pos q13]
          by_cases qb : S[tbS S (weS S p)]? = some 123
          · rw [if_pos qb, if_pos qb]
            cases ftg T D d <;> rfl
          · rw [if_neg qb, if_neg qb]; rfl
        · rw [if_neg q13, if_neg q13]
          by_cases qb : S[tbS S (weS S p)]? = some 58
          · rw [if_pos qb, if_pos qb]
            cases pVal T D S d (tbS S (tbS S (weS S p) + 1)) <;> rfl
          · rw [if_neg qb, if_neg qb]; rfl
theorem qSx_lt {T : List Nat} {D : List Dc} {S : List Nat} {n m p : Nat} {A A' : AV} {tl tl' : Tl} {p' : Nat} {o : Option (Nat × Nat)} (hg : GSc T D) (hp : p ≤ S.length) (h : qSx T D S n m p A tl = some (A', tl', p', o)) : p + 1 < p' ∧ p' ≤ S.length := by
  have := qSt_lt (rc := fun A tl k t q => some (A, tl, q)) (n := n) (m := m) (A := A) (A' := A') (tl := tl) (tl' := tl') (p' := p') hg hp (fun A tl k t q A' tl' q' hq h => by cases h; exact ⟨Nat.le_refl _, hq⟩) (by
    rw [qSt_x, h]
    cases o with
    | none => rfl
    | some y => rfl)
  exact this
/-- what a step with a field gives -/
def OY (s : Nat) (T : List Nat) (D : List Dc) (S : List Nat) (lm : Nat) (A : AV) (H : Rh) (dp : Nat) (σ : SG) (o : Option (AV × Tl × Nat × Option (Nat × Nat))) (x : Option SG) : Prop := ∃ τ, x = some τ ∧ fP PDc σ τ ∧ (o = none → ¬ sI τ 1101 107 = 0) ∧ (∀ A' tl' p', o = some (A', tl', p', none) → ∃ H', DR τ s T D S lm A' H' p' p' ∧ zX A H A' H' ∧ TLr H' tl' ∧ fP PDn σ τ) ∧ ∀ A' tl' p' k t, o = some (A', tl', p', some (k, t)) → (lm < dp + 1 → ¬ sI τ 1101 107 = 0) ∧ (dp + 1 ≤ lm → ∃ H', DR τ s T D S lm A' H' p' p' ∧ zX A H A' H' ∧ TLr H' tl' ∧ k < aC A' ∧ aN A' k = t ∧ zD H' k = dp + 1 ∧ sI τ 1101 106 = nI (dp + 1) ∧ sI τ 1176 dp = nI k ∧ ∀ i, i < dp → sI τ 1176 i = sI σ 1176 i)
theorem OY_no {s lm dp : Nat} {T S : List Nat} {D : List Dc} {A : AV} {H : Rh} {σ τ : SG} (hf : fP PDn σ τ) (h7 : ¬ sI τ 1101 107 = 0) : OY s T D S lm A H dp σ none (some τ) := ⟨τ, rfl, PDc_n hf, fun _ => h7, fun _ _ _ z => (by cases z), fun _ _ _ _ _ z => by cases z⟩
theorem DR_9 {σ τ : SG} {s lm p b p' : Nat} {T S : List Nat} {D : List Dc} {A : AV} {H : Rh} (h : DR σ s T D S lm A H p b) (hf : fP P109 σ τ) (h9 : sI τ 1101 109 = nI p') (hp : p ≤ p') (hp' : p' ≤ S.length) : DR τ s T D S lm A H p' b := DR_N h (fP_mono hf (fun b k z => by unfold P109 at z; unfold PN; omega)) h9 (((hf 1101 107 (by unfold P109; omega)).1).trans h.2.2.2.2.2.1) hp hp'
theorem P109_n {σ τ : SG} (h : fP P109 σ τ) : fP PDn σ τ := fP_mono h (fun b k z => by unfold P109 at z; unfold PDn; omega)
/-- a field, from its name on -/
theorem N_qfld {U s n m lm dp p : Nat} {σ : SG} {T S : List Nat} {D : List Dc} {A : AV} {H : Rh} {tl : Tl} (hU4 : 4000 < U) (hs : s < 2) (hg : GSc T D) (hlm : lm ≤ 20) (hD : DR σ s T D S lm A H p p) (htl : TLr H tl) (hn : n < aC A) (hm : aN A n = m) (hz : zD H n = dp) (h106 : sI σ 1101 106 = nI dp) (hdp : dp ≤ 20) : OY s T D S lm A H dp σ (qSx T D S n m p A tl) (b1 (x_X12_nameEnd U 1101 (sI σ 1101 109) σ) fun v19 => ix (nI n) 400 fun j20 => b1 (x_X12_fieldNamed U 1101 (sI σ 1160 j20) (sI σ 1101 109) v19 σ) fun v25 => if v25 = (-1) then (x_X12_parseNext_145 U 1101 σ) else (b1 (x_X12_toldBefore U 1101 (nI n) v25 σ) fun v29 => if v29 = 0 then (b1 (x_X12_textBlanks U 1101 v19 σ) fun v32 => sb (uI σ 1101 109 v32) fun σ33 => b1 (x_X12_byteAt 1101 (sI σ33 1101 109) σ33) fun v35 => ix v25 120 fun j36 => if sI σ33 1118 j36 = 13 then (x_X12_parseNext_186 U 1101 (nI n) v25 123 v35 σ33) else (x_X12_parseNext_186 U 1101 (nI n) v25 58 v35 σ33)) else (x_X12_parseNext_145 U 1101 σ))) := by
  have hD' := hD
  obtain ⟨a1, a2, a3, a4, a5, a6, a7, ⟨e1, e2, e3, e4⟩, a9, a10⟩ := hD'
  have hSl := a4.2.2.1
  have h8 := a4.2.2.2
  have hc := a2.2.2.2.2.1
  have hmM : isM D m := by rw [← hm]; exact (hc.2.2.2 n hn).1
  obtain ⟨w1, w2⟩ := weS_le a10
  have hne1 : p ≤ neS S p ∧ neS S p ≤ S.length := by
    unfold neS
    split
    · exact ⟨w1, w2⟩
    · exact ⟨Nat.le_refl _, a10⟩
  obtain ⟨l0, l1, l2, l3, l4, l5⟩ := lim_of a1.1
  have wrong : OY s T D S lm A H dp σ none (x_X12_parseNext_145 U 1101 σ) := by
    unfold x_X12_parseNext_145
    rw [sb_eq]
    exact OY_no (fP_u (by unfold PDn; omega)) (by rw [sI_s]; decide)
  have hfn := N_fNamed_L (U := U) (p := p) (q := neS S p) hU4 hs a2.1 hg a1 hmM a4 hne1.1 hne1.2 (cnt D 2) 0 U (by omega) (by omega) (fun i d _ _ h => by omega)
  rw [Nat.add_zero] at hfn
  have hfn' : x_X12_fieldNamed U 1101 (nI (cnt (D.take m) 0)) (nI p) (nI (neS S p)) σ = some (fIx D s (fNm T D m (slc S p (weS S p)))) := by
    rw [← fNm_ne hg a10]
    unfold x_X12_fieldNamed
    rw [a2.1, show (60 : Int32) = nI 60 from rfl, pk_mul]
    exact hfn
  rw [a5, N_nend hU4 a4 a10, b1_eq, ix_in (by omega) (by decide), (hc.2.2.2 n hn).2.1, hm, hfn', b1_eq]
  unfold qSx
  cases hf : fNm T D m (slc S p (weS S p)) with
  | none =>
    rw [if_pos (show fIx D s none = -1 from rfl)]
    exact wrong
  | some f =>
    obtain ⟨d, hd, hnmd⟩ := fNm_some hf
    have hF : isF D (aN A n) f d := by rw [hm]; exact hd
    have hft : fty T D d ≤ 14 := dTy_lt (hg.fld hd.1 hd.2.1).2.2.2.1
    have hwp : p < weS S p := we_lt a10 hnmd.symm (nmT_ne hg hd.1)
    have hneS : neS S p = weS S p := by
      unfold neS
      cases hb : bP pL S p with
      | true => rfl
      | false =>
        exfalso
        obtain ⟨_, _, ⟨c, h4, h5⟩, _⟩ := hg.N f d hd.1
        have h3' : slc T (dA d) (dE d) = slc S p (weS S p) := hnmd
        rw [h3'] at h4
        unfold slc at h4
        rw [List.getElem?_take_of_lt (by omega), List.getElem?_drop, Nat.add_zero] at h4
        unfold bP at hb
        rw [h4] at hb
        have hb' : pL c = false := hb
        rw [h5] at hb'
        cases hb'
    obtain ⟨f1, _, _, f4, _⟩ := a1.f hd.1 hd.2.1
    have hnef : ¬ nI (fx D s f) = -1 := fun z => nI_neg (by omega : fx D s f < 2 ^ 31) (by rw [z]; decide)
    obtain ⟨r1, r2⟩ := tbS_le' w2
    simp only
    rw [hd.1]
    simp only
    rw [show fIx D s (some f) = nI (fx D s f) from rfl, if_neg hnef, N_told hU4 hs hg a1 a2 hd.1 hd.2.1 hn htl, b1_eq, ifz]
    cases htk : tk D tl n f d with
    | true =>
      rw [if_pos (show true = true from rfl), if_pos (show true = true from rfl)]
      exact wrong
    | false =>
      have F1 : fP P109 σ (uI σ 1101 109 (nI (tbS S (weS S p)))) := fP_u ⟨rfl, rfl⟩
      have D1 : DR (uI σ 1101 109 (nI (tbS S (weS S p)))) s T D S lm A H (tbS S (weS S p)) p := DR_9 hD F1 (sI_s _ _ _ _) (by omega) r2
      have c106 : sI (uI σ 1101 109 (nI (tbS S (weS S p)))) 1101 106 = nI dp := (sI_o (Or.inr (by decide))).trans h106
      rw [if_neg (show ¬ false = true by decide), if_neg (show ¬ false = true by decide), hneS, N_tblanks hU4 a4 w2, b1_eq, sb_eq, sI_s]
      generalize uI σ 1101 109 (nI (tbS S (weS S p))) = σ1 at *
      have D1' := D1
      obtain ⟨b1, b2, b3, b4, b5, b6, b7, b8, b9, b10⟩ := D1'
      obtain ⟨_, _, _, g4, _⟩ := b1.f hd.1 hd.2.1
      have e13 : nI (fty T D d) = 13 ↔ fty T D d = 13 := nI_eq (b := 13) (by omega) (by decide)
      rw [b4.at (by omega), b1_eq, ix_in (by omega) (by decide), g4, ifd e13]
      unfold x_X12_parseNext_186
      rw [show (123 : Int32) = nI 123 from rfl, ifA h8 (by decide), show (58 : Int32) = nI 58 from rfl, ifA h8 (by decide), sb_eq, b5, nI_1]
      have wrong1 : OY s T D S lm A H dp σ none (sb (uI σ1 1101 107 1) fun σ62 => some σ62) := by
        rw [sb_eq]
        exact OY_no (fP_trans (P109_n F1) (fP_u (by unfold PDn; omega))) (by rw [sI_s]; decide)
      by_cases q13 : fty T D d = 13
      · rw [if_pos q13, if_pos q13]
        by_cases qb : S[tbS S (weS S p)]? = some 123
        · have hbl := (List.getElem?_eq_some_iff.mp qb).1
          rw [if_pos qb, if_pos qb]
          have F2 : fP P109 σ1 (uI σ1 1101 109 (nI (tbS S (weS S p) + 1))) := fP_u ⟨rfl, rfl⟩
          have D2 := DR_9 D1 F2 (sI_s _ _ _ _) (show tbS S (weS S p) ≤ tbS S (weS S p) + 1 by omega) (by omega)
          have d106 : sI (uI σ1 1101 109 (nI (tbS S (weS S p) + 1))) 1101 106 = nI dp := (sI_o (Or.inr (by decide))).trans c106
          generalize uI σ1 1101 109 (nI (tbS S (weS S p) + 1)) = σ2 at *
          have D2' := D2
          obtain ⟨c1, c2, c3, c4, c5, c6, c7, c8, c9, c10⟩ := D2'
          obtain ⟨_, _, _, k4, _⟩ := c1.f hd.1 hd.2.1
          obtain ⟨t, ht, hMt⟩ := (ftg_msg hg hd.1 hd.2.1).1 q13
          obtain ⟨υ, H', u1, u2, u3, u4, u5, u6, u7, u8, u9, u10, u11, u12⟩ := V_msg hU4 hs hg c1 c2 c3 hlm c7 hn hF q13 ht (by omega) (by omega) c6
          obtain ⟨m1, m2, m3⟩ := aMsg_N c2 hn hF q13 ht
          rw [hz] at u4 u5
          rw [ix_in (by omega) (by decide), k4, ifd e13, if_pos q13, u1, b2_eq, ht]
          simp only
          have fnu : fP PDn σ υ := fP_trans (fP_trans (P109_n F1) (P109_n F2)) (PDn_V u3)
          have x106 : sI υ 1101 106 = nI dp := ((u3 1101 106 (by unfold PV; omega)).1).trans d106
          rw [x106, ix_in (by omega) (by decide), sb_eq, sb_eq, sI_o (Or.inl (by decide)), x106, nI_1]
          have F3 : fP (fun b k => (b = 1101 ∧ k = 106) ∨ b = 1176) υ (uI (uI υ 1176 dp (nI (aMsg D A n f d t).2)) 1101 106 (nI (dp + 1))) := fP_trans (fP_u (Or.inr rfl)) (fP_u (Or.inl ⟨rfl, rfl⟩))
          have y76 : sI (uI (uI υ 1176 dp (nI (aMsg D A n f d t).2)) 1101 106 (nI (dp + 1))) 1176 dp = nI (aMsg D A n f d t).2 := by rw [sI_o (Or.inl (by decide)), sI_s]
          have y06 : sI (uI (uI υ 1176 dp (nI (aMsg D A n f d t).2)) 1101 106 (nI (dp + 1))) 1101 106 = nI (dp + 1) := sI_s _ _ _ _
          have yst : ∀ i, i < dp → sI (uI (uI υ 1176 dp (nI (aMsg D A n f d t).2)) 1101 106 (nI (dp + 1))) 1176 i = sI σ 1176 i := fun i hi => by
            rw [sI_o (Or.inl (by decide)), sI_o (Or.inr (by omega))]
            exact (fnu 1176 i (by unfold PDn; omega)).1
          generalize uI (uI υ 1176 dp (nI (aMsg D A n f d t).2)) 1101 106 (nI (dp + 1)) = ω at *
          have x7 : sI ω 1101 107 = sI υ 1101 107 := (F3 1101 107 (by omega)).1
          refine ⟨ω, rfl, fP_trans (PDc_n fnu) (fP_mono F3 (fun b k z => by unfold PDc; omega)), fun z => (by cases z), fun A' tl' p' z => (by cases z), fun A' tl' p' k t' z => ?_⟩
          cases z
          refine ⟨fun hl => ?_, fun hl => ?_⟩
          · rw [x7]; exact fun y => by have := u4.mp y; omega
          · have z7 := u4.mpr hl
            obtain ⟨v1, v2, v3⟩ := u5 hl
            have e2' : (zR H').length ≤ tbS S (weS S p) + 1 := by have := u6; omega
            have D3 : DR υ s T D S lm (aMsg D A n f d t).1 H' (tbS S (weS S p) + 1) (tbS S (weS S p) + 1) := DR_V D2 u3 u2 z7 v1 ⟨e2', by rw [u7]; omega, by rw [u8]; omega, by omega, by rw [u12, u8]; exact e4.2⟩ (Nat.le_refl _)
            obtain ⟨g1, g2, g3, g4', g5, g6, g7, g8, g9, g10⟩ := D3
            exact ⟨H', ⟨RS_keep g1 (fun b k hb => (F3 b k (by unfold PKP at hb; omega)).1), VR_keep g2 (fun b k hb => ⟨(F3 b k (by omega)).1, (F3 b k (by omega)).2.1⟩), g3, LR_P g4' F3 (by omega) (fun k => by omega), ((F3 1101 109 (by omega)).1).trans g5, x7.trans g6, ((F3 1101 85 (by omega)).1).trans g7, g8, g9, g10⟩, ⟨m1, fun m' hm' => ⟨m2 m' hm', u11 m' hm'⟩⟩, TLr_put hU4 hs hg c1 c2 hn hd.1 hd.2.1 (by omega) u2 htl htk (inv_msg u1), u10, m3, v2, y06, y76, yst⟩
        · rw [if_neg qb, if_neg qb]
          exact wrong1
      · rw [if_neg q13, if_neg q13]
        by_cases qb : S[tbS S (weS S p)]? = some 58
        · have hbl := (List.getElem?_eq_some_iff.mp qb).1
          rw [if_pos qb, if_pos qb]
          have F2 : fP P109 σ1 (uI σ1 1101 109 (nI (tbS S (weS S p) + 1))) := fP_u ⟨rfl, rfl⟩
          have D2 := DR_9 D1 F2 (sI_s _ _ _ _) (show tbS S (weS S p) ≤ tbS S (weS S p) + 1 by omega) (by omega)
          generalize uI σ1 1101 109 (nI (tbS S (weS S p) + 1)) = σ2 at *
          have D2' := D2
          obtain ⟨c1, c2, c3, c4, c5, c6, c7, c8, c9, c10⟩ := D2'
          obtain ⟨_, _, _, k4, _⟩ := c1.f hd.1 hd.2.1
          obtain ⟨s1, s2⟩ := tbS_le' c10
          rw [ix_in (by omega) (by decide), k4, ifd e13, if_neg q13, c5, N_tblanks hU4 c4 c10, b1_eq, sb_eq, b1_id]
          have F3 : fP P109 σ2 (uI σ2 1101 109 (nI (tbS S (tbS S (weS S p) + 1)))) := fP_u ⟨rfl, rfl⟩
          have D3 := DR_9 D2 F3 (sI_s _ _ _ _) s1 s2
          generalize uI σ2 1101 109 (nI (tbS S (tbS S (weS S p) + 1))) = σ3 at *
          have key := N_plain (U := U) hU4 hs hg D3 (by omega) hn hF q13 htl htk
          obtain ⟨τ, t1, t2, t3, t4⟩ := key
          have FA : fP PDn σ τ := fP_trans (fP_trans (fP_trans (P109_n F1) (P109_n F2)) (P109_n F3)) t2
          cases hv : pVal T D S d (tbS S (tbS S (weS S p) + 1)) with
          | none =>
            exact ⟨τ, t1, PDc_n FA, fun _ => t3 hv, fun _ _ _ z => (by cases z), fun _ _ _ _ _ z => by cases z⟩
          | some y =>
            obtain ⟨v, x, q⟩ := y
            obtain ⟨H', v1, v2, v3⟩ := t4 v x q hv
            refine ⟨τ, t1, PDc_n FA, fun z => (by cases z), fun A' tl' p' z => ?_, fun _ _ _ _ _ z => by cases z⟩
            cases z
            exact ⟨H', v1, v2, v3, FA⟩
        · rw [if_neg qb, if_neg qb]
          exact wrong1
