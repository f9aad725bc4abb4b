/-! ===== the class parses a message ===== -/
theorem C_qfld {σb : SG} {U c n m dp p : Nat} {σ : SG} {T : List Nat} {D : List Dc} {S : List Nat} {G : Gh} {A : AV} {tl : Tl} {rcC : Option Nat → Option Nat → Int32 → SG → Option (Int32 × SG)} {rc : AV → Tl → Nat → Nat → Nat → Option (AV × Tl × Nat)} (hU : 4000 < U) (hcb : cb c) (hg : GSc T D) (hSl : S.length ≤ 700) (hQ : QC σ c T D S G A tl p p) (hn : n < gC G) (hm : gN G n = m) (hfb : fX σb σ)
    (hrc : ∀ (τ : SG) (G' : Gh) (A' : AV) (tl' : Tl) (n' t q : Nat), fX σb τ → QC τ c T D S G' A' tl' q q → n' < gC G' → gN G' n' = t → OP c T D S G' τ (rc A' tl' n' t q) (rcC (some (gH G' n')) (ad c (some t)) (nI (dp + 1)) τ)) : OP c T D S G σ (qSt T D S rc n m p A tl) (x_X7_readField U rcC 1095 (some (gH G n)) (ad c (some m)) (nI dp) σ) := by
  have hc : c = 5 ∨ c = 197 := hcb
  have hl := hg.2.1
  have hQ' := hQ
  obtain ⟨a1, a2, a3, a4, a5, a6, a7, a8, a9, a10, a11⟩ := hQ'
  have hmM : isM D m := by rw [← hm]; exact a2.2.2.2.2.2.2.2.1 n hn
  obtain ⟨dm, hdm, _⟩ := id hmM
  have hml := (List.getElem?_eq_some_iff.mp hdm).1
  unfold x_X7_readField qSt
  obtain ⟨τ, t1, t2, t3⟩ := C_skipW (U := U) hU hSl a9 a4 a5
  obtain ⟨w1, w2⟩ := weS_le a9
  have Q1 := QC_T hQ hcb t3 t2 w1 w2
  have Q1' := Q1
  obtain ⟨b1, b2, b3, b4, b5, b6, b7, b8, b9, b10, b11⟩ := Q1'
  rw [t1, b1_eq, b11, if_neg (show ¬ some (c + 1) = none by intro z; cases z), ck_eq (show sh (c + 1) = 6 by rcases hc with z | z <;> rw [z] <;> decide), a5, t2, C_called hU hcb hg b1 b4 w1 w2 hml, b1_eq, fNm_find hg hmM]
  unfold x_X7_readField_45
  cases hf : fNm T D m (slc S p (weS S p)) with
  | none =>
    rw [if_pos (show ad c none = none from rfl)]
    exact OP_no (fT_fX t3)
  | some f =>
    obtain ⟨d, hd, hnmd⟩ := fNm_some hf
    have hF : isF D (gN G n) f d := by rw [hm]; exact hd
    have hfl := (List.getElem?_eq_some_iff.mp hd.1).1
    have hft : fty T D d ≤ 14 := dTy_lt (hg.fld hd.1 hd.2.1).2.2.2.1
    have hwp : p < weS S p := we_lt a9 hnmd.symm (nmT_ne hg hd.1)
    simp only
    rw [hd.1]
    simp only
    rw [if_neg (show ¬ ad c (some f) = none by intro z; cases z), C_taken hU hcb hg b1 b2 hn hF b10, b1_eq, ifz]
    cases htk : tk D tl n f d with
    | true =>
      rw [if_pos (show true = true from rfl), if_pos (show true = true from rfl)]
      exact OP_no (fT_fX t3)
    | false =>
      rw [if_neg (show ¬ false = true by decide), if_neg (show ¬ false = true by decide)]
      obtain ⟨υ, u1, u2, u3⟩ := C_skipB (U := U) hU hSl w2 b4 b5
      obtain ⟨r1, r2⟩ := tbS_le' w2
      have Q2 := QC_T Q1 hcb u3 u2 (by omega) r2
      have F2 : fX σ υ := fX_trans (fT_fX t3) (fT_fX u3)
      have Q2' := Q2
      obtain ⟨c1, c2, c3, c4, c5, c6, c7, c8, c9, c10, c11⟩ := Q2'
      have ety : sI υ (c + 5 + f) 8 = nI (fty T D d) := (c1.it hd.1).2.1
      have e13 : nI (fty T D d) = 13 ↔ fty T D d = 13 := nI_eq (b := 13) (by omega) (by decide)
      have hsh3 : sh (c + 5 + f) = 3 := it_sh hcb (by omega)
      rw [u1, b1_eq, u2, X0_at c4 (by omega), b1_eq, ad_some, ck_eq hsh3, ety, ifd e13]
      unfold x_X7_readField_99
      rw [show (123 : Int32) = nI 123 from rfl, ifA c4.2.2.2.2 (by decide), show (58 : Int32) = nI 58 from rfl, ifA c4.2.2.2.2 (by decide), sb_eq, u2, nI_1]
      have Q3 : ∀ (x : Nat), S[tbS S (weS S p)]? = some x → QC (uI υ 1095 4 (nI (tbS S (weS S p) + 1))) c T D S G A tl (tbS S (weS S p) + 1) p := fun x hx => by
        have := (List.getElem?_eq_some_iff.mp hx).1
        exact QC_T Q2 hcb fT_u (sI_s _ _ _ _) (by omega) (by omega)
      have F3 : fX σ (uI υ 1095 4 (nI (tbS S (weS S p) + 1))) := fX_trans F2 (fT_fX fT_u)
      by_cases q13 : fty T D d = 13
      · rw [if_pos q13, if_pos q13]
        by_cases qb : S[tbS S (weS S p)]? = some 123
        · rw [if_pos qb, if_pos qb]
          have Q4 := Q3 _ qb
          have hrl := (List.getElem?_eq_some_iff.mp qb).1
          generalize uI υ 1095 4 (nI (tbS S (weS S p) + 1)) = σ3 at *
          obtain ⟨d1, d2, d3, d4, d5, d6, d7, d8, d9, d10, d11⟩ := Q4
          obtain ⟨t, ht, htM⟩ := (ftg_msg hg hd.1 hd.2.1).1 q13
          obtain ⟨a, ω, G', o1, o2, o3, o4, o5, o6, o7, o8, o9, o10, o11, o12⟩ := C_msgN hU hcb hg d1 d2 d3 hn (by omega) hF q13 ht d10 htk
          have o1' : x_X8_put U 389 (some (gH G n)) (some (c + 5 + f)) σ3 = some (some a, ω) := o1
          have etyω : sI ω (c + 5 + f) 8 = nI (fty T D d) := (o4.it hd.1).2.1
          have etgω : sP ω (c + 5 + f) 10 = ad c (ftg T D d) := (o4.it hd.1).2.2.1
          rw [o1', b2_eq, if_neg (show ¬ some a = none by intro z; cases z), ck_eq hsh3, etyω, ifd e13, if_pos q13, etgω, ht]
          simp only
          have F4 : fX σ ω := fX_trans F3 (fX_V o5)
          have Q5 : QC ω c T D S G' (aMsg D A n f d t).1 ((n, f) :: tl) (tbS S (weS S p) + 1) (tbS S (weS S p) + 1) := ⟨o4, o2, o3, d4.sm (o5.1 1 (by omega)) (o5.1 2 (by omega)), ((o5.1 1095 (by omega) 4).1).trans d5, by omega, by rw [o8]; omega, Nat.le_refl _, d9, o12, ((o5.2 4 (by decide)).2.2).trans d11⟩
          have key := hrc ω G' _ _ _ t _ (fX_trans hfb F4) Q5 o9 o11
          rw [o10, ← nI_1] at key
          obtain ⟨ψ, y1, y2, y3⟩ := key
          have y1' : rcC (some a) (ad c (some t)) (nI dp + 1) ω = some (zI (rc (aMsg D A n f d t).1 ((n, f) :: tl) (aMsg D A n f d t).2 t (tbS S (weS S p) + 1)).isSome, ψ) := y1
          rw [y1', b2_eq, zb_zI]
          refine ⟨ψ, rfl, fX_trans F4 y2, fun A' tl' p' z => ?_⟩
          obtain ⟨G2, g1, g2⟩ := y3 A' tl' p' z
          exact ⟨G2, g1, gX_trans o7 g2⟩
        · rw [if_neg qb, if_neg qb]
          exact OP_no F2
      · rw [if_neg q13, if_neg q13]
        by_cases qb : S[tbS S (weS S p)]? = some 58
        · rw [if_pos qb, if_pos qb]
          have Q4 := Q3 _ qb
          have hrl := (List.getElem?_eq_some_iff.mp qb).1
          generalize uI υ 1095 4 (nI (tbS S (weS S p) + 1)) = σ3 at *
          obtain ⟨d1, d2, d3, d4, d5, d6, d7, d8, d9, d10, d11⟩ := Q4
          obtain ⟨a, ω, G1, p1, p2, p3, p4, p5, p6, p7, p8, p9, p10, p11, p12, p13⟩ := C_put hU hcb hg d1 d2 hn (by omega) hF q13
          have p1' : x_X8_put U 389 (some (gH G n)) (some (c + 5 + f)) σ3 = some (some a, ω) := p1
          have etyω : sI ω (c + 5 + f) 8 = nI (fty T D d) := (p3.it hd.1).2.1
          rw [p1', b2_eq, if_neg (show ¬ some a = none by intro z; cases z), ck_eq hsh3, etyω, ifd e13, if_neg q13]
          have R4 : RB ω 1 S 0 := d4.sm (p2.1 1 (by omega)) (p2.1 2 (by omega))
          have h4ω : sI ω 1095 4 = nI (tbS S (weS S p) + 1) := ((p2.1 1095 (by omega) 4).1).trans d5
          obtain ⟨φ, f1, f2, f3⟩ := C_skipB (U := U) hU hSl d9 R4 h4ω
          obtain ⟨s1, s2⟩ := tbS_le' d9
          rw [f1, b1_eq]
          have F5 : fX σ φ := fX_trans (fX_trans F3 (fX_V p2)) (fT_fX f3)
          have C5 : CS φ c T D := CS_fX p3 hcb (fT_fX f3)
          have V5 : VG φ c T D G1 := VG_sm p4 (fun b hb => f3.1 b (by omega))
          have R5 : RB φ 1 S 0 := RB_fT R4 f3 (by decide) (by decide)
          have h95 : sP φ 389 4 = some (c + 1) := ((f3.1 389 (by decide) 4).2.2).trans (((p2.2 4 (by decide)).2.2).trans d11)
          have gx : ∀ (L' : Nat → List Eg) (P' : List Nat), gX G (gN G1, gH G1, L', gC G1, gU G1, P') := fun L' P' => ⟨by show gC G ≤ gC G1; omega, fun m _ => ⟨by show gN G1 m = _; rw [p8], by show gH G1 m = _; rw [p9]⟩⟩
          have tla : ∀ (v : Int64) (x : List Nat) (P' : List Nat), TLc (gN G1, gH G1, up (gL G1) n (setE a v x (gL G1 n)), gC G1, gU G1, P') ((n, f) :: tl) := by
            intro v x P'
            obtain ⟨e, e1, e2, e3, e4, e5⟩ := p13.2 v x
            have eL : gL (gN G1, gH G1, up (gL G1) n (setE a v x (gL G1 n)), gC G1, gU G1, P') n = setE a v x (gL G1 n) := up_s _ _ _
            refine TLc_add hg hd.1 hd.2.1 hn d10 htk (by show gC G ≤ gC G1; omega) (fun m h1 h2 => ?_) (fun m h1 h2 => ?_) ?_ (fun g hgf => ?_)
            · have h2' : m < gC G1 := h2
              omega
            · exact (up_o h2).trans (p10 m h2)
            · rw [eL, e3]
              split
              · simp
              · simp
            · rw [eL]; exact e4 g hgf
          unfold pVal
          cases hnm : nmr (fty T D d) with
          | true =>
            rw [if_pos (show true = true from rfl)]
            obtain ⟨ψ, y1, y2, y3⟩ := C_nval (U := U) (a := a) hU hcb hg hSl s2 p5 (by omega) C5 R5 f2 h95 hd.1 hd.2.1 hnm
            have y1' : x_X7_readValue U 1095 (some a) (some (c + 5 + f)) φ = some (zI (nvS T D S d (tbS S (tbS S (weS S p) + 1))).isSome, uL ψ a 4 (sL ψ 1095 6)) := y1
            rw [y1', b2_eq, zb_zI]
            have V6 : VG ψ c T D G1 := VG_sm V5 (fun b hb => y2.1 b (by omega))
            obtain ⟨t, g1, g2, g3⟩ := C_setN2 (v := sL ψ 1095 6) V6 d3 hn hF q13 hnm p7 p8 p10 p13
            have F7 : fX σ (uL ψ a 4 (sL ψ 1095 6)) := fX_trans (fX_trans F5 (fT_fX y2)) g3
            cases hv : nvS T D S d (tbS S (tbS S (weS S p) + 1)) with
            | none => exact ⟨_, rfl, F7, fun A' tl' p' z => by cases z⟩
            | some y =>
              obtain ⟨v, q⟩ := y
              obtain ⟨v1, v2⟩ := y3 v q hv
              have hpv := pVal_lt (f := f) (d := d) hg s2 (show pVal T D S d (tbS S (tbS S (weS S p) + 1)) = some (v, [], q) by unfold pVal; rw [hnm, if_pos rfl, hv]; rfl)
              rw [v1] at g1 g2
              refine ⟨_, rfl, F7, fun A' tl' p' z => ?_⟩
              cases z
              refine ⟨_, ⟨CS_fX C5 hcb (fX_trans (fT_fX y2) g3), ?_, g2, (RB_fT R5 y2 (by decide) (by decide)).sm (sm_uL (by omega)) (sm_uL (by omega)), v2, ?_, ?_, Nat.le_refl _, hpv.2, tla _ _ _, ((y2.1 389 (by decide) 4).2.2).trans h95⟩, gx _ _⟩
              · rw [v1]; exact g1
              · show gU G1 ≤ q
                simp at hpv
                omega
              · show (gP G1).length ≤ q
                rw [p11]
                simp at hpv
                omega
          | false =>
            rw [if_neg (show ¬ false = true by decide)]
            unfold x_X7_readValue
            have etyφ : sI φ (c + 5 + f) 8 = nI (fty T D d) := (C5.it hd.1).2.1
            rw [ck_eq hsh3, etyφ, X11_isNumeric (by omega), b1_eq, ifz, hnm, if_neg (show ¬ false = true by decide)]
            have hPG : (gP G1).length ≤ tbS S (tbS S (weS S p) + 1) := by rw [p11]; omega
            obtain ⟨ψ, y1, y2, y3⟩ := C_rtext (U := U) (a := a) (t := fty T D d) hU hSl p5 (by omega) hft s2 hPG R5 V5.2.2.1 f2
            have hfx : fX φ ψ := ⟨fun b hb => y2.1 b (by omega) (by omega) (by omega) (by omega), fun k _ => y2.1 389 (by decide) (by decide) (by decide) (by omega) k, (y2.1 1094 (by decide) (by decide) (by decide) (by omega) 5).1, y2.2.1 5 (by decide), y2.2.2.1⟩
            rw [y1, b2_eq, zb_zI, b2_eq, zb_zI]
            have F7 : fX σ ψ := fX_trans F5 hfx
            cases hv : tvS S (fty T D d) (tbS S (tbS S (weS S p) + 1)) with
            | none => exact ⟨_, rfl, F7, fun A' tl' p' z => by cases z⟩
            | some y =>
              obtain ⟨x, q⟩ := y
              obtain ⟨v1, v2, v3, v4, v5, v6, v7⟩ := y3 x q hv
              obtain ⟨v, g1, g2⟩ := C_setT V5 d3 hn hF q13 hnm p7 p8 p10 p13 p5 (by omega) y2 v2 v3 v4
              refine ⟨_, rfl, F7, fun A' tl' p' z => ?_⟩
              cases z
              refine ⟨_, ⟨CS_fX C5 hcb hfx, g1, g2, R5.sm (y2.1 1 (by decide) (by decide) (by decide) (by omega)) (y2.1 2 (by decide) (by decide) (by decide) (by omega)), v1, ?_, ?_, Nat.le_refl _, v6, tla _ _ _, ((hfx.2.1 4 (by decide)).2.2).trans h95⟩, gx _ _⟩
              · show gU G1 ≤ q
                omega
              · show (gP G1 ++ x).length ≤ q
                rw [List.length_append, p11]
                omega
        · rw [if_neg qb, if_neg qb]
          exact OP_no F2
