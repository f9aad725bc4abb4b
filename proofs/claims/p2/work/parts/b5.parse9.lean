/-! ===== the class parses ===== -/
theorem qSt_lt {T : List Nat} {D : List Dc} {S : List Nat} {rc : AV → Tl → Nat → Nat → Nat → Option (AV × Tl × Nat)} {n m p : Nat} {A A' : AV} {tl tl' : Tl} {p' : Nat} (hg : GSc T D) (hp : p ≤ S.length) (hrc : ∀ A tl k t q A' tl' q', q ≤ S.length → rc A tl k t q = some (A', tl', q') → q ≤ q' ∧ q' ≤ S.length) (h : qSt T D S rc n m p A tl = some (A', tl', p')) : p + 1 < p' ∧ p' ≤ S.length := by
  unfold qSt at h
  cases hf : fNm T D m (slc S p (weS S p)) with
  | none => rw [hf] at h; cases h
  | some f =>
    obtain ⟨d, hd, hnmd⟩ := fNm_some hf
    have hwp : p < weS S p := we_lt hp hnmd.symm (nmT_ne hg hd.1)
    obtain ⟨w1, w2⟩ := weS_le hp
    obtain ⟨r1, r2⟩ := tbS_le' w2
    rw [hf] at h
    simp only at h
    rw [hd.1] at h
    simp only at h
    split at h
    · cases h
    · split at h
      · split at h
        · rename_i hb
          have := (List.getElem?_eq_some_iff.mp hb).1
          cases ht : ftg T D d with
          | none => rw [ht] at h; cases h
          | some t =>
            rw [ht] at h
            simp only at h
            have := hrc _ _ _ _ _ _ _ _ (by omega) h
            omega
        · cases h
      · split at h
        · rename_i hb
          have hbl := (List.getElem?_eq_some_iff.mp hb).1
          obtain ⟨s1, s2⟩ := tbS_le' (S := S) (p := tbS S (weS S p) + 1) (by omega)
          cases hv : pVal T D S d (tbS S (tbS S (weS S p) + 1)) with
          | none => rw [hv] at h; cases h
          | some y =>
            obtain ⟨v, x, q⟩ := y
            rw [hv] at h
            simp only at h
            have e := Prod.mk.inj (Prod.mk.inj (Option.some.inj h)).2
            have := pVal_lt (f := f) hg s2 hv
            rw [e.2] at this
            omega
        · cases h
theorem qLp_le {T : List Nat} {D : List Dc} {S : List Nat} {rc : AV → Tl → Nat → Nat → Nat → Option (AV × Tl × Nat)} {n m dp : Nat} (hg : GSc T D) (hrc : ∀ A tl k t q A' tl' q', q ≤ S.length → rc A tl k t q = some (A', tl', q') → q ≤ q' ∧ q' ≤ S.length) : ∀ (j p : Nat) (A A' : AV) (tl tl' : Tl) (p' : Nat), p ≤ S.length → qLp T D S rc n m dp j A tl p = some (A', tl', p') → p ≤ p' ∧ p' ≤ S.length := by
  intro j
  induction j with
  | zero => intro p A A' tl tl' p' _ h; cases h
  | succ j ih =>
    intro p A A' tl tl' p' hp h
    obtain ⟨r1, r2⟩ := tbS_le' hp
    rw [qLp] at h
    cases hs : S[tbS S p]? with
    | none =>
      rw [hs] at h
      simp only at h
      split at h
      · cases h; omega
      · cases h
    | some c =>
      have hpl := (List.getElem?_eq_some_iff.mp hs).1
      rw [hs] at h
      simp only at h
      split at h
      · split at h
        · cases h; omega
        · cases h
      · cases hq : qSt T D S rc n m (tbS S p) A tl with
        | none => rw [hq] at h; cases h
        | some y =>
          obtain ⟨A1, tl1, p1⟩ := y
          rw [hq] at h
          simp only at h
          have := qSt_lt hg r2 hrc hq
          have := ih p1 A1 A' tl1 tl' p' (by omega) h
          omega
theorem qMs_le {T : List Nat} {D : List Dc} {S : List Nat} {lm : Nat} (hg : GSc T D) : ∀ (j dp : Nat) (A : AV) (tl : Tl) (n m p : Nat) (A' : AV) (tl' : Tl) (p' : Nat), p ≤ S.length → qMs T D S lm j dp A tl n m p = some (A', tl', p') → p ≤ p' ∧ p' ≤ S.length := by
  intro j
  induction j with
  | zero => intro dp A tl n m p A' tl' p' _ h; cases h
  | succ j ih =>
    intro dp A tl n m p A' tl' p' hp h
    rw [qMs] at h
    split at h
    · cases h
    · exact qLp_le hg (fun A tl k t q A' tl' q' hq h => ih (dp + 1) A tl k t q A' tl' q' hq h) 701 p A A' tl tl' p' hp h
theorem C_qlp {σb : SG} {U c n m dp : Nat} {T : List Nat} {D : List Dc} {S : List Nat} {rcC : Option Nat → Option Nat → Int32 → SG → Option (Int32 × SG)} {rc : AV → Tl → Nat → Nat → Nat → Option (AV × Tl × Nat)} (hU : 4000 < U) (hcb : cb c) (hg : GSc T D) (hSl : S.length ≤ 700) (hdp : dp < 100) (hrl : ∀ A tl k t q A' tl' q', q ≤ S.length → rc A tl k t q = some (A', tl', q') → q ≤ q' ∧ q' ≤ S.length)
    (hrc : ∀ (τ : SG) (G' : Gh) (A' : AV) (tl' : Tl) (n' t q : Nat), fX σb τ → QC τ c T D S G' A' tl' q q → n' < gC G' → gN G' n' = t → OP c T D S G' τ (rc A' tl' n' t q) (rcC (some (gH G' n')) (ad c (some t)) (nI (dp + 1)) τ)) : ∀ (j k p U1 : Nat) (σ : SG) (G : Gh) (A : AV) (tl : Tl), S.length < j + p → k ≤ p → j < U1 → QC σ c T D S G A tl p p → n < gC G → gN G n = m → fX σb σ → OP c T D S G σ (qLp T D S rc n m dp j A tl p) (x_X7_readMessage_L17 U rcC 1095 (fun σ14 => if nI dp = 1 then (some (1, σ14)) else (some (0, σ14))) (fun σ16 => sb (uI σ16 1095 4 ((sI σ16 1095 4) + 1)) fun σ17 => if 1 < nI dp then (some (1, σ17)) else (some (0, σ17))) (some (gH G n)) (ad c (some m)) (nI dp) U1 (nI k) σ) := by
  intro j
  induction j with
  | zero =>
    intro k p U1 σ G A tl hj _ _ hQ
    have := hQ.2.2.2.2.2.2.2.2.1
    omega
  | succ j ih =>
    intro k p U1 σ G A tl hj hk hu hQ hn hm hfb
    obtain ⟨V, rfl⟩ : ∃ V, U1 = V + 1 := ⟨U1 - 1, by omega⟩
    have hQ' := hQ
    obtain ⟨a1, a2, a3, a4, a5, a6, a7, a8, a9, a10, a11⟩ := hQ'
    have h8 : ok8 S := a4.2.2.2.2
    obtain ⟨τ, t1, t2, t3⟩ := C_skipB (U := U) hU hSl a9 a4 a5
    obtain ⟨r1, r2⟩ := tbS_le' a9
    have Q1 : QC τ c T D S G A tl (tbS S p) (tbS S p) := by
      obtain ⟨b1, b2, b3, b4, b5, b6, b7, b8, b9, b10, b11⟩ := QC_T hQ hcb t3 t2 r1 r2
      exact ⟨b1, b2, b3, b4, b5, by omega, by omega, Nat.le_refl _, b9, b10, b11⟩
    have F1 : fX σ τ := fT_fX t3
    have h700 : ¬ (700 : Int32) < nI k := fun z => by have := (ltI (a := 700) (by decide) (by omega)).mp z; omega
    have e1 : nI dp = 1 ↔ dp = 1 := nI_eq (b := 1) (by omega) (by decide)
    have e2 : (1 : Int32) < nI dp ↔ 1 < dp := ltI (a := 1) (by decide) (by omega)
    have hR1 : RB τ 1 S 0 := Q1.2.2.2.1
    rw [x_X7_readMessage_L17, if_neg h700, t1, b1_eq, t2, X0_at hR1 (by omega), b1_eq, ifd (bA_neg h8), show (125 : Int32) = nI 125 from rfl, ifA h8 (by decide), qLp]
    cases hs : S[tbS S p]? with
    | none =>
      rw [if_pos rfl, ifd e1]
      simp only
      by_cases q : dp = 1
      · rw [if_pos q, if_pos q]
        exact ⟨τ, rfl, F1, fun A' tl' p' z => by cases z; exact ⟨G, Q1, gX_refl G⟩⟩
      · rw [if_neg q, if_neg q]
        exact OP_no F1
    | some x =>
      have hpl := (List.getElem?_eq_some_iff.mp hs).1
      have ex : some x = some 125 ↔ x = 125 := ⟨fun z => Option.some.inj z, fun z => by rw [z]⟩
      rw [if_neg (show ¬ some x = none by intro z; cases z), ifd ex]
      simp only
      by_cases q : x = 125
      · rw [if_pos q, if_pos q, sb_eq, nI_1, ifd e2]
        have Q2 := QC_T Q1 hcb (fT_u (v := nI (tbS S p + 1))) (sI_s _ _ _ _) (p' := tbS S p + 1) (by omega) (by omega)
        have F2 := fX_trans F1 (fT_fX (fT_u (σ := τ) (v := nI (tbS S p + 1))))
        by_cases q1 : 1 < dp
        · rw [if_pos q1, if_pos q1]
          refine ⟨_, rfl, F2, fun A' tl' p' z => ?_⟩
          cases z
          obtain ⟨b1, b2, b3, b4, b5, b6, b7, b8, b9, b10, b11⟩ := Q2
          exact ⟨G, ⟨b1, b2, b3, b4, b5, by omega, by omega, Nat.le_refl _, b9, b10, b11⟩, gX_refl G⟩
        · rw [if_neg q1, if_neg q1]
          exact OP_no F2
      · rw [if_neg q, if_neg q]
        obtain ⟨υ, u1, u2, u3⟩ := C_qfld (U := U) hU hcb hg hSl Q1 hn hm (fX_trans hfb F1) hrc
        rw [u1, b2_eq, ifz, nI_1]
        cases hq : qSt T D S rc n m (tbS S p) A tl with
        | none =>
          rw [Option.isSome_none, if_neg (show ¬ false = true by decide)]
          exact OP_no (fX_trans F1 u2)
        | some y =>
          obtain ⟨A', tl', p'⟩ := y
          have hlt := qSt_lt hg r2 hrl hq
          rw [Option.isSome_some, if_pos (show true = true from rfl)]
          obtain ⟨G', w1, w2⟩ := u3 A' tl' p' hq
          have key := ih (k + 1) p' V υ G' A' tl' (by omega) (by omega) (by omega) w1 (by have := w2.1; omega) ((w2.2 n hn).1.trans hm) (fX_trans hfb (fX_trans F1 u2))
          rw [(w2.2 n hn).2] at key
          exact OP_from (fX_trans F1 u2) w2 key
theorem C_qms {U c lm : Nat} {T : List Nat} {D : List Dc} {S : List Nat} (hU : 4000 < U) (hcb : cb c) (hg : GSc T D) (hSl : S.length ≤ 700) (hlm : lm ≤ 20) : ∀ (j dp : Nat) (σ : SG) (G : Gh) (A : AV) (tl : Tl) (n m p : Nat), j + dp = 25 → dp ≤ lm + 1 → QC σ c T D S G A tl p p → n < gC G → gN G n = m → sI σ 1095 5 = nI lm →
    OP c T D S G σ (qMs T D S lm j dp A tl n m p) (x_X7_readMessage U 1095 j (some (gH G n)) (ad c (some m)) (nI dp) σ) := by
  intro j
  induction j with
  | zero => intro dp σ G A tl n m p hj hdp; omega
  | succ j ih =>
    intro dp σ G A tl n m p hj hdp hQ hn hm h5
    rw [x_X7_readMessage, qMs]
    unfold x_X7_readMessage_b
    rw [if_neg (show ¬ ad c (some m) = none by intro z; cases z), h5, ifd (ltI (by omega) (by omega))]
    by_cases q : lm < dp
    · rw [if_pos q, if_pos q]
      exact OP_no (fX_refl σ)
    · rw [if_neg q, if_neg q]
      have key := C_qlp (σb := σ) (U := U) (n := n) (m := m) (dp := dp) (rcC := x_X7_readMessage U 1095 j) (rc := qMs T D S lm j (dp + 1)) hU hcb hg hSl (by omega) (fun A tl k t q A' tl' q' hq h => qMs_le hg j (dp + 1) A tl k t q A' tl' q' hq h) (fun τ G' A' tl' n' t q' hf' hQ' hn' ht' => ih (dp + 1) τ G' A' tl' n' t q' (by omega) (by omega) hQ' hn' ht' (hf'.2.2.2.1.trans h5)) 701 0 p U σ G A tl (by have := hQ.2.2.2.2.2.2.2.2.1; omega) (Nat.zero_le _) (by omega) hQ hn hm (fX_refl σ)
      exact key
theorem TLc_0 (m : Nat) : TLc (g0 m) [] := fun n f => ⟨fun z => (by cases z), fun z => by obtain ⟨_, e, he, _⟩ := z; cases he⟩
/-- the text form on the tape, read -/
def pcS (T : List Nat) (D : List Dc) (S : List Nat) (lm m : Nat) : Option AV := (qMs T D S lm 24 1 (a0 m) [] 0 m 0).map (fun y => y.1)
theorem C_qread {σ : SG} {U c m lm : Nat} {T S : List Nat} {D : List Dc} (hU : 4000 < U) (hcb : cb c) (hg : GSc T D) (hlm : lm ≤ 20) (hC : CS σ c T D) (hV : VG σ c T D (g0 m)) (hE : VE T D (g0 m) (a0 m)) (hS : RB σ 1 S 0) (h4 : sP σ 389 4 = some (c + 1)) (h5 : sP σ 389 5 = ad c (some m)) :
    ∃ τ, x_X7_read U 1095 (nI lm) σ = some (zI (pcS T D S lm m).isSome, τ) ∧ fX (uI σ 1095 5 (nI lm)) τ ∧ ∀ A, pcS T D S lm m = some A → ∃ G tl p, QC τ c T D S G A tl p p := by
  have hSl : S.length ≤ 700 := hS.2.2.1
  unfold x_X7_read
  rw [sb_eq, sb_eq]
  have fr : ∀ b, b ≠ 1095 → sm σ (uI (uI σ 1095 4 0) 1095 5 (nI lm)) b := fun b hb => sm_trans (sm_uI hb) (sm_uI hb)
  have hc : c = 5 ∨ c = 197 := hcb
  have S2 := hS.sm (fr 1 (by decide)) (fr 2 (by decide))
  have Q0 : QC (uI (uI σ 1095 4 0) 1095 5 (nI lm)) c T D S (g0 m) (a0 m) [] 0 0 := ⟨CS_sm hC (fun b h1 h2 => fr b (by omega)), VG_sm hV (fun b hb => fr b (by omega)), hE, S2, by rw [sI_o (Or.inr (by decide)), sI_s]; rfl, Nat.le_refl _, Nat.le_refl _, Nat.le_refl _, Nat.zero_le _, TLc_0 m, h4⟩
  have e5 : sP (uI (uI σ 1095 4 0) 1095 5 (nI lm)) 389 5 = ad c (some m) := h5
  have key := C_qms (U := U) (lm := lm) hU hcb hg hSl hlm 24 1 _ (g0 m) (a0 m) [] 0 m 0 (by omega) (by omega) Q0 Nat.one_pos rfl (sI_s _ _ _ _)
  obtain ⟨τ, k1, k2, k3⟩ := key
  have k1' : x_X7_readMessage U 1095 24 (some 1091) (ad c (some m)) 1 (uI (uI σ 1095 4 0) 1095 5 (nI lm)) = some (zI (qMs T D S lm 24 1 (a0 m) [] 0 m 0).isSome, τ) := k1
  rw [e5, k1', b2_eq, zb_zI]
  refine ⟨τ, ?_, ?_, fun A hA => ?_⟩
  · unfold pcS
    cases qMs T D S lm 24 1 (a0 m) [] 0 m 0 <;> rfl
  · refine ⟨fun b hb => sm_trans (fun k => ?_) (k2.1 b hb), fun k hk => ?_, ?_, ?_, ?_⟩
    · have : b ≠ 1095 := by omega
      exact ⟨by rw [sI_o (Or.inl this), sI_o (Or.inl this), sI_o (Or.inl this)], rfl, rfl⟩
    · exact k2.2.1 k hk
    · rw [k2.2.2.1, sI_o (Or.inl (by decide)), sI_o (Or.inl (by decide)), sI_o (Or.inl (by decide))]
    · rw [k2.2.2.2.1, sI_s, sI_s]
    · rw [k2.2.2.2.2, sI_o (Or.inl (by decide)), sI_o (Or.inl (by decide)), sI_o (Or.inl (by decide))]
  · unfold pcS at hA
    cases hq : qMs T D S lm 24 1 (a0 m) [] 0 m 0 with
    | none => rw [hq] at hA; cases hA
    | some y =>
      obtain ⟨A', tl', p'⟩ := y
      rw [hq] at hA
      cases hA
      obtain ⟨G, w1, w2⟩ := k3 A' tl' p' hq
      exact ⟨G, tl', p', w1⟩
/-- the class's parse -/
theorem C_parse {U s : Nat} {σ : SG} {T S : List Nat} {D : List Dc} {x y : Int32} (hU4 : 4000 < U) (hs : s < 2) (hg : GSc T D) (hC : CS σ (cA s) T D) (hB : RB σ 1 S 0) (h92 : sI σ 1092 2 = 0) (hW : ∀ A, rdV D (pcS T D S) x y = some A → ∃ z, AW T D A z) : ∃ τ, x_X11_parse U 0 (nI s) x y σ = some ((seR T D (rdV D (pcS T D S) x y)).1, τ) ∧ fCd σ τ ∧ RB τ 1 [] 0 ∧ ((seR T D (rdV D (pcS T D S) x y)).2 = none → VCn τ) ∧ ∀ A, (seR T D (rdV D (pcS T D S) x y)).2 = some A → ∃ m, msg D x = some m ∧ VCs τ (cA s) T D m A := by
  have hcb := cA_cb (s := s)
  have hc : cA s = 5 ∨ cA s = 197 := hcb
  obtain ⟨o1, o2⟩ := C_opens (U := U) (x := x) (y := y) hU4 hs hg hC
  unfold x_X11_parse x_X11_parse_26 x_X11_parse_27
  by_cases hbad : msg D x = none ∨ y < 1 ∨ 20 < y
  · rw [o1 hbad, b2_eq, if_pos (show (0 : Int32) = 0 from rfl)]
    have hno := rdV_no (rd := pcS T D S) hbad
    obtain ⟨τ, t1, t2, t3, t4, t5⟩ := C_settle (U := U) (c := cA s) (m := 0) (σ := σ) (T := T) (D := D) (o := none) hU4 hcb hg (fun _ => h92) (fun A z => by cases z)
    rw [hno]
    exact ⟨τ, t1, t2, t3, t4, fun A z => by cases z⟩
  · cases hm : msg D x with
    | none => exact absurd (Or.inl hm) hbad
    | some m =>
      have h1 : ¬ y < 1 := fun z => hbad (Or.inr (Or.inl z))
      have h2 : ¬ 20 < y := fun z => hbad (Or.inr (Or.inr z))
      obtain ⟨lm, rfl, h1', h20⟩ := lim_n h1 h2
      obtain ⟨hM, _⟩ := msg_some hm
      obtain ⟨τ1, a1, a2, a3, a4, a5, a6, a7⟩ := C_begin hcb hC hM
      rw [o2 m hm h1 h2, a1, b1_eq, b2_eq, if_neg (show ¬ (1 : Int32) = 0 by decide)]
      have B1 : RB τ1 1 S 0 := hB.sm (a5 1 (by decide) (by decide) (by decide)) (a5 2 (by decide) (by decide) (by decide))
      obtain ⟨τ2, r1, r2, r3⟩ := C_qread (lm := lm) hU4 hcb hg h20 a4 a2 a3 B1 a6 a7
      have hrd := rdV_yes (rd := pcS T D S) hm h1' h20
      rw [← hrd] at r1 r3
      have f2 : ∀ b, (b < 389 ∨ b = 390 ∨ 1096 ≤ b) → sm τ1 τ2 b := fun b hb => sm_trans (sm_uI (by omega)) (r2.1 b hb)
      have F2 : fCd σ τ2 := fun b h1 h2 => sm_trans (a5 b (by omega) (by omega) (by omega)) (f2 b h2)
      have e92 : sI τ2 1092 2 = 0 := by
        rw [r2.2.2.2.2, sI_o (Or.inl (by decide))]
        exact a2.2.2.1.2.1
      have e4 : sP τ2 389 4 = some (cA s + 1) := ((r2.2.1 4 (by decide)).2.2).trans a6
      have e5 : sP τ2 389 5 = ad (cA s) (some m) := ((r2.2.1 5 (by decide)).2.2).trans a7
      rw [r1, b2_eq]
      obtain ⟨τ, t1, t2, t3, t4, t5⟩ := C_settle (U := U) (c := cA s) (m := m) (σ := τ2) (T := T) (D := D) (o := rdV D (pcS T D S) x (nI lm)) hU4 hcb hg (fun _ => e92) (fun A hA => by
        obtain ⟨G, tl, p, hG⟩ := r3 A hA
        exact ⟨hG.1, ⟨⟨G, hG.2.1, hG.2.2.1⟩, e4, e5⟩, hW A hA⟩)
      refine ⟨τ, ?_, fun b h1 h2 => sm_trans (F2 b h1 h2) (t2 b h1 h2), t3, t4, fun A hA => ⟨m, rfl, t5 A hA⟩⟩
      cases ho : rdV D (pcS T D S) x (nI lm) with
      | none =>
        rw [ho] at t1
        rw [if_pos (show zI (none : Option AV).isSome = 0 from rfl)]
        exact t1
      | some A =>
        rw [ho] at t1
        rw [if_neg (show ¬ zI (some A).isSome = 0 from (by decide : ¬ zI true = 0))]
        exact t1
