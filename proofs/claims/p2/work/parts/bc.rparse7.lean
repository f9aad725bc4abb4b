/-! ===== the reference's parse ===== -/
/-- the reference between two messages of a parse -/
def DRf (σ : SG) (s : Nat) (T : List Nat) (D : List Dc) (S : List Nat) (lm : Nat) (A : AV) (H : Rh) (p : Nat) : Prop := RS σ s T D ∧ VR σ s T D A H ∧ DPk T D lm A H ∧ LR σ S ∧ sI σ 1101 107 = 0 ∧ sI σ 1101 85 = nI lm ∧ BDd A H p ∧ p ≤ S.length
theorem DRf_DR {σ : SG} {s lm p : Nat} {T S : List Nat} {D : List Dc} {A : AV} {H : Rh} (h : DRf σ s T D S lm A H p) (h9 : sI σ 1101 109 = nI p) : DR σ s T D S lm A H p p := by
  obtain ⟨a1, a2, a3, a4, a5, a6, a7, a8⟩ := h
  exact ⟨a1, a2, a3, a4, h9, a5, a6, a7, Nat.le_refl _, a8⟩
def LQ (U s : Nat) (T : List Nat) (D : List Dc) (S : List Nat) (lm : Nat) (K : SG → Option (Int32 × SG)) (dp p : Nat) (A : AV) (H : Rh) (U1 : Nat) (σ : SG) (o : Option (AV × Tl × Nat)) : Prop :=
  (o = none → ∃ τ, x_X12_parse_L29 U 1101 K U1 σ = K τ ∧ fP PDc σ τ ∧ ¬ sI τ 1101 107 = 0) ∧
  ∀ A' tl' p', o = some (A', tl', p') → ∃ τ H' U2, x_X12_parse_L29 U 1101 K U1 σ = x_X12_parse_L29 U 1101 K U2 τ ∧ U1 ≤ U2 + (p' - p) + 1 ∧ DRf τ s T D S lm A' H' p' ∧ (1 < dp → sI τ 1101 109 = nI p') ∧ fP PDc σ τ ∧ sI τ 1101 106 = nI (dp - 1) ∧ (∀ i, i < dp → sI τ 1176 i = sI σ 1176 i) ∧ zX A H A' H' ∧ TLr H' tl'
theorem N_qlp {U s lm n m dp : Nat} {T S : List Nat} {D : List Dc} {K : SG → Option (Int32 × SG)} {rc : AV → Tl → Nat → Nat → Nat → Option (AV × Tl × Nat)} (hU4 : 4000 < U) (hs : s < 2) (hg : GSc T D) (hlm : lm ≤ 20) (hSl : S.length ≤ 700) (hdp : 0 < dp)
    (hno : lm < dp + 1 → ∀ A' tl' k t q, rc A' tl' k t q = none)
    (hrl : ∀ A tl k t q A' tl' q', q ≤ S.length → rc A tl k t q = some (A', tl', q') → q ≤ q' ∧ q' ≤ S.length)
    (hrc : dp + 1 ≤ lm → ∀ (τ : SG) (A' : AV) (H' : Rh) (tl' : Tl) (k t p' U1 : Nat), DR τ s T D S lm A' H' p' p' → TLr H' tl' → k < aC A' → aN A' k = t → zD H' k = dp + 1 → sI τ 1101 106 = nI (dp + 1) → sI τ 1176 dp = nI k → (S.length - p') + 2 < U1 → LQ U s T D S lm K (dp + 1) p' A' H' U1 τ (rc A' tl' k t p')) :
    ∀ (j p U1 : Nat) (σ : SG) (A : AV) (H : Rh) (tl : Tl), S.length < j + p → (S.length - p) + 2 < U1 → DR σ s T D S lm A H p p → TLr H tl → n < aC A → aN A n = m → zD H n = dp → sI σ 1101 106 = nI dp → sI σ 1176 (dp - 1) = nI n → LQ U s T D S lm K dp p A H U1 σ (qLp T D S rc n m dp j A tl p) := by
  intro j
  induction j with
  | zero => intro p U1 σ A H tl hj _ hD; have := hD.2.2.2.2.2.2.2.2.2; omega
  | succ j ih =>
    intro p U1 σ A H tl hj hu hD htl hn hm hz h106 h76
    obtain ⟨V, rfl⟩ : ∃ V, U1 = V + 1 := ⟨U1 - 1, by omega⟩
    have hD' := hD
    obtain ⟨a1, a2, a3, a4, a5, a6, a7, a8, a9, a10⟩ := hD'
    have h8 := a4.2.2.2
    have hdl := a3.1 n hn
    rw [hz] at hdl
    have h0 : (0 : Int32) < nI dp := (ltI (a := 0) (by decide) (by omega)).mpr hdp
    have e1 : nI dp - 1 = nI (dp - 1) := nI_sub (b := 1) (by omega)
    obtain ⟨r1, r2⟩ := tbS_le' a10
    -- the blanks in front
    have F1 : fP P109 σ (uI σ 1101 109 (nI (tbS S p))) := fP_u ⟨rfl, rfl⟩
    have D1 : DR (uI σ 1101 109 (nI (tbS S p))) s T D S lm A H (tbS S p) p := DR_9 hD F1 (sI_s _ _ _ _) r1 r2
    have c106 : sI (uI σ 1101 109 (nI (tbS S p))) 1101 106 = nI dp := (sI_o (Or.inr (by decide))).trans h106
    have c76 : ∀ i, sI (uI σ 1101 109 (nI (tbS S p))) 1176 i = sI σ 1176 i := fun i => sI_o (Or.inl (by decide))
    have stp : x_X12_parse_L29 U 1101 K (V + 1) σ = b1 (x_X12_parseNext U 1101 σ) fun σ15 => x_X12_parse_L29 U 1101 K V σ15 := by
      rw [x_X12_parse_L29, h106, if_pos h0, if_pos a6]
    unfold LQ
    rw [stp]
    unfold x_X12_parseNext
    rw [h106, e1, ix_in (by omega) (by decide), a5, N_tblanks hU4 a4 a10, b1_eq, sb_eq, h76]
    generalize uI σ 1101 109 (nI (tbS S p)) = σ1 at *
    have D1' := D1
    obtain ⟨b1', b2', b3', b4', b5', b6', b7', b8', b9', b10'⟩ := D1'
    have FD1 : fP PDc σ σ1 := PDc_n (P109_n F1)
    -- once something is wrong the loop ends
    have ends : ∀ (ψ : SG) (V : Nat), 0 < V → fP PDc σ ψ → ¬ sI ψ 1101 107 = 0 → ∃ τ, x_X12_parse_L29 U 1101 K V ψ = K τ ∧ fP PDc σ τ ∧ ¬ sI τ 1101 107 = 0 := by
      intro ψ V hV fψ h7
      obtain ⟨W, rfl⟩ : ∃ W, V = W + 1 := ⟨V - 1, by omega⟩
      rw [x_X12_parse_L29, if_neg h7, ite_self]
      exact ⟨ψ, rfl, fψ, h7⟩
    have epe : nI (tbS S p) = nI S.length ↔ tbS S p = S.length := nI_eq (by omega) (by omega)
    have edp : nI dp = 1 ↔ dp = 1 := nI_eq (b := 1) (by omega) (by decide)
    -- out of a message
    have pop : ∀ (υ : SG), fP (fun b k => b = 1101 ∧ k = 107) σ1 υ → x_X12_parseNext_85 U 1101 υ = some (uI (uI υ 1101 106 (nI (dp - 1))) 1101 109 (nI (tbS S p + 1))) := by
      intro υ hυ
      unfold x_X12_parseNext_85
      rw [sb_eq, sb_eq, (hυ 1101 106 (by omega)).1, c106, e1, sI_o (Or.inr (by decide)), (hυ 1101 109 (by omega)).1, b5', nI_1]
    have popF : ∀ (υ : SG), fP (fun b k => b = 1101 ∧ (k = 106 ∨ k = 109)) υ (uI (uI υ 1101 106 (nI (dp - 1))) 1101 109 (nI (tbS S p + 1))) := fun υ => fP_trans (fP_u ⟨rfl, Or.inl rfl⟩) (fP_u ⟨rfl, Or.inr rfl⟩)
    have rightO : ∃ τ, x_X12_parseNext_85 U 1101 σ1 = some τ ∧ DRf τ s T D S lm A H (tbS S p) ∧ sI τ 1101 109 = nI (tbS S p + 1) ∧ fP PDc σ τ ∧ sI τ 1101 106 = nI (dp - 1) ∧ (∀ i, sI τ 1176 i = sI σ 1176 i) := by
      have F2 := popF σ1
      refine ⟨_, pop σ1 (fP_refl _ _), ⟨RS_keep b1' (fun b k hb => (F2 b k (by unfold PKP at hb; omega)).1), VR_keep b2' (fun b k hb => ⟨(F2 b k (by omega)).1, (F2 b k (by omega)).2.1⟩), b3', LR_P b4' F2 (by omega) (fun k => by omega), ((F2 1101 107 (by omega)).1).trans b6', ((F2 1101 85 (by omega)).1).trans b7', ?_, b10'⟩, sI_s _ _ _ _, fP_trans FD1 (fP_mono F2 (fun b k z => by unfold PDc PDn; omega)), ?_, fun i => ?_⟩
      · obtain ⟨g1, g2, g3, g4, g5⟩ := b8'
        exact ⟨by omega, by omega, by omega, by omega, g5⟩
      · rw [sI_o (Or.inr (by decide)), sI_s]
      · rw [sI_o (Or.inl (by decide)), sI_o (Or.inl (by decide))]; exact c76 i
    have wrongO : ∃ τ, (sb (uI σ1 1101 107 1) fun σ14 => x_X12_parseNext_85 U 1101 σ14) = some τ ∧ fP PDc σ τ ∧ ¬ sI τ 1101 107 = 0 := by
      rw [sb_eq, pop _ (fP_u ⟨rfl, rfl⟩)]
      refine ⟨_, rfl, fP_trans (fP_trans FD1 (fP_u (by unfold PDc PDn; omega))) (fP_mono (popF _) (fun b k z => by unfold PDc PDn; omega)), ?_⟩
      rw [sI_o (Or.inr (by decide)), sI_o (Or.inr (by decide)), sI_s]
      decide
    rw [qLp]
    unfold x_X12_parseNext_48 x_X12_parseNext_64 x_X12_parseNext_77
    rw [b5', b4'.1, ifd epe, ifd epe, c106, ifd edp, ifd edp, b4'.at (by omega), b1_eq, show (125 : Int32) = nI 125 from rfl, ifA h8 (by decide), if_pos (show (1 : Int32) = 1 from rfl), if_neg (show ¬ (1 : Int32) = 0 by decide), if_neg (show ¬ (0 : Int32) = 1 by decide), if_pos (show (0 : Int32) = 0 from rfl)]
    cases hsx : S[tbS S p]? with
    | none =>
      have hend : tbS S p = S.length := by
        have := List.getElem?_eq_none_iff.mp hsx
        omega
      rw [if_pos hend, if_pos hend]
      simp only
      by_cases qd : dp = 1
      · rw [if_pos qd, if_pos qd]
        obtain ⟨τ, t1, t2, t3, t4, t5, t6⟩ := rightO
        rw [t1, b1_eq]
        refine ⟨fun z => (by cases z), fun A' tl' p' z => ?_⟩
        cases z
        exact ⟨τ, H, V, rfl, by omega, t2, fun z => by omega, t4, t5, fun i _ => t6 i, zX_refl _ _, htl⟩
      · rw [if_neg qd, if_neg qd]
        obtain ⟨τ, t1, t2, t3⟩ := wrongO
        rw [t1, b1_eq]
        exact ⟨fun _ => ends τ V (by omega) t2 t3, fun A' tl' p' z => by cases z⟩
    | some x =>
      have hpl := (List.getElem?_eq_some_iff.mp hsx).1
      have ex : some x = some 125 ↔ x = 125 := ⟨fun z => Option.some.inj z, fun z => by rw [z]⟩
      rw [if_neg (show ¬ tbS S p = S.length by omega), if_neg (show ¬ tbS S p = S.length by omega), ifd ex]
      simp only
      by_cases qx : x = 125
      · rw [if_pos qx, if_pos qx]
        by_cases qd : dp = 1
        · rw [if_pos qd, if_neg (show ¬ 1 < dp by omega)]
          obtain ⟨τ, t1, t2, t3⟩ := wrongO
          rw [t1, b1_eq]
          exact ⟨fun _ => ends τ V (by omega) t2 t3, fun A' tl' p' z => by cases z⟩
        · rw [if_neg qd, if_pos (show 1 < dp by omega)]
          obtain ⟨τ, t1, t2, t3, t4, t5, t6⟩ := rightO
          rw [t1, b1_eq]
          refine ⟨fun z => (by cases z), fun A' tl' p' z => ?_⟩
          cases z
          obtain ⟨g1, g2, g3, g4, g5, g6, ⟨y1, y2, y3, y4, y5⟩, g8⟩ := t2
          exact ⟨τ, H, V, rfl, by omega, ⟨g1, g2, g3, g4, g5, g6, ⟨by omega, by omega, by omega, by omega, y5⟩, by omega⟩, fun _ => t3, t4, t5, fun i _ => t6 i, zX_refl _ _, htl⟩
      · rw [if_neg qx, if_neg qx]
        have D2 : DR σ1 s T D S lm A H (tbS S p) (tbS S p) := DR_b D1 r1 (Nat.le_refl _)
        have key := N_qfld (U := U) hU4 hs hg hlm D2 htl hn hm hz c106 (by omega)
        rw [b5'] at key
        obtain ⟨τ, t1, t2, t3, t4, t5⟩ := key
        rw [t1, b1_eq, qSt_x]
        have FA := fP_trans FD1 t2
        cases hq : qSx T D S n m (tbS S p) A tl with
        | none =>
          exact ⟨fun _ => ends τ V (by omega) FA (t3 hq), fun A' tl' p' z => by cases z⟩
        | some y =>
          obtain ⟨A1, tl1, p1, o⟩ := y
          obtain ⟨s1, s2⟩ := qSx_lt hg r2 hq
          cases o with
          | none =>
            obtain ⟨H1, D3, x1, x2, F3⟩ := t4 A1 tl1 p1 hq
            simp only [qFn]
            have cs : ∀ b k, (b = 1101 ∧ k = 106) ∨ b = 1176 → sI τ b k = sI σ1 b k := fun b k hb => (F3 b k (by unfold PDn; omega)).1
            have key2 := ih p1 V τ A1 H1 tl1 (by omega) (by omega) D3 x2 (by have := x1.1; omega) ((x1.2 n hn).1.trans hm) ((x1.2 n hn).2.trans hz) ((cs 1101 106 (by omega)).trans c106) ((cs 1176 _ (by omega)).trans ((c76 _).trans h76))
            obtain ⟨k1, k2⟩ := key2
            refine ⟨fun z => ?_, fun A' tl' p' z => ?_⟩
            · obtain ⟨υ, u1, u2, u3⟩ := k1 z
              exact ⟨υ, u1, fP_trans FA u2, u3⟩
            · have hle := qLp_le hg hrl j p1 A1 A' tl1 tl' p' s2 z
              obtain ⟨υ, H', U2, u1, u2, u3, u4, u5, u6, u7, u8, u9⟩ := k2 A' tl' p' z
              exact ⟨υ, H', U2, u1, by omega, u3, u4, fP_trans FA u5, u6, fun i hi => (u7 i hi).trans ((cs 1176 i (by omega)).trans (c76 i)), zX_trans x1 u8, u9⟩
          | some c =>
            obtain ⟨k, t⟩ := c
            obtain ⟨y1, y2⟩ := t5 A1 tl1 p1 k t hq
            simp only [qFn]
            by_cases hl : dp + 1 ≤ lm
            · obtain ⟨H1, D3, x1, x2, x3, x4, x5, x6, x7, x8⟩ := y2 hl
              have key2 := hrc hl τ A1 H1 tl1 k t p1 V D3 x2 x3 x4 x5 x6 x7 (by omega)
              obtain ⟨k1, k2⟩ := key2
              cases hr : rc A1 tl1 k t p1 with
              | none =>
                obtain ⟨υ, u1, u2, u3⟩ := k1 hr
                exact ⟨fun _ => ⟨υ, u1, fP_trans FA u2, u3⟩, fun A' tl' p' z => by cases z⟩
              | some y =>
                obtain ⟨A2, tl2, p2⟩ := y
                have hle := hrl _ _ _ _ _ _ _ _ s2 hr
                obtain ⟨υ, H2, U2, u1, u2, u3, u4, u5, u6, u7, u8, u9⟩ := k2 A2 tl2 p2 hr
                simp only
                have x17 := zX_trans x1 u8
                have D4 : DR υ s T D S lm A2 H2 p2 p2 := DRf_DR u3 (u4 (by omega))
                have key3 := ih p2 U2 υ A2 H2 tl2 (by omega) (by omega) D4 u9 (by have := x17.1; omega) ((x17.2 n hn).1.trans hm) ((x17.2 n hn).2.trans hz) u6 ((u7 (dp - 1) (by omega)).trans ((x8 (dp - 1) (by omega)).trans ((c76 _).trans h76)))
                obtain ⟨k3, k4⟩ := key3
                rw [u1]
                refine ⟨fun z => ?_, fun A' tl' p' z => ?_⟩
                · obtain ⟨ω, o1, o2, o3⟩ := k3 z
                  exact ⟨ω, o1, fP_trans (fP_trans FA u5) o2, o3⟩
                · have hle2 := qLp_le hg hrl j p2 A2 A' tl2 tl' p' hle.2 z
                  obtain ⟨ω, H', U3, o1, o2, o3, o4, o5, o6, o7, o8, o9⟩ := k4 A' tl' p' z
                  exact ⟨ω, H', U3, o1, by omega, o3, o4, fP_trans (fP_trans FA u5) o5, o6, fun i hi => (o7 i hi).trans ((u7 i (by omega)).trans ((x8 i hi).trans (c76 i))), zX_trans x17 o8, o9⟩
            · rw [hno (by omega)]
              exact ⟨fun _ => ends τ V (by omega) FA (y1 (by omega)), fun A' tl' p' z => by cases z⟩
theorem N_qms {U s lm : Nat} {T S : List Nat} {D : List Dc} {K : SG → Option (Int32 × SG)} (hU4 : 4000 < U) (hs : s < 2) (hg : GSc T D) (hlm : lm ≤ 20) (hSl : S.length ≤ 700) : ∀ (j dp : Nat) (σ : SG) (A : AV) (H : Rh) (tl : Tl) (n m p U1 : Nat), j + dp = 25 → 0 < dp → dp ≤ lm → DR σ s T D S lm A H p p → TLr H tl → n < aC A → aN A n = m → zD H n = dp → sI σ 1101 106 = nI dp → sI σ 1176 (dp - 1) = nI n → (S.length - p) + 2 < U1 → LQ U s T D S lm K dp p A H U1 σ (qMs T D S lm j dp A tl n m p) := by
  intro j
  induction j with
  | zero => intro dp σ A H tl n m p U1 hj h0 hdp; omega
  | succ j ih =>
    intro dp σ A H tl n m p U1 hj h0 hdp hD htl hn hm hz h106 h76 hu
    rw [qMs, if_neg (show ¬ lm < dp by omega)]
    refine N_qlp hU4 hs hg hlm hSl h0 (fun hl A' tl' k t q => ?_) (fun A tl k t q A' tl' q' hq h => qMs_le hg j (dp + 1) A tl k t q A' tl' q' hq h) (fun hl τ A' H' tl' k t p' U1 D' htl' hk ht hz' y1 y2 hu' => ih (dp + 1) τ A' H' tl' k t p' U1 (by omega) (by omega) hl D' htl' hk ht hz' y1 y2 hu') 701 p U1 σ A H tl (by have := hD.2.2.2.2.2.2.2.2.2; omega) hu hD htl hn hm hz h106 h76
    obtain ⟨i, rfl⟩ : ∃ i, j = i + 1 := ⟨j - 1, by omega⟩
    rw [qMs, if_pos hl]
theorem TLr_0 : TLr r0 [] := fun n f => ⟨fun z => (by cases z), fun z => by obtain ⟨r, hr, _⟩ := z; cases hr⟩
theorem N_par {U s : Nat} {σ : SG} {T S : List Nat} {D : List Dc} {x y : Int32} (hU4 : 4000 < U) (hs : s < 2) (hg : GSc T D) (hS : RS σ s T D) (hT : RTr σ S) (h8 : ok8 S) (hl : S.length ≤ 700) :
    ((msg D x = none ∨ y < 1 ∨ 20 < y) → ∃ τ, x_X12_parse U 1101 (nI s) x y σ = some (0, τ) ∧ fP Pdec σ τ ∧ sI τ 1101 5 = 1 ∧ sI τ 1101 79 = 0 ∧ sI τ 1101 1 = 0) ∧
    ∀ m lm, msg D x = some m → y = nI lm → 1 ≤ lm → lm ≤ 20 → ∃ τ, x_X12_parse U 1101 (nI s) x y σ = x_X12_finish U 1101 τ ∧ fP Pdec σ τ ∧ sI τ 1101 79 = 0 ∧ sI τ 1101 1 = 0 ∧ (pcS T D S lm m = none → ¬ sI τ 1101 107 = 0) ∧ ∀ A, pcS T D S lm m = some A → ∃ H p, DRf τ s T D S lm A H p ∧ zD H 0 = 1 ∧ aN A 0 = m := by
  obtain ⟨b1', b2'⟩ := N_begins (U := U) (x := x) (y := y) hs hg hS hT h8 hl
  unfold x_X12_parse
  refine ⟨fun h => ?_, fun m lm hm hy h1 h20 => ?_⟩
  · obtain ⟨τ, t1, t2⟩ := b1' h
    rw [t1, b2_eq, if_pos rfl]
    exact ⟨τ, rfl, t2⟩
  · obtain ⟨τ, t1, t2, t3, t4, t5, t6, t7, t8, t9, t10⟩ := b2' m lm hm hy h1 h20
    rw [t1, b2_eq, if_neg (show ¬ (1 : Int32) = 0 by decide), sb_eq, show (0 : Int32) = nI 0 from rfl, ix_in (by decide) (by decide), sb_eq, sb_eq]
    have F : fP (fun b k => (b = 1101 ∧ (k = 106 ∨ k = 109)) ∨ b = 1176) τ (uI (uI (uI τ 1101 109 (nI 0)) 1176 0 (nI 0)) 1101 106 1) := by
      refine fP_trans (fP_trans (fP_u ?_) (fP_u ?_)) (fP_u ?_)
      · exact Or.inl ⟨rfl, by omega⟩
      · exact Or.inr rfl
      · exact Or.inl ⟨rfl, by omega⟩
    have c9 : sI (uI (uI (uI τ 1101 109 (nI 0)) 1176 0 (nI 0)) 1101 106 1) 1101 109 = nI 0 := rfl
    have c6 : sI (uI (uI (uI τ 1101 109 (nI 0)) 1176 0 (nI 0)) 1101 106 1) 1101 106 = nI 1 := rfl
    have c76 : sI (uI (uI (uI τ 1101 109 (nI 0)) 1176 0 (nI 0)) 1101 106 1) 1176 0 = nI 0 := rfl
    generalize (uI (uI (uI τ 1101 109 (nI 0)) 1176 0 (nI 0)) 1101 106 1) = ω at *
    have D0 : DR ω s T D S lm (a0 m) r0 0 0 := ⟨RS_keep t5 (fun b k hb => (F b k (by unfold PKP at hb; omega)).1), VR_keep t6 (fun b k hb => ⟨(F b k (by omega)).1, (F b k (by omega)).2.1⟩), t7, ⟨((F 1101 73 (by omega)).1).trans t8.1, RI_P t8.2.1 F (fun k => by omega), t8.2.2⟩, c9, ((F 1101 107 (by omega)).1).trans t9, ((F 1101 85 (by omega)).1).trans t10, ⟨Nat.zero_le _, Nat.zero_le _, Nat.zero_le _, Nat.le_refl _, Nat.zero_le _⟩, Nat.le_refl _, Nat.zero_le _⟩
    have Fd : fP Pdec σ ω := fP_trans t2 (fP_mono F (fun b k z => by unfold Pdec PDc PDn; omega))
    obtain ⟨k1, k2⟩ := N_qms (U := U) (K := fun σ16 => x_X12_parse_50 U 1101 σ16) hU4 hs hg h20 hl 24 1 ω (a0 m) r0 [] 0 m 0 U (by omega) (by decide) h1 D0 TLr_0 Nat.one_pos rfl rfl c6 c76 (by omega)
    have ef : ∀ ψ, x_X12_parse_50 U 1101 ψ = x_X12_finish U 1101 ψ := fun ψ => b2_id _
    have i79 : ∀ ψ, fP PDc ω ψ → sI ψ 1101 79 = 0 ∧ sI ψ 1101 1 = 0 := fun ψ hψ => ⟨((hψ 1101 79 (by unfold PDc PDn; omega)).1).trans (((F 1101 79 (by omega)).1).trans t3), ((hψ 1101 1 (by unfold PDc PDn; omega)).1).trans (((F 1101 1 (by omega)).1).trans t4)⟩
    unfold pcS
    cases hd : qMs T D S lm 24 1 (a0 m) [] 0 m 0 with
    | none =>
      obtain ⟨ψ, p1, p2, p3⟩ := k1 hd
      rw [p1]
      exact ⟨ψ, ef ψ, fP_trans Fd (fP_mono p2 (fun b k z => Or.inl z)), (i79 ψ p2).1, (i79 ψ p2).2, fun _ => p3, fun A z => by cases z⟩
    | some y =>
      obtain ⟨A, tl', p'⟩ := y
      obtain ⟨ψ, H', U2, p1, p2, p3, p4, p5, p6, p7, p8, p9⟩ := k2 A tl' p' hd
      have hp' := p3.2.2.2.2.2.2.2
      rw [p1]
      obtain ⟨V, rfl⟩ : ∃ V, U2 = V + 1 := ⟨U2 - 1, by omega⟩
      rw [x_X12_parse_L29, p6, if_neg (show ¬ (0 : Int32) < nI (1 - 1) by decide)]
      exact ⟨ψ, ef ψ, fP_trans Fd (fP_mono p5 (fun b k z => Or.inl z)), (i79 ψ p5).1, (i79 ψ p5).2, fun z => (by cases z), fun A' z => by cases z; exact ⟨H', p', p3, (p8.2 0 Nat.one_pos).2, (p8.2 0 Nat.one_pos).1⟩⟩
