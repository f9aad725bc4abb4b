/-! ===== the reference decodes: the loop with its stack ===== -/
/-- the loop's outcome while a message is on top of the stack -/
def LO (U s : Nat) (T : List Nat) (D : List Dc) (S : List Nat) (lm : Nat) (K : SG → Option (Int32 × SG)) (dp e p : Nat) (A : AV) (H : Rh) (U1 : Nat) (σ : SG) (o : Option AV) : Prop :=
  (o = none → ∃ τ, x_X12_decode_L39 U 1101 K U1 σ = K τ ∧ fP PDc σ τ ∧ ¬ sI τ 1101 107 = 0) ∧
  ∀ A', o = some A' → ∃ τ H' U2, x_X12_decode_L39 U 1101 K U1 σ = x_X12_decode_L39 U 1101 K U2 τ ∧ U1 ≤ U2 + (e - p) + 1 ∧ DR τ s T D S lm A' H' e e ∧ fP PDc σ τ ∧ sI τ 1101 106 = nI (dp - 1) ∧ (∀ i, i < dp → sI τ 1176 i = sI σ 1176 i ∧ sI τ 1177 i = sI σ 1177 i) ∧ zX A H A' H'
theorem dSx_lt {T : List Nat} {D : List Dc} {S : List Nat} {n m e p w p1 : Nat} {A : AV} {A' : AV} {p' : Nat} {o : Option (Nat × Nat × Nat)} (h : dSx T D S n m e p w p1 A = some (A', p', o)) (he : e ≤ 700) : p1 < p' ∧ p' ≤ e ∧ ∀ k t q, o = some (k, t, q) → p' ≤ q ∧ q ≤ e := by
  unfold dSx at h
  by_cases hw : w % 8 = 2
  · rw [if_pos hw] at h
    cases hl : lnS S p1 e with
    | none => rw [hl] at h; cases h
    | some y =>
      obtain ⟨l, p2⟩ := y
      have hle := lnS_le hl he
      rw [hl] at h
      simp only at h
      have fin : ∀ (x : Option (AV × Nat × Option (Nat × Nat × Nat))) (B : AV), x = some (B, p2 + l, none) → x = some (A', p', o) → p1 < p' ∧ p' ≤ e ∧ ∀ k t q, o = some (k, t, q) → p' ≤ q ∧ q ≤ e := fun x B e1 e2 => by
        rw [e1] at e2
        cases e2
        exact ⟨by omega, by omega, fun k t q z => by cases z⟩
      cases hf : fOf D m (w / 8) with
      | none => rw [hf] at h; exact fin _ _ rfl h
      | some f =>
        rw [hf] at h
        simp only at h
        cases hd : D[f]? with
        | none => rw [hd] at h; cases h
        | some d =>
          rw [hd] at h
          simp only at h
          by_cases c1 : (dR d && nmr (fty T D d)) = true
          · rw [if_pos c1] at h
            cases hr : dRow T D S n f d (p2 + l) 701 A p2 with
            | none => rw [hr] at h; cases h
            | some A2 => rw [hr] at h; exact fin _ _ rfl h
          · rw [if_neg c1] at h
            by_cases c2 : nmr (fty T D d) = true
            · rw [if_pos c2] at h; exact fin _ _ rfl h
            · rw [if_neg c2] at h
              by_cases c3 : fty T D d = 11 ∧ u8T S p2 (p2 + l) = false
              · rw [if_pos c3] at h; cases h
              · rw [if_neg c3] at h
                by_cases c4 : fty T D d = 13
                · rw [if_pos c4] at h
                  cases ht : ftg T D d with
                  | none => rw [ht] at h; cases h
                  | some t =>
                    rw [ht] at h
                    cases h
                    exact ⟨by omega, by omega, fun k t q z => by cases z; omega⟩
                · rw [if_neg c4] at h; exact fin _ _ rfl h
  · rw [if_neg hw] at h
    cases hl : rdN S (w % 8) p1 e with
    | none => rw [hl] at h; cases h
    | some y =>
      obtain ⟨x, p2⟩ := y
      have hle := rdN_lt hl
      rw [hl] at h
      simp only at h
      have fin : ∀ (x : Option (AV × Nat × Option (Nat × Nat × Nat))) (B : AV), x = some (B, p2, none) → x = some (A', p', o) → p1 < p' ∧ p' ≤ e ∧ ∀ k t q, o = some (k, t, q) → p' ≤ q ∧ q ≤ e := fun x B e1 e2 => by
        rw [e1] at e2
        cases e2
        exact ⟨by omega, by omega, fun k t q z => by cases z⟩
      cases hf : fOf D m (w / 8) with
      | none => rw [hf] at h; exact fin _ _ rfl h
      | some f =>
        rw [hf] at h
        simp only at h
        cases hd : D[f]? with
        | none => rw [hd] at h; cases h
        | some d =>
          rw [hd] at h
          simp only at h
          by_cases c1 : kdO (fty T D d) = w % 8
          · rw [if_pos c1] at h; exact fin _ _ rfl h
          · rw [if_neg c1] at h; exact fin _ _ rfl h
theorem tgS_lt {S : List Nat} {p e w p1 : Nat} (h : tgS S p e = some (w, p1)) : p < p1 ∧ p1 ≤ e := by
  unfold tgS at h
  cases hr : rdN S 0 p e with
  | none => rw [hr] at h; cases h
  | some y =>
    obtain ⟨x, q⟩ := y
    rw [hr] at h
    simp only at h
    split at h
    · cases h
    · cases h; exact rdN_lt hr
theorem DR_106 {σ τ : SG} {s lm p b : Nat} {T S : List Nat} {D : List Dc} {A : AV} {H : Rh} (h : DR σ s T D S lm A H p b) (F2 : fP (fun b k => b = 1101 ∧ k = 106) σ τ) : DR τ s T D S lm A H p b := by
  obtain ⟨c1, c2, c3, c4, c5, c6, c7, c8, c9, c10⟩ := h
  exact ⟨RS_keep c1 (fun b k hb => (F2 b k (by unfold PKP at hb; omega)).1), VR_keep c2 (fun b k hb => ⟨(F2 b k (by omega)).1, (F2 b k (by omega)).2.1⟩), c3, ⟨((F2 1101 73 (by omega)).1).trans c4.1, RI_P c4.2.1 F2 (fun k => by omega), c4.2.2⟩, ((F2 1101 109 (by omega)).1).trans c5, ((F2 1101 107 (by omega)).1).trans c6, ((F2 1101 85 (by omega)).1).trans c7, c8, c9, c10⟩
theorem N_lp {U s lm n m e dp : Nat} {T S : List Nat} {D : List Dc} {K : SG → Option (Int32 × SG)} {rc : AV → Nat → Nat → Nat → Nat → Option AV} (hU4 : 4000 < U) (hs : s < 2) (hg : GSc T D) (hlm : lm ≤ 20) (he : e ≤ S.length) (hSl : S.length ≤ 700) (hdp : 0 < dp)
    (hno : lm < dp + 1 → ∀ A' k t q p', rc A' k t q p' = none)
    (hrc : dp + 1 ≤ lm → ∀ (τ : SG) (A' : AV) (H' : Rh) (k t q p' U1 : Nat), q ≤ S.length → p' ≤ q → DR τ s T D S lm A' H' p' p' → k < aC A' → aN A' k = t → zD H' k = dp + 1 → sI τ 1101 106 = nI (dp + 1) → sI τ 1176 dp = nI k → sI τ 1177 dp = nI q → (q - p') + 2 < U1 → LO U s T D S lm K (dp + 1) q p' A' H' U1 τ (rc A' k t q p')) :
    ∀ (j p U1 : Nat) (σ : SG) (A : AV) (H : Rh), e < j + p → p ≤ e → (e - p) + 2 < U1 → DR σ s T D S lm A H p p → n < aC A → aN A n = m → zD H n = dp → sI σ 1101 106 = nI dp → sI σ 1176 (dp - 1) = nI n → sI σ 1177 (dp - 1) = nI e → LO U s T D S lm K dp e p A H U1 σ (dLp T D S rc n m e j A p) := by
  intro j
  induction j with
  | zero => intro p U1 σ A H hj hp; omega
  | succ j ih =>
    intro p U1 σ A H hj hp hu hD hn hm hz h106 h76 h77
    obtain ⟨V, rfl⟩ : ∃ V, U1 = V + 1 := ⟨U1 - 1, by omega⟩
    have hdl := hD.2.2.1.1 n hn
    rw [hz] at hdl
    have h0 : (0 : Int32) < nI dp := (ltI (a := 0) (by decide) (by omega)).mpr hdp
    have e1 : nI dp - 1 = nI (dp - 1) := nI_sub (b := 1) (by omega)
    have hpe : nI p = nI e ↔ p = e := nI_eq (by omega) (by omega)
    have stp : x_X12_decode_L39 U 1101 K (V + 1) σ = if p = e then x_X12_decode_L39 U 1101 K V (uI σ 1101 106 (nI (dp - 1))) else b1 (x_X12_takeNext U 1101 (nI n) (nI e) σ) fun σ30 => x_X12_decode_L39 U 1101 K V σ30 := by
      rw [x_X12_decode_L39, h106, if_pos h0, if_pos hD.2.2.2.2.2.1, e1, ix_in (by omega) (by decide), h77, hD.2.2.2.2.1, ifd hpe, sb_eq, ix_in (by omega) (by decide), h76]
      rfl
    unfold LO
    rw [stp, dLp]
    by_cases q : p = e
    · subst q
      rw [if_neg (Nat.lt_irrefl _), if_pos rfl]
      refine ⟨fun z => (by cases z), fun A' z => ?_⟩
      cases z
      have F2 : fP (fun b k => b = 1101 ∧ k = 106) σ (uI σ 1101 106 (nI (dp - 1))) := fP_u ⟨rfl, rfl⟩
      exact ⟨_, H, V, rfl, by omega, DR_106 hD F2, fP_mono F2 (fun b k z => Or.inr (Or.inl z)), sI_s _ _ _ _, fun i _ => ⟨sI_o (Or.inl (by decide)), sI_o (Or.inl (by decide))⟩, zX_refl _ _⟩
    · rw [if_pos (show p < e by omega), if_neg q]
      obtain ⟨τ, t1, t2, t3, t4, t5⟩ := N_tnext (U := U) hU4 hs hg hlm he (show p < e by omega) hD hn hm hz h106
      rw [t1, b1_eq]
      -- once something is wrong the loop ends
      have ends : ∀ (ψ : SG) (V : Nat), 0 < V → fP PDc σ ψ → ¬ sI ψ 1101 107 = 0 → ∃ τ, x_X12_decode_L39 U 1101 K V ψ = K τ ∧ fP PDc σ τ ∧ ¬ sI τ 1101 107 = 0 := by
        intro ψ V hV fψ h7
        obtain ⟨W, rfl⟩ : ∃ W, V = W + 1 := ⟨V - 1, by omega⟩
        rw [x_X12_decode_L39, if_neg h7, ite_self]
        exact ⟨ψ, rfl, fψ, h7⟩
      cases htg : tgS S p e with
      | none =>
        rw [htg] at t3
        simp only
        exact ⟨fun _ => ends τ V (by omega) t2 (t3 rfl), fun A' z => by cases z⟩
      | some y =>
        obtain ⟨w, p1⟩ := y
        have hlt := tgS_lt htg
        rw [htg] at t3 t4 t5
        simp only at t3 t4 t5 ⊢
        rw [dSt_x]
        cases hsx : dSx T D S n m e p w p1 A with
        | none =>
          exact ⟨fun _ => ends τ V (by omega) t2 (t3 hsx), fun A' z => by cases z⟩
        | some y =>
          obtain ⟨A1, p', o⟩ := y
          obtain ⟨s1, s2, s3⟩ := dSx_lt hsx (by omega)
          cases o with
          | none =>
            obtain ⟨H1, D1, x1, F1⟩ := t4 A1 p' hsx
            simp only [dFn]
            have cs : ∀ b k, (b = 1101 ∧ k = 106) ∨ b = 1176 ∨ b = 1177 → sI τ b k = sI σ b k := fun b k hb => (F1 b k (by unfold PDn; omega)).1
            have key := ih p' V τ A1 H1 (by omega) s2 (by omega) D1 (by have := x1.1; omega) ((x1.2 n hn).1.trans hm) ((x1.2 n hn).2.trans hz) ((cs 1101 106 (by omega)).trans h106) ((cs 1176 _ (by omega)).trans h76) ((cs 1177 _ (by omega)).trans h77)
            obtain ⟨k1, k2⟩ := key
            refine ⟨fun z => ?_, fun A' z => ?_⟩
            · obtain ⟨υ, u1, u2, u3⟩ := k1 z
              exact ⟨υ, u1, fP_trans t2 u2, u3⟩
            · obtain ⟨υ, H', U2, u1, u2, u3, u4, u5, u6, u7⟩ := k2 A' z
              exact ⟨υ, H', U2, u1, by omega, u3, fP_trans t2 u4, u5, fun i hi => ⟨(u6 i hi).1.trans (cs 1176 i (by omega)), (u6 i hi).2.trans (cs 1177 i (by omega))⟩, zX_trans x1 u7⟩
          | some c =>
            obtain ⟨k, t, q'⟩ := c
            obtain ⟨s4, s5⟩ := s3 k t q' rfl
            obtain ⟨y1, y2⟩ := t5 A1 p' k t q' hsx
            simp only [dFn]
            by_cases hl : dp + 1 ≤ lm
            · obtain ⟨H1, D1, x1, x2, x3, x4, x5, x6, x7, x8⟩ := y2 hl
              have key := hrc hl τ A1 H1 k t q' p' V (by omega) s4 D1 x2 x3 x4 x5 x6 x7 (by omega)
              obtain ⟨k1, k2⟩ := key
              cases hr : rc A1 k t q' p' with
              | none =>
                obtain ⟨υ, u1, u2, u3⟩ := k1 hr
                exact ⟨fun _ => ⟨υ, u1, fP_trans t2 u2, u3⟩, fun A' z => by cases z⟩
              | some A2 =>
                obtain ⟨υ, H2, U2, u1, u2, u3, u4, u5, u6, u7⟩ := k2 A2 hr
                simp only
                have x17 := zX_trans x1 u7
                have key2 := ih q' U2 υ A2 H2 (by omega) s5 (by omega) u3 (by have := x17.1; omega) ((x17.2 n hn).1.trans hm) ((x17.2 n hn).2.trans hz) u5 ((u6 (dp - 1) (by omega)).1.trans ((x8 (dp - 1) (by omega)).1.trans h76)) ((u6 (dp - 1) (by omega)).2.trans ((x8 (dp - 1) (by omega)).2.trans h77))
                obtain ⟨k3, k4⟩ := key2
                rw [u1]
                refine ⟨fun z => ?_, fun A' z => ?_⟩
                · obtain ⟨ω, o1, o2, o3⟩ := k3 z
                  exact ⟨ω, o1, fP_trans (fP_trans t2 u4) o2, o3⟩
                · obtain ⟨ω, H', U3, o1, o2, o3, o4, o5, o6, o7⟩ := k4 A' z
                  exact ⟨ω, H', U3, o1, by omega, o3, fP_trans (fP_trans t2 u4) o4, o5, fun i hi => ⟨(o6 i hi).1.trans ((u6 i (by omega)).1.trans (x8 i hi).1), (o6 i hi).2.trans ((u6 i (by omega)).2.trans (x8 i hi).2)⟩, zX_trans x17 o7⟩
            · rw [hno (by omega)]
              exact ⟨fun _ => ends τ V (by omega) t2 (y1 (by omega)), fun A' z => by cases z⟩
theorem N_ms {U s lm : Nat} {T S : List Nat} {D : List Dc} {K : SG → Option (Int32 × SG)} (hU4 : 4000 < U) (hs : s < 2) (hg : GSc T D) (hlm : lm ≤ 20) (hSl : S.length ≤ 700) : ∀ (j dp : Nat) (σ : SG) (A : AV) (H : Rh) (n m e p U1 : Nat), j + dp = 25 → 0 < dp → dp ≤ lm → e ≤ S.length → p ≤ e → DR σ s T D S lm A H p p → n < aC A → aN A n = m → zD H n = dp → sI σ 1101 106 = nI dp → sI σ 1176 (dp - 1) = nI n → sI σ 1177 (dp - 1) = nI e → (e - p) + 2 < U1 → LO U s T D S lm K dp e p A H U1 σ (dMs T D S lm j dp A n m e p) := by
  intro j
  induction j with
  | zero => intro dp σ A H n m e p U1 hj h0 hdp; omega
  | succ j ih =>
    intro dp σ A H n m e p U1 hj h0 hdp he hp hD hn hm hz h106 h76 h77 hu
    rw [dMs, if_neg (show ¬ lm < dp by omega)]
    refine N_lp hU4 hs hg hlm he hSl h0 (fun hl A' k t q p' => ?_) (fun hl τ A' H' k t q p' U1 hq hp' D' hk ht hz' y1 y2 y3 hu' => ih (dp + 1) τ A' H' k t q p' U1 (by omega) (by omega) hl hq hp' D' hk ht hz' y1 y2 y3 hu') 701 p U1 σ A H (by omega) hp hu hD hn hm hz h106 h76 h77
    obtain ⟨i, rfl⟩ : ∃ i, j = i + 1 := ⟨j - 1, by omega⟩
    rw [dMs, if_pos hl]
