/-! ===== parse, as both answer ===== -/
theorem numS_4 {S : List Nat} {t p q : Nat} {v : Int64} (h : numS S t p = some (v, q)) : okV4 t v := by
  intro ht
  subst ht
  unfold numS at h
  generalize hp1 : (if S[p]? = some 45 then p + 1 else p) = p1 at h
  split at h
  · cases h
  · cases hn : nmF (rl pD S p1) 0 with
    | none => rw [hn] at h; cases h
    | some x =>
      rw [hn] at h
      simp only at h
      by_cases q9 : x ≤ mxO 4 (decide (S[p]? = some 45))
      · rw [if_pos q9] at h
        have e := (Prod.mk.inj (Option.some.inj h)).1
        by_cases q45 : S[p]? = some 45
        · rw [decide_eq_true q45] at q9
          have q9' : x ≤ 2 ^ 31 := q9
          rw [if_pos q45] at e
          have := nLv (v := (true, x)) (decide_eq_true (by
            show x ≤ 2147483647 ∨ (true = true ∧ x = 2147483648)
            by_cases z : x = 2147483648
            · exact Or.inr ⟨rfl, z⟩
            · exact Or.inl (by omega)))
          rw [show nL (true, x) = v from e] at this
          exact this.symm
        · rw [decide_eq_false q45] at q9
          have q9' : x ≤ 2 ^ 31 - 1 := q9
          rw [if_neg q45] at e
          have := nLv (v := (false, x)) (decide_eq_true (by
            show x ≤ 2147483647 ∨ (false = true ∧ x = 2147483648)
            exact Or.inl (by omega)))
          rw [show nL (false, x) = v from e] at this
          exact this.symm
      · rw [if_neg q9] at h; cases h
theorem pVal_4 {T : List Nat} {D : List Dc} {S : List Nat} {d : Dc} {p q : Nat} {v : Int64} {x : List Nat} (h : pVal T D S d p = some (v, x, q)) : okV4 (fty T D d) v := by
  intro h4
  unfold pVal at h
  have hnm : nmr (fty T D d) = true := by rw [h4]; rfl
  rw [hnm, if_pos rfl] at h
  cases hn : nvS T D S d p with
  | none => rw [hn] at h; cases h
  | some y =>
    obtain ⟨v', q'⟩ := y
    rw [hn] at h
    have e := (Prod.mk.inj (Option.some.inj h)).1
    have e' : v' = v := e
    unfold nvS at hn
    rw [if_neg (by omega), if_neg (fun z => by omega)] at hn
    rw [← e']
    exact numS_4 hn h4
theorem VO_qsx {T : List Nat} {D : List Dc} {S : List Nat} {n m p : Nat} {A A' : AV} {tl tl' : Tl} {p' : Nat} {o : Option (Nat × Nat)} (hA : VO T D A) (h : qSx T D S n m p A tl = some (A', tl', p', o)) : VO T D A' := by
  unfold qSx at h
  cases hf : fNm T D m (slc S p (weS S p)) with
  | none => rw [hf] at h; cases h
  | some f =>
    rw [hf] at h
    simp only at h
    cases hd : D[f]? with
    | none => rw [hd] at h; cases h
    | some d =>
      rw [hd] at h
      simp only at h
      split at h
      · cases h
      · split at h
        · split at h
          · cases ht : ftg T D d with
            | none => rw [ht] at h; cases h
            | some t =>
              rw [ht] at h
              simp only at h
              have e := (Prod.mk.inj (Option.some.inj h)).1
              rw [← e]
              exact VO_msg hA
          · cases h
        · split at h
          · cases hv : pVal T D S d (tbS S (tbS S (weS S p) + 1)) with
            | none => rw [hv] at h; cases h
            | some y =>
              obtain ⟨v, x, q⟩ := y
              rw [hv] at h
              simp only at h
              have e := (Prod.mk.inj (Option.some.inj h)).1
              rw [← e]
              exact VO_put hd hA (pVal_4 hv)
          · cases h
theorem VO_qlp {T : List Nat} {D : List Dc} {S : List Nat} {rc : AV → Tl → Nat → Nat → Nat → Option (AV × Tl × Nat)} {n m dp : Nat} (hrc : ∀ A tl k t q A' tl' q', VO T D A → rc A tl k t q = some (A', tl', q') → VO T D A') : ∀ (j : Nat) (A : AV) (tl : Tl) (p : Nat) (A' : AV) (tl' : Tl) (p' : Nat), VO T D A → qLp T D S rc n m dp j A tl p = some (A', tl', p') → VO T D A' := by
  intro j
  induction j with
  | zero => intro A tl p A' tl' p' _ h; cases h
  | succ j ih =>
    intro A tl p A' tl' p' hA h
    rw [qLp] at h
    cases hs : S[tbS S p]? with
    | none =>
      rw [hs] at h
      simp only at h
      split at h
      · cases h; exact hA
      · cases h
    | some c =>
      rw [hs] at h
      simp only at h
      split at h
      · split at h
        · cases h; exact hA
        · cases h
      · rw [qSt_x] at h
        cases hq : qSx T D S n m (tbS S p) A tl with
        | none => rw [hq] at h; cases h
        | some y =>
          obtain ⟨A1, tl1, p1, o⟩ := y
          have h1 := VO_qsx hA hq
          rw [hq] at h
          cases o with
          | none => exact ih A1 tl1 p1 A' tl' p' h1 h
          | some c =>
            obtain ⟨k, t⟩ := c
            simp only [qFn] at h
            cases hr : rc A1 tl1 k t p1 with
            | none => rw [hr] at h; cases h
            | some y =>
              obtain ⟨A2, tl2, p2⟩ := y
              rw [hr] at h
              exact ih A2 tl2 p2 A' tl' p' (hrc _ _ _ _ _ _ _ _ h1 hr) h
theorem VO_qms {T : List Nat} {D : List Dc} {S : List Nat} {lm : Nat} : ∀ (j dp : Nat) (A : AV) (tl : Tl) (n m p : Nat) (A' : AV) (tl' : Tl) (p' : Nat), VO T D A → qMs T D S lm j dp A tl n m p = some (A', tl', p') → VO T D A' := by
  intro j
  induction j with
  | zero => intro dp A tl n m p A' tl' p' _ h; cases h
  | succ j ih =>
    intro dp A tl n m p A' tl' p' hA h
    rw [qMs] at h
    split at h
    · cases h
    · exact VO_qlp (fun A tl k t q A' tl' q' hA h => ih (dp + 1) A tl k t q A' tl' q' hA h) 701 A tl p A' tl' p' hA h
theorem VO_pc {T : List Nat} {D : List Dc} {S : List Nat} {lm m : Nat} {A : AV} (h : pcS T D S lm m = some A) : VO T D A := by
  unfold pcS at h
  cases hq : qMs T D S lm 24 1 (a0 m) [] 0 m 0 with
  | none => rw [hq] at h; cases h
  | some y =>
    obtain ⟨A1, tl1, p1⟩ := y
    rw [hq] at h
    cases h
    exact VO_qms 24 1 (a0 m) [] 0 m 0 _ _ _ VO_a0 hq
/-- what is parsed is a forest, and small -/
theorem pc_AW {U s : Nat} {σ : SG} {T S : List Nat} {D : List Dc} {x y : Int32} (hU4 : 4000 < U) (hs : s < 2) (hg : GSc T D) (hC : CS σ (cA s) T D) (hB : RB σ 1 S 0) (hS : RS σ s T D) (hT : RTr σ S) : ∀ A, rdV D (pcS T D S) x y = some A → (∃ z, AW T D A z) ∧ AK T D A := by
  intro A hA
  have hcb := cA_cb (s := s)
  have hl : S.length ≤ 700 := hB.2.2.1
  have h8 : ok8 S := hB.2.2.2.2
  by_cases hbad : msg D x = none ∨ y < 1 ∨ 20 < y
  · rw [rdV_no hbad] at hA; cases hA
  · cases hm : msg D x with
    | none => exact absurd (Or.inl hm) hbad
    | some m =>
      have h1 : ¬ y < 1 := fun z => hbad (Or.inr (Or.inl z))
      have h2 : ¬ 20 < y := fun z => hbad (Or.inr (Or.inr z))
      obtain ⟨lm, rfl, h1', h20⟩ := lim_n h1 h2
      rw [rdV_yes hm h1' h20] at hA
      obtain ⟨hM, _⟩ := msg_some hm
      obtain ⟨τ1, a1, a2, a3, a4, a5, a6, a7⟩ := C_begin hcb hC hM
      have B1 : RB τ1 1 S 0 := hB.sm (a5 1 (by decide) (by decide) (by decide)) (a5 2 (by decide) (by decide) (by decide))
      obtain ⟨τ2, r1, r2, r3⟩ := C_qread (lm := lm) hU4 hcb hg h20 a4 a2 a3 B1 a6 a7
      obtain ⟨G, tl, p, hG⟩ := r3 A hA
      obtain ⟨w1, w2⟩ := C_forest hg hG.2.1 hG.2.2.1
      obtain ⟨τ3, b1', b2', b3, b4, b5, b6⟩ := (N_par (U := U) (x := x) (y := nI lm) hU4 hs hg hS hT h8 hl).2 m lm hm rfl h1' h20
      obtain ⟨H, p', hH, hz, _⟩ := b6 A hA
      obtain ⟨c1, c2, c3, c4, c5, c6, c7, c8⟩ := hH
      refine ⟨⟨zD H, c2.2.2.2.2.1.2.1, hz, fun n hn => ⟨Nat.le_trans (c3.1 n hn) h20, fun k hk => ?_⟩, w2⟩, VO_pc hA, ?_, fun n hn => (c2.2.2.2.2.1.2.2.2 n hn).1⟩
      · obtain ⟨q1, q2⟩ := w1 n hn k hk
        obtain ⟨r, hr, e1, _, d, e2, e3, e4⟩ := (chN_r hg c2 hn).mp hk
        have := c3.2.1 r hr d e2 e3
        rw [e4, e1] at this
        exact ⟨q1, q2, this⟩
      · have := tX_rows hg c2
        have := c7.2.2.2.2
        have := c2.2.2.1.2.2.2
        omega
theorem N_parse {U s : Nat} {σ : SG} {T S : List Nat} {D : List Dc} {x y : Int32} (hU4 : 4000 < U) (hs : s < 2) (hg : GSc T D) (hS : RS σ s T D) (hT : RTr σ S) (h8 : ok8 S) (hl : S.length ≤ 700) : ∃ v τ, x_X12_parse U 1101 (nI s) x y σ = some (v, τ) ∧ fP Pdf σ τ ∧ sI τ 1101 1 = 0 ∧ sI τ 1101 5 = fdC (seR T D (rdV D (pcS T D S) x y)).1 ∧ (∀ w, (seR T D (rdV D (pcS T D S) x y)).1 = .inl (some (.int w)) → v = w) ∧ VRo τ s T D (seR T D (rdV D (pcS T D S) x y)).2 ∧ ∀ A, (seR T D (rdV D (pcS T D S) x y)).2 = some A → msg D x = some (aN A 0) := by
  obtain ⟨n1, n2⟩ := N_par (U := U) (x := x) (y := y) hU4 hs hg hS hT h8 hl
  by_cases hbad : msg D x = none ∨ y < 1 ∨ 20 < y
  · obtain ⟨τ, t1, t2, t3, t4, t5⟩ := n1 hbad
    rw [rdV_no hbad]
    exact ⟨0, τ, t1, fP_mono t2 (fun b k z => Or.inl z), t5, t3, fun w z => (by cases z), t4, fun A z => by cases z⟩
  · cases hm : msg D x with
    | none => exact absurd (Or.inl hm) hbad
    | some m =>
      have h1 : ¬ y < 1 := fun z => hbad (Or.inr (Or.inl z))
      have h2 : ¬ 20 < y := fun z => hbad (Or.inr (Or.inr z))
      obtain ⟨lm, rfl, h1', h20⟩ := lim_n h1 h2
      obtain ⟨τ, t1, t2, t3, t4, t5, t6⟩ := n2 m lm hm rfl h1' h20
      rw [rdV_yes hm h1' h20, t1]
      have F1 : fP Pdf σ τ := fP_mono t2 (fun b k z => Or.inl z)
      cases hd : pcS T D S lm m with
      | none =>
        rw [N_finish_no (t5 hd)]
        exact ⟨0, _, rfl, fP_trans F1 (fP_u (Or.inr (Or.inl ⟨rfl, Or.inl rfl⟩))), by rw [sI_o (Or.inr (by decide))]; exact t4, sI_s _ _ _ _, fun w z => (by cases z), by show sI _ 1101 79 = 0; rw [sI_o (Or.inr (by decide))]; exact t3, fun A z => by cases z⟩
      | some A =>
        obtain ⟨H, p', hH, hz, h0⟩ := t6 A hd
        obtain ⟨c1, c2, c3, c4, c5, c6, c7, c8⟩ := hH
        obtain ⟨ψ, p1, p2, p3⟩ := N_finish (U := U) hU4 hg c5 c2 c3 c7.2.2.2.2 t3
        have e1 : sI ψ 1101 1 = 0 := ((p1 1101 1 (by unfold Pfin; omega)).1).trans t4
        unfold seR
        simp only
        by_cases q : 200 < nV T D A
        · obtain ⟨q1, q2, q3⟩ := p2 q
          rw [q1, if_pos q]
          exact ⟨0, ψ, rfl, fP_trans F1 (fP_mono p1 (fun b k z => Or.inr z)), e1, q2, fun w z => (by cases z), q3, fun A' z => by cases z⟩
        · obtain ⟨q1, q2, q3, q4⟩ := p3 q
          rw [q1, if_neg q]
          exact ⟨_, ψ, rfl, fP_trans F1 (fP_mono p1 (fun b k z => Or.inr z)), e1, q2, fun w z => (by cases z; rfl), ⟨q3, q4⟩, fun A' z => by cases z; rw [h0]⟩
