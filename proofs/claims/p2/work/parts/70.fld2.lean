/-! ===== the reference's reader: a field, whole; a oneof ===== -/
theorem oq_ne {D : List Dc} {q i : Nat} (h : D.length < 400) : ¬ oq D q (some i) = -1 := by
  unfold oq
  simp only
  have h1 := cnt_take_le D i q
  have h2 := cnt_le D q
  exact fun z => nI_neg (a := cnt (D.take i) q) (by omega) (by rw [z]; decide)
theorem N_takeField {U k p : Nat} {σ : SG} {T : List Nat} {Ws : List Wd} {D : List Dc} {m o : Option Nat} (hU : 4000 < U) (hS : WS T Ws) (hW : WF D) (hM : RM σ T Ws D p) (h : QX σ T Ws k) (h74 : sI σ 1101 74 = 0) (hD : 4 * D.length ≤ pos Ws k) (hp : 2 * p ≤ pos Ws k) (hm : ∀ i, m = some i → i ≤ D.length) (ho : ∀ i, o = some i → i ≤ D.length) :
    ∃ τ, x_X12_takeField U 1101 (oq D 0 m) (oq D 4 o) σ = some τ ∧ fP (PX (ct D p)) σ τ ∧ (∀ k' d, sFd T Ws m o k = some (k', d) → sI τ 1101 74 = 0 ∧ QX τ T Ws k' ∧ ∃ p', 2 * p' ≤ pos Ws k' ∧ RM τ T Ws (D ++ [d]) p') ∧ (sFd T Ws m o k = none → ¬ sI τ 1101 74 = 0) := by
  have hk := h
  obtain ⟨_, xk, hxk, _⟩ := hk
  have hle := hS.le _ xk hxk
  have hT := hS.2.1
  have hD' := hD
  rw [pos_some hxk] at hD'
  have hcl := cnt_le D 2
  have hj2 : cnt D 2 < 200 := by omega
  have c34 : sI σ 1101 34 = nI (cnt D 2) := hM.1 2 (by decide)
  have hjc : tF (ct D p) ≤ cnt D 2 := Nat.le_refl _
  unfold x_X12_takeField sFd
  rw [c34, ix_in hj2 (by decide), sb_eq, ix_in hj2 (by decide), sb_eq, ix_in hj2 (by decide), sb_eq]
  have n0 : vp_nar .boolean 0 = zI false := rfl
  have n1 : vp_nar .boolean 1 = zI true := rfl
  rw [n0]
  have Q15 : QX (uI (uI (uI σ 1134 (cnt D 2) (oq D 0 m)) 1148 (cnt D 2) (oq D 4 o)) 1145 (cnt D 2) (zI false)) T Ws k := ((h.o (by decide) (by decide)).o (by decide) (by decide)).o (by decide) (by decide)
  have f15 : fP (PX (ct D p)) σ (uI (uI (uI σ 1134 (cnt D 2) (oq D 0 m)) 1148 (cnt D 2) (oq D 4 o)) 1145 (cnt D 2) (zI false)) := fP_trans (fP_trans (fP_u (PX_f (by decide) (by decide) hjc)) (fP_u (PX_f (by decide) (by decide) hjc))) (fP_u (PX_f (by decide) (by decide) hjc))
  have o15 : ∀ i, sI (uI (uI (uI σ 1134 (cnt D 2) (oq D 0 m)) 1148 (cnt D 2) (oq D 4 o)) 1145 (cnt D 2) (zI false)) 1101 i = sI σ 1101 i := fun i => by
    rw [sI_o (Or.inl (by decide)), sI_o (Or.inl (by decide)), sI_o (Or.inl (by decide))]
  have a15 : sI (uI (uI (uI σ 1134 (cnt D 2) (oq D 0 m)) 1148 (cnt D 2) (oq D 4 o)) 1145 (cnt D 2) (zI false)) 1134 (cnt D 2) = oq D 0 m := by rw [sI_o (Or.inl (by decide)), sI_o (Or.inl (by decide)), sI_s]
  have b15 : sI (uI (uI (uI σ 1134 (cnt D 2) (oq D 0 m)) 1148 (cnt D 2) (oq D 4 o)) 1145 (cnt D 2) (zI false)) 1148 (cnt D 2) = oq D 4 o := by rw [sI_o (Or.inl (by decide)), sI_s]
  have c15 : sI (uI (uI (uI σ 1134 (cnt D 2) (oq D 0 m)) 1148 (cnt D 2) (oq D 4 o)) 1145 (cnt D 2) (zI false)) 1145 (cnt D 2) = zI false := sI_s _ _ _ _
  generalize (uI (uI (uI σ 1134 (cnt D 2) (oq D 0 m)) 1148 (cnt D 2) (oq D 4 o)) 1145 (cnt D 2) (zI false)) = σ15 at *
  have plain : ∃ τ, x_X12_takeField_52 U 1101 (oq D 0 m) (nI (cnt D 2)) σ15 = some τ ∧ fP (PX (ct D p)) σ τ ∧ (∀ k' d, sFt T Ws m o false k = some (k', d) → sI τ 1101 74 = 0 ∧ QX τ T Ws k' ∧ ∃ p', 2 * p' ≤ pos Ws k' ∧ RM τ T Ws (D ++ [d]) p') ∧ (sFt T Ws m o false k = none → ¬ sI τ 1101 74 = 0) :=
    N_field_52 hU hS hW hM f15 (fun i _ _ => o15 i) Q15 ((o15 74).trans h74) hD hp rfl a15 b15 c15 hm ho
  cases o with
  | some i =>
    rw [if_neg (oq_ne (by omega)), if_neg (show ¬ (some i = none ∧ sC Ws k = nI 23) from fun z => by cases z.1)]
    exact plain
  | none =>
    rw [if_pos (show oq D 4 none = -1 from rfl)]
    have w3 : x_X12_isWord U 1101 8243118273700586852 σ15 = some (zI (decide (sC Ws k = nI 23))) := N_isKw (q := 3) hU hS Q15 (by decide) (by decide +kernel)
    rw [w3, b1_eq, ifz]
    by_cases q : sC Ws k = nI 23
    · rw [decide_eq_true q, if_pos (show (none : Option Nat) = none ∧ sC Ws k = nI 23 from ⟨rfl, q⟩)]
      simp only [if_true]
      rw [ix_in hj2 (by decide), sb_eq, n1]
      have hk1 := far_sC hS (by decide) q
      obtain ⟨σ67, d1, d2, d3⟩ := N_next hU hS (Q15.o (b := 1145) (j := cnt D 2) (v := zI true) (by decide) (by decide)) (by rw [hk1.2]; decide) (by rw [hk1.2]; decide)
      rw [d1, b1_eq]
      refine N_field_52 hU hS hW hM (fP_trans f15 (fP_trans (fP_u (PX_f (by decide) (by decide) hjc)) (fX_q d3 (by decide)))) (fun i h1 h2 => ?_) d2 ?_ (by have := hk1.1.2; omega) (by have := hk1.1.2; omega) rfl ?_ ?_ ?_ hm ho
      · rw [d3.2.1 i (by simp only [List.mem_cons, List.not_mem_nil, or_false]; omega), sI_o (Or.inl (by decide)), o15]
      · rw [d3.2.1 74 (by decide), sI_o (Or.inl (by decide)), o15]; exact h74
      · rw [(d3.1 1134 (by decide) _).1, sI_o (Or.inl (by decide))]; exact a15
      · rw [(d3.1 1148 (by decide) _).1, sI_o (Or.inl (by decide))]; exact b15
      · rw [(d3.1 1145 (by decide) _).1, sI_s]
    · rw [decide_eq_false q, if_neg (show ¬ ((none : Option Nat) = none ∧ sC Ws k = nI 23) from fun z => q z.2)]
      simp only [Bool.false_eq_true, if_false]
      exact plain
theorem sFd_dO {T : List Nat} {Ws : List Wd} {m o : Option Nat} {k k' : Nat} {d : Dc} (hS : WS T Ws) (h : sFd T Ws m o k = some (k', d)) : dK d = 2 := (far_sFd hS h).2.1
theorem N_one_L {U o : Nat} {v vo : Int32} {m : Option Nat} {T : List Nat} {Ws : List Wd} (hU : 4000 < U) (hS : WS T Ws) : ∀ (n U1 k p : Nat) (b : Bool) (D : List Dc) (σ : SG), n + 1 < U1 → 701 ≤ n + pos Ws k → IV Ws (k, m, some o, none, b) D → v = oq D 0 m → vo = oq D 4 (some o) → QX σ T Ws k → sI σ 1101 74 = 0 → RM σ T Ws D p → 2 * p ≤ pos Ws k → (b = true ∨ sS T Ws 125 k = false) →
    NE T Ws σ n (k, m, some o, none, b) D (x_X12_takeOneof_L32 U 1101 (fun σ21 => x_X12_takeOneof_93 U 1101 σ21) v vo U1 1 σ) := by
  intro n
  induction n with
  | zero => intro U1 k p b D σ _ h hI; have : pos Ws k ≤ 700 := (hI.len hS).2.2; omega
  | succ n ih =>
    intro U1 k p b D σ hu hp7 hI hv hvo hQ h74 hM hp hb
    cases U1 with
    | zero => omega
    | succ U1 =>
    have hlen := hI.len hS
    have hl1 : D.length < 180 := hlen.1
    have hIc := hI
    obtain ⟨_, hD4, hWF, hIm, hIo, _⟩ := hIc
    have hml : ∀ i, m = some i → i ≤ D.length := fun i hi => Nat.le_of_lt (KM_lt (hIm i hi))
    have hol : o ≤ D.length := by
      obtain ⟨x, a, _⟩ := hIo o rfl
      obtain ⟨g, _⟩ := List.getElem?_eq_some_iff.mp a
      omega
    rw [x_X12_takeOneof_L32, if_neg (show ¬ (1 : Int32) = 0 by decide), if_pos h74, N_isForeign hU hS hQ, b1_eq, ifz]
    have hstep : sStep T Ws (k, m, some o, none, b) D = if sC Ws k = 40 then none else adv (m, some o, none, false) D (sFd T Ws m (some o) k) := by
      have e0 : sStep T Ws (k, m, some o, none, b) D = sOm T Ws (k, m, some o, none, b) D := by
        unfold sStep
        rw [if_pos rfl, if_neg (fun z => by cases z)]
      rw [e0]
      show (if b = false ∧ sS T Ws 125 k = true then _ else _) = _
      rw [if_neg (fun z => by
        rcases hb with y | y
        · rw [y] at z; cases z.1
        · rw [y] at z; cases z.2)]
    -- the loop ends with an error
    have bad : ∀ υ, ¬ sI υ 1101 74 = 0 → fP PZ σ υ → sStep T Ws (k, m, some o, none, b) D = none → NE T Ws σ (n + 1) (k, m, some o, none, b) D (x_X12_takeOneof_68 U 1101 (x_X12_takeOneof_L32 U 1101 (fun σ21 => x_X12_takeOneof_93 U 1101 σ21) v vo U1) (fun σ21 => x_X12_takeOneof_93 U 1101 σ21) v vo υ) := by
      intro υ zυ fυ hno
      unfold x_X12_takeOneof_68
      rw [if_neg zυ]
      unfold x_X12_takeOneof_88 x_X12_takeOneof_89
      cases U1 with
      | zero => omega
      | succ U2 =>
        rw [x_X12_takeOneof_L32, if_pos (show (0 : Int32) = 0 from rfl)]
        unfold x_X12_takeOneof_93
        rw [N_takeSign_e zυ, b1_eq]
        exact ⟨υ, rfl, fυ, Or.inr ⟨rd_no atE_o hno, zυ⟩⟩
    by_cases q : sC Ws k = 40
    · rw [decide_eq_true q]
      simp only [if_true]
      obtain ⟨σ20, a1, a2, a3⟩ := N_fail (σ := σ) (v := 2) (w := sI σ 1101 71) (by decide)
      rw [a1, b1_eq]
      exact bad σ20 a2 (fZ_q a3 (by decide)) (by rw [hstep, if_pos q])
    rw [decide_eq_false q]
    simp only [Bool.false_eq_true, if_false]
    rw [if_neg q] at hstep
    obtain ⟨σ14, a1, a2, a3, a4⟩ := N_takeField (m := m) (o := some o) hU hS hWF hM hQ h74 hD4 hp hml (fun i hi => by cases hi; exact hol)
    rw [hv, hvo, a1, b1_eq, ← hv, ← hvo]
    cases hs : sFd T Ws m (some o) k with
    | none => exact bad σ14 (a4 hs) (fZ_X a2) (by rw [hstep, hs]; rfl)
    | some kd =>
      obtain ⟨k', d⟩ := kd
      obtain ⟨z14, Q14, p', hp', hM1⟩ := a3 k' d hs
      have hst : sStep T Ws (k, m, some o, none, b) D = some ((k', m, some o, none, false), D ++ [d]) := by rw [hstep, hs]; rfl
      have d1 := sFd_dO hS hs
      have g := sStep_IV hS hI hst
      have gf : far Ws k k' 1 := g.2
      have hr := rd_step (n := n) (T := T) atE_o hst
      unfold x_X12_takeOneof_68
      rw [if_pos z14]
      have i125 : x_X12_isSign 1101 125 σ14 = some (zI (sS T Ws 125 k')) := N_isSign (q := 125) hS Q14 (by decide)
      rw [i125, b1_eq, ifz]
      cases q5 : sS T Ws 125 k' with
      | false =>
        simp only [Bool.false_eq_true, if_false]
        unfold x_X12_takeOneof_89
        refine NE_step (k := 0) hr (fZ_X a2) gf (by rw [d1]; decide) (by rw [d1]; decide) (ih U1 k' p' false (D ++ [d]) σ14 (by omega) (by have := gf.2; omega) g.1 ?_ ?_ Q14 z14 hM1 hp' (Or.inr q5))
        · rw [hv, oq_snoc hml]
        · rw [hvo, oq_snoc (fun i hi => by cases hi; exact hol)]
      | true =>
        simp only [if_true]
        unfold x_X12_takeOneof_88 x_X12_takeOneof_89
        cases U1 with
        | zero => omega
        | succ U2 =>
          rw [x_X12_takeOneof_L32, if_pos (show (0 : Int32) = 0 from rfl)]
          unfold x_X12_takeOneof_93
          obtain ⟨τ, e1, e2, e3, e4⟩ := N_takeSign (q := 125) hU hS Q14 z14 (by decide)
          have e1' : x_X12_takeSign U 1101 125 σ14 = some τ := e1
          rw [e1', b1_eq]
          obtain ⟨zτ, Qτ⟩ := e3 (k' + 1) (by rw [q5]; rfl)
          have hst2 : sStep T Ws (k', m, some o, none, false) (D ++ [d]) = some ((k' + 1, m, none, none, false), D ++ [d]) := by
            have e0 : sStep T Ws (k', m, some o, none, false) (D ++ [d]) = sOm T Ws (k', m, some o, none, false) (D ++ [d]) := by
              unfold sStep
              rw [if_pos rfl, if_neg (fun z => by cases z)]
            rw [e0]
            show (if (false = false) ∧ sS T Ws 125 k' = true then _ else _) = _
            rw [if_pos ⟨rfl, q5⟩]
          have g2 := sStep_IV hS g.1 hst2
          have gf2 : far Ws k' (k' + 1) 1 := g2.2
          have hn1 : ∃ n1, n = n1 + 1 := by
            cases n with
            | zero =>
              have h7 : pos Ws k' ≤ 700 := (g.1.len hS).2.2
              have := gf.2
              omega
            | succ n1 => exact ⟨n1, rfl⟩
          obtain ⟨n1, hn1⟩ := hn1
          subst hn1
          have hr2 := rd_step (n := n1) (T := T) atE_o hst2
          refine ⟨τ, rfl, fP_trans (fZ_X a2) (fZ_q e2 (by decide)), Or.inl ⟨n1, k' + 1, false, [d], p', hr.trans hr2, by have := gf.2; have := gf2.2; omega, by omega, g2.1, far_le (far_trans gf gf2) (by omega), ?_, ?_, zτ, Qτ, ?_, by have := gf2.2; omega⟩⟩
          · rw [cnt_snoc, if_neg (show ¬ d.1 = 0 from fun z => by have : dK d = 0 := z; omega)]; rfl
          · rw [cnt_snoc, if_neg (show ¬ d.1 = 1 from fun z => by have : dK d = 1 := z; omega)]; rfl
          · exact RM_q hM1 e2
