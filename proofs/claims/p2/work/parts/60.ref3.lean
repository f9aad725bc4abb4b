/-! ===== the reference's reader: packed ===== -/
theorem QX.o {σ : SG} {T : List Nat} {Ws : List Wd} {k b j : Nat} {v : Int32} (h : QX σ T Ws k) (hb : b ≠ 1101) (hb2 : b ≠ 1102) : QX (uI σ b j v) T Ws k := by
  obtain ⟨hL, x, hx, hC⟩ := h
  exact ⟨hL.o hb hb2, x, hx, hC.o hb⟩
theorem QX.oL {σ : SG} {T : List Nat} {Ws : List Wd} {k b j : Nat} {v : Int64} (h : QX σ T Ws k) (hb : b ≠ 1101) (hb2 : b ≠ 1102) : QX (uL σ b j v) T Ws k := by
  obtain ⟨hL, x, hx, hC⟩ := h
  exact ⟨hL.oL hb2, x, hx, hC.oL hb⟩
theorem QX.u {σ : SG} {T : List Nat} {Ws : List Wd} {k j : Nat} {v : Int32} (h : QX σ T Ws k) (hj : j ∉ [70, 71, 72, 73, 76]) : QX (uI σ 1101 j v) T Ws k := by
  obtain ⟨hL, x, hx, hC⟩ := h
  exact ⟨hL.u (fun z => hj (by rw [z]; decide)), x, hx, hC.u (fun z => hj (by
    simp only [List.mem_cons, List.not_mem_nil, or_false] at z ⊢
    omega))⟩
theorem N_isSign {k q : Nat} {σ : SG} {T : List Nat} {Ws : List Wd} (hS : WS T Ws) (h : QX σ T Ws k) (hq : q < 256) : x_X12_isSign 1101 (nI q) σ = some (zI (sS T Ws q k)) := by
  obtain ⟨hL, x, hx, hC⟩ := h
  rw [X12_isSign hL (hS.G.2 _ _ hx) hC hq, sS_some hx]
theorem N_isKw {U k q : Nat} {w : Int64} {σ : SG} {T : List Nat} {Ws : List Wd} (hU : 4000 < U) (hS : WS T Ws) (h : QX σ T Ws k) (hq : q < 9) (hw : kwW[q]? = some (bw w)) : x_X12_isWord U 1101 w σ = some (zI (decide (sC Ws k = nI (20 + q)))) := by
  obtain ⟨hL, x, hx, hC⟩ := h
  have hg := hS.G.2 _ _ hx
  rw [X12_isWord hU hL hg hC, isW_kw (k := q) hg hq hw]
  have hs : sC Ws k = cdX x := by unfold sC; rw [hx]
  rw [hs]
theorem N_isForeign {U k : Nat} {σ : SG} {T : List Nat} {Ws : List Wd} (hU : 4000 < U) (hS : WS T Ws) (h : QX σ T Ws k) : x_X12_isForeign U 1101 σ = some (zI (decide (sC Ws k = 40))) := by
  obtain ⟨hL, x, hx, hC⟩ := h
  rw [X12_isForeign hU hL (hS.G.2 _ _ hx) hC]
  have hs : sC Ws k = cdX x := by unfold sC; rw [hx]
  rw [hs]
theorem N_kind {k : Nat} {σ : SG} {T : List Nat} {Ws : List Wd} (h : QX σ T Ws k) : sI σ 1101 70 = nI (sK Ws k) := by
  obtain ⟨hL, x, hx, hC⟩ := h
  rw [sK_some hx]; exact hC.1
/-- the cells that reading 'packed' touches -/
def PP (j : Nat) (b k : Nat) : Prop := (b = 1101 ∧ k ∈ [70, 71, 72, 74, 75, 76, 77]) ∨ ((b = 1146 ∨ b = 1147) ∧ k = j)
theorem PP_q {j : Nat} {K : List Nat} {σ τ : SG} (h : fq K σ τ) (hK : ∀ i, i ∈ K → i ∈ [70, 71, 72, 74, 75, 76, 77]) : fP (PP j) σ τ := fP_q h (fun i hi => Or.inl ⟨rfl, hK i hi⟩) (Or.inl ⟨rfl, by decide⟩)
theorem KF_in : ∀ i, i ∈ KF → i ∈ [70, 71, 72, 74, 75, 76, 77] := by decide
theorem N_takePacked {U k j : Nat} {σ : SG} {T : List Nat} {Ws : List Wd} (hU : 4000 < U) (hS : WS T Ws) (h : QX σ T Ws k) (h74 : sI σ 1101 74 = 0) (hj : j < 200) :
    ∃ τ, x_X12_takePacked U 1101 (nI j) σ = some τ ∧ fP (PP j) σ τ ∧ (∀ k' p, sPk T Ws k = some (k', p) → sI τ 1101 74 = 0 ∧ QX τ T Ws k' ∧ sI τ 1146 j = nI p) ∧ (sPk T Ws k = none → ¬ sI τ 1101 74 = 0) := by
  unfold x_X12_takePacked sPk
  rw [ix_in hj (by decide), sb_eq]
  have Q5 := h.o (b := 1146) (j := j) (v := 0) (by decide) (by decide)
  have z5 : sI (uI σ 1146 j 0) 1101 74 = 0 := by rw [sI_o (Or.inl (by decide))]; exact h74
  have v5 : sI (uI σ 1146 j 0) 1146 j = 0 := sI_s _ _ _ _
  have f5 : fP (PP j) σ (uI σ 1146 j 0) := fP_u (Or.inr ⟨Or.inl rfl, rfl⟩)
  generalize uI σ 1146 j 0 = σ5 at *
  have i91 : x_X12_isSign 1101 91 σ5 = some (zI (sS T Ws 91 k)) := N_isSign (q := 91) hS Q5 (by decide)
  rw [if_pos z5, i91, b1_eq, ifz]
  cases q1 : sS T Ws 91 k with
  | false =>
    simp only [Bool.false_eq_true, if_false]
    exact ⟨σ5, rfl, f5, fun k' p z => (by cases z; exact ⟨z5, Q5, v5⟩), fun z => (by cases z)⟩
  | true =>
    simp only [if_true]
    have hk4 : sK Ws k = 4 := by
      unfold sS at q1
      cases e : Ws[k]? with
      | none => rw [e] at q1; cases q1
      | some x => rw [e] at q1; rw [sK_some e]; exact sg_4 q1
    obtain ⟨σ11, a1, a2, a3⟩ := N_next hU hS Q5 (by rw [hk4]; decide) (by rw [hk4]; decide)
    rw [a1, b1_eq, ix_in hj (by decide), sb_eq]
    have f11 : fP (PP j) σ σ11 := fP_trans f5 (PP_q a3 (by decide))
    have z11 : sI σ11 1101 74 = 0 := (a3.2.1 74 (by decide)).trans z5
    have Q16 := a2.o (b := 1147) (j := j) (v := sI σ11 1101 71) (by decide) (by decide)
    have z16 : sI (uI σ11 1147 j (sI σ11 1101 71)) 1101 74 = 0 := by rw [sI_o (Or.inl (by decide))]; exact z11
    have f16 : fP (PP j) σ (uI σ11 1147 j (sI σ11 1101 71)) := fP_trans f11 (fP_u (Or.inr ⟨Or.inr rfl, rfl⟩))
    generalize uI σ11 1147 j (sI σ11 1101 71) = σ16 at *
    obtain ⟨σ18, b1', b2', b3, b4⟩ := N_takeWord (q := 5) (w := 123563582121316) hU hS Q16 z16 (by decide) (by decide +kernel)
    rw [b1', b1_eq]
    have f18 : fP (PP j) σ σ18 := fP_trans f16 (PP_q b2' KF_in)
    by_cases q2 : sC Ws (k + 1) = nI 25
    · rw [if_pos q2]
      have r18 := b3 (k + 1 + 1) (if_pos q2)
      obtain ⟨σ20, c1, c2, c3, c4⟩ := N_takeSign (q := 61) hU hS r18.2 r18.1 (by decide)
      have e20 : x_X12_takeSign U 1101 61 σ18 = some σ20 := c1
      rw [e20, b1_eq]
      have f20 : fP (PP j) σ σ20 := fP_trans f18 (PP_q c2 KF_in)
      cases q3 : sS T Ws 61 (k + 2) with
      | false =>
        have z20 := c4 (by rw [show k + 1 + 1 = k + 2 by omega, q3]; rfl)
        rw [if_neg z20]
        simp only [Bool.false_eq_true, if_false]
        exact ⟨σ20, rfl, f20, fun k' p z => (by cases z), fun _ => z20⟩
      | true =>
        have r20 := c3 (k + 3) (by rw [show k + 1 + 1 = k + 2 by omega, q3]; rfl)
        rw [if_pos r20.1]
        simp only [if_true]
        have w6 : ∀ (υ : SG), QX υ T Ws (k + 3) → x_X12_isWord U 1101 1953658213 υ = some (zI (decide (sC Ws (k + 3) = nI 26))) := fun υ hυ => N_isKw (q := 6) hU hS hυ (by decide) (by decide +kernel)
        have w7 : x_X12_isWord U 1101 439721161573 σ20 = some (zI (decide (sC Ws (k + 3) = nI 27))) := N_isKw (q := 7) hU hS r20.2 (by decide) (by decide +kernel)
        -- the rest, where the value stands
        have rest : ∀ (p : Nat), (sC Ws (k + 3) = nI 26 ∨ sC Ws (k + 3) = nI 27) → ∃ τ, x_X12_takePacked_109 U 1101 (nI p) (nI j) σ20 = some τ ∧ fP (PP j) σ τ ∧ (∀ k' p', (if sS T Ws 93 (k + 4) then some (k + 5, p) else none) = some (k', p') → sI τ 1101 74 = 0 ∧ QX τ T Ws k' ∧ sI τ 1146 j = nI p') ∧ ((if sS T Ws 93 (k + 4) then some (k + 5, p) else none) = none → ¬ sI τ 1101 74 = 0) := by
          intro p hp
          unfold x_X12_takePacked_109
          rw [ix_in hj (by decide), sb_eq]
          have Q37 := r20.2.o (b := 1146) (j := j) (v := nI p) (by decide) (by decide)
          have h1 : sK Ws (k + 3) = 1 := by
            rcases hp with z | z
            · exact (far_sC hS (by decide) z).2
            · exact (far_sC hS (by decide) z).2
          obtain ⟨σ39, d1, d2, d3⟩ := N_next hU hS Q37 (by rw [h1]; decide) (by rw [h1]; decide)
          rw [d1, b1_eq]
          have z39 : sI σ39 1101 74 = 0 := by rw [d3.2.1 74 (by decide), sI_o (Or.inl (by decide))]; exact r20.1
          have v39 : sI σ39 1146 j = nI p := by rw [(d3.1 1146 (by decide) j).1, sI_s]
          have f39 : fP (PP j) σ σ39 := fP_trans f20 (fP_trans (fP_u (Or.inr ⟨Or.inl rfl, rfl⟩)) (PP_q d3 (by decide)))
          obtain ⟨τ, e1, e2, e3, e4⟩ := N_takeSign (q := 93) hU hS d2 z39 (by decide)
          have e1' : x_X12_takeSign U 1101 93 σ39 = some τ := e1
          rw [e1', b1_eq]
          refine ⟨τ, rfl, fP_trans f39 (PP_q e2 KF_in), ?_, ?_⟩
          · intro k' p' hz
            cases q5 : sS T Ws 93 (k + 4) with
            | false => rw [q5] at hz; cases hz
            | true =>
              rw [q5] at hz
              cases hz
              have r := e3 (k + 5) (by rw [show k + 3 + 1 = k + 4 by omega, q5]; rfl)
              exact ⟨r.1, r.2, by rw [(e2.1 1146 (by decide) j).1]; exact v39⟩
          · intro hz
            cases q5 : sS T Ws 93 (k + 4) with
            | false => exact e4 (by rw [show k + 3 + 1 = k + 4 by omega, q5]; rfl)
            | true => rw [q5] at hz; cases hz
        have r89 : (sC Ws (k + 3) = nI 26 ∨ sC Ws (k + 3) = nI 27) → ∃ τ, x_X12_takePacked_89 U 1101 (nI j) σ20 = some τ ∧ fP (PP j) σ τ ∧ (∀ k' p', (if sS T Ws 93 (k + 4) then some (k + 5, if sC Ws (k + 3) = nI 27 then 2 else 1) else none) = some (k', p') → sI τ 1101 74 = 0 ∧ QX τ T Ws k' ∧ sI τ 1146 j = nI p') ∧ ((if sS T Ws 93 (k + 4) then some (k + 5, if sC Ws (k + 3) = nI 27 then 2 else 1) else none) = none → ¬ sI τ 1101 74 = 0) := by
          intro hp
          unfold x_X12_takePacked_89
          rw [w6 σ20 r20.2, b1_eq, ifz]
          by_cases z : sC Ws (k + 3) = nI 26
          · rw [decide_eq_true z, if_neg (show ¬ sC Ws (k + 3) = nI 27 by rw [z]; decide)]
            simp only [if_true]
            exact rest 1 hp
          · rw [decide_eq_false z]
            rcases hp with y | y
            · exact absurd y z
            · rw [if_pos y]
              simp only [Bool.false_eq_true, if_false]
              exact rest 2 (Or.inr y)
        rw [w6 σ20 r20.2, b1_eq, ifz]
        by_cases y6 : sC Ws (k + 3) = nI 26
        · rw [decide_eq_true y6, if_pos (Or.inl y6)]
          simp only [if_true]
          exact r89 (Or.inl y6)
        · rw [decide_eq_false y6, w7, b1_eq, ifz]
          simp only [Bool.false_eq_true, if_false]
          by_cases y7 : sC Ws (k + 3) = nI 27
          · rw [decide_eq_true y7, if_pos (Or.inr y7)]
            simp only [if_true]
            exact r89 (Or.inr y7)
          · rw [decide_eq_false y7, if_neg (show ¬ (sC Ws (k + 3) = nI 26 ∨ sC Ws (k + 3) = nI 27) from fun z => z.elim y6 y7)]
            simp only [Bool.false_eq_true, if_false]
            obtain ⟨τ, e1, e2, e3⟩ := N_fail (σ := σ20) (v := 1) (w := sI σ20 1101 71) (by decide)
            rw [e1, b1_eq]
            exact ⟨τ, rfl, fP_trans f20 (PP_q e3 (by decide)), fun k' p z => (by cases z), fun _ => e2⟩
    · rw [if_neg q2]
      have z18 := b4 (if_neg q2)
      have e20 : x_X12_takeSign U 1101 61 σ18 = some σ18 := N_takeSign_e z18
      rw [e20, b1_eq, if_neg z18]
      exact ⟨σ18, rfl, f18, fun k' p z => (by cases z), fun _ => z18⟩
