/-! ===== the reference's reader: a type ===== -/
def PY (j p : Nat) (b k : Nat) : Prop := (b = 1101 ∧ k ∈ [37, 70, 71, 72, 74, 75, 76, 77]) ∨ (1154 ≤ b ∧ b ≤ 1155 ∧ p ≤ k) ∨ ((b = 1139 ∨ b = 1140 ∨ b = 1142 ∨ b = 1143 ∨ b = 1144) ∧ k = j)
theorem PY_Q {j p b k : Nat} (h : PQ j p b k) : PY j p b k := by
  rcases h with z | z | z
  · exact Or.inl z
  · exact Or.inr (Or.inl z)
  · exact Or.inr (Or.inr ⟨by omega, z.2⟩)
theorem PY_q {j p : Nat} {K : List Nat} {σ τ : SG} (h : fq K σ τ) (hK : ∀ i, i ∈ K → i ∈ [37, 70, 71, 72, 74, 75, 76, 77]) : fP (PY j p) σ τ := fP_mono (PQ_q h hK) (fun _ _ => PY_Q)
theorem narB (b : Bool) : vp_nar .boolean (zI b) = zI b := by cases b <;> rfl
/-- what takeType leaves of a named type -/
def TYn (τ : SG) (T : List Nat) (Ws : List Wd) (j p k k' : Nat) : Prop := sI τ 1142 j = zI (sS T Ws 46 k) ∧ sI τ 1143 j = nI p ∧ ∃ m, k' + 1 = (if sS T Ws 46 k then k + 1 else k) + 2 * m ∧ 1 ≤ m ∧ sI τ 1101 37 = nI (p + m) ∧ sI τ 1144 j = nI m ∧ PTs τ Ws p (if sS T Ws 46 k then k + 1 else k) m
theorem N_takeType_114 {U j k p : Nat} {σ : SG} {T : List Nat} {Ws : List Wd} (hU : 4000 < U) (hS : WS T Ws) (hl : Ws.length ≤ 701) (hj : j < 200) (h : QX σ T Ws k) (h74 : sI σ 1101 74 = 0) (h37 : sI σ 1101 37 = nI p) (hp : 2 * p ≤ pos Ws k) (h44 : sI σ 1144 j = nI 0) (h39 : sI σ 1139 j = -1) :
    ∃ τ, x_X12_takeType_114 U 1101 (nI j) σ = some τ ∧ fP (PQ j p) σ τ ∧ (∀ k', sTN T Ws Ws.length k = some k' → sI τ 1101 74 = 0 ∧ QX τ T Ws k' ∧ ∃ m, k' + 1 = k + 2 * m ∧ 1 ≤ m ∧ sI τ 1101 37 = nI (p + m) ∧ sI τ 1144 j = nI m ∧ PTs τ Ws p k m) ∧ (sTN T Ws Ws.length k = none → ¬ sI τ 1101 74 = 0) := by
  unfold x_X12_takeType_114
  rw [ix_in hj (by decide), if_pos h39]
  obtain ⟨τ, e1, e2⟩ := N_takeParts hU hS hl hj h h74 h37 hp h44
  rw [e1, b1_eq]
  exact ⟨τ, rfl, e2⟩
theorem N_takeType {U j k p : Nat} {σ : SG} {T : List Nat} {Ws : List Wd} (hU : 4000 < U) (hS : WS T Ws) (hl : Ws.length ≤ 701) (hj : j < 200) (h : QX σ T Ws k) (h74 : sI σ 1101 74 = 0) (h37 : sI σ 1101 37 = nI p) (hp : 2 * p ≤ pos Ws k) :
    ∃ τ, x_X12_takeType U 1101 (nI j) σ = some τ ∧ fP (PY j p) σ τ ∧ (∀ k', (if sPl Ws k then some (k + 1) else sTy T Ws k) = some k' → sI τ 1101 74 = 0 ∧ QX τ T Ws k' ∧ sI τ 1139 j = (if sPl Ws k then sC Ws k else -1) ∧ (sPl Ws k = true → sI τ 1101 37 = nI p) ∧ (sPl Ws k = false → TYn τ T Ws j p k k')) ∧ ((if sPl Ws k then some (k + 1) else sTy T Ws k) = none → ¬ sI τ 1101 74 = 0) := by
  unfold x_X12_takeType
  rw [if_pos h74, ix_in hj (by decide), sb_eq, ix_in hj (by decide), sb_eq, ix_in hj (by decide), sb_eq]
  -- the first three cells
  have Q16 : QX (uI (uI (uI σ 1140 j (sI σ 1101 71)) 1143 j (sI (uI σ 1140 j (sI σ 1101 71)) 1101 37)) 1144 j 0) T Ws k := ((h.o (by decide) (by decide)).o (by decide) (by decide)).o (by decide) (by decide)
  have f16 : fP (PY j p) σ (uI (uI (uI σ 1140 j (sI σ 1101 71)) 1143 j (sI (uI σ 1140 j (sI σ 1101 71)) 1101 37)) 1144 j 0) := fP_trans (fP_trans (fP_u (Or.inr (Or.inr ⟨by decide, rfl⟩))) (fP_u (Or.inr (Or.inr ⟨by decide, rfl⟩)))) (fP_u (Or.inr (Or.inr ⟨by decide, rfl⟩)))
  have a16 : ∀ i, sI (uI (uI (uI σ 1140 j (sI σ 1101 71)) 1143 j (sI (uI σ 1140 j (sI σ 1101 71)) 1101 37)) 1144 j 0) 1101 i = sI σ 1101 i := fun i => by
    rw [sI_o (Or.inl (by decide)), sI_o (Or.inl (by decide)), sI_o (Or.inl (by decide))]
  have p16 : sI (uI (uI (uI σ 1140 j (sI σ 1101 71)) 1143 j (sI (uI σ 1140 j (sI σ 1101 71)) 1101 37)) 1144 j 0) 1143 j = nI p := by
    rw [sI_o (Or.inl (by decide)), sI_s, sI_o (Or.inl (by decide))]; exact h37
  have m16 : sI (uI (uI (uI σ 1140 j (sI σ 1101 71)) 1143 j (sI (uI σ 1140 j (sI σ 1101 71)) 1101 37)) 1144 j 0) 1144 j = nI 0 := sI_s _ _ _ _
  generalize (uI (uI (uI σ 1140 j (sI σ 1101 71)) 1143 j (sI (uI σ 1140 j (sI σ 1101 71)) 1101 37)) 1144 j 0) = σ16 at *
  have i46 : x_X12_isSign 1101 46 σ16 = some (zI (sS T Ws 46 k)) := N_isSign (q := 46) hS Q16 (by decide)
  rw [i46, b1_eq, ix_in hj (by decide), sb_eq, narB]
  have Q23 := Q16.o (b := 1142) (j := j) (v := zI (sS T Ws 46 k)) (by decide) (by decide)
  obtain ⟨hL, x, hx, hC⟩ := Q23
  have hg := hS.G.2 _ _ hx
  have h6 := hg.1
  have Q23 : QX (uI σ16 1142 j (zI (sS T Ws 46 k))) T Ws k := ⟨hL, x, hx, hC⟩
  rw [X12_numberType hU hL hg hC, b1_eq, ix_in hj (by decide), sb_eq, ix_in hj (by decide)]
  have Q30 := Q23.o (b := 1139) (j := j) (v := nty x) (by decide) (by decide)
  have f30 : fP (PY j p) σ (uI (uI σ16 1142 j (zI (sS T Ws 46 k))) 1139 j (nty x)) := fP_trans f16 (fP_trans (fP_u (Or.inr (Or.inr ⟨by decide, rfl⟩))) (fP_u (Or.inr (Or.inr ⟨by decide, rfl⟩))))
  have a30 : ∀ i, sI (uI (uI σ16 1142 j (zI (sS T Ws 46 k))) 1139 j (nty x)) 1101 i = sI σ 1101 i := fun i => by
    rw [sI_o (Or.inl (by decide)), sI_o (Or.inl (by decide))]; exact a16 i
  have p30 : sI (uI (uI σ16 1142 j (zI (sS T Ws 46 k))) 1139 j (nty x)) 1143 j = nI p := by
    rw [sI_o (Or.inl (by decide)), sI_o (Or.inl (by decide))]; exact p16
  have m30 : sI (uI (uI σ16 1142 j (zI (sS T Ws 46 k))) 1139 j (nty x)) 1144 j = nI 0 := by
    rw [sI_o (Or.inl (by decide)), sI_o (Or.inl (by decide))]; exact m16
  have d30 : sI (uI (uI σ16 1142 j (zI (sS T Ws 46 k))) 1139 j (nty x)) 1142 j = zI (sS T Ws 46 k) := by
    rw [sI_o (Or.inl (by decide)), sI_s]
  have t30 : sI (uI (uI σ16 1142 j (zI (sS T Ws 46 k))) 1139 j (nty x)) 1139 j = nty x := sI_s _ _ _ _
  generalize (uI (uI σ16 1142 j (zI (sS T Ws 46 k))) 1139 j (nty x)) = σ30 at *
  have z30 : sI σ30 1101 74 = 0 := (a30 74).trans h74
  have c30 : sI σ30 1101 37 = nI p := (a30 37).trans h37
  rw [d30, ifz]
  have sTy_u : sTy T Ws k = if sS T Ws 46 k then sTN T Ws Ws.length (k + 1) else if ¬ sC Ws k < 20 ∧ ¬ 23 < sC Ws k then none else sTN T Ws Ws.length k := rfl
  cases q1 : sS T Ws 46 k with
  | true =>
    have hk4 : x.1 = 4 := by rw [sS_some hx] at q1; exact sg_4 q1
    have hpl : sPl Ws k = false := by
      cases e : sPl Ws k with
      | false => rfl
      | true =>
        have := of_decide_eq_true e
        obtain ⟨q, hq, e2⟩ := sC_lt hS.G k this.1
        have := (far_sC hS (by omega) e2).2
        rw [sK_some hx] at this
        omega
    rw [hpl, sTy_u, q1]
    simp only [if_true, Bool.false_eq_true, if_false]
    obtain ⟨σ62, a1, a2, a3⟩ := N_next hU hS Q30 (by rw [sK_some hx]; omega) (by rw [sK_some hx]; omega)
    rw [a1, b1_eq]
    unfold x_X12_takeType_98
    have d62 : sI σ62 1142 j = zI true := ((a3.1 1142 (by decide) j).1).trans (d30.trans (by rw [q1]))
    rw [ix_in hj (by decide), d62, if_neg (show ¬ zI true = 0 by decide), ix_in hj (by decide), sb_eq]
    have far1 := far_sS hS q1
    obtain ⟨τ, g1, g2, g3, g4⟩ := N_takeType_114 (p := p) (σ := uI σ62 1139 j (-1)) hU hS hl hj (a2.o (by decide) (by decide)) (by rw [sI_o (Or.inl (by decide)), a3.2.1 74 (by decide)]; exact z30) (by rw [sI_o (Or.inl (by decide)), a3.2.1 37 (by decide)]; exact c30) (by have := far1.2; omega) (by rw [sI_o (Or.inl (by decide)), (a3.1 1144 (by decide) j).1]; exact m30) (sI_s _ _ _ _)
    refine ⟨τ, g1, fP_trans f30 (fP_trans (PY_q a3 (by decide)) (fP_trans (fP_u (Or.inr (Or.inr ⟨by decide, rfl⟩))) (fP_mono g2 (fun _ _ => PY_Q)))), fun k' z => ?_, g4⟩
    obtain ⟨w1, w2, m, w3, w4, w5, w6, w7⟩ := g3 k' z
    have keep : ∀ b, b = 1139 ∨ b = 1142 ∨ b = 1143 → sI τ b j = sI (uI σ62 1139 j (-1)) b j := fun b hb => (g2 b j (fun z => by rcases z with z | z | z <;> omega)).1
    refine ⟨w1, w2, by rw [keep 1139 (by decide), sI_s], fun z => (by cases z), fun _ => ⟨?_, ?_, m, ?_⟩⟩
    · rw [keep 1142 (by decide), sI_o (Or.inl (by decide)), d62, q1]
    · rw [keep 1143 (by decide), sI_o (Or.inl (by decide)), (a3.1 1143 (by decide) j).1]; exact p30
    · rw [q1]
      simp only [if_true]
      exact ⟨w3, w4, w5, w6, w7⟩
  | false =>
    rw [sTy_u, q1]
    simp only [Bool.false_eq_true, if_false]
    rw [N_kind Q30, sK_some hx]
    have failing : ∃ τ, x_X12_takeType_88 U 1101 σ30 = some τ ∧ fP (PY j p) σ τ ∧ ¬ sI τ 1101 74 = 0 := by
      unfold x_X12_takeType_88
      obtain ⟨τ, e1, e2, e3⟩ := N_fail (σ := σ30) (v := 1) (w := sI σ30 1101 71) (by decide)
      rw [e1, b1_eq]
      exact ⟨τ, rfl, fP_trans f30 (PY_q e3 (by decide)), e2⟩
    have hn := nty_sPl hx
    have hr := rsv_iff hS.G hx
    have hlen : 0 < Ws.length := by
      obtain ⟨q, _⟩ := List.getElem?_eq_some_iff.mp hx
      omega
    by_cases q2 : x.1 = 1
    · rw [if_pos (show nI x.1 = 1 by rw [q2]; rfl)]
      obtain ⟨hL3, x3, hx3, hC3⟩ := Q30
      have ex : x3 = x := by rw [hx] at hx3; cases hx3; rfl
      rw [ex] at hC3
      have Q30 : QX σ30 T Ws k := ⟨hL3, x, hx, hC3⟩
      rw [X12_isReservedName hU hL3 hg hC3, b1_eq, ifz]
      cases q3 : rsv x with
      | true =>
        simp only [if_true]
        rw [q3] at hr
        have hr' := of_decide_eq_true hr.symm
        have hpl : sPl Ws k = false := by
          cases e : sPl Ws k with
          | false => rfl
          | true =>
            have h1 := (of_decide_eq_true e).2
            have h2 := hr'.1
            have e12 : (12 : Int32).toInt = 12 := by decide
            have e20 : (20 : Int32).toInt = 20 := by decide
            have z1 : ¬ (12 : Int32).toInt < (sC Ws k).toInt := fun y => h1 (Int32.lt_iff_toInt_lt.mpr y)
            have z2 : ¬ (sC Ws k).toInt < (20 : Int32).toInt := fun y => h2 (Int32.lt_iff_toInt_lt.mpr y)
            omega
        rw [hpl, if_pos hr']
        simp only [Bool.false_eq_true, if_false]
        obtain ⟨τ, g1, g2, g3⟩ := failing
        exact ⟨τ, g1, g2, fun k' z => (by cases z), fun _ => g3⟩
      | false =>
        simp only [Bool.false_eq_true, if_false]
        rw [q3] at hr
        have hr' := of_decide_eq_false hr.symm
        rw [if_neg hr']
        unfold x_X12_takeType_98
        rw [ix_in hj (by decide), d30, q1, if_pos (show zI false = 0 from rfl)]
        cases q4 : sPl Ws k with
        | false =>
          rw [q4] at hn
          simp only [Bool.false_eq_true, if_false] at hn ⊢
          obtain ⟨τ, g1, g2, g3, g4⟩ := N_takeType_114 (p := p) hU hS hl hj Q30 z30 c30 hp m30 (t30.trans hn)
          refine ⟨τ, g1, fP_trans f30 (fP_mono g2 (fun _ _ => PY_Q)), fun k' z => ?_, g4⟩
          obtain ⟨w1, w2, m, w3, w4, w5, w6, w7⟩ := g3 k' z
          have keep : ∀ b, b = 1139 ∨ b = 1142 ∨ b = 1143 → sI τ b j = sI σ30 b j := fun b hb => (g2 b j (fun z => by rcases z with z | z | z <;> omega)).1
          refine ⟨w1, w2, by rw [keep 1139 (by decide), t30]; exact hn, fun z => (by cases z), fun _ => ⟨?_, ?_, m, ?_⟩⟩
          · rw [keep 1142 (by decide), d30, q1]
          · rw [keep 1143 (by decide)]; exact p30
          · rw [q1]
            simp only [Bool.false_eq_true, if_false]
            exact ⟨w3, w4, w5, w6, w7⟩
        | true =>
          rw [q4] at hn
          simp only [if_true] at hn ⊢
          have hne : ¬ sI σ30 1139 j = -1 := by
            rw [t30, hn]
            obtain ⟨q, hq, e⟩ := sC_lt hS.G k (of_decide_eq_true q4).1
            rw [e]
            exact (by decide +kernel : ∀ q, q < 41 → ¬ nI q = -1) q hq
          unfold x_X12_takeType_114
          rw [ix_in hj (by decide), if_neg hne]
          obtain ⟨τ, a1, a2, a3⟩ := N_next hU hS Q30 (by rw [sK_some hx]; omega) (by rw [sK_some hx]; omega)
          rw [a1, b1_eq]
          refine ⟨τ, rfl, fP_trans f30 (PY_q a3 (by decide)), fun k' z => ?_, fun z => (by cases z)⟩
          cases z
          exact ⟨(a3.2.1 74 (by decide)).trans z30, a2, ((a3.1 1139 (by decide) j).1).trans (t30.trans hn), fun _ => (a3.2.1 37 (by decide)).trans c30, fun z => (by cases z)⟩
    · rw [if_neg (show ¬ nI x.1 = 1 from fun z => q2 ((nI_eq (b := 1) (by omega) (by decide)).mp z))]
      have hpl : sPl Ws k = false := by
        cases e : sPl Ws k with
        | false => rfl
        | true =>
          obtain ⟨q, hq, e2⟩ := sC_lt hS.G k (of_decide_eq_true e).1
          have := (far_sC hS (by omega) e2).2
          rw [sK_some hx] at this
          omega
      have hno : sTN T Ws Ws.length k = none := by
        cases e : Ws.length with
        | zero => omega
        | succ n => rw [sTN, sK_some hx, if_neg q2]
      rw [hpl, hno]
      simp only [Bool.false_eq_true, if_false]
      obtain ⟨τ, g1, g2, g3⟩ := failing
      refine ⟨τ, g1, g2, fun k' z => ?_, fun _ => g3⟩
      split at z <;> cases z
