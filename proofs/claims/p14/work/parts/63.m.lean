/-! ===== the reference's reader: a type ===== -/
def PY (j p : Nat) (b k : Nat) : Prop := (b = 1101 ∧ k ∈ [37, 70, 71, 72, 74, 75, 76, 77]) ∨ (1154 ≤ b ∧ b ≤ 1155 ∧ p ≤ k) ∨ ((b = 1139 ∨ b = 1140 ∨ b = 1142 ∨ b = 1143 ∨ b = 1144) ∧ k = j)
theorem PY_Q {j p b k : Nat} (h : PQ j p b k) : PY j p b k := by
  rcases h with z | z | z
  · exact Or.inl z
  · exact Or.inr (Or.inl z)
  · exact Or.inr (Or.inr ⟨by omega, z.2⟩)
theorem PY_q {j p : Nat} {K : List Nat} {σ τ : SG} (h : fq K σ τ) (hK : ∀ i, i ∈ K → i ∈ [37, 70, 71, 72, 74, 75, 76, 77]) : fP (PY j p) σ τ := fP_mono (PQ_q h hK) (fun _ _ => PY_Q)
theorem narB (b : Bool) : vp_nar .boolean (zI b) = zI b := by cases b <;> rfl
/-- what takeType leaves of a named type -/
def TYn (τ : SG) (T : List Nat) (Ws : List Wd) (j p k k' : Nat) : Prop := sI τ 1142 j = zI (sS T Ws 46 k) ∧ sI τ 1143 j = nI p ∧ ∃ m, k' + 1 = (if sS T Ws 46 k then k + 1 else k) + 2 * m ∧ 1 ≤ m ∧ sI τ 1101 37 = nI (p + m) ∧ sI τ 1144 j = nI m ∧ PTs τ Ws p (if sS T Ws 46 k then k + 1 else k) m
theorem N_takeType_114 {U j k p : Nat} {σ : SG} {T : List Nat} {Ws : List Wd} (hU : 4000 < U) (hS : WS T Ws) (hl : Ws.length ≤ 701) (hj : j < 200) (h : QX σ T Ws k) (h74 : sI σ 1101 74 = 0) (h37 : sI σ 1101 37 = nI p) (hp : 2 * p ≤ pos Ws k) (h44 : sI σ 1144 j = nI 0) (h39 : sI σ 1139 j = -1) :
    ∃ τ, x_X12_takeType_114 U 1101 (nI j) σ = some τ ∧ fP (PQ j p) σ τ ∧ (∀ k', sTN T Ws Ws.length k = some k' → sI τ 1101 74 = 0 ∧ QX τ T Ws k' ∧ ∃ m, k' + 1 = k + 2 * m ∧ 1 ≤ m ∧ sI τ 1101 37 = nI (p + m) ∧ sI τ 1144 j = nI m ∧ PTs τ Ws p k m) ∧ (sTN T Ws Ws.length k = none → ¬ sI τ 1101 74 = 0) := by
  unfold x_X12_takeType_114
  rw [ix_in hj (by decide), if_pos h39]
  obtain ⟨τ, e1, e2⟩ := N_takeParts hU hS hl hj h h74 h37 hp h44
  rw [e1, b1_eq]
  exact ⟨τ, rfl, e2⟩
theorem N_takeType {U j k p : Nat} {σ : SG} {T : List Nat} {Ws : List Wd} (hU : 4000 < U) (hS : WS T Ws) (hl : Ws.length ≤ 701) (hj : j < 200) (h : QX σ T Ws k) (h74 : sI σ 1101 74 = 0) (h37 : sI σ 1101 37 = nI p) (hp : 2 * p ≤ pos Ws k) :
    ∃ τ, x_X12_takeType U 1101 (nI j) σ = some τ ∧ fP (PY j p) σ τ ∧ (∀ k', (if sPl Ws k then some (k + 1) else sTy T Ws k) = some k' → sI τ 1101 74 = 0 ∧ QX τ T Ws k' ∧ sI τ 1139 j = (if sPl Ws k then sC Ws k else -1) ∧ (sPl Ws k = true → sI τ 1101 37 = nI p) ∧ (sPl Ws k = false → TYn τ T Ws j p k k')) ∧ ((if sPl Ws k then some (k + 1) else sTy T Ws k) = none → ¬ sI τ 1101 74 = 0) := by
  unfold x_X12_takeType
  rw [if_pos h74, ix_in hj (by decide), sb_eq, ix_in hj (by decide), sb_eq, ix_in hj (by decide), sb_eq]
  -- the first three cells
  have Q16 : QX (uI (uI (uI σ 1140 j (sI σ 1101 71)) 1143 j (sI (uI σ 1140 j (sI σ 1101 71)) 1101 37)) 1144 j 0) T Ws k := ((h.o (by decide) (by decide)).o (by decide) (by decide)).o (by decide) (by decide)
  have f16 : fP (PY j p) σ (uI (uI (uI σ 1140 j (sI σ 1101 71)) 1143 j (sI (uI σ 1140 j (sI σ 1101 71)) 1101 37)) 1144 j 0) := fP_trans (fP_trans (fP_u (Or.inr (Or.inr ⟨by decide, rfl⟩))) (fP_u (Or.inr (Or.inr ⟨by decide, rfl⟩)))) (fP_u (Or.inr (Or.inr ⟨by decide, rfl⟩)))
  have a16 : ∀ i, sI (uI (uI (uI σ 1140 j (sI σ 1101 71)) 1143 j (sI (uI σ 1140 j (sI σ 1101 71)) 1101 37)) 1144 j 0) 1101 i = sI σ 1101 i := fun i => by
    rw [sI_o (Or.inl (by decide)), sI_o (Or.inl (by decide)), sI_o (Or.inl (by decide))]
  have p16 : sI (uI (uI (uI σ 1140 j (sI σ 1101 71)) 1143 j (sI (uI σ 1140 j (sI σ 1101 71)) 1101 37)) 1144 j 0) 1143 j = nI p := by
    rw [sI_o (Or.inl (by decide)), sI_s, sI_o (Or.inl (by decide))]; exact h37
  have m16 : sI (uI (uI (uI σ 1140 j (sI σ 1101 71)) 1143 j (sI (uI σ 1140 j (sI σ 1101 71)) 1101 37)) 1144 j 0) 1144 j = nI 0 := sI_s _ _ _ _
  generalize (uI (uI (uI σ 1140 j (sI σ 1101 71)) 1143 j (sI (uI σ 1140 j (sI σ 1101 71)) 1101 37)) 1144 j 0) = σ16 at *
  have i46 : x_X12_isSign 1101 46 σ16 = some (zI (sS T Ws 46 k)) := N_isSign (q := 46) hS Q16 (by decide)
  rw [i46, b1_eq, ix_in hj (by decide), sb_eq, narB]
  have Q23 := Q16.o (b := 1142) (j := j) (v := zI (sS T Ws 46 k)) (by decide) (by decide)
  obtain ⟨hL, x, hx, hC⟩ := Q23
  have hg := hS.G.2 _ _ hx
  have h6 := hg.1
  have Q23 : QX (uI σ16 1142 j (zI (sS T Ws 46 k))) T Ws k := ⟨hL, x, hx, hC⟩
  rw [X12_numberType hU hL hg hC, b1_eq, ix_in hj (by decide), sb_eq, ix_in hj (by decide)]
  have Q30 := Q23.o (b := 1139) (j := j) (v := nty x) (by decide) (by decide)
  have f30 : fP (PY j p) σ (uI (uI σ16 1142 j (zI (sS T Ws 46 k))) 1139 j (nty x)) := fP_trans f16 (fP_trans (fP_u (Or.inr (Or.inr ⟨by decide, rfl⟩))) (fP_u (Or.inr (Or.inr ⟨by decide, rfl⟩))))
  have a30 : ∀ i, sI (uI (uI σ16 1142 j (zI (sS T Ws 46 k))) 1139 j (nty x)) 1101 i = sI σ 1101 i := fun i => by
    rw [sI_o (Or.inl (by decide)), sI_o (Or.inl (by decide))]; exact a16 i
  have p30 : sI (uI (uI σ16 1142 j (zI (sS T Ws 46 k))) 1139 j (nty x)) 1143 j = nI p := by
    rw [sI_o (Or.inl (by decide)), sI_o (Or.inl (by decide))]; exact p16
  have m30 : sI (uI (uI σ16 1142 j (zI (sS T Ws 46 k))) 1139 j (nty x)) 1144 j = nI 0 := by
    rw [sI_o (Or.inl (by decide)), sI_o (Or.inl (by decide))]; exact m16
  have d30 : sI (uI (uI σ16 1142 j (zI (sS T Ws 46 k))) 1139 j (nty x)) 1142 j = zI (sS T Ws 46 k) := by
    rw [sI_o (Or.inl (by decide)), sI_s]
  have t30 : sI (uI (uI σ16 1142 j (zI (sS T Ws 46 k))) 1139 j (nty x)) 1139 j = nty x := sI_s _ _ _ _
  generalize (uI (uI σ16 1142 j (zI (sS T Ws 46 k))) 1139 j (nty x)) = σ30 at *
  have z30 : sI σ30 1101 74 = 0 := (a30 74).trans h74
  have c30 : sI σ30 1101 37 = nI p := (a30 37).trans h37
  rw [d30, ifz]
  have sTy_u : sTy T Ws k = if sS T Ws 46 k then sTN T Ws Ws.length (k + 1) else if ¬ sC Ws k < 20 ∧ ¬ 23 < sC Ws k then none else sTN T Ws Ws.length k := rfl
  cases q1 : sS T Ws 46 k with
  | true =>
    have hk4 : x.1 = 4 := by rw [sS_some hx] at q1; exact sg_4 q1
    have hpl : sPl Ws k = false := by
      cases e : sPl Ws k with
      | false => rfl
      | true =>
        have := of_decide_eq_true e
        obtain ⟨q, hq, e2⟩ := sC_lt hS.G k this.1
        have := (far_sC hS (by omega) e2).2
        rw [sK_some hx] at this
        omega
    rw [hpl, sTy_u, q1]
    simp only [if_true, Bool.false_eq_true, if_false]
    obtain ⟨σ62, a1, a2, a3⟩ := N_next hU hS Q30 (by rw [sK_some hx]; omega) (by rw [sK_some hx]; omega)
    rw [a1, b1_eq]
    unfold x_X12_takeType_98
    have d62 : sI σ62 1142 j = zI true := ((a3.1 1142 (by decide) j).1).trans (d30.trans (by rw [q1]))
    rw [ix_in hj (by decide), d62, if_neg (show ¬ zI true = 0 by decide), ix_in hj (by decide), sb_eq]
    have far1 := far_sS hS q1
    obtain ⟨τ, g1, g2, g3, g4⟩ := N_takeType_114 (p := p) (σ := uI σ62 1139 j (-1)) hU hS hl hj (a2.o (by decide) (by decide)) (by rw [sI_o (Or.inl (by decide)), a3.2.1 74 (by decide)]; exact z30) (by rw [sI_o (Or.inl (by decide)), a3.2.1 37 (by decide)]; exact c30) (by have := far1.2; omega) (by rw [sI_o (Or.inl (by decide)), (a3.1 1144 (by decide) j).1]; exact m30) (sI_s _ _ _ _)
    refine ⟨τ, g1, fP_trans f30 (fP_trans (PY_q a3 (by decide)) (fP_trans (fP_u (Or.inr (Or.inr ⟨by decide, rfl⟩))) (fP_mono g2 (fun _ _ => PY_Q)))), fun k' z => ?_, g4⟩
    obtain ⟨w1, w2, m, w3, w4, w5, w6, w7⟩ := g3 k' z
    have keep : ∀ b, b = 1139 ∨ b = 1142 ∨ b = 1143 → sI τ b j = sI (uI σ62 1139 j (-1)) b j := fun b hb => (g2 b j (fun z => by rcases z with z | z | z <;> omega)).1
    refine ⟨w1, w2, by rw [keep 1139 (by decide), sI_s], fun z => (by cases z), fun _ => ⟨?_, ?_, m, ?_⟩⟩
    · rw [keep 1142 (by decide), sI_o (Or.inl (by decide)), d62, q1]
    · rw [keep 1143 (by decide), sI_o (Or.inl (by decide)), (a3.1 1143 (by decide) j).1]; exact p30
    · rw [q1]
      simp only [if_true]
      exact ⟨w3, w4, w5, w6, w7⟩
  | false =>
    rw [sTy_u, q1]
    simp only [Bool.false_eq_true, if_false]
    rw [N_kind Q30, sK_some hx]
    have failing : ∃ τ, x_X12_takeType_88 U 1101 σ30 = some τ ∧ fP (PY j p) σ τ ∧ ¬ sI τ 1101 74 = 0 := by
      unfold x_X12_takeType_88
      obtain ⟨τ, e1, e2, e3⟩ := N_fail (σ := σ30) (v := 1) (w := sI σ30 1101 71) (by decide)
      rw [e1, b1_eq]
      exact ⟨τ, rfl, fP_trans f30 (PY_q e3 (by decide)), e2⟩
    have hn := nty_sPl hx
    have hr := rsv_iff hS.G hx
    have hlen : 0 < Ws.length := by
      obtain ⟨q, _⟩ := List.getElem?_eq_some_iff.mp hx
      omega
    by_cases q2 : x.1 = 1
    · rw [if_pos (show nI x.1 = 1 by rw [q2]; rfl)]
      obtain ⟨hL3, x3, hx3, hC3⟩ := Q30
      have ex : x3 = x := by rw [hx] at hx3; cases hx3; try rfl
      rw [ex] at hC3
      have Q30 : QX σ30 T Ws k := ⟨hL3, x, hx, hC3⟩
      rw [X12_isReservedName hU hL3 hg hC3, b1_eq, ifz]
      cases q3 : rsv x with
      | true =>
        simp only [if_true]
        rw [q3] at hr
        have hr' := of_decide_eq_true hr.symm
        have hpl : sPl Ws k = false := by
          cases e : sPl Ws k with
          | false => rfl
          | true =>
            have h1 := (of_decide_eq_true e).2
            have h2 := hr'.1
            have e12 : (12 : Int32).toInt = 12 := by decide
            have e20 : (20 : Int32).toInt = 20 := by decide
            have z1 : ¬ (12 : Int32).toInt < (sC Ws k).toInt := fun y => h1 (Int32.lt_iff_toInt_lt.mpr y)
            have z2 : ¬ (sC Ws k).toInt < (20 : Int32).toInt := fun y => h2 (Int32.lt_iff_toInt_lt.mpr y)
            omega
        rw [hpl, if_pos hr']
        simp only [Bool.false_eq_true, if_false]
        obtain ⟨τ, g1, g2, g3⟩ := failing
        exact ⟨τ, g1, g2, fun k' z => (by cases z), fun _ => g3⟩
      | false =>
        simp only [Bool.false_eq_true, if_false]
        rw [q3] at hr
        have hr' := of_decide_eq_false hr.symm
        rw [if_neg hr']
        unfold x_X12_takeType_98
        rw [ix_in hj (by decide), d30, q1, if_pos (show zI false = 0 from rfl)]
        cases q4 : sPl Ws k with
        | false =>
          rw [q4] at hn
          simp only [Bool.false_eq_true, if_false] at hn ⊢
          obtain ⟨τ, g1, g2, g3, g4⟩ := N_takeType_114 (p := p) hU hS hl hj Q30 z30 c30 hp m30 (t30.trans hn)
          refine ⟨τ, g1, fP_trans f30 (fP_mono g2 (fun _ _ => PY_Q)), fun k' z => ?_, g4⟩
          obtain ⟨w1, w2, m, w3, w4, w5, w6, w7⟩ := g3 k' z
          have keep : ∀ b, b = 1139 ∨ b = 1142 ∨ b = 1143 → sI τ b j = sI σ30 b j := fun b hb => (g2 b j (fun z => by rcases z with z | z | z <;> omega)).1
          refine ⟨w1, w2, by rw [keep 1139 (by decide), t30]; exact hn, fun z => (by cases z), fun _ => ⟨?_, ?_, m, ?_⟩⟩
          · rw [keep 1142 (by decide), d30, q1]
          · rw [keep 1143 (by decide)]; exact p30
          · rw [q1]
            simp only [Bool.false_eq_true, if_false]
            exact ⟨w3, w4, w5, w6, w7⟩
        | true =>
          rw [q4] at hn
          simp only [if_true] at hn ⊢
          have hne : ¬ sI σ30 1139 j = -1 := by
            rw [t30, hn]
            obtain ⟨q, hq, e⟩ := sC_lt hS.G k (of_decide_eq_true q4).1
            rw [e]
            exact (by decide +kernel : ∀ q, q < 41 → ¬ nI q = -1) q hq
          unfold x_X12_takeType_114
          rw [ix_in hj (by decide), if_neg hne]
          obtain ⟨τ, a1, a2, a3⟩ := N_next hU hS Q30 (by rw [sK_some hx]; omega) (by rw [sK_some hx]; omega)
          rw [a1, b1_eq]
          refine ⟨τ, rfl, fP_trans f30 (PY_q a3 (by decide)), fun k' z => ?_, fun z => (by cases z)⟩
          cases z
          exact ⟨(a3.2.1 74 (by decide)).trans z30, a2, ((a3.1 1139 (by decide) j).1).trans (t30.trans hn), fun _ => (a3.2.1 37 (by decide)).trans c30, fun z => (by cases z)⟩
    · rw [if_neg (show ¬ nI x.1 = 1 from fun z => q2 ((nI_eq (b := 1) (by omega) (by decide)).mp z))]
      have hpl : sPl Ws k = false := by
        cases e : sPl Ws k with
        | false => rfl
        | true =>
          obtain ⟨q, hq, e2⟩ := sC_lt hS.G k (of_decide_eq_true e).1
          have := (far_sC hS (by omega) e2).2
          rw [sK_some hx] at this
          omega
      have hno : sTN T Ws Ws.length k = none := by
        cases e : Ws.length with
        | zero => omega
        | succ n => rw [sTN, sK_some hx, if_neg q2]
      rw [hpl, hno]
      simp only [Bool.false_eq_true, if_false]
      obtain ⟨τ, g1, g2, g3⟩ := failing
      refine ⟨τ, g1, g2, fun k' z => ?_, fun _ => g3⟩
      split at z <;> cases z
/-! ===== the reference's reader: the name that was declared last ===== -/
theorem N_lastAt {σ : SG} {n : Nat} (h : sI σ 1101 38 = nI (n + 1)) (hn : n < 400) : x_X12_lastAt 1101 σ = some (sI σ 1157 n) := by
  unfold x_X12_lastAt
  rw [h, if_neg (show ¬ nI (n + 1) = 0 from fun z => by have := (nI_eq (b := 0) (by omega) (by decide)).mp z; omega), show (1 : Int32) = nI 1 from rfl, nI_sub (by omega), show n + 1 - 1 = n by omega, ix_in hn (by decide)]
theorem N_lastLong {σ : SG} {n : Nat} (h : sI σ 1101 38 = nI (n + 1)) (hn : n < 400) : x_X12_lastLong 1101 σ = some (sI σ 1158 n) := by
  unfold x_X12_lastLong
  rw [h, if_neg (show ¬ nI (n + 1) = 0 from fun z => by have := (nI_eq (b := 0) (by omega) (by decide)).mp z; omega), show (1 : Int32) = nI 1 from rfl, nI_sub (by omega), show n + 1 - 1 = n by omega, ix_in hn (by decide)]
theorem N_lastAt_any {σ : SG} {n : Nat} (h : sI σ 1101 38 = nI n) (hn : n ≤ 400) : ∃ v, x_X12_lastAt 1101 σ = some v := by
  cases n with
  | zero => exact ⟨0, by unfold x_X12_lastAt; rw [h, if_pos (show nI 0 = 0 from rfl)]⟩
  | succ n => exact ⟨_, N_lastAt h (by omega)⟩
theorem N_lastLong_any {σ : SG} {n : Nat} (h : sI σ 1101 38 = nI n) (hn : n ≤ 400) : ∃ v, x_X12_lastLong 1101 σ = some v := by
  cases n with
  | zero => exact ⟨0, by unfold x_X12_lastLong; rw [h, if_pos (show nI 0 = 0 from rfl)]⟩
  | succ n => exact ⟨_, N_lastLong h (by omega)⟩
/-- a number as the reference holds it -/
def NR (l : Int64) (v : Bool × Nat) : Prop := ∃ w, w < 2 ^ 54 ∧ NV w v.2 ∧ l = nL (v.1, w)
/-! ===== the reference's reader: an enum's value ===== -/
theorem N_num {k : Nat} {σ : SG} {T : List Nat} {Ws : List Wd} {y : Wd} (h : QX σ T Ws k) (hy : Ws[k]? = some y) (h2 : y.1 = 2) (ng : Bool) : NR (if ng then -(sL σ 1101 77) else sL σ 1101 77) (ng, nuX y) := by
  obtain ⟨_, x, hx, hC⟩ := h
  rw [hy] at hx
  cases hx
  obtain ⟨v, n, a1, a2, a3, a4⟩ := hC.2.2.2 h2
  have hn : n ≤ 2 ^ 40 := by rcases a3 with z | z <;> omega
  have e : nuX y = n := by unfold nuX; rw [a4, pk_lT (by omega)]; try rfl
  refine ⟨v, a2, by rw [e]; exact a3, ?_⟩
  rw [a1]
  try rfl
def PW (w : Nat) (b k : Nat) : Prop := (b = 1101 ∧ k ∈ [35, 70, 71, 72, 74, 75, 76, 77]) ∨ (b = 1152 ∧ k = w)
theorem PW_q {w : Nat} {K : List Nat} {σ τ : SG} (h : fq K σ τ) (hK : ∀ i, i ∈ K → i ∈ [35, 70, 71, 72, 74, 75, 76, 77]) : fP (PW w) σ τ := fP_q h (fun i hi => Or.inl ⟨rfl, hK i hi⟩) (Or.inl ⟨rfl, by decide⟩)
theorem N_value_97 {U k w : Nat} {ng : Bool} {σ : SG} {T : List Nat} {Ws : List Wd} {y : Wd} (hU : 4000 < U) (hS : WS T Ws) (h : QX σ T Ws k) (hy : Ws[k]? = some y) (h74 : sI σ 1101 74 = 0) (h35 : sI σ 1101 35 = nI w) (hw : w < 200) :
    ∃ τ, x_X12_takeValue_97 U 1101 (nI w) (zI ng) σ = some τ ∧ fP (PW w) σ τ ∧ (y.1 = 2 → sS T Ws 59 (k + 1) = true → sI τ 1101 74 = 0 ∧ QX τ T Ws (k + 2) ∧ sI τ 1101 35 = nI (w + 1) ∧ NR (sL τ 1152 w) (ng, nuX y)) ∧ (¬ (y.1 = 2 ∧ sS T Ws 59 (k + 1) = true) → ¬ sI τ 1101 74 = 0) := by
  have h6 := (hS.G.2 _ _ hy).1
  unfold x_X12_takeValue_97
  rw [N_kind h, sK_some hy]
  by_cases q : y.1 = 2
  · have hn := N_num h hy q ng
    have go : ∀ l, l = (if ng then -(sL σ 1101 77) else sL σ 1101 77) → ∃ τ, x_X12_takeValue_136 U 1101 l (nI w) σ = some τ ∧ fP (PW w) σ τ ∧ (y.1 = 2 → sS T Ws 59 (k + 1) = true → sI τ 1101 74 = 0 ∧ QX τ T Ws (k + 2) ∧ sI τ 1101 35 = nI (w + 1) ∧ NR (sL τ 1152 w) (ng, nuX y)) ∧ (¬ (y.1 = 2 ∧ sS T Ws 59 (k + 1) = true) → ¬ sI τ 1101 74 = 0) := by
      intro l hl
      unfold x_X12_takeValue_136
      rw [ix_in hw (by decide), sb_eq, sb_eq]
      have e35 : sI (uL σ 1152 w l) 1101 35 = nI w := h35
      rw [e35, nI_1]
      have Q43 : QX (uI (uL σ 1152 w l) 1101 35 (nI (w + 1))) T Ws k := (h.oL (by decide) (by decide)).u (by decide)
      have z43 : sI (uI (uL σ 1152 w l) 1101 35 (nI (w + 1))) 1101 74 = 0 := by rw [sI_o (Or.inr (by decide))]; exact h74
      have c43 : sI (uI (uL σ 1152 w l) 1101 35 (nI (w + 1))) 1101 35 = nI (w + 1) := sI_s _ _ _ _
      have l43 : sL (uI (uL σ 1152 w l) 1101 35 (nI (w + 1))) 1152 w = l := by
        show sL (uL σ 1152 w l) 1152 w = l
        rw [sL_uL, if_pos ⟨rfl, rfl⟩]
      have f43 : fP (PW w) σ (uI (uL σ 1152 w l) 1101 35 (nI (w + 1))) := fP_trans (fP_L (Or.inr ⟨rfl, rfl⟩)) (fP_u (Or.inl ⟨rfl, by decide⟩))
      generalize uI (uL σ 1152 w l) 1101 35 (nI (w + 1)) = σ43 at *
      obtain ⟨σ45, a1, a2, a3⟩ := N_next hU hS Q43 (by rw [sK_some hy]; omega) (by rw [sK_some hy]; omega)
      rw [a1, b1_eq]
      have z45 : sI σ45 1101 74 = 0 := (a3.2.1 74 (by decide)).trans z43
      obtain ⟨τ, e1, e2, e3, e4⟩ := N_takeSign (q := 59) hU hS a2 z45 (by decide)
      have e1' : x_X12_takeSign U 1101 59 σ45 = some τ := e1
      rw [e1', b1_eq]
      refine ⟨τ, rfl, fP_trans f43 (fP_trans (PW_q a3 (by decide)) (PW_q e2 (by decide))), fun _ hs => ?_, fun hno => e4 ?_⟩
      · have r := e3 (k + 2) (by rw [hs]; rfl)
        refine ⟨r.1, r.2, ?_, ?_⟩
        · rw [e2.2.1 35 (by decide), a3.2.1 35 (by decide)]; exact c43
        · rw [(e2.1 1152 (by decide) w).2.1, (a3.1 1152 (by decide) w).2.1, l43, hl]; exact hn
      · cases e : sS T Ws 59 (k + 1) with
        | true => exact absurd ⟨q, e⟩ hno
        | false => rfl
    rw [if_pos (show nI y.1 = 2 by rw [q]; rfl), ifz]
    cases ng with
    | true => exact go _ rfl
    | false => exact go _ rfl
  · rw [if_neg (show ¬ nI y.1 = 2 from fun z => q ((nI_eq (b := 2) (by omega) (by decide)).mp z))]
    obtain ⟨τ, e1, e2, e3⟩ := N_fail (σ := σ) (v := 1) (w := sI σ 1101 71) (by decide)
    rw [e1, b1_eq]
    exact ⟨τ, rfl, PW_q e3 (by decide), fun z => absurd z q, fun _ => e2⟩
/-- with an error set, nothing but the cells at the counts is touched -/
theorem N_value_e {U w n : Nat} {v : Int32} {σ : SG} {c : CT} (h74 : ¬ sI σ 1101 74 = 0) (h35 : sI σ 1101 35 = nI w) (hw : w < 200) (h38 : sI σ 1101 38 = nI n) (hn : n ≤ 400) (hc : tV c = w) :
    ∃ τ, x_X12_takeValue_16 U 1101 v σ = some τ ∧ fP (PX c) σ τ ∧ ¬ sI τ 1101 74 = 0 := by
  unfold x_X12_takeValue_16
  rw [N_declare_e h74, b1_eq, h35, ix_in hw (by decide), sb_eq]
  obtain ⟨v1, e1⟩ := N_lastAt_any (σ := uI σ 1149 w (sI σ 1101 33 - 1)) (n := n) (by rw [sI_o (Or.inl (by decide))]; exact h38) hn
  rw [e1, b1_eq, ix_in hw (by decide), sb_eq]
  obtain ⟨v2, e2⟩ := N_lastLong_any (σ := uI (uI σ 1149 w (sI σ 1101 33 - 1)) 1150 w v1) (n := n) (by rw [sI_o (Or.inl (by decide)), sI_o (Or.inl (by decide))]; exact h38) hn
  rw [e2, b1_eq, ix_in hw (by decide), sb_eq]
  have z : ¬ sI (uI (uI (uI σ 1149 w (sI σ 1101 33 - 1)) 1150 w v1) 1151 w v2) 1101 74 = 0 := by
    rw [sI_o (Or.inl (by decide)), sI_o (Or.inl (by decide)), sI_o (Or.inl (by decide))]; exact h74
  rw [N_takeSign_e z, b1_eq, if_neg z]
  exact ⟨_, rfl, fP_trans (fP_trans (fP_u (PX_v (by decide) (by decide) (by omega))) (fP_u (PX_v (by decide) (by decide) (by omega)))) (fP_u (PX_v (by decide) (by decide) (by omega))), z⟩
/-! ===== the reference's reader: an enum's value, whole ===== -/
theorem fP_at {P : Nat → Nat → Prop} {σ τ : SG} (h : fP P σ τ) {b k : Nat} (hk : ¬ P b k) : sI τ b k = sI σ b k := (h b k hk).1
/-- what the value leaves -/
def VLo (σ τ : SG) (T : List Nat) (Ws : List Wd) (v : Int32) (n w en k' : Nat) (d : Dc) : Prop := sI τ 1101 74 = 0 ∧ QX τ T Ws k' ∧ sI τ 1101 38 = nI (n + 1) ∧ sI τ 1101 35 = nI (w + 1) ∧ (sI τ 1156 n = v ∧ sI τ 1157 n = nI (dA d) ∧ sI τ 1158 n = nI (dE d - dA d)) ∧ (sI τ 1149 w = nI en ∧ sI τ 1150 w = nI (dA d) ∧ sI τ 1151 w = nI (dE d - dA d) ∧ NR (sL τ 1152 w) (dN d)) ∧ ∀ j, j ∉ [35, 38, 70, 71, 72, 74, 75, 76, 77] → sI τ 1101 j = sI σ 1101 j
theorem N_takeValue {U k n w en : Nat} {v : Int32} {σ : SG} {T : List Nat} {Ws : List Wd} {c : CT} {m e : Option Nat} (hU : 4000 < U) (hS : WS T Ws) (h : QX σ T Ws k) (h74 : sI σ 1101 74 = 0) (h38 : sI σ 1101 38 = nI n) (hn : n < 400) (h35 : sI σ 1101 35 = nI w) (hw : w < 200) (h33 : sI σ 1101 33 = nI (en + 1)) (hcN : tN c = n) (hcV : tV c = w) :
    ∃ τ, x_X12_takeValue U 1101 v σ = some τ ∧ fP (PX c) σ τ ∧ (∀ k' d, (if sC Ws k = 40 then none else sVl T Ws m e k) = some (k', d) → VLo σ τ T Ws v n w en k' d) ∧ ((if sC Ws k = 40 then none else sVl T Ws m e k) = none → ¬ sI τ 1101 74 = 0) := by
  obtain ⟨hL, x, hx, hC⟩ := h
  have h : QX σ T Ws k := ⟨hL, x, hx, hC⟩
  have h6 := (hS.G.2 _ _ hx).1
  unfold x_X12_takeValue
  rw [N_isForeign hU hS h, b1_eq, ifz]
  by_cases q0 : sC Ws k = 40
  · rw [decide_eq_true q0, if_pos q0]
    simp only [if_true]
    obtain ⟨σ3, a1, a2, a3⟩ := N_fail (σ := σ) (v := 2) (w := sI σ 1101 71) (by decide)
    rw [a1, b1_eq]
    obtain ⟨τ, g1, g2, g3⟩ := N_value_e (U := U) (v := v) (c := c) a2 ((a3.2.1 35 (by decide)).trans h35) hw ((a3.2.1 38 (by decide)).trans h38) (by omega) hcV
    exact ⟨τ, g1, fP_trans (fX_q a3 (by decide)) g2, fun k' d z => (by cases z), fun _ => g3⟩
  rw [decide_eq_false q0, if_neg q0]
  simp only [Bool.false_eq_true, if_false]
  unfold sVl
  rw [hx]
  simp only
  obtain ⟨σ5, a1, a2, a3, a4⟩ := N_declare (v := v) (c := c) hU hS h hx h74 h38 hn hcN
  by_cases q1 : x.1 = 1
  · rw [if_pos q1]
    obtain ⟨b1', b2', b3, b4, b5, b6, b7⟩ := a4 q1
    have c35 : sI σ5 1101 35 = nI w := (b7 35 (by decide)).trans h35
    have c33 : sI σ5 1101 33 - 1 = nI en := by rw [b7 33 (by decide), h33, show (1 : Int32) = nI 1 from rfl, nI_sub (by omega)]; try rfl
    unfold x_X12_takeValue_16
    rw [a1, b1_eq, c35, ix_in hw (by decide), sb_eq, c33]
    have l1 : x_X12_lastAt 1101 (uI σ5 1149 w (nI en)) = some (nI x.2.1) := by
      rw [N_lastAt (n := n) (by rw [sI_o (Or.inl (by decide))]; exact b3) hn, sI_o (Or.inl (by decide)), b5]
    rw [l1, b1_eq, ix_in hw (by decide), sb_eq]
    have l2 : x_X12_lastLong 1101 (uI (uI σ5 1149 w (nI en)) 1150 w (nI x.2.1)) = some (nI (x.2.2.1 - x.2.1)) := by
      rw [N_lastLong (n := n) (by rw [sI_o (Or.inl (by decide)), sI_o (Or.inl (by decide))]; exact b3) hn, sI_o (Or.inl (by decide)), sI_o (Or.inl (by decide)), b6]
    rw [l2, b1_eq, ix_in hw (by decide), sb_eq]
    have Q24 : QX (uI (uI (uI σ5 1149 w (nI en)) 1150 w (nI x.2.1)) 1151 w (nI (x.2.2.1 - x.2.1))) T Ws (k + 1) := ((b2'.o (by decide) (by decide)).o (by decide) (by decide)).o (by decide) (by decide)
    have o24 : ∀ b j, (b < 1149 ∨ 1151 < b) → sI (uI (uI (uI σ5 1149 w (nI en)) 1150 w (nI x.2.1)) 1151 w (nI (x.2.2.1 - x.2.1))) b j = sI σ5 b j := fun b j hb => by
      rw [sI_o (Or.inl (by omega)), sI_o (Or.inl (by omega)), sI_o (Or.inl (by omega))]
    have v1 : sI (uI (uI (uI σ5 1149 w (nI en)) 1150 w (nI x.2.1)) 1151 w (nI (x.2.2.1 - x.2.1))) 1149 w = nI en := by rw [sI_o (Or.inl (by decide)), sI_o (Or.inl (by decide)), sI_s]
    have v2 : sI (uI (uI (uI σ5 1149 w (nI en)) 1150 w (nI x.2.1)) 1151 w (nI (x.2.2.1 - x.2.1))) 1150 w = nI x.2.1 := by rw [sI_o (Or.inl (by decide)), sI_s]
    have v3 : sI (uI (uI (uI σ5 1149 w (nI en)) 1150 w (nI x.2.1)) 1151 w (nI (x.2.2.1 - x.2.1))) 1151 w = nI (x.2.2.1 - x.2.1) := sI_s _ _ _ _
    have f24 : fP (PX c) σ (uI (uI (uI σ5 1149 w (nI en)) 1150 w (nI x.2.1)) 1151 w (nI (x.2.2.1 - x.2.1))) := fP_trans a2 (fP_trans (fP_trans (fP_u (PX_v (by decide) (by decide) (by omega))) (fP_u (PX_v (by decide) (by decide) (by omega)))) (fP_u (PX_v (by decide) (by decide) (by omega))))
    generalize (uI (uI (uI σ5 1149 w (nI en)) 1150 w (nI x.2.1)) 1151 w (nI (x.2.2.1 - x.2.1))) = σ24 at *
    have z24 : sI σ24 1101 74 = 0 := (o24 1101 74 (by decide)).trans b1'
    obtain ⟨σ26, s1, s2, s3, s4⟩ := N_takeSign (q := 61) hU hS Q24 z24 (by decide)
    have s1' : x_X12_takeSign U 1101 61 σ24 = some σ26 := s1
    rw [s1', b1_eq]
    cases q2 : sS T Ws 61 (k + 1) with
    | false =>
      have z26 := s4 (by rw [q2]; rfl)
      rw [if_neg z26]
      simp only [Bool.false_eq_true, if_false]
      exact ⟨σ26, rfl, fP_trans f24 (fX_q s2 (by decide)), fun k' d z => (by cases z), fun _ => z26⟩
    | true =>
      have r26 := s3 (k + 2) (by rw [q2]; rfl)
      rw [if_pos r26.1]
      simp only [if_true]
      have i45 : x_X12_isSign 1101 45 σ26 = some (zI (sS T Ws 45 (k + 2))) := N_isSign (q := 45) hS r26.2 (by decide)
      rw [i45, b1_eq, ix_in hw (by decide), sb_eq, ifz]
      have f26 : fP (PX c) σ σ26 := fP_trans f24 (fX_q s2 (by decide))
      have r26q := r26.2
      obtain ⟨_, y, hy, _⟩ := r26q
      have Q34 := r26.2.o (b := 1153) (j := w) (v := sI σ26 1101 71) (by decide) (by decide)
      have o34 : ∀ b j, b ≠ 1153 → sI (uI σ26 1153 w (sI σ26 1101 71)) b j = sI σ26 b j := fun b j hb => sI_o (Or.inl hb)
      have f34 : fP (PX c) σ (uI σ26 1153 w (sI σ26 1101 71)) := fP_trans f26 (fP_u (PX_v (by decide) (by decide) (by omega)))
      generalize uI σ26 1153 w (sI σ26 1101 71) = σ34 at *
      -- from the number on
      have fin : ∀ (υ : SG) (k2 : Nat) (y2 : Wd) (ng : Bool), QX υ T Ws k2 → Ws[k2]? = some y2 → fP (PX c) σ υ → fq [70, 71, 72, 76] σ34 υ →
          ∃ τ, x_X12_takeValue_97 U 1101 (nI w) (zI ng) υ = some τ ∧ fP (PX c) σ τ ∧ (y2.1 = 2 → sS T Ws 59 (k2 + 1) = true → VLo σ τ T Ws v n w en (k2 + 2) (3, m, e, x.2.1, x.2.2.1, (ng, nuX y2), 0, 0, false, 0)) ∧ (¬ (y2.1 = 2 ∧ sS T Ws 59 (k2 + 1) = true) → ¬ sI τ 1101 74 = 0) := by
        intro υ k2 y2 ng hQ hy2 hf hq
        have keep : ∀ b j, b ≠ 1101 → b ≠ 1153 → sI υ b j = sI σ24 b j := fun b j h1 h2 => by
          rw [(hq.1 b h1 j).1, o34 b j h2, (s2.1 b h1 j).1]
        have keep1 : ∀ j, j ∉ [70, 71, 72, 74, 75, 76] → sI υ 1101 j = sI σ24 1101 j := fun j hj => by
          rw [hq.2.1 j (fun z => hj (by simp only [List.mem_cons, List.not_mem_nil, or_false] at z ⊢; omega)), o34 1101 j (by decide), s2.2.1 j (fun z => hj z)]
        have z0 : sI υ 1101 74 = 0 := by rw [hq.2.1 74 (by decide), o34 1101 74 (by decide)]; exact r26.1
        obtain ⟨τ, g1, g2, g3, g4⟩ := N_value_97 (ng := ng) hU hS hQ hy2 z0 (by rw [keep1 35 (by decide), o24 1101 35 (by decide)]; exact c35) hw
        refine ⟨τ, g1, fP_trans hf (fP_mono g2 (fun b j z => ?_)), fun y1 y3 => ?_, g4⟩
        · rcases z with z | z
          · exact Or.inl ⟨z.1, (by decide : ∀ i, i ∈ [35, 70, 71, 72, 74, 75, 76, 77] → i ∈ KR) j z.2⟩
          · exact PX_v (by omega) (by omega) (by omega)
        · obtain ⟨t1, t2, t3, t4⟩ := g3 y1 y3
          have kp : ∀ b j, b ≠ 1101 → b ≠ 1153 → b ≠ 1152 → sI τ b j = sI σ24 b j := fun b j h1 h2 h3 => by
            rw [fP_at g2 (fun z => by rcases z with z | z <;> omega)]; exact keep b j h1 h2
          have kp1 : ∀ j, j ∉ [35, 70, 71, 72, 74, 75, 76] → j ≠ 77 → sI τ 1101 j = sI σ24 1101 j := fun j hj hj7 => by
            rw [fP_at g2 (fun z => by
              rcases z with z | z
              · have := z.2
                simp only [List.mem_cons, List.not_mem_nil, or_false] at this hj
                omega
              · omega)]
            exact keep1 j (fun z => hj (List.mem_cons_of_mem _ z))
          refine ⟨t1, t2, ?_, t3, ⟨?_, ?_, ?_⟩, ⟨?_, ?_, ?_, t4⟩, fun j hj => ?_⟩
          · rw [kp1 38 (by decide) (by decide), o24 1101 38 (by decide)]; exact b3
          · rw [kp 1156 n (by decide) (by decide) (by decide), o24 1156 n (by decide)]; exact b4
          · rw [kp 1157 n (by decide) (by decide) (by decide), o24 1157 n (by decide)]; exact b5
          · rw [kp 1158 n (by decide) (by decide) (by decide), o24 1158 n (by decide)]; exact b6
          · rw [kp 1149 w (by decide) (by decide) (by decide)]; exact v1
          · rw [kp 1150 w (by decide) (by decide) (by decide)]; exact v2
          · rw [kp 1151 w (by decide) (by decide) (by decide)]; exact v3
          · have h7 : j ≠ 77 := fun z => hj (by rw [z]; decide)
            rw [kp1 j (fun z => hj (by simp only [List.mem_cons, List.not_mem_nil, or_false] at z ⊢; omega)) h7, o24 1101 j (by decide)]
            exact b7 j (fun z => hj (by simp only [List.mem_cons, List.not_mem_nil, or_false] at z ⊢; omega))
      unfold sNu
      rw [hy]
      simp only [true_and]
      rw [show sS T Ws 45 (k + 2) = sgX T y 45 from sS_some hy]
      cases q3 : sgX T y 45 with
      | true =>
        simp only [if_true]
        have hk4 := sg_4 q3
        obtain ⟨σ51, d1, d2, d3⟩ := N_next hU hS Q34 (by rw [sK_some hy]; omega) (by rw [sK_some hy]; omega)
        rw [d1, b1_eq]
        have d2' := d2
        obtain ⟨_, y2, hy2, _⟩ := d2'
        obtain ⟨τ, g1, g2, g3, g4⟩ := fin σ51 (k + 2 + 1) y2 true d2 hy2 (fP_trans f34 (fX_q d3 (by decide))) d3
        refine ⟨τ, g1, g2, fun k' d z => ?_, fun z => g4 (fun hz => ?_)⟩
        · rw [show k + 3 = k + 2 + 1 by omega] at *
          rw [hy2] at z
          simp only at z
          by_cases w1 : y2.1 = 2
          · rw [if_pos w1] at z
            simp only at z
            cases w2 : sS T Ws 59 (k + 2 + 2) with
            | false => rw [w2] at z; cases z
            | true =>
              rw [w2] at z
              cases z
              exact g3 w1 w2
          · rw [if_neg w1] at z; cases z
        · rw [hy2] at z
          simp only at z
          rw [if_pos hz.1] at z
          simp only at z
          have := hz.2
          rw [show k + 2 + 1 + 1 = k + 2 + 2 by omega] at this
          rw [this] at z
          cases z
      | false =>
        simp only [Bool.false_eq_true, if_false]
        obtain ⟨τ, g1, g2, g3, g4⟩ := fin σ34 (k + 2) y false Q34 hy f34 (fq_refl _ _)
        refine ⟨τ, g1, g2, fun k' d z => ?_, fun z => g4 (fun hz => ?_)⟩
        · by_cases w1 : y.1 = 2
          · rw [if_pos w1] at z
            simp only at z
            cases w2 : sS T Ws 59 (k + 2 + 1) with
            | false => rw [w2] at z; cases z
            | true =>
              rw [w2] at z
              cases z
              exact g3 w1 w2
          · rw [if_neg w1] at z; cases z
        · rw [if_pos hz.1] at z
          simp only at z
          rw [hz.2] at z
          cases z
  · rw [if_neg q1]
    obtain ⟨z5, f5⟩ := a3 q1
    have e16 : x_X12_takeValue_16 U 1101 v σ = x_X12_takeValue_16 U 1101 v σ5 := by
      unfold x_X12_takeValue_16
      rw [a1, N_declare_e z5]
    rw [e16]
    obtain ⟨τ, g1, g2, g3⟩ := N_value_e (U := U) (v := v) (c := c) z5 ((f5.2.1 35 (by decide)).trans h35) hw ((f5.2.1 38 (by decide)).trans h38) (by omega) hcV
    exact ⟨τ, g1, fP_trans a2 g2, fun k' d z => (by cases z), fun _ => g3⟩
/-! ===== the reference's rows say D ===== -/
/-- the ordinal of a place among those of kind q -/
def oq (D : List Dc) (q : Nat) (o : Option Nat) : Int32 := match o with
  | none => -1
  | some m => nI (cnt (D.take m) q)
def NMr (σ : SG) (b i : Nat) (v : Int32) (d : Dc) : Prop := sI σ b i = v ∧ sI σ (b + 1) i = nI (dA d) ∧ sI σ (b + 2) i = nI (dE d - dA d)
def w0 (T : List Nat) (Ws : List Wd) (k : Nat) : Nat := if sS T Ws 46 k then k + 1 else k
def FDr (σ : SG) (T : List Nat) (Ws : List Wd) (D : List Dc) (j p : Nat) (d : Dc) : Prop := sI σ 1148 j = oq D 4 (dO d) ∧ sI σ 1145 j = zI (dR d) ∧ NR (sL σ 1137 j) (dN d) ∧ sI σ 1146 j = nI (dP d) ∧ dT d < 14 ∧ (dT d ≠ 13 → sI σ 1139 j = nI (dT d)) ∧ (dT d = 13 → sI σ 1139 j = -1 ∧ ∃ q m k', sTy T Ws (dW d) = some k' ∧ q + m ≤ p ∧ sI σ 1142 j = zI (sS T Ws 46 (dW d)) ∧ sI σ 1143 j = nI q ∧ sI σ 1144 j = nI m ∧ k' + 1 = w0 T Ws (dW d) + 2 * m ∧ 1 ≤ m ∧ PTs σ Ws q (w0 T Ws (dW d)) m)
def RwD (σ : SG) (T : List Nat) (Ws : List Wd) (D : List Dc) (p i : Nat) (d : Dc) : Prop := NMr σ 1156 i (oq D 0 (dS d)) d ∧ (dK d = 0 → NMr σ 1128 (cnt (D.take i) 0) (oq D 0 (dS d)) d) ∧ (dK d = 1 → NMr σ 1131 (cnt (D.take i) 1) (oq D 0 (dS d)) d) ∧ (dK d = 2 → NMr σ 1134 (cnt (D.take i) 2) (oq D 0 (dS d)) d ∧ FDr σ T Ws D (cnt (D.take i) 2) p d) ∧ (dK d = 3 → NMr σ 1149 (cnt (D.take i) 3) (oq D 1 (dO d)) d ∧ NR (sL σ 1152 (cnt (D.take i) 3)) (dN d))
def RM (σ : SG) (T : List Nat) (Ws : List Wd) (D : List Dc) (p : Nat) : Prop := (∀ q, q < 5 → sI σ 1101 (32 + q) = nI (cnt D q)) ∧ sI σ 1101 37 = nI p ∧ sI σ 1101 38 = nI D.length ∧ ∀ i d, D[i]? = some d → RwD σ T Ws D p i d
def ct (D : List Dc) (p : Nat) : CT := (cnt D 0, cnt D 1, cnt D 2, cnt D 3, p, D.length)
theorem cnt_sn (D : List Dc) (d : Dc) (k : Nat) : cnt (D ++ [d]) k = cnt D k + (if dK d = k then 1 else 0) := cnt_snoc D d k
theorem cnt_take_le (D : List Dc) (i q : Nat) : cnt (D.take i) q ≤ cnt D q := ((List.take_sublist i D).filter _).length_le
theorem cnt_take_lt {D : List Dc} {i q : Nat} {d : Dc} (h : D[i]? = some d) (hq : dK d = q) : cnt (D.take i) q < cnt D q := by
  have h1 := cnt_take_le D (i + 1) q
  rw [List.take_add_one, h] at h1
  have h2 : cnt (D.take i ++ [d]) q = cnt (D.take i) q + 1 := by rw [cnt_sn, if_pos hq]
  have h3 : (some d).toList = [d] := rfl
  rw [h3, h2] at h1
  omega
theorem oq_snoc {D : List Dc} {e : Dc} {q : Nat} {o : Option Nat} (h : ∀ m, o = some m → m ≤ D.length) : oq (D ++ [e]) q o = oq D q o := by
  cases o with
  | none => rfl
  | some m =>
    unfold oq
    simp only
    rw [List.take_append_of_le_length (h m rfl)]
theorem nPX {c : CT} {b k : Nat} (h0 : b ≠ 1101) (h1 : 1128 ≤ b → b ≤ 1130 → k < tM c) (h2 : 1131 ≤ b → b ≤ 1133 → k < tE c) (h3 : 1134 ≤ b → b ≤ 1148 → k < tF c) (h4 : 1149 ≤ b → b ≤ 1153 → k < tV c) (h5 : 1154 ≤ b → b ≤ 1155 → k < tP c) (h6 : 1156 ≤ b → b ≤ 1158 → k < tN c) : ¬ PX c b k := by
  intro z
  rcases z with z | z | z | z | z | z | z
  · exact h0 z.1
  · have := h1 z.1 z.2.1; omega
  · have := h2 z.1 z.2.1; omega
  · have := h3 z.1 z.2.1; omega
  · have := h4 z.1 z.2.1; omega
  · have := h5 z.1 z.2.1; omega
  · have := h6 z.1 z.2.1; omega
theorem nPX_m {c : CT} {b k : Nat} (h1 : 1128 ≤ b) (h2 : b ≤ 1130) (h : k < tM c) : ¬ PX c b k := nPX (by omega) (fun _ _ => h) (by omega) (by omega) (by omega) (by omega) (by omega)
theorem nPX_e {c : CT} {b k : Nat} (h1 : 1131 ≤ b) (h2 : b ≤ 1133) (h : k < tE c) : ¬ PX c b k := nPX (by omega) (by omega) (fun _ _ => h) (by omega) (by omega) (by omega) (by omega)
theorem nPX_f {c : CT} {b k : Nat} (h1 : 1134 ≤ b) (h2 : b ≤ 1148) (h : k < tF c) : ¬ PX c b k := nPX (by omega) (by omega) (by omega) (fun _ _ => h) (by omega) (by omega) (by omega)
theorem nPX_v {c : CT} {b k : Nat} (h1 : 1149 ≤ b) (h2 : b ≤ 1153) (h : k < tV c) : ¬ PX c b k := nPX (by omega) (by omega) (by omega) (by omega) (fun _ _ => h) (by omega) (by omega)
theorem nPX_p {c : CT} {b k : Nat} (h1 : 1154 ≤ b) (h2 : b ≤ 1155) (h : k < tP c) : ¬ PX c b k := nPX (by omega) (by omega) (by omega) (by omega) (by omega) (fun _ _ => h) (by omega)
theorem nPX_n {c : CT} {b k : Nat} (h1 : 1156 ≤ b) (h2 : b ≤ 1158) (h : k < tN c) : ¬ PX c b k := nPX (by omega) (by omega) (by omega) (by omega) (by omega) (by omega) (fun _ _ => h)
theorem NMr_keep {P : Nat → Nat → Prop} {σ τ : SG} {b i : Nat} {v w : Int32} {d : Dc} (h : NMr σ b i v d) (hf : fP P σ τ) (hn : ∀ b', b ≤ b' → b' ≤ b + 2 → ¬ P b' i) (hv : v = w) : NMr τ b i w d := by
  subst hv
  exact ⟨(fP_at hf (hn b (by omega) (by omega))).trans h.1, (fP_at hf (hn (b + 1) (by omega) (by omega))).trans h.2.1, (fP_at hf (hn (b + 2) (by omega) (by omega))).trans h.2.2⟩
theorem FDr_keep {σ τ : SG} {T : List Nat} {Ws : List Wd} {D D' : List Dc} {j p p' : Nat} {d : Dc} {c : CT} (h : FDr σ T Ws D j p d) (hf : fP (PX c) σ τ) (hj : j < tF c) (hp : p ≤ tP c) (hp' : p ≤ p') (ho : oq D' 4 (dO d) = oq D 4 (dO d)) : FDr τ T Ws D' j p' d := by
  have k : ∀ b, 1134 ≤ b → b ≤ 1148 → sI τ b j = sI σ b j := fun b h1 h2 => fP_at hf (nPX_f h1 h2 hj)
  obtain ⟨a1, a2, a3, a4, a5, a6, a7⟩ := h
  refine ⟨by rw [k 1148 (by decide) (by decide), ho]; exact a1, by rw [k 1145 (by decide) (by decide)]; exact a2, by rw [(hf 1137 j (nPX_f (by decide) (by decide) hj)).2.1]; exact a3, by rw [k 1146 (by decide) (by decide)]; exact a4, a5, fun z => by rw [k 1139 (by decide) (by decide)]; exact a6 z, fun z => ?_⟩
  obtain ⟨b0, q, m, k', b1, b2, b3, b4, b5, b6, b7, b8⟩ := a7 z
  refine ⟨by rw [k 1139 (by decide) (by decide)]; exact b0, q, m, k', b1, by omega, by rw [k 1142 (by decide) (by decide)]; exact b3, by rw [k 1143 (by decide) (by decide)]; exact b4, by rw [k 1144 (by decide) (by decide)]; exact b5, b6, b7, fun t ht => ?_⟩
  obtain ⟨x, c1, c2, c3⟩ := b8 t ht
  exact ⟨x, c1, by rw [fP_at hf (nPX_p (by decide) (by decide) (by omega))]; exact c2, by rw [fP_at hf (nPX_p (by decide) (by decide) (by omega))]; exact c3⟩
/-- scope and owner stand before -/
theorem WF.before {D : List Dc} {i : Nat} {d : Dc} (h : WF D) (hd : D[i]? = some d) : (∀ m, dS d = some m → m < i) ∧ (∀ m, dO d = some m → m < i) := by
  have hn := h i d hd
  refine ⟨fun m hm => ?_, fun m hm => ?_⟩
  · exact (KM_take (hn.1 m hm)).2
  · have ko : ∀ q sc, KO (D.take i) m q sc → m < i := fun q sc z => by
      obtain ⟨x, a, _⟩ := z
      obtain ⟨g, _⟩ := List.getElem?_eq_some_iff.mp a
      rw [List.length_take] at g
      omega
    rcases hn.2 with z | z | z | z | z
    · rw [z.2] at hm; cases hm
    · rw [z.2] at hm; cases hm
    · rw [z.2.1] at hm; cases hm
    · exact ko _ _ (z.2.2 m hm)
    · obtain ⟨_, e, he, g⟩ := z
      rw [he] at hm
      cases hm
      exact ko _ _ g
theorem RwD_keep {σ τ : SG} {T : List Nat} {Ws : List Wd} {D : List Dc} {e d : Dc} {p p' i : Nat} (hW : WF D) (hd : D[i]? = some d) (h : RwD σ T Ws D p i d) (hf : fP (PX (ct D p)) σ τ) (hp' : p ≤ p') : RwD τ T Ws (D ++ [e]) p' i d := by
  have hi : i < D.length := by obtain ⟨q, _⟩ := List.getElem?_eq_some_iff.mp hd; exact q
  have hb := hW.before hd
  have e1 : oq (D ++ [e]) 0 (dS d) = oq D 0 (dS d) := oq_snoc (fun m hm => by have := hb.1 m hm; omega)
  have e2 : ∀ q, oq (D ++ [e]) q (dO d) = oq D q (dO d) := fun q => oq_snoc (fun m hm => by have := hb.2 m hm; omega)
  have ht : ∀ q, cnt ((D ++ [e]).take i) q = cnt (D.take i) q := fun q => by rw [List.take_append_of_le_length (Nat.le_of_lt hi)]
  unfold RwD at *
  rw [ht, ht, ht, ht, e1, e2]
  obtain ⟨a1, a2, a3, a4, a5⟩ := h
  refine ⟨NMr_keep a1 hf (fun b' h1 h2 => nPX_n h1 h2 hi) rfl, fun z => NMr_keep (a2 z) hf (fun b' h1 h2 => nPX_m h1 h2 (cnt_take_lt hd z)) rfl, fun z => NMr_keep (a3 z) hf (fun b' h1 h2 => nPX_e h1 h2 (cnt_take_lt hd z)) rfl, fun z => ⟨NMr_keep (a4 z).1 hf (fun b' h1 h2 => nPX_f h1 (by omega) (cnt_take_lt hd z)) rfl, FDr_keep (a4 z).2 hf (cnt_take_lt hd z) (Nat.le_refl _) hp' (e2 4)⟩, fun z => ⟨NMr_keep (a5 z).1 hf (fun b' h1 h2 => nPX_v h1 (by omega) (cnt_take_lt hd z)) rfl, ?_⟩⟩
  rw [(hf 1152 _ (nPX_v (by decide) (by decide) (cnt_take_lt hd z))).2.1]
  exact (a5 z).2
theorem RM_snoc {σ τ : SG} {T : List Nat} {Ws : List Wd} {D : List Dc} {e : Dc} {p p' : Nat} (hW : WF D) (h : RM σ T Ws D p) (hf : fP (PX (ct D p)) σ τ) (hp : p ≤ p') (hq : ∀ q, q < 5 → sI τ 1101 (32 + q) = nI (cnt (D ++ [e]) q)) (h37 : sI τ 1101 37 = nI p') (h38 : sI τ 1101 38 = nI (D.length + 1)) (hnew : RwD τ T Ws (D ++ [e]) p' D.length e) : RM τ T Ws (D ++ [e]) p' := by
  refine ⟨hq, h37, by rw [h38, List.length_append]; rfl, fun i d hd => ?_⟩
  rcases Nat.lt_trichotomy i D.length with hi | hi | hi
  · rw [List.getElem?_append_left hi] at hd
    exact RwD_keep hW hd (h.2.2.2 i d hd) hf hp
  · subst hi
    rw [get_snoc_last] at hd
    cases hd
    exact hnew
  · rw [List.getElem?_eq_none (by rw [List.length_append]; simp; omega)] at hd
    cases hd
/-- the counts, one of them one higher -/
theorem cnt_up {σ τ : SG} {D : List Dc} {e : Dc} {z : Nat} (h : ∀ q, q < 5 → sI σ 1101 (32 + q) = nI (cnt D q)) (hz : dK e = z) (hz5 : z < 5) (h1 : sI τ 1101 (32 + z) = nI (cnt D z + 1)) (h2 : ∀ q, q < 5 → q ≠ z → sI τ 1101 (32 + q) = sI σ 1101 (32 + q)) : ∀ q, q < 5 → sI τ 1101 (32 + q) = nI (cnt (D ++ [e]) q) := by
  intro q hq
  rw [cnt_sn]
  by_cases hqz : q = z
  · subst hqz
    rw [if_pos hz, h1]
  · rw [if_neg (fun y => hqz (y.symm.trans hz)), Nat.add_zero, h2 q hq hqz, h q hq]
/-- the rows alone are read -/
theorem RM_sm {σ τ : SG} {T : List Nat} {Ws : List Wd} {D : List Dc} {p : Nat} (h : RM σ T Ws D p) (hb : ∀ b, 1128 ≤ b → b ≤ 1158 → sm σ τ b) (h0 : ∀ i, 32 ≤ i → i ≤ 38 → sI τ 1101 i = sI σ 1101 i) : RM τ T Ws D p := by
  have i1 : ∀ b k, 1128 ≤ b → b ≤ 1158 → sI τ b k = sI σ b k := fun b k h1 h2 => (hb b h1 h2 k).1
  have nm : ∀ b i v d, 1128 ≤ b → b + 2 ≤ 1158 → NMr σ b i v d → NMr τ b i v d := fun b i v d h1 h2 z => ⟨(i1 b i h1 (by omega)).trans z.1, (i1 (b + 1) i (by omega) (by omega)).trans z.2.1, (i1 (b + 2) i (by omega) h2).trans z.2.2⟩
  refine ⟨fun q hq => (h0 (32 + q) (by omega) (by omega)).trans (h.1 q hq), (h0 37 (by decide) (by decide)).trans h.2.1, (h0 38 (by decide) (by decide)).trans h.2.2.1, fun i d hd => ?_⟩
  obtain ⟨a1, a2, a3, a4, a5⟩ := h.2.2.2 i d hd
  refine ⟨nm _ _ _ _ (by decide) (by decide) a1, fun z => nm _ _ _ _ (by decide) (by decide) (a2 z), fun z => nm _ _ _ _ (by decide) (by decide) (a3 z), fun z => ⟨nm _ _ _ _ (by decide) (by decide) (a4 z).1, ?_⟩, fun z => ⟨nm _ _ _ _ (by decide) (by decide) (a5 z).1, ?_⟩⟩
  · obtain ⟨b1, b2, b3, b4, b5, b6, b7⟩ := (a4 z).2
    refine ⟨(i1 _ _ (by decide) (by decide)).trans b1, (i1 _ _ (by decide) (by decide)).trans b2, by rw [(hb 1137 (by decide) (by decide) _).2.1]; exact b3, (i1 _ _ (by decide) (by decide)).trans b4, b5, fun y => (i1 _ _ (by decide) (by decide)).trans (b6 y), fun y => ?_⟩
    obtain ⟨c0, q, m, k', c1, c2, c3, c4, c5, c6, c7, c8⟩ := b7 y
    refine ⟨(i1 _ _ (by decide) (by decide)).trans c0, q, m, k', c1, c2, (i1 _ _ (by decide) (by decide)).trans c3, (i1 _ _ (by decide) (by decide)).trans c4, (i1 _ _ (by decide) (by decide)).trans c5, c6, c7, fun t ht => ?_⟩
    obtain ⟨x, e1, e2, e3⟩ := c8 t ht
    exact ⟨x, e1, (i1 _ _ (by decide) (by decide)).trans e2, (i1 _ _ (by decide) (by decide)).trans e3⟩
  · rw [(hb 1152 (by decide) (by decide) _).2.1]; exact (a5 z).2
theorem RM_q {σ τ : SG} {T : List Nat} {Ws : List Wd} {D : List Dc} {p : Nat} (h : RM σ T Ws D p) (hf : fq KF σ τ) : RM τ T Ws D p :=
  RM_sm h (fun b h1 _ => hf.1 b (by omega)) (fun i h1 h2 => hf.2.1 i (by unfold KF; simp only [List.mem_cons, List.not_mem_nil, or_false]; omega))
/-! ===== the reference's reader: a field ===== -/
theorem WS.len {T : List Nat} {Ws : List Wd} (h : WS T Ws) : Ws.length ≤ 701 := by
  rcases Nat.lt_or_ge 701 Ws.length with q | q
  · have hx : Ws[701]? = some Ws[701] := List.getElem?_eq_getElem q
    have := h.le _ _ hx
    have := h.2.1
    omega
  · exact q
theorem N_field_e {U j n : Nat} {v : Int32} {σ : SG} {c : CT} (h74 : ¬ sI σ 1101 74 = 0) (h38 : sI σ 1101 38 = nI n) (hn : n ≤ 400) (hj : j < 200) (hc : tF c ≤ j) :
    ∃ τ, x_X12_takeField_52 U 1101 v (nI j) σ = some τ ∧ fP (PX c) σ τ ∧ ¬ sI τ 1101 74 = 0 := by
  unfold x_X12_takeField_52
  rw [N_takeType_e h74, b1_eq, N_declare_e h74, b1_eq]
  obtain ⟨v1, e1⟩ := N_lastAt_any (σ := σ) (n := n) h38 hn
  rw [e1, b1_eq, ix_in hj (by decide), sb_eq]
  obtain ⟨v2, e2⟩ := N_lastLong_any (σ := uI σ 1135 j v1) (n := n) (by rw [sI_o (Or.inl (by decide))]; exact h38) hn
  rw [e2, b1_eq, ix_in hj (by decide), sb_eq]
  have z : ¬ sI (uI (uI σ 1135 j v1) 1136 j v2) 1101 74 = 0 := by
    rw [sI_o (Or.inl (by decide)), sI_o (Or.inl (by decide))]; exact h74
  rw [N_takeSign_e z, b1_eq, if_neg z]
  exact ⟨_, rfl, fP_trans (fP_u (PX_f (by decide) (by decide) hc)) (fP_u (PX_f (by decide) (by decide) hc)), z⟩
theorem PY_X {c : CT} {j p b k : Nat} (hj : tF c ≤ j) (hp : tP c ≤ p) (h : PY j p b k) : PX c b k := by
  rcases h with z | z | z
  · exact Or.inl ⟨z.1, (by decide : ∀ i, i ∈ [37, 70, 71, 72, 74, 75, 76, 77] → i ∈ KR) k z.2⟩
  · exact PX_p z.1 z.2.1 (by omega)
  · exact PX_f (by omega) (by omega) (by omega)
theorem PP_X {c : CT} {j b k : Nat} (hj : tF c ≤ j) (h : PP j b k) : PX c b k := by
  rcases h with z | z
  · exact Or.inl ⟨z.1, (by decide : ∀ i, i ∈ [70, 71, 72, 74, 75, 76, 77] → i ∈ KR) k z.2⟩
  · exact PX_f (by omega) (by omega) (by omega)
theorem N_field_52 {U k p j : Nat} {r : Bool} {σ0 σ : SG} {T : List Nat} {Ws : List Wd} {D : List Dc} {m o : Option Nat} (hU : 4000 < U) (hS : WS T Ws) (hW : WF D) (hM : RM σ0 T Ws D p) (hf0 : fP (PX (ct D p)) σ0 σ) (hc0 : ∀ i, 32 ≤ i → i ≤ 38 → sI σ 1101 i = sI σ0 1101 i) (h : QX σ T Ws k) (h74 : sI σ 1101 74 = 0) (hD : 4 * D.length ≤ pos Ws k) (hp : 2 * p ≤ pos Ws k) (hj : j = cnt D 2) (h134 : sI σ 1134 j = oq D 0 m) (h148 : sI σ 1148 j = oq D 4 o) (h145 : sI σ 1145 j = zI r) (hm : ∀ i, m = some i → i ≤ D.length) (ho : ∀ i, o = some i → i ≤ D.length) :
    ∃ τ, x_X12_takeField_52 U 1101 (oq D 0 m) (nI j) σ = some τ ∧ fP (PX (ct D p)) σ0 τ ∧ (∀ k' d, sFt T Ws m o r k = some (k', d) → sI τ 1101 74 = 0 ∧ QX τ T Ws k' ∧ ∃ p', 2 * p' ≤ pos Ws k' ∧ RM τ T Ws (D ++ [d]) p') ∧ (sFt T Ws m o r k = none → ¬ sI τ 1101 74 = 0) := by
  have hl := hS.len
  have hk := h
  obtain ⟨_, xk, hxk, _⟩ := hk
  have hle := hS.le _ xk hxk
  have hT := hS.2.1
  have hD' := hD
  rw [pos_some hxk] at hD'
  have hcl := cnt_le D 2
  have hj2 : j < 200 := by omega
  have hn : D.length < 400 := by omega
  have h38 : sI σ 1101 38 = nI D.length := (hc0 38 (by decide) (by decide)).trans hM.2.2.1
  have h37 : sI σ 1101 37 = nI p := (hc0 37 (by decide) (by decide)).trans hM.2.1
  have hjc : tF (ct D p) ≤ j := by rw [hj]; exact Nat.le_refl _
  obtain ⟨σ21, a1, a2, a3, a4⟩ := N_takeType hU hS hl hj2 h h74 h37 hp
  have f21 : fP (PX (ct D p)) σ0 σ21 := fP_trans hf0 (fP_mono a2 (fun b i z => PY_X hjc (Nat.le_refl _) z))
  have k21 : ∀ i, i ∉ [37, 70, 71, 72, 74, 75, 76, 77] → sI σ21 1101 i = sI σ 1101 i := fun i hi => fP_at a2 (fun z => by
    rcases z with z | z | z
    · exact hi z.2
    · omega
    · omega)
  unfold sFt
  cases hty : (if sPl Ws k then some (k + 1) else sTy T Ws k) with
  | none =>
    have z21 := a4 hty
    have e52 : x_X12_takeField_52 U 1101 (oq D 0 m) (nI j) σ = x_X12_takeField_52 U 1101 (oq D 0 m) (nI j) σ21 := by
      unfold x_X12_takeField_52
      rw [a1, N_takeType_e z21]
    rw [e52]
    obtain ⟨τ, g1, g2, g3⟩ := N_field_e (U := U) (v := oq D 0 m) z21 ((k21 38 (by decide)).trans h38) (by omega) hj2 hjc
    exact ⟨τ, g1, fP_trans f21 g2, fun k' d z => (by cases z), fun _ => g3⟩
  | some k2 =>
    simp only
    obtain ⟨z21, Q21, t39, t37, tn⟩ := a3 k2 hty
    -- the parts behind the type
    have hp2 : ∃ p2, sI σ21 1101 37 = nI p2 ∧ p ≤ p2 ∧ 2 * p2 ≤ pos Ws k2 + 1 ∧ (sPl Ws k = false → ∃ q, p2 = p + q ∧ sI σ21 1142 j = zI (sS T Ws 46 k) ∧ sI σ21 1143 j = nI p ∧ k2 + 1 = w0 T Ws k + 2 * q ∧ 1 ≤ q ∧ sI σ21 1144 j = nI q ∧ PTs σ21 Ws p (w0 T Ws k) q) := by
      obtain ⟨_, x2, hx2, _⟩ := Q21
      cases hpl : sPl Ws k with
      | true =>
        refine ⟨p, t37 hpl, Nat.le_refl _, ?_, fun z => (by cases z)⟩
        rw [hpl] at hty
        have : k2 = k + 1 := by simp at hty; omega
        subst this
        have := hS.mono hxk 1 x2 hx2
        rw [pos_some hx2]
        rw [pos_some hxk] at hp
        omega
      | false =>
        obtain ⟨b1', b2', q, b3, b4, b5, b6, b7⟩ := tn hpl
        have hw0 : w0 T Ws k = k ∨ w0 T Ws k = k + 1 := by
          unfold w0; split
          · exact Or.inr rfl
          · exact Or.inl rfl
        have b3' : k2 + 1 = w0 T Ws k + 2 * q := b3
        refine ⟨p + q, b5, by omega, ?_, fun _ => ⟨q, rfl, b1', b2', b3', b4, b6, b7⟩⟩
        have := hS.mono hxk (k2 - k) x2 (by rw [show k + (k2 - k) = k2 by omega]; exact hx2)
        rw [pos_some hx2]
        rw [pos_some hxk] at hp
        omega
    obtain ⟨p2, hp37, hpp, hpos2, hnamed⟩ := hp2
    obtain ⟨hL2, x, hx, hC2⟩ := Q21
    have Q21 : QX σ21 T Ws k2 := ⟨hL2, x, hx, hC2⟩
    have h6 := (hS.G.2 _ _ hx).1
    obtain ⟨σ23, b1', b2', b3, b4⟩ := N_declare (v := oq D 0 m) (c := (cnt D 0, cnt D 1, j + 1, cnt D 3, p2, D.length)) hU hS Q21 hx z21 ((k21 38 (by decide)).trans h38) hn rfl
    have f23 : fP (PX (ct D p)) σ0 σ23 := fP_trans f21 (fP_mono b2' (fun b i z => PX_le (c := ct D p) (d := (cnt D 0, cnt D 1, j + 1, cnt D 3, p2, D.length)) ⟨Nat.le_refl _, Nat.le_refl _, by show cnt D 2 ≤ j + 1; omega, Nat.le_refl _, hpp, Nat.le_refl _⟩ z))
    unfold sFe
    rw [hx]
    simp only
    by_cases q1 : x.1 = 1
    · rw [if_pos q1]
      obtain ⟨z23, Q23, n38, n56, n57, n58, o23⟩ := b4 q1
      unfold x_X12_takeField_52
      have l1 : x_X12_lastAt 1101 σ23 = some (nI x.2.1) := by rw [N_lastAt n38 hn, n57]
      rw [a1, b1_eq, b1', b1_eq, l1, b1_eq, ix_in hj2 (by decide), sb_eq]
      have l2 : x_X12_lastLong 1101 (uI σ23 1135 j (nI x.2.1)) = some (nI (x.2.2.1 - x.2.1)) := by
        rw [N_lastLong (n := D.length) (by rw [sI_o (Or.inl (by decide))]; exact n38) hn, sI_o (Or.inl (by decide)), n58]
      rw [l2, b1_eq, ix_in hj2 (by decide), sb_eq]
      have Q37 : QX (uI (uI σ23 1135 j (nI x.2.1)) 1136 j (nI (x.2.2.1 - x.2.1))) T Ws (k2 + 1) := (Q23.o (by decide) (by decide)).o (by decide) (by decide)
      have o37 : ∀ b i, b ≠ 1135 → b ≠ 1136 → sI (uI (uI σ23 1135 j (nI x.2.1)) 1136 j (nI (x.2.2.1 - x.2.1))) b i = sI σ23 b i := fun b i h1 h2 => by
        rw [sI_o (Or.inl h2), sI_o (Or.inl h1)]
      have v35 : sI (uI (uI σ23 1135 j (nI x.2.1)) 1136 j (nI (x.2.2.1 - x.2.1))) 1135 j = nI x.2.1 := by rw [sI_o (Or.inl (by decide)), sI_s]
      have v36 : sI (uI (uI σ23 1135 j (nI x.2.1)) 1136 j (nI (x.2.2.1 - x.2.1))) 1136 j = nI (x.2.2.1 - x.2.1) := sI_s _ _ _ _
      have f37 : fP (PX (ct D p)) σ0 (uI (uI σ23 1135 j (nI x.2.1)) 1136 j (nI (x.2.2.1 - x.2.1))) := fP_trans f23 (fP_trans (fP_u (PX_f (by decide) (by decide) hjc)) (fP_u (PX_f (by decide) (by decide) hjc)))
      generalize (uI (uI σ23 1135 j (nI x.2.1)) 1136 j (nI (x.2.2.1 - x.2.1))) = σ37 at *
      obtain ⟨σ39, s1, s2, s3, s4⟩ := N_takeSign (q := 61) hU hS Q37 ((o37 1101 74 (by decide) (by decide)).trans z23) (by decide)
      have s1' : x_X12_takeSign U 1101 61 σ37 = some σ39 := s1
      rw [s1', b1_eq]
      have f39 : fP (PX (ct D p)) σ0 σ39 := fP_trans f37 (fX_q s2 (by decide))
      cases q2 : sS T Ws 61 (k2 + 1) with
      | false =>
        have z39 := s4 (by rw [q2]; rfl)
        rw [if_neg z39]
        simp only [Bool.false_eq_true, if_false]
        exact ⟨σ39, rfl, f39, fun k' d z => (by cases z), fun _ => z39⟩
      | true =>
        obtain ⟨z39, Q39⟩ := s3 (k2 + 2) (by rw [q2]; rfl)
        rw [if_pos z39]
        simp only [if_true]
        obtain ⟨hL3, y, hy, hC3⟩ := Q39
        have Q39 : QX σ39 T Ws (k2 + 2) := ⟨hL3, y, hy, hC3⟩
        have hy6 := (hS.G.2 _ _ hy).1
        unfold sNu
        rw [hy, N_kind Q39, sK_some hy]
        simp only [Bool.false_eq_true, false_and, if_false]
        by_cases q3 : y.1 = 2
        · rw [if_pos (show nI y.1 = 2 by rw [q3]; rfl), if_pos q3, ix_in hj2 (by decide), sb_eq, ix_in hj2 (by decide), sb_eq]
          have nr := N_num Q39 hy q3 false
          have Q51 : QX (uI (uL σ39 1137 j (sL σ39 1101 77)) 1138 j (sI (uL σ39 1137 j (sL σ39 1101 77)) 1101 71)) T Ws (k2 + 2) := (Q39.oL (by decide) (by decide)).o (by decide) (by decide)
          have o51 : ∀ b i, b ≠ 1138 → sI (uI (uL σ39 1137 j (sL σ39 1101 77)) 1138 j (sI (uL σ39 1137 j (sL σ39 1101 77)) 1101 71)) b i = sI σ39 b i := fun b i hb => by rw [sI_o (Or.inl hb)]; try rfl
          have l51 : sL (uI (uL σ39 1137 j (sL σ39 1101 77)) 1138 j (sI (uL σ39 1137 j (sL σ39 1101 77)) 1101 71)) 1137 j = sL σ39 1101 77 := by
            show sL (uL σ39 1137 j (sL σ39 1101 77)) 1137 j = _
            rw [sL_uL, if_pos ⟨rfl, rfl⟩]
          have f51 : fP (PX (ct D p)) σ0 (uI (uL σ39 1137 j (sL σ39 1101 77)) 1138 j (sI (uL σ39 1137 j (sL σ39 1101 77)) 1101 71)) := fP_trans f39 (fP_trans (fP_L (PX_f (by decide) (by decide) hjc)) (fP_u (PX_f (by decide) (by decide) hjc)))
          generalize (uI (uL σ39 1137 j (sL σ39 1101 77)) 1138 j (sI (uL σ39 1137 j (sL σ39 1101 77)) 1101 71)) = σ51 at *
          obtain ⟨σ53, c1, c2, c3⟩ := N_next hU hS Q51 (by rw [sK_some hy]; omega) (by rw [sK_some hy]; omega)
          rw [c1, b1_eq]
          have z53 : sI σ53 1101 74 = 0 := by rw [c3.2.1 74 (by decide), o51 1101 74 (by decide)]; exact z39
          obtain ⟨σ55, d1, d2, d3, d4⟩ := N_takePacked (j := j) hU hS c2 z53 hj2
          rw [d1, b1_eq]
          have f55 : fP (PX (ct D p)) σ0 σ55 := fP_trans f51 (fP_trans (fX_q c3 (by decide)) (fP_mono d2 (fun b i z => PP_X hjc z)))
          simp only
          cases hpk : sPk T Ws (k2 + 2 + 1) with
          | none =>
            simp only
            have z55 := d4 hpk
            rw [N_takeSign_e z55, b1_eq, sb_eq]
            refine ⟨_, rfl, fP_trans f55 (fP_u (PX_0 (by decide))), fun k' d z => (by cases z), fun _ => ?_⟩
            rw [sI_o (Or.inr (by decide))]; exact z55
          | some kp =>
            obtain ⟨k5, pk⟩ := kp
            simp only
            obtain ⟨z55, Q55, v146⟩ := d3 k5 pk hpk
            obtain ⟨σ57, e1, e2, e3, e4⟩ := N_takeSign (q := 59) hU hS Q55 z55 (by decide)
            have e1' : x_X12_takeSign U 1101 59 σ55 = some σ57 := e1
            rw [e1', b1_eq, sb_eq]
            have f57 : fP (PX (ct D p)) σ0 σ57 := fP_trans f55 (fX_q e2 (by decide))
            cases q5 : sS T Ws 59 k5 with
            | false =>
              simp only [Bool.false_eq_true, if_false]
              refine ⟨_, rfl, fP_trans f57 (fP_u (PX_0 (by decide))), fun k' d z => (by cases z), fun _ => ?_⟩
              rw [sI_o (Or.inr (by decide))]; exact e4 (by rw [q5]; rfl)
            | true =>
              simp only [if_true]
              obtain ⟨z57, Q57⟩ := e3 (k5 + 1) (by rw [q5]; rfl)
              -- what stays from σ23 on
              have kb : ∀ b i, b ≠ 1101 → b ≠ 1135 → b ≠ 1136 → b ≠ 1138 → b ≠ 1146 → b ≠ 1147 → sI σ57 b i = sI σ23 b i := fun b i h0 h1 h2 h3 h4 h5 => by
                rw [(e2.1 b h0 i).1, fP_at d2 (fun z => by rcases z with z | z <;> omega), (c3.1 b h0 i).1, o51 b i h3, (s2.1 b h0 i).1, o37 b i h1 h2]
              have k1 : ∀ i, i ∉ [70, 71, 72, 74, 75, 76, 77] → sI σ57 1101 i = sI σ23 1101 i := fun i hi => by
                have hi' : i ∉ [70, 71, 72, 76] := fun z => hi (by simp only [List.mem_cons, List.not_mem_nil, or_false] at z ⊢; omega)
                have hi2 : i ∉ KF := fun z => hi (KF_in i z)
                rw [e2.2.1 i hi2, fP_at d2 (fun z => by
                  rcases z with z | z
                  · exact hi z.2
                  · omega), c3.2.1 i hi', o51 1101 i (by decide), s2.2.1 i hi2, o37 1101 i (by decide) (by decide)]
              have k3 : ∀ b, b = 1135 ∨ b = 1136 → sI σ57 b j = sI σ37 b j := fun b hb => by
                rw [(e2.1 b (by omega) j).1, fP_at d2 (fun z => by rcases z with z | z <;> omega), (c3.1 b (by omega) j).1, o51 b j (by omega), (s2.1 b (by omega) j).1]
              have kL : sL σ57 1137 j = sL σ39 1101 77 := by
                rw [(e2.1 1137 (by decide) j).2.1, (d2 1137 j (fun z => by rcases z with z | z <;> omega)).2.1, (c3.1 1137 (by decide) j).2.1, l51]
              have k46 : sI σ57 1146 j = nI pk := by rw [(e2.1 1146 (by decide) j).1]; exact v146
              -- from σ21 to σ23, below the counts
              have kj : ∀ b, 1134 ≤ b → b ≤ 1148 → sI σ23 b j = sI σ21 b j := fun b h1 h2 => fP_at b2' (nPX_f h1 h2 (Nat.lt_succ_self j))
              have kp : ∀ b i, 1154 ≤ b → b ≤ 1155 → i < p2 → sI σ23 b i = sI σ21 b i := fun b i h1 h2 h3 => fP_at b2' (nPX_p h1 h2 h3)
              have kt : ∀ b, b = 1134 ∨ b = 1145 ∨ b = 1148 → sI σ21 b j = sI σ b j := fun b hb => fP_at a2 (fun z => by rcases z with z | z | z <;> omega)
              have c34 : sI σ57 1101 34 = nI j := by rw [k1 34 (by decide), o23 34 (by decide), k21 34 (by decide), hc0 34 (by decide) (by decide), hj]; exact hM.1 2 (by decide)
              rw [c34, nI_1]
              have hfin : fP (PX (ct D p)) σ0 (uI σ57 1101 34 (nI (j + 1))) := fP_trans f57 (fP_u (PX_0 (by decide)))
              have hfar : far Ws k2 (k5 + 1) 1 := by
                have g1 := far_sK hS (k := k2) (Or.inl (by rw [sK_some hx]; exact q1))
                have g2 := far_sS hS q2
                have g3 := far_sK hS (k := k2 + 2) (Or.inr (by rw [sK_some hy]; exact q3))
                have g4 := far_sPk hS g3.1 hpk
                have g5 := far_sS hS q5
                exact far_le (far_trans g1 (far_trans g2 (far_trans g3 (far_trans g4 g5)))) (by omega)
              refine ⟨_, rfl, hfin, fun k' d z => ?_, fun z => (by cases z)⟩
              cases z
              refine ⟨by rw [sI_o (Or.inr (by decide))]; exact z57, Q57.u (by decide), p2, by have := hfar.2; omega, ?_⟩
              have uo : ∀ b i, b ≠ 1101 → sI (uI σ57 1101 34 (nI (j + 1))) b i = sI σ57 b i := fun b i hb => sI_o (Or.inl hb)
              refine RM_snoc hW hM hfin hpp ?_ ?_ ?_ ?_
              · refine cnt_up (z := 2) hM.1 rfl (by decide) (by rw [show 32 + 2 = 34 by rfl, sI_s, hj]) (fun q h1 h2 => ?_)
                rw [sI_o (Or.inr (by omega)), k1 (32 + q) (by simp only [List.mem_cons, List.not_mem_nil, or_false]; omega), o23 (32 + q) (by simp only [List.mem_cons, List.not_mem_nil, or_false]; omega), k21 (32 + q) (by simp only [List.mem_cons, List.not_mem_nil, or_false]; omega), hc0 (32 + q) (by omega) (by omega)]
              · rw [sI_o (Or.inr (by decide)), k1 37 (by decide), o23 37 (by decide)]; exact hp37
              · rw [sI_o (Or.inr (by decide)), k1 38 (by decide)]; exact n38
              · have hS0 : ∀ (d : Dc), oq (D ++ [d]) 0 m = oq D 0 m := fun d => oq_snoc hm
                have hO4 : ∀ (d : Dc), oq (D ++ [d]) 4 o = oq D 4 o := fun d => oq_snoc ho
                refine ⟨⟨?_, ?_, ?_⟩, fun z => (by cases z), fun z => (by cases z), fun _ => ?_, fun z => (by cases z)⟩
                · rw [uo 1156 _ (by decide), kb 1156 _ (by decide) (by decide) (by decide) (by decide) (by decide) (by decide), n56]; exact (hS0 _).symm
                · rw [uo 1157 _ (by decide), kb 1157 _ (by decide) (by decide) (by decide) (by decide) (by decide) (by decide), n57]; try rfl
                · rw [uo 1158 _ (by decide), kb 1158 _ (by decide) (by decide) (by decide) (by decide) (by decide) (by decide), n58]; try rfl
                · rw [List.take_append_of_le_length (Nat.le_refl _), List.take_length, ← hj]
                  refine ⟨⟨?_, ?_, ?_⟩, ?_, ?_, ?_, ?_, ?_, ?_, ?_⟩
                  · rw [uo 1134 _ (by decide), kb 1134 _ (by decide) (by decide) (by decide) (by decide) (by decide) (by decide), kj 1134 (by decide) (by decide), kt 1134 (by decide), h134]; exact (hS0 _).symm
                  · rw [uo 1135 _ (by decide), k3 1135 (by decide), v35]; try rfl
                  · rw [uo 1136 _ (by decide), k3 1136 (by decide), v36]; try rfl
                  · rw [uo 1148 _ (by decide), kb 1148 _ (by decide) (by decide) (by decide) (by decide) (by decide) (by decide), kj 1148 (by decide) (by decide), kt 1148 (by decide), h148]; exact (hO4 _).symm
                  · rw [uo 1145 _ (by decide), kb 1145 _ (by decide) (by decide) (by decide) (by decide) (by decide) (by decide), kj 1145 (by decide) (by decide), kt 1145 (by decide), h145]; try rfl
                  · show NR (sL σ57 1137 j) _
                    rw [kL]; exact nr
                  · rw [uo 1146 _ (by decide), k46]; try rfl
                  · show (if sPl Ws k then (sC Ws k).toNatClampNeg else 13) < 14
                    cases hpl : sPl Ws k with
                    | false => rw [if_neg (by decide)]; decide
                    | true =>
                      have hh := of_decide_eq_true hpl
                      obtain ⟨q, hq, e⟩ := sC_lt hS.G k hh.1
                      rw [e] at hh ⊢
                      simp only [if_true]
                      have h41 := (by decide +kernel : ∀ q, q < 41 → ¬ 12 < nI q → (nI q).toNatClampNeg < 14) q hq hh.2
                      exact h41
                  · intro h13
                    have h13' : ¬ (if sPl Ws k then (sC Ws k).toNatClampNeg else 13) = 13 := h13
                    show _ = nI (if sPl Ws k then (sC Ws k).toNatClampNeg else 13)
                    rw [uo 1139 _ (by decide), kb 1139 _ (by decide) (by decide) (by decide) (by decide) (by decide) (by decide), kj 1139 (by decide) (by decide), t39]
                    cases hpl : sPl Ws k with
                    | false => rw [hpl] at h13'; exact absurd rfl h13'
                    | true =>
                      have hh := of_decide_eq_true hpl
                      obtain ⟨q, hq, e⟩ := sC_lt hS.G k hh.1
                      rw [e]
                      exact (by decide +kernel : ∀ q, q < 41 → nI q = nI ((nI q).toNatClampNeg)) q hq
                  · intro h13
                    have h13' : (if sPl Ws k then (sC Ws k).toNatClampNeg else 13) = 13 := h13
                    cases hpl : sPl Ws k with
                    | true =>
                      have hh := of_decide_eq_true hpl
                      obtain ⟨q, hq, e⟩ := sC_lt hS.G k hh.1
                      rw [hpl, e] at h13'
                      rw [e] at hh
                      simp only [if_true] at h13'
                      exact absurd h13' ((by decide +kernel : ∀ q, q < 41 → ¬ 12 < nI q → ¬ (nI q).toNatClampNeg = 13) q hq hh.2)
                    | false =>
                      rw [hpl] at t39 hty
                      simp only [Bool.false_eq_true, if_false] at t39 hty
                      obtain ⟨q, g0, g1, g2, g3, g4, g5, g6⟩ := hnamed hpl
                      have kk : ∀ b, 1139 ≤ b → b ≤ 1144 → sI (uI σ57 1101 34 (nI (j + 1))) b j = sI σ21 b j := fun b h1 h2 => by
                        rw [uo b _ (by omega), kb b _ (by omega) (by omega) (by omega) (by omega) (by omega) (by omega), kj b (by omega) (by omega)]
                      refine ⟨by rw [kk 1139 (by decide) (by decide)]; exact t39, p, q, k2, hty, by omega, by rw [kk 1142 (by decide) (by decide)]; exact g1, by rw [kk 1143 (by decide) (by decide)]; exact g2, by rw [kk 1144 (by decide) (by decide)]; exact g5, g3, g4, fun t ht => ?_⟩
                      obtain ⟨w, w1, w2, w3⟩ := g6 t ht
                      refine ⟨w, w1, ?_, ?_⟩
                      · rw [uo 1154 _ (by decide), kb 1154 _ (by decide) (by decide) (by decide) (by decide) (by decide) (by decide), kp 1154 _ (by decide) (by decide) (by omega)]; exact w2
                      · rw [uo 1155 _ (by decide), kb 1155 _ (by decide) (by decide) (by decide) (by decide) (by decide) (by decide), kp 1155 _ (by decide) (by decide) (by omega)]; exact w3
        · rw [if_neg (show ¬ nI y.1 = 2 from fun z => q3 ((nI_eq (b := 2) (by omega) (by decide)).mp z)), if_neg q3]
          obtain ⟨τ, g1, g2, g3⟩ := N_fail (σ := σ39) (v := 1) (w := sI σ39 1101 71) (by decide)
          rw [g1, b1_eq]
          exact ⟨τ, rfl, fP_trans f39 (fX_q g3 (by decide)), fun k' d z => (by cases z), fun _ => g2⟩
    · rw [if_neg q1]
      obtain ⟨z23, f23'⟩ := b3 q1
      have e52 : x_X12_takeField_52 U 1101 (oq D 0 m) (nI j) σ = x_X12_takeField_52 U 1101 (oq D 0 m) (nI j) σ23 := by
        unfold x_X12_takeField_52
        rw [a1, b1_eq, b1', b1_eq, N_takeType_e z23, b1_eq, N_declare_e z23, b1_eq]
      rw [e52]
      obtain ⟨τ, g1, g2, g3⟩ := N_field_e (U := U) (v := oq D 0 m) z23 ((f23'.2.1 38 (by decide)).trans ((k21 38 (by decide)).trans h38)) (by omega) hj2 hjc
      exact ⟨τ, g1, fP_trans f23 g2, fun k' d z => (by cases z), fun _ => g3⟩
/-! ===== the reference's reader: an enum ===== -/
def PZ (b k : Nat) : Prop := (b = 1101 ∧ k ∈ KR) ∨ (1128 ≤ b ∧ b ≤ 1158)
theorem PX_Z {c : CT} {b k : Nat} (h : PX c b k) : PZ b k := by
  rcases h with z | z | z | z | z | z | z
  · exact Or.inl z
  all_goals exact Or.inr ⟨by omega, by omega⟩
theorem fZ_X {c : CT} {σ τ : SG} (h : fP (PX c) σ τ) : fP PZ σ τ := fP_mono h (fun _ _ => PX_Z)
theorem fZ_q {σ τ : SG} {K : List Nat} (h : fq K σ τ) (hK : ∀ j, j ∈ K → j ∈ KR) : fP PZ σ τ := fP_q h (fun j hj => Or.inl ⟨rfl, hK j hj⟩) (Or.inl ⟨rfl, by decide⟩)
theorem rd_step {T : List Nat} {Ws : List Wd} {n : Nat} {s s1 : Rs} {D D1 : List Dc} (ha : atE Ws s = false) (h : sStep T Ws s D = some (s1, D1)) : rd T Ws (n + 1) s D = rd T Ws n s1 D1 := by
  rw [rd, ha, h]; try rfl
theorem rd_no {T : List Nat} {Ws : List Wd} {n : Nat} {s : Rs} {D : List Dc} (ha : atE Ws s = false) (h : sStep T Ws s D = none) : rd T Ws (n + 1) s D = none := by
  rw [rd, ha, h]; try rfl
theorem atE_e {Ws : List Wd} {k e : Nat} {m o : Option Nat} {b : Bool} : atE Ws (k, m, o, some e, b) = false := decide_eq_false (fun z => by cases z.2.2.2)
theorem atE_o {Ws : List Wd} {k o : Nat} {m e : Option Nat} {b : Bool} : atE Ws (k, m, some o, e, b) = false := decide_eq_false (fun z => by cases z.2.2.1)
theorem atE_m {Ws : List Wd} {k m : Nat} {o e : Option Nat} {b : Bool} : atE Ws (k, some m, o, e, b) = false := decide_eq_false (fun z => by cases z.2.1)
/-- what the reading of an enum or a oneof comes to -/
def NE (T : List Nat) (Ws : List Wd) (σ : SG) (n : Nat) (s : Rs) (D : List Dc) (x : Option SG) : Prop := ∃ τ, x = some τ ∧ fP PZ σ τ ∧ ((∃ n' k' b' E p', rd T Ws n s D = rd T Ws n' (k', s.2.1, none, none, b') (D ++ E) ∧ 701 ≤ n' + pos Ws k' ∧ n' < n ∧ IV Ws (k', s.2.1, none, none, b') (D ++ E) ∧ far Ws s.1 k' 1 ∧ cnt (D ++ E) 0 = cnt D 0 ∧ cnt (D ++ E) 1 = cnt D 1 ∧ sI τ 1101 74 = 0 ∧ QX τ T Ws k' ∧ RM τ T Ws (D ++ E) p' ∧ 2 * p' ≤ pos Ws k') ∨ (rd T Ws n s D = none ∧ ¬ sI τ 1101 74 = 0))
theorem NE_step {T : List Nat} {Ws : List Wd} {σ υ : SG} {n k k' : Nat} {s : Rs} {D : List Dc} {d : Dc} {x : Option SG} {o e : Option Nat} {b : Bool} (hr : rd T Ws (n + 1) s D = rd T Ws n (k', s.2.1, o, e, b) (D ++ [d])) (hf : fP PZ σ υ) (hfar : far Ws s.1 k' 1) (h0 : dK d ≠ 0) (h1 : dK d ≠ 1) (h : NE T Ws υ n (k', s.2.1, o, e, b) (D ++ [d]) x) : NE T Ws σ (n + 1) s D x := by
  obtain ⟨τ, a1, a2, a3⟩ := h
  refine ⟨τ, a1, fP_trans hf a2, ?_⟩
  rcases a3 with ⟨n', k2, b', E, p', g1, g2, g3, g4, g5, g6, g7, g8⟩ | g
  · refine Or.inl ⟨n', k2, b', d :: E, p', ?_⟩
    have e1 : D ++ d :: E = D ++ [d] ++ E := by simp
    rw [e1, hr]
    refine ⟨g1, g2, by omega, g4, far_le (far_trans hfar g5) (by omega), ?_, ?_, g8⟩
    · rw [g6, cnt_sn, if_neg h0]; try rfl
    · rw [g7, cnt_sn, if_neg h1]; try rfl
  · exact Or.inr ⟨by rw [hr]; exact g.1, g.2⟩
theorem RM_value {σ τ : SG} {T : List Nat} {Ws : List Wd} {D : List Dc} {d : Dc} {p e k' : Nat} {m : Option Nat} (hW : WF D) (hM : RM σ T Ws D p) (hf : fP (PX (ct D p)) σ τ) (hK : dK d = 3) (hSd : dS d = m) (hO : dO d = some e) (hm : ∀ i, m = some i → i ≤ D.length) (he : e ≤ D.length) (h : VLo σ τ T Ws (oq D 0 m) D.length (cnt D 3) (cnt (D.take e) 1) k' d) : RM τ T Ws (D ++ [d]) p := by
  obtain ⟨h74, hQ, h38, h35, ⟨n1, n2, n3⟩, ⟨v1, v2, v3, v4⟩, ho⟩ := h
  refine RM_snoc hW hM hf (Nat.le_refl _) (cnt_up (z := 3) hM.1 hK (by decide) h35 (fun q h1 h2 => ho (32 + q) (by simp only [List.mem_cons, List.not_mem_nil, or_false]; omega))) ?_ h38 ?_
  · rw [ho 37 (by decide)]; exact hM.2.1
  · have e1 : oq (D ++ [d]) 0 m = oq D 0 m := oq_snoc hm
    have e2 : oq (D ++ [d]) 1 (some e) = nI (cnt (D.take e) 1) := by
      rw [oq_snoc (fun i hi => by cases hi; exact he)]; try rfl
    unfold RwD
    rw [hSd, hO, e1, e2, hK, List.take_append_of_le_length (Nat.le_refl _), List.take_length]
    exact ⟨⟨n1, n2, n3⟩, fun z => (by cases z), fun z => (by cases z), fun z => (by cases z), fun _ => ⟨⟨v1, v2, v3⟩, v4⟩⟩
theorem sVl_dO {T : List Nat} {Ws : List Wd} {m e : Option Nat} {k k' : Nat} {d : Dc} (h : sVl T Ws m e k = some (k', d)) : dK d = 3 ∧ dS d = m ∧ dO d = e := by
  unfold sVl at h
  repeat' split at h
  all_goals first | cases h; done | (cases h; exact ⟨rfl, rfl, rfl⟩)
theorem N_enum_L {U e : Nat} {v : Int32} {m : Option Nat} {T : List Nat} {Ws : List Wd} (hU : 4000 < U) (hS : WS T Ws) : ∀ (n U1 k p : Nat) (b : Bool) (D : List Dc) (σ : SG), n + 1 < U1 → 701 ≤ n + pos Ws k → IV Ws (k, m, none, some e, b) D → cnt (D.take e) 1 + 1 = cnt D 1 → v = oq D 0 m → QX σ T Ws k → sI σ 1101 74 = 0 → RM σ T Ws D p → 2 * p ≤ pos Ws k → (b = true ∨ sS T Ws 125 k = false) →
    NE T Ws σ n (k, m, none, some e, b) D (x_X12_takeEnum_L63 U 1101 (fun σ35 => x_X12_takeEnum_104 U 1101 σ35) v U1 1 σ) := by
  intro n
  induction n with
  | zero => intro U1 k p b D σ _ h hI; have := (hI.len hS).2.2; have h' : 701 ≤ 0 + pos Ws k := h; have : pos Ws k ≤ 700 := (hI.len hS).2.2; omega
  | succ n ih =>
    intro U1 k p b D σ hu hp7 hI hen hv hQ h74 hM hp hb
    cases U1 with
    | zero => omega
    | succ U1 =>
    have hlen := hI.len hS
    have hl1 : D.length < 180 := hlen.1
    have hIc := hI
    obtain ⟨_, _, hWF, hIm, _, hIe⟩ := hIc
    have hml : ∀ i, m = some i → i ≤ D.length := fun i hi => Nat.le_of_lt (KM_lt (hIm i hi))
    have hel : e ≤ D.length := by
      obtain ⟨x, a, _⟩ := hIe e rfl
      obtain ⟨g, _⟩ := List.getElem?_eq_some_iff.mp a
      omega
    have hc3 := cnt_le D 3
    rw [x_X12_takeEnum_L63, if_neg (show ¬ (1 : Int32) = 0 by decide), if_pos h74]
    obtain ⟨σ30, a1, a2, a3, a4⟩ := N_takeValue (v := v) (c := ct D p) (m := m) (e := some e) (en := cnt (D.take e) 1) hU hS hQ h74 hM.2.2.1 (by omega) (hM.1 3 (by decide)) (by omega) (by rw [hen]; exact hM.1 1 (by decide)) rfl rfl
    rw [a1, b1_eq]
    have hstep : sStep T Ws (k, m, none, some e, b) D = if sC Ws k = 40 then none else adv (m, none, some e, false) D (sVl T Ws m (some e) k) := by
      show (if (some e : Option Nat) = none then _ else sVm T Ws (k, m, none, some e, b) D) = _
      rw [if_neg (fun z => by cases z)]
      show (if b = false ∧ sS T Ws 125 k = true then _ else _) = _
      rw [if_neg (fun z => by
        rcases hb with y | y
        · rw [y] at z; cases z.1
        · rw [y] at z; cases z.2)]
    cases hs : (if sC Ws k = 40 then none else sVl T Ws m (some e) k) with
    | none =>
      have z30 := a4 hs
      have hno : sStep T Ws (k, m, none, some e, b) D = none := by
        rw [hstep]
        by_cases q : sC Ws k = 40
        · rw [if_pos q]
        · rw [if_neg q] at hs ⊢
          rw [hs]; try rfl
      rw [if_neg z30]
      unfold x_X12_takeEnum_99 x_X12_takeEnum_100
      cases U1 with
      | zero => omega
      | succ U2 =>
        rw [x_X12_takeEnum_L63, if_pos (show (0 : Int32) = 0 from rfl)]
        unfold x_X12_takeEnum_104
        rw [N_takeSign_e z30, b1_eq]
        exact ⟨σ30, rfl, fZ_X a2, Or.inr ⟨rd_no atE_e hno, z30⟩⟩
    | some kd =>
      obtain ⟨k', d⟩ := kd
      have hL := a3 k' d hs
      have hsv : sVl T Ws m (some e) k = some (k', d) := by
        by_cases q : sC Ws k = 40
        · rw [if_pos q] at hs; cases hs
        · rw [if_neg q] at hs; exact hs
      have hst : sStep T Ws (k, m, none, some e, b) D = some ((k', m, none, some e, false), D ++ [d]) := by
        rw [hstep]
        by_cases q : sC Ws k = 40
        · rw [if_pos q] at hs; cases hs
        · rw [if_neg q, hsv]; try rfl
      obtain ⟨d1, d2, d3⟩ := sVl_dO hsv
      have g := sStep_IV hS hI hst
      have gf : far Ws k k' 1 := g.2
      have hM1 : RM σ30 T Ws (D ++ [d]) p := RM_value hWF hM a2 d1 d2 d3 hml hel (by rw [← hv]; exact hL)
      obtain ⟨z30, Q30, _⟩ := hL
      have hr := rd_step (n := n) (T := T) atE_e hst
      have hp' : 2 * p ≤ pos Ws k' := by have := gf.2; omega
      rw [if_pos z30]
      have i125 : x_X12_isSign 1101 125 σ30 = some (zI (sS T Ws 125 k')) := N_isSign (q := 125) hS Q30 (by decide)
      rw [i125, b1_eq, ifz]
      cases q5 : sS T Ws 125 k' with
      | false =>
        simp only [Bool.false_eq_true, if_false]
        unfold x_X12_takeEnum_100
        refine NE_step (k := 0) hr (fZ_X a2) gf (by rw [d1]; decide) (by rw [d1]; decide) (ih U1 k' p false (D ++ [d]) σ30 (by omega) (by have := gf.2; omega) g.1 ?_ ?_ Q30 z30 hM1 hp' (Or.inr q5))
        · rw [List.take_append_of_le_length hel, cnt_snoc, if_neg (show ¬ d.1 = 1 from fun z => by have : dK d = 1 := z; omega)]; exact hen
        · rw [hv, oq_snoc hml]
      | true =>
        simp only [if_true]
        unfold x_X12_takeEnum_99 x_X12_takeEnum_100
        cases U1 with
        | zero => omega
        | succ U2 =>
          rw [x_X12_takeEnum_L63, if_pos (show (0 : Int32) = 0 from rfl)]
          unfold x_X12_takeEnum_104
          obtain ⟨τ, e1, e2, e3, e4⟩ := N_takeSign (q := 125) hU hS Q30 z30 (by decide)
          have e1' : x_X12_takeSign U 1101 125 σ30 = some τ := e1
          rw [e1', b1_eq]
          obtain ⟨zτ, Qτ⟩ := e3 (k' + 1) (by rw [q5]; rfl)
          have hst2 : sStep T Ws (k', m, none, some e, false) (D ++ [d]) = some ((k' + 1, m, none, none, false), D ++ [d]) := by
            show (if (some e : Option Nat) = none then _ else sVm T Ws (k', m, none, some e, false) (D ++ [d])) = _
            rw [if_neg (fun z => by cases z)]
            show (if (false = false) ∧ sS T Ws 125 k' = true then _ else _) = _
            rw [if_pos ⟨rfl, q5⟩]
          have g2 := sStep_IV hS g.1 hst2
          have gf2 : far Ws k' (k' + 1) 1 := g2.2
          have hn1 : ∃ n1, n = n1 + 1 := by
            cases n with
            | zero =>
              have h7 : pos Ws k' ≤ 700 := (g.1.len hS).2.2
              have := gf.2
              omega
            | succ n1 => exact ⟨n1, rfl⟩
          obtain ⟨n1, hn1⟩ := hn1
          subst hn1
          have hr2 := rd_step (n := n1) (T := T) atE_e hst2
          refine ⟨τ, rfl, fP_trans (fZ_X a2) (fZ_q e2 (by decide)), Or.inl ⟨n1, k' + 1, false, [d], p, hr.trans hr2, by have := gf.2; have := gf2.2; omega, by omega, g2.1, far_le (far_trans gf gf2) (by omega), ?_, ?_, zτ, Qτ, ?_, by have := gf2.2; omega⟩⟩
          · rw [cnt_snoc, if_neg (show ¬ d.1 = 0 from fun z => by have : dK d = 0 := z; omega)]; try rfl
          · rw [cnt_snoc, if_neg (show ¬ d.1 = 1 from fun z => by have : dK d = 1 := z; omega)]; try rfl
          · exact RM_q hM1 e2
/-! ===== the reference's reader: a field, whole; a oneof ===== -/
theorem oq_ne {D : List Dc} {q i : Nat} (h : D.length < 400) : ¬ oq D q (some i) = -1 := by
  unfold oq
  simp only
  have h1 := cnt_take_le D i q
  have h2 := cnt_le D q
  exact fun z => nI_neg (a := cnt (D.take i) q) (by omega) (by rw [z]; decide)
theorem N_takeField {U k p : Nat} {σ : SG} {T : List Nat} {Ws : List Wd} {D : List Dc} {m o : Option Nat} (hU : 4000 < U) (hS : WS T Ws) (hW : WF D) (hM : RM σ T Ws D p) (h : QX σ T Ws k) (h74 : sI σ 1101 74 = 0) (hD : 4 * D.length ≤ pos Ws k) (hp : 2 * p ≤ pos Ws k) (hm : ∀ i, m = some i → i ≤ D.length) (ho : ∀ i, o = some i → i ≤ D.length) :
    ∃ τ, x_X12_takeField U 1101 (oq D 0 m) (oq D 4 o) σ = some τ ∧ fP (PX (ct D p)) σ τ ∧ (∀ k' d, sFd T Ws m o k = some (k', d) → sI τ 1101 74 = 0 ∧ QX τ T Ws k' ∧ ∃ p', 2 * p' ≤ pos Ws k' ∧ RM τ T Ws (D ++ [d]) p') ∧ (sFd T Ws m o k = none → ¬ sI τ 1101 74 = 0) := by
  have hk := h
  obtain ⟨_, xk, hxk, _⟩ := hk
  have hle := hS.le _ xk hxk
  have hT := hS.2.1
  have hD' := hD
  rw [pos_some hxk] at hD'
  have hcl := cnt_le D 2
  have hj2 : cnt D 2 < 200 := by omega
  have c34 : sI σ 1101 34 = nI (cnt D 2) := hM.1 2 (by decide)
  have hjc : tF (ct D p) ≤ cnt D 2 := Nat.le_refl _
  unfold x_X12_takeField sFd
  rw [c34, ix_in hj2 (by decide), sb_eq, ix_in hj2 (by decide), sb_eq, ix_in hj2 (by decide), sb_eq]
  have n0 : vp_nar .boolean 0 = zI false := rfl
  have n1 : vp_nar .boolean 1 = zI true := rfl
  rw [n0]
  have Q15 : QX (uI (uI (uI σ 1134 (cnt D 2) (oq D 0 m)) 1148 (cnt D 2) (oq D 4 o)) 1145 (cnt D 2) (zI false)) T Ws k := ((h.o (by decide) (by decide)).o (by decide) (by decide)).o (by decide) (by decide)
  have f15 : fP (PX (ct D p)) σ (uI (uI (uI σ 1134 (cnt D 2) (oq D 0 m)) 1148 (cnt D 2) (oq D 4 o)) 1145 (cnt D 2) (zI false)) := fP_trans (fP_trans (fP_u (PX_f (by decide) (by decide) hjc)) (fP_u (PX_f (by decide) (by decide) hjc))) (fP_u (PX_f (by decide) (by decide) hjc))
  have o15 : ∀ i, sI (uI (uI (uI σ 1134 (cnt D 2) (oq D 0 m)) 1148 (cnt D 2) (oq D 4 o)) 1145 (cnt D 2) (zI false)) 1101 i = sI σ 1101 i := fun i => by
    rw [sI_o (Or.inl (by decide)), sI_o (Or.inl (by decide)), sI_o (Or.inl (by decide))]
  have a15 : sI (uI (uI (uI σ 1134 (cnt D 2) (oq D 0 m)) 1148 (cnt D 2) (oq D 4 o)) 1145 (cnt D 2) (zI false)) 1134 (cnt D 2) = oq D 0 m := by rw [sI_o (Or.inl (by decide)), sI_o (Or.inl (by decide)), sI_s]
  have b15 : sI (uI (uI (uI σ 1134 (cnt D 2) (oq D 0 m)) 1148 (cnt D 2) (oq D 4 o)) 1145 (cnt D 2) (zI false)) 1148 (cnt D 2) = oq D 4 o := by rw [sI_o (Or.inl (by decide)), sI_s]
  have c15 : sI (uI (uI (uI σ 1134 (cnt D 2) (oq D 0 m)) 1148 (cnt D 2) (oq D 4 o)) 1145 (cnt D 2) (zI false)) 1145 (cnt D 2) = zI false := sI_s _ _ _ _
  generalize (uI (uI (uI σ 1134 (cnt D 2) (oq D 0 m)) 1148 (cnt D 2) (oq D 4 o)) 1145 (cnt D 2) (zI false)) = σ15 at *
  have plain : ∃ τ, x_X12_takeField_52 U 1101 (oq D 0 m) (nI (cnt D 2)) σ15 = some τ ∧ fP (PX (ct D p)) σ τ ∧ (∀ k' d, sFt T Ws m o false k = some (k', d) → sI τ 1101 74 = 0 ∧ QX τ T Ws k' ∧ ∃ p', 2 * p' ≤ pos Ws k' ∧ RM τ T Ws (D ++ [d]) p') ∧ (sFt T Ws m o false k = none → ¬ sI τ 1101 74 = 0) :=
    N_field_52 hU hS hW hM f15 (fun i _ _ => o15 i) Q15 ((o15 74).trans h74) hD hp rfl a15 b15 c15 hm ho
  cases o with
  | some i =>
    rw [if_neg (oq_ne (by omega)), if_neg (show ¬ (some i = none ∧ sC Ws k = nI 23) from fun z => by cases z.1)]
    exact plain
  | none =>
    rw [if_pos (show oq D 4 none = -1 from rfl)]
    have w3 : x_X12_isWord U 1101 8243118273700586852 σ15 = some (zI (decide (sC Ws k = nI 23))) := N_isKw (q := 3) hU hS Q15 (by decide) (by decide +kernel)
    rw [w3, b1_eq, ifz]
    by_cases q : sC Ws k = nI 23
    · rw [decide_eq_true q, if_pos (show (none : Option Nat) = none ∧ sC Ws k = nI 23 from ⟨rfl, q⟩)]
      simp only [if_true]
      rw [ix_in hj2 (by decide), sb_eq, n1]
      have hk1 := far_sC hS (by decide) q
      obtain ⟨σ67, d1, d2, d3⟩ := N_next hU hS (Q15.o (b := 1145) (j := cnt D 2) (v := zI true) (by decide) (by decide)) (by rw [hk1.2]; decide) (by rw [hk1.2]; decide)
      rw [d1, b1_eq]
      refine N_field_52 hU hS hW hM (fP_trans f15 (fP_trans (fP_u (PX_f (by decide) (by decide) hjc)) (fX_q d3 (by decide)))) (fun i h1 h2 => ?_) d2 ?_ (by have := hk1.1.2; omega) (by have := hk1.1.2; omega) rfl ?_ ?_ ?_ hm ho
      · rw [d3.2.1 i (by simp only [List.mem_cons, List.not_mem_nil, or_false]; omega), sI_o (Or.inl (by decide)), o15]
      · rw [d3.2.1 74 (by decide), sI_o (Or.inl (by decide)), o15]; exact h74
      · rw [(d3.1 1134 (by decide) _).1, sI_o (Or.inl (by decide))]; exact a15
      · rw [(d3.1 1148 (by decide) _).1, sI_o (Or.inl (by decide))]; exact b15
      · rw [(d3.1 1145 (by decide) _).1, sI_s]
    · rw [decide_eq_false q, if_neg (show ¬ ((none : Option Nat) = none ∧ sC Ws k = nI 23) from fun z => q z.2)]
      simp only [Bool.false_eq_true, if_false]
      exact plain
theorem sFd_dO {T : List Nat} {Ws : List Wd} {m o : Option Nat} {k k' : Nat} {d : Dc} (hS : WS T Ws) (h : sFd T Ws m o k = some (k', d)) : dK d = 2 := (far_sFd hS h).2.1
theorem N_one_L {U o : Nat} {v vo : Int32} {m : Option Nat} {T : List Nat} {Ws : List Wd} (hU : 4000 < U) (hS : WS T Ws) : ∀ (n U1 k p : Nat) (b : Bool) (D : List Dc) (σ : SG), n + 1 < U1 → 701 ≤ n + pos Ws k → IV Ws (k, m, some o, none, b) D → v = oq D 0 m → vo = oq D 4 (some o) → QX σ T Ws k → sI σ 1101 74 = 0 → RM σ T Ws D p → 2 * p ≤ pos Ws k → (b = true ∨ sS T Ws 125 k = false) →
    NE T Ws σ n (k, m, some o, none, b) D (x_X12_takeOneof_L32 U 1101 (fun σ21 => x_X12_takeOneof_93 U 1101 σ21) v vo U1 1 σ) := by
  intro n
  induction n with
  | zero => intro U1 k p b D σ _ h hI; have : pos Ws k ≤ 700 := (hI.len hS).2.2; omega
  | succ n ih =>
    intro U1 k p b D σ hu hp7 hI hv hvo hQ h74 hM hp hb
    cases U1 with
    | zero => omega
    | succ U1 =>
    have hlen := hI.len hS
    have hl1 : D.length < 180 := hlen.1
    have hIc := hI
    obtain ⟨_, hD4, hWF, hIm, hIo, _⟩ := hIc
    have hml : ∀ i, m = some i → i ≤ D.length := fun i hi => Nat.le_of_lt (KM_lt (hIm i hi))
    have hol : o ≤ D.length := by
      obtain ⟨x, a, _⟩ := hIo o rfl
      obtain ⟨g, _⟩ := List.getElem?_eq_some_iff.mp a
      omega
    rw [x_X12_takeOneof_L32, if_neg (show ¬ (1 : Int32) = 0 by decide), if_pos h74, N_isForeign hU hS hQ, b1_eq, ifz]
    have hstep : sStep T Ws (k, m, some o, none, b) D = if sC Ws k = 40 then none else adv (m, some o, none, false) D (sFd T Ws m (some o) k) := by
      have e0 : sStep T Ws (k, m, some o, none, b) D = sOm T Ws (k, m, some o, none, b) D := by
        unfold sStep
        rw [if_pos rfl, if_neg (fun z => by cases z)]
      rw [e0]
      show (if b = false ∧ sS T Ws 125 k = true then _ else _) = _
      rw [if_neg (fun z => by
        rcases hb with y | y
        · rw [y] at z; cases z.1
        · rw [y] at z; cases z.2)]
    -- the loop ends with an error
    have bad : ∀ υ, ¬ sI υ 1101 74 = 0 → fP PZ σ υ → sStep T Ws (k, m, some o, none, b) D = none → NE T Ws σ (n + 1) (k, m, some o, none, b) D (x_X12_takeOneof_68 U 1101 (x_X12_takeOneof_L32 U 1101 (fun σ21 => x_X12_takeOneof_93 U 1101 σ21) v vo U1) (fun σ21 => x_X12_takeOneof_93 U 1101 σ21) v vo υ) := by
      intro υ zυ fυ hno
      unfold x_X12_takeOneof_68
      rw [if_neg zυ]
      unfold x_X12_takeOneof_88 x_X12_takeOneof_89
      cases U1 with
      | zero => omega
      | succ U2 =>
        rw [x_X12_takeOneof_L32, if_pos (show (0 : Int32) = 0 from rfl)]
        unfold x_X12_takeOneof_93
        rw [N_takeSign_e zυ, b1_eq]
        exact ⟨υ, rfl, fυ, Or.inr ⟨rd_no atE_o hno, zυ⟩⟩
    by_cases q : sC Ws k = 40
    · rw [decide_eq_true q]
      simp only [if_true]
      obtain ⟨σ20, a1, a2, a3⟩ := N_fail (σ := σ) (v := 2) (w := sI σ 1101 71) (by decide)
      rw [a1, b1_eq]
      exact bad σ20 a2 (fZ_q a3 (by decide)) (by rw [hstep, if_pos q])
    rw [decide_eq_false q]
    simp only [Bool.false_eq_true, if_false]
    rw [if_neg q] at hstep
    obtain ⟨σ14, a1, a2, a3, a4⟩ := N_takeField (m := m) (o := some o) hU hS hWF hM hQ h74 hD4 hp hml (fun i hi => by cases hi; exact hol)
    rw [hv, hvo, a1, b1_eq, ← hv, ← hvo]
    cases hs : sFd T Ws m (some o) k with
    | none => exact bad σ14 (a4 hs) (fZ_X a2) (by rw [hstep, hs]; rfl)
    | some kd =>
      obtain ⟨k', d⟩ := kd
      obtain ⟨z14, Q14, p', hp', hM1⟩ := a3 k' d hs
      have hst : sStep T Ws (k, m, some o, none, b) D = some ((k', m, some o, none, false), D ++ [d]) := by rw [hstep, hs]; try rfl
      have d1 := sFd_dO hS hs
      have g := sStep_IV hS hI hst
      have gf : far Ws k k' 1 := g.2
      have hr := rd_step (n := n) (T := T) atE_o hst
      unfold x_X12_takeOneof_68
      rw [if_pos z14]
      have i125 : x_X12_isSign 1101 125 σ14 = some (zI (sS T Ws 125 k')) := N_isSign (q := 125) hS Q14 (by decide)
      rw [i125, b1_eq, ifz]
      cases q5 : sS T Ws 125 k' with
      | false =>
        simp only [Bool.false_eq_true, if_false]
        unfold x_X12_takeOneof_89
        refine NE_step (k := 0) hr (fZ_X a2) gf (by rw [d1]; decide) (by rw [d1]; decide) (ih U1 k' p' false (D ++ [d]) σ14 (by omega) (by have := gf.2; omega) g.1 ?_ ?_ Q14 z14 hM1 hp' (Or.inr q5))
        · rw [hv, oq_snoc hml]
        · rw [hvo, oq_snoc (fun i hi => by cases hi; exact hol)]
      | true =>
        simp only [if_true]
        unfold x_X12_takeOneof_88 x_X12_takeOneof_89
        cases U1 with
        | zero => omega
        | succ U2 =>
          rw [x_X12_takeOneof_L32, if_pos (show (0 : Int32) = 0 from rfl)]
          unfold x_X12_takeOneof_93
          obtain ⟨τ, e1, e2, e3, e4⟩ := N_takeSign (q := 125) hU hS Q14 z14 (by decide)
          have e1' : x_X12_takeSign U 1101 125 σ14 = some τ := e1
          rw [e1', b1_eq]
          obtain ⟨zτ, Qτ⟩ := e3 (k' + 1) (by rw [q5]; rfl)
          have hst2 : sStep T Ws (k', m, some o, none, false) (D ++ [d]) = some ((k' + 1, m, none, none, false), D ++ [d]) := by
            have e0 : sStep T Ws (k', m, some o, none, false) (D ++ [d]) = sOm T Ws (k', m, some o, none, false) (D ++ [d]) := by
              unfold sStep
              rw [if_pos rfl, if_neg (fun z => by cases z)]
            rw [e0]
            show (if (false = false) ∧ sS T Ws 125 k' = true then _ else _) = _
            rw [if_pos ⟨rfl, q5⟩]
          have g2 := sStep_IV hS g.1 hst2
          have gf2 : far Ws k' (k' + 1) 1 := g2.2
          have hn1 : ∃ n1, n = n1 + 1 := by
            cases n with
            | zero =>
              have h7 : pos Ws k' ≤ 700 := (g.1.len hS).2.2
              have := gf.2
              omega
            | succ n1 => exact ⟨n1, rfl⟩
          obtain ⟨n1, hn1⟩ := hn1
          subst hn1
          have hr2 := rd_step (n := n1) (T := T) atE_o hst2
          refine ⟨τ, rfl, fP_trans (fZ_X a2) (fZ_q e2 (by decide)), Or.inl ⟨n1, k' + 1, false, [d], p', hr.trans hr2, by have := gf.2; have := gf2.2; omega, by omega, g2.1, far_le (far_trans gf gf2) (by omega), ?_, ?_, zτ, Qτ, ?_, by have := gf2.2; omega⟩⟩
          · rw [cnt_snoc, if_neg (show ¬ d.1 = 0 from fun z => by have : dK d = 0 := z; omega)]; try rfl
          · rw [cnt_snoc, if_neg (show ¬ d.1 = 1 from fun z => by have : dK d = 1 := z; omega)]; try rfl
          · exact RM_q hM1 e2
/-! ===== the reference's reader: an enum and a oneof, whole ===== -/
theorem lastAt_o {σ : SG} {b i : Nat} {v : Int32} (h1 : b ≠ 1101) (h2 : b ≠ 1157) : x_X12_lastAt 1101 (uI σ b i v) = x_X12_lastAt 1101 σ := by
  unfold x_X12_lastAt
  have e : ∀ j, sI (uI σ b i v) 1101 j = sI σ 1101 j := fun j => sI_o (Or.inl (fun z => h1 z.symm))
  have e2 : ∀ j, sI (uI σ b i v) 1157 j = sI σ 1157 j := fun j => sI_o (Or.inl (fun z => h2 z.symm))
  simp only [e, e2]
theorem lastLong_o {σ : SG} {b i : Nat} {v : Int32} (h1 : b ≠ 1101) (h2 : b ≠ 1158) : x_X12_lastLong 1101 (uI σ b i v) = x_X12_lastLong 1101 σ := by
  unfold x_X12_lastLong
  have e : ∀ j, sI (uI σ b i v) 1101 j = sI σ 1101 j := fun j => sI_o (Or.inl (fun z => h1 z.symm))
  have e2 : ∀ j, sI (uI σ b i v) 1158 j = sI σ 1158 j := fun j => sI_o (Or.inl (fun z => h2 z.symm))
  simp only [e, e2]
/-- what a member leaves: the reading goes on, at the same level -/
def NB (T : List Nat) (Ws : List Wd) (σ : SG) (n : Nat) (s : Rs) (D : List Dc) (x : Option SG) : Prop := ∃ τ, x = some τ ∧ fP PZ σ τ ∧ ((∃ n' k' b' E p', rd T Ws n s D = rd T Ws n' (k', s.2.1, none, none, b') (D ++ E) ∧ 701 ≤ n' + pos Ws k' ∧ n' < n ∧ IV Ws (k', s.2.1, none, none, b') (D ++ E) ∧ cnt (D ++ E) 0 = cnt D 0 ∧ 7 * cnt (D ++ E) 0 ≤ pos Ws k' ∧ 7 * cnt (D ++ E) 1 ≤ pos Ws k' ∧ sI τ 1101 74 = 0 ∧ QX τ T Ws k' ∧ RM τ T Ws (D ++ E) p' ∧ 2 * p' ≤ pos Ws k') ∨ (rd T Ws n s D = none ∧ ¬ sI τ 1101 74 = 0))
/-- behind the beginning of an enum or a oneof -/
theorem NB_of {T : List Nat} {Ws : List Wd} {σ υ : SG} {n k1 : Nat} {s : Rs} {D : List Dc} {d : Dc} {x : Option SG} {o e : Option Nat} {b : Bool} (hr : rd T Ws (n + 1) s D = rd T Ws n (k1, s.2.1, o, e, b) (D ++ [d])) (hf : fP PZ σ υ) (hfar : far Ws s.1 k1 6) (h0 : dK d ≠ 0) (hc0 : 7 * cnt D 0 ≤ pos Ws s.1) (hc1 : 7 * cnt D 1 ≤ pos Ws s.1) (h : NE T Ws υ n (k1, s.2.1, o, e, b) (D ++ [d]) x) : NB T Ws σ (n + 1) s D x := by
  obtain ⟨τ, a1, a2, a3⟩ := h
  refine ⟨τ, a1, fP_trans hf a2, ?_⟩
  rcases a3 with ⟨n', k2, b', E, p', g1, g2, g3, g4, g5, g6, g7, g8⟩ | g
  · refine Or.inl ⟨n', k2, b', d :: E, p', ?_⟩
    have e1 : D ++ d :: E = D ++ [d] ++ E := by simp
    have hfa : far Ws k1 k2 1 := g5
    have hc : cnt (D ++ [d]) 0 = cnt D 0 := by rw [cnt_sn, if_neg h0]; try rfl
    have hc' : cnt (D ++ [d]) 1 ≤ cnt D 1 + 1 := by rw [cnt_snoc]; split <;> omega
    have h1 := hfa.2
    have h2 := hfar.2
    rw [e1, hr]
    exact ⟨g1, g2, by omega, g4, by rw [g6, hc], by rw [g6, hc]; omega, by rw [g7]; omega, g8⟩
  · exact Or.inr ⟨by rw [hr]; exact g.1, g.2⟩
theorem N_enum_mid {σ4 : SG} {j : Nat} {p0 va vl : Int32} {G : SG → Option SG} (h33 : sI σ4 1101 33 = nI j) (hj : j < 100) (hva : x_X12_lastAt 1101 σ4 = some va) (hvl : x_X12_lastLong 1101 σ4 = some vl) :
    (ix (sI σ4 1101 33) 100 fun j5 => sb (uI σ4 1131 j5 p0) fun σ9 => b1 (x_X12_lastAt 1101 σ9) fun v11 => ix (sI σ9 1101 33) 100 fun j12 => sb (uI σ9 1132 j12 v11) fun σ16 => b1 (x_X12_lastLong 1101 σ16) fun v18 => ix (sI σ16 1101 33) 100 fun j19 => sb (uI σ16 1133 j19 v18) fun σ23 => sb (uI σ23 1101 33 ((sI σ23 1101 33) + 1)) fun σ24 => G σ24) = G (uI (uI (uI (uI σ4 1131 j p0) 1132 j va) 1133 j vl) 1101 33 (nI (j + 1))) := by
  rw [h33, ix_in hj (by decide), sb_eq, lastAt_o (by decide) (by decide), hva, b1_eq]
  have e1 : sI (uI σ4 1131 j p0) 1101 33 = nI j := by rw [sI_o (Or.inl (by decide))]; exact h33
  rw [e1, ix_in hj (by decide), sb_eq, lastLong_o (by decide) (by decide), lastLong_o (by decide) (by decide), hvl, b1_eq]
  have e2 : sI (uI (uI σ4 1131 j p0) 1132 j va) 1101 33 = nI j := by rw [sI_o (Or.inl (by decide))]; exact e1
  rw [e2, ix_in hj (by decide), sb_eq, sb_eq]
  have e3 : sI (uI (uI (uI σ4 1131 j p0) 1132 j va) 1133 j vl) 1101 33 = nI j := by rw [sI_o (Or.inl (by decide))]; exact e2
  rw [e3, nI_1]
theorem enum_L_e {U U1 : Nat} {v w : Int32} {σ : SG} (h : ¬ sI σ 1101 74 = 0) : x_X12_takeEnum_L63 U 1101 (fun σ35 => x_X12_takeEnum_104 U 1101 σ35) v (U1 + 1) w σ = some σ := by
  rw [x_X12_takeEnum_L63]
  unfold x_X12_takeEnum_104
  rw [if_neg h, N_takeSign_e h, b1_eq]
  split <;> rfl
theorem one_L_e {U U1 : Nat} {v vo w : Int32} {σ : SG} (h : ¬ sI σ 1101 74 = 0) : x_X12_takeOneof_L32 U 1101 (fun σ21 => x_X12_takeOneof_93 U 1101 σ21) v vo (U1 + 1) w σ = some σ := by
  rw [x_X12_takeOneof_L32]
  unfold x_X12_takeOneof_93
  rw [if_neg h, N_takeSign_e h, b1_eq]
  split <;> rfl
theorem sS_not {T : List Nat} {Ws : List Wd} {k q c : Nat} (hq : q < 256) (h : sC Ws k = nI q) : sS T Ws c k = false := by
  cases e : Ws[k]? with
  | none => unfold sS; rw [e]
  | some x =>
    rw [sC_some e] at h
    rw [sS_some e]
    cases z : sgX T x c with
    | false => rfl
    | true => have := sg_4 z; have := cd_1 hq h; omega
theorem atE_k {Ws : List Wd} {k : Nat} {m o e : Option Nat} {b : Bool} (h : sK Ws k ≠ 0) : atE Ws (k, m, o, e, b) = false := decide_eq_false (fun z => h z.1)
/-- an enum or a oneof begins -/
theorem sMm_kw {T : List Nat} {Ws : List Wd} {k q z : Nat} {m : Option Nat} {b : Bool} {D : List Dc} (hC : sC Ws k = nI (20 + q)) (hqz : (q = 0 ∧ z = 0) ∨ (q = 1 ∧ z = 1) ∨ (q = 2 ∧ z = 4 ∧ m ≠ none)) : sStep T Ws (k, m, none, none, b) D = sBg T Ws z (k + 1, m, none, none, b) D := by
  show sMm T Ws (k, m, none, none, b) D = _
  unfold sMm
  have e : sC Ws (k, m, (none : Option Nat), (none : Option Nat), b).1 = nI (20 + q) := hC
  rw [e]
  rcases hqz with ⟨h1, h2⟩ | ⟨h1, h2⟩ | ⟨h1, h2, h3⟩
  · subst h1; subst h2
    rw [if_neg (by decide), if_pos (by decide)]
  · subst h1; subst h2
    rw [if_neg (by decide), if_neg (by decide), if_pos (by decide)]
  · subst h1; subst h2
    have s59 : sS T Ws 59 k = false := sS_not (by decide) hC
    have s125 : sS T Ws 125 k = false := sS_not (by decide) hC
    rw [if_neg (by decide), if_neg (by decide), if_neg (by decide), if_neg h3]
    show (if sS T Ws 59 k = true then _ else if sS T Ws 125 k = true then _ else _) = _
    rw [s59, s125, if_neg (by decide), if_neg (by decide), if_pos (by decide)]
theorem sBg_1 {T : List Nat} {Ws : List Wd} {q k : Nat} {m : Option Nat} {b : Bool} {D : List Dc} {x : Wd} (hx : Ws[k]? = some x) : sBg T Ws q (k, m, none, none, b) D = if x.1 = 1 then (if sS T Ws 123 (k + 1) then some ((k + 2, if q = 0 then some D.length else m, if q = 4 then some D.length else none, if q = 1 then some D.length else none, true), D ++ [d0 q m none x.2.1 x.2.2.1]) else none) else none := by
  unfold sBg
  simp only [hx]
theorem N_takeEnum {U k p n : Nat} {σ : SG} {T : List Nat} {Ws : List Wd} {D : List Dc} {m : Option Nat} {b : Bool} (hU : 4000 < U) (hS : WS T Ws) (hn : 701 ≤ n + pos Ws k) (hI : IV Ws (k, m, none, none, b) D) (hn9 : n < 3000) (hC : sC Ws k = nI 21) (hQ : QX σ T Ws k) (h74 : sI σ 1101 74 = 0) (hM : RM σ T Ws D p) (hp : 2 * p ≤ pos Ws k) (hc0 : 7 * cnt D 0 ≤ pos Ws k) (hc1 : 7 * cnt D 1 ≤ pos Ws k) :
    NB T Ws σ n (k, m, none, none, b) D (x_X12_takeEnum U 1101 (oq D 0 m) σ) := by
  have hlen := hI.len hS
  have hl1 : D.length < 180 := hlen.1
  have hp700 : pos Ws k ≤ 700 := hlen.2.2
  obtain ⟨n0, rfl⟩ : ∃ n0, n = n0 + 1 := by
    cases n with
    | zero => omega
    | succ n0 => exact ⟨n0, rfl⟩
  have hWF := hI.2.2.1
  have hml : ∀ i, m = some i → i ≤ D.length := fun i hi => Nat.le_of_lt (KM_lt (hI.2.2.2.1 i hi))
  have hk1 := far_sC hS (by decide) hC
  have hk4 : far Ws k (k + 1) 4 := far_le (far_kw (q := 1) hS (by decide) hC) (by decide)
  have hst := sMm_kw (T := T) (q := 1) (z := 1) (m := m) (b := b) (D := D) hC (Or.inr (Or.inl ⟨rfl, rfl⟩))
  unfold x_X12_takeEnum
  obtain ⟨σ2, a1, a2, a3⟩ := N_next hU hS hQ (by rw [hk1.2]; decide) (by rw [hk1.2]; decide)
  rw [a1, b1_eq]
  have hp1 : pos Ws (k + 1) ≤ 700 := by
    obtain ⟨x, hx⟩ := hk4.1
    have := hS.le _ x hx
    have := hS.2.1
    rw [pos_some hx]; omega
  have hj : cnt D 1 < 100 := by have := hk4.2; omega
  obtain ⟨hL2, x, hx, hC2⟩ := a2
  have a2 : QX σ2 T Ws (k + 1) := ⟨hL2, x, hx, hC2⟩
  have z2 : sI σ2 1101 74 = 0 := (a3.2.1 74 (by decide)).trans h74
  have c38 : sI σ2 1101 38 = nI D.length := (a3.2.1 38 (by decide)).trans hM.2.2.1
  have c33 : sI σ2 1101 33 = nI (cnt D 1) := (a3.2.1 33 (by decide)).trans (hM.1 1 (by decide))
  obtain ⟨σ4, b1', b2', b3, b4⟩ := N_declare (v := oq D 0 m) (c := ct D p) hU hS a2 hx z2 c38 (by omega) rfl
  rw [b1', b1_eq]
  have f4 : fP (PX (ct D p)) σ σ4 := fP_trans (fX_q a3 (by decide)) b2'
  by_cases q1 : x.1 = 1
  · obtain ⟨z4, Q4, n38, n56, n57, n58, o4⟩ := b4 q1
    rw [N_enum_mid (va := nI x.2.1) (vl := nI (x.2.2.1 - x.2.1)) ((o4 33 (by decide)).trans c33) hj (by rw [N_lastAt n38 (by omega), n57]) (by rw [N_lastLong n38 (by omega), n58])]
    have Q24 : QX (uI (uI (uI (uI σ4 1131 (cnt D 1) (oq D 0 m)) 1132 (cnt D 1) (nI x.2.1)) 1133 (cnt D 1) (nI (x.2.2.1 - x.2.1))) 1101 33 (nI (cnt D 1 + 1))) T Ws (k + 2) := (((Q4.o (by decide) (by decide)).o (by decide) (by decide)).o (by decide) (by decide)).u (by decide)
    have f24 : fP (PX (ct D p)) σ (uI (uI (uI (uI σ4 1131 (cnt D 1) (oq D 0 m)) 1132 (cnt D 1) (nI x.2.1)) 1133 (cnt D 1) (nI (x.2.2.1 - x.2.1))) 1101 33 (nI (cnt D 1 + 1))) := fP_trans f4 (fP_trans (fP_trans (fP_trans (fP_u (PX_e (by decide) (by decide) (Nat.le_refl _))) (fP_u (PX_e (by decide) (by decide) (Nat.le_refl _)))) (fP_u (PX_e (by decide) (by decide) (Nat.le_refl _)))) (fP_u (PX_0 (by decide))))
    have o24 : ∀ i, i ≠ 33 → sI (uI (uI (uI (uI σ4 1131 (cnt D 1) (oq D 0 m)) 1132 (cnt D 1) (nI x.2.1)) 1133 (cnt D 1) (nI (x.2.2.1 - x.2.1))) 1101 33 (nI (cnt D 1 + 1))) 1101 i = sI σ4 1101 i := fun i hi => by
      rw [sI_o (Or.inr hi), sI_o (Or.inl (by decide)), sI_o (Or.inl (by decide)), sI_o (Or.inl (by decide))]
    have M24 : RM (uI (uI (uI (uI σ4 1131 (cnt D 1) (oq D 0 m)) 1132 (cnt D 1) (nI x.2.1)) 1133 (cnt D 1) (nI (x.2.2.1 - x.2.1))) 1101 33 (nI (cnt D 1 + 1))) T Ws (D ++ [d0 1 m none x.2.1 x.2.2.1]) p := by
      refine RM_snoc hWF hM f24 (Nat.le_refl _) (cnt_up (z := 1) hM.1 rfl (by decide) (sI_s _ _ _ _) (fun q h1 h2 => ?_)) ?_ ?_ ?_
      · rw [o24 (32 + q) (by omega), o4 (32 + q) (by simp only [List.mem_cons, List.not_mem_nil, or_false]; omega), a3.2.1 (32 + q) (by simp only [List.mem_cons, List.not_mem_nil, or_false]; omega)]
      · rw [o24 37 (by decide), o4 37 (by decide), a3.2.1 37 (by decide)]; exact hM.2.1
      · rw [o24 38 (by decide)]; exact n38
      · have e1 : oq (D ++ [d0 1 m none x.2.1 x.2.2.1]) 0 m = oq D 0 m := oq_snoc hml
        unfold RwD
        rw [show dS (d0 1 m none x.2.1 x.2.2.1) = m from rfl, e1, List.take_append_of_le_length (Nat.le_refl _), List.take_length]
        refine ⟨⟨?_, ?_, ?_⟩, fun z => (by cases z), fun _ => ⟨?_, ?_, ?_⟩, fun z => (by cases z), fun z => (by cases z)⟩
        · rw [sI_o (Or.inl (by decide)), sI_o (Or.inl (by decide)), sI_o (Or.inl (by decide)), sI_o (Or.inl (by decide))]; exact n56
        · rw [sI_o (Or.inl (by decide)), sI_o (Or.inl (by decide)), sI_o (Or.inl (by decide)), sI_o (Or.inl (by decide))]; exact n57
        · rw [sI_o (Or.inl (by decide)), sI_o (Or.inl (by decide)), sI_o (Or.inl (by decide)), sI_o (Or.inl (by decide))]; exact n58
        · rw [sI_o (Or.inl (by decide)), sI_o (Or.inl (by decide)), sI_o (Or.inl (by decide)), sI_s]
        · rw [sI_o (Or.inl (by decide)), sI_o (Or.inl (by decide)), sI_s]; try rfl
        · rw [sI_o (Or.inl (by decide)), sI_s]; try rfl
    have z24 : sI (uI (uI (uI (uI σ4 1131 (cnt D 1) (oq D 0 m)) 1132 (cnt D 1) (nI x.2.1)) 1133 (cnt D 1) (nI (x.2.2.1 - x.2.1))) 1101 33 (nI (cnt D 1 + 1))) 1101 74 = 0 := (o24 74 (by decide)).trans z4
    generalize (uI (uI (uI (uI σ4 1131 (cnt D 1) (oq D 0 m)) 1132 (cnt D 1) (nI x.2.1)) 1133 (cnt D 1) (nI (x.2.2.1 - x.2.1))) 1101 33 (nI (cnt D 1 + 1))) = σ24 at *
    obtain ⟨σ26, s1, s2, s3, s4⟩ := N_takeSign (q := 123) hU hS Q24 z24 (by decide)
    have s1' : x_X12_takeSign U 1101 123 σ24 = some σ26 := s1
    rw [s1', b1_eq]
    have hbg : sBg T Ws 1 (k + 1, m, none, none, b) D = if sS T Ws 123 (k + 2) then some ((k + 3, m, none, some D.length, true), D ++ [d0 1 m none x.2.1 x.2.2.1]) else none := by
      rw [sBg_1 hx, if_pos q1]; try rfl
    cases q2 : sS T Ws 123 (k + 2) with
    | false =>
      have z26 := s4 (by rw [q2]; rfl)
      cases U with
      | zero => omega
      | succ U2 =>
        rw [enum_L_e z26]
        refine ⟨σ26, rfl, fP_trans (fZ_X f24) (fZ_q s2 (by decide)), Or.inr ⟨rd_no (atE_k (by rw [hk1.2]; decide)) (by rw [hst, hbg, q2]; rfl), z26⟩⟩
    | true =>
      obtain ⟨z26, Q26⟩ := s3 (k + 3) (by rw [q2]; rfl)
      have hst' : sStep T Ws (k, m, none, none, b) D = some ((k + 3, m, none, some D.length, true), D ++ [d0 1 m none x.2.1 x.2.2.1]) := by rw [hst, hbg, q2]; try rfl
      have g := sStep_IV hS hI hst'
      have gf : far Ws k (k + 3) 6 := far_le (far_trans hk4 (far_trans (far_sK hS (k := k + 1) (Or.inl (by rw [sK_some hx]; exact q1))) (far_sS hS q2))) (by omega)
      refine NB_of (rd_step (atE_k (by rw [hk1.2]; decide)) hst') (fP_trans (fZ_X f24) (fZ_q s2 (by decide))) gf (show ¬ (1 : Nat) = 0 by decide) hc0 hc1 (N_enum_L hU hS n0 U (k + 3) p true _ σ26 (by omega) (by have := gf.2; omega) g.1 ?_ ?_ Q26 z26 (RM_q M24 s2) (by have := gf.2; omega) (Or.inl rfl))
      · rw [List.take_append_of_le_length (Nat.le_refl _), List.take_length, cnt_sn]; try rfl
      · rw [oq_snoc hml]
  · obtain ⟨z4, f4'⟩ := b3 q1
    have c33' : sI σ4 1101 33 = nI (cnt D 1) := (f4'.2.1 33 (by decide)).trans c33
    have c38' : sI σ4 1101 38 = nI D.length := (f4'.2.1 38 (by decide)).trans c38
    obtain ⟨va, hva⟩ := N_lastAt_any c38' (by omega)
    obtain ⟨vl, hvl⟩ := N_lastLong_any c38' (by omega)
    rw [N_enum_mid (va := va) (vl := vl) c33' hj hva hvl]
    have z24 : ¬ sI (uI (uI (uI (uI σ4 1131 (cnt D 1) (oq D 0 m)) 1132 (cnt D 1) va) 1133 (cnt D 1) vl) 1101 33 (nI (cnt D 1 + 1))) 1101 74 = 0 := by
      rw [sI_o (Or.inr (by decide)), sI_o (Or.inl (by decide)), sI_o (Or.inl (by decide)), sI_o (Or.inl (by decide))]; exact z4
    have f24 : fP (PX (ct D p)) σ (uI (uI (uI (uI σ4 1131 (cnt D 1) (oq D 0 m)) 1132 (cnt D 1) va) 1133 (cnt D 1) vl) 1101 33 (nI (cnt D 1 + 1))) := fP_trans f4 (fP_trans (fP_trans (fP_trans (fP_u (PX_e (by decide) (by decide) (Nat.le_refl _))) (fP_u (PX_e (by decide) (by decide) (Nat.le_refl _)))) (fP_u (PX_e (by decide) (by decide) (Nat.le_refl _)))) (fP_u (PX_0 (by decide))))
    rw [N_takeSign_e z24, b1_eq]
    have hbg : sBg T Ws 1 (k + 1, m, none, none, b) D = none := by
      rw [sBg_1 hx, if_neg q1]
    cases U with
    | zero => omega
    | succ U2 =>
      rw [enum_L_e z24]
      exact ⟨_, rfl, fZ_X f24, Or.inr ⟨rd_no (atE_k (by rw [hk1.2]; decide)) (by rw [hst, hbg]), z24⟩⟩
theorem N_takeOneof {U k p n m : Nat} {σ : SG} {T : List Nat} {Ws : List Wd} {D : List Dc} {b : Bool} (hU : 4000 < U) (hS : WS T Ws) (hn : 701 ≤ n + pos Ws k) (hI : IV Ws (k, some m, none, none, b) D) (hn9 : n < 3000) (hC : sC Ws k = nI 22) (hQ : QX σ T Ws k) (h74 : sI σ 1101 74 = 0) (hM : RM σ T Ws D p) (hp : 2 * p ≤ pos Ws k) (hc0 : 7 * cnt D 0 ≤ pos Ws k) (hc1 : 7 * cnt D 1 ≤ pos Ws k) :
    NB T Ws σ n (k, some m, none, none, b) D (x_X12_takeOneof U 1101 (oq D 0 (some m)) σ) := by
  have hlen := hI.len hS
  have hl1 : D.length < 180 := hlen.1
  have hp700 : pos Ws k ≤ 700 := hlen.2.2
  obtain ⟨n0, rfl⟩ : ∃ n0, n = n0 + 1 := by
    cases n with
    | zero => omega
    | succ n0 => exact ⟨n0, rfl⟩
  have hWF := hI.2.2.1
  have hml : ∀ i, some m = some i → i ≤ D.length := fun i hi => Nat.le_of_lt (KM_lt (hI.2.2.2.1 i hi))
  have hk1 := far_sC hS (by decide) hC
  have hk4 : far Ws k (k + 1) 4 := far_le (far_kw (q := 2) hS (by decide) hC) (by decide)
  have hst := sMm_kw (T := T) (q := 2) (z := 4) (m := some m) (b := b) (D := D) hC (Or.inr (Or.inr ⟨rfl, rfl, fun z => (by cases z)⟩))
  unfold x_X12_takeOneof
  obtain ⟨σ2, a1, a2, a3⟩ := N_next hU hS hQ (by rw [hk1.2]; decide) (by rw [hk1.2]; decide)
  rw [a1, b1_eq]
  obtain ⟨hL2, x, hx, hC2⟩ := a2
  have a2 : QX σ2 T Ws (k + 1) := ⟨hL2, x, hx, hC2⟩
  have z2 : sI σ2 1101 74 = 0 := (a3.2.1 74 (by decide)).trans h74
  have c38 : sI σ2 1101 38 = nI D.length := (a3.2.1 38 (by decide)).trans hM.2.2.1
  obtain ⟨σ4, b1', b2', b3, b4⟩ := N_declare (v := oq D 0 (some m)) (c := ct D p) hU hS a2 hx z2 c38 (by omega) rfl
  rw [b1', b1_eq]
  have f4 : fP (PX (ct D p)) σ σ4 := fP_trans (fX_q a3 (by decide)) b2'
  -- an error, behind the sign
  have bad : ∀ υ, ¬ sI υ 1101 74 = 0 → fP PZ σ υ → sBg T Ws 4 (k + 1, some m, none, none, b) D = none → NB T Ws σ (n0 + 1) (k, some m, none, none, b) D (sb (uI υ 1101 36 ((sI υ 1101 36) + 1)) fun σ7 => x_X12_takeOneof_L32 U 1101 (fun σ21 => x_X12_takeOneof_93 U 1101 σ21) (oq D 0 (some m)) (sI υ 1101 36) U 1 σ7) := by
    intro υ zυ fυ hbg
    rw [sb_eq]
    have zz : ¬ sI (uI υ 1101 36 ((sI υ 1101 36) + 1)) 1101 74 = 0 := by rw [sI_o (Or.inr (by decide))]; exact zυ
    cases U with
    | zero => omega
    | succ U2 =>
      rw [one_L_e zz]
      exact ⟨_, rfl, fP_trans fυ (fP_u (Or.inl ⟨rfl, by decide⟩)), Or.inr ⟨rd_no (atE_k (by rw [hk1.2]; decide)) (by rw [hst, hbg]), zz⟩⟩
  by_cases q1 : x.1 = 1
  · obtain ⟨z4, Q4, n38, n56, n57, n58, o4⟩ := b4 q1
    obtain ⟨σ6, s1, s2, s3, s4⟩ := N_takeSign (q := 123) hU hS Q4 z4 (by decide)
    have s1' : x_X12_takeSign U 1101 123 σ4 = some σ6 := s1
    rw [s1', b1_eq]
    have hbg : sBg T Ws 4 (k + 1, some m, none, none, b) D = if sS T Ws 123 (k + 2) then some ((k + 3, some m, some D.length, none, true), D ++ [d0 4 (some m) none x.2.1 x.2.2.1]) else none := by
      rw [sBg_1 hx, if_pos q1]; try rfl
    have f6 : fP (PX (ct D p)) σ σ6 := fP_trans f4 (fX_q s2 (by decide))
    cases q2 : sS T Ws 123 (k + 2) with
    | false => exact bad σ6 (s4 (by rw [q2]; rfl)) (fZ_X f6) (by rw [hbg, q2]; rfl)
    | true =>
      obtain ⟨z6, Q6⟩ := s3 (k + 3) (by rw [q2]; rfl)
      have hst' : sStep T Ws (k, some m, none, none, b) D = some ((k + 3, some m, some D.length, none, true), D ++ [d0 4 (some m) none x.2.1 x.2.2.1]) := by rw [hst, hbg, q2]; try rfl
      have g := sStep_IV hS hI hst'
      have gf : far Ws k (k + 3) 6 := far_le (far_trans hk4 (far_trans (far_sK hS (k := k + 1) (Or.inl (by rw [sK_some hx]; exact q1))) (far_sS hS q2))) (by omega)
      have k6 : ∀ i, 32 ≤ i → i ≤ 37 → sI σ6 1101 i = sI σ 1101 i := fun i h1 h2 => by
        rw [s2.2.1 i (by unfold KF; simp only [List.mem_cons, List.not_mem_nil, or_false]; omega), o4 i (by simp only [List.mem_cons, List.not_mem_nil, or_false]; omega), a3.2.1 i (by simp only [List.mem_cons, List.not_mem_nil, or_false]; omega)]
      have c36 : sI σ6 1101 36 = nI (cnt D 4) := (k6 36 (by decide) (by decide)).trans (hM.1 4 (by decide))
      rw [sb_eq, c36, nI_1]
      have f7 : fP (PX (ct D p)) σ (uI σ6 1101 36 (nI (cnt D 4 + 1))) := fP_trans f6 (fP_u (PX_0 (by decide)))
      have M7 : RM (uI σ6 1101 36 (nI (cnt D 4 + 1))) T Ws (D ++ [d0 4 (some m) none x.2.1 x.2.2.1]) p := by
        refine RM_snoc hWF hM f7 (Nat.le_refl _) (cnt_up (z := 4) hM.1 rfl (by decide) (sI_s _ _ _ _) (fun q h1 h2 => ?_)) ?_ ?_ ?_
        · rw [sI_o (Or.inr (by omega)), k6 (32 + q) (by omega) (by omega)]
        · rw [sI_o (Or.inr (by decide)), k6 37 (by decide) (by decide)]; exact hM.2.1
        · rw [sI_o (Or.inr (by decide)), s2.2.1 38 (by decide)]; exact n38
        · have e1 : oq (D ++ [d0 4 (some m) none x.2.1 x.2.2.1]) 0 (some m) = oq D 0 (some m) := oq_snoc hml
          unfold RwD
          rw [show dS (d0 4 (some m) none x.2.1 x.2.2.1) = some m from rfl, e1]
          refine ⟨⟨?_, ?_, ?_⟩, fun z => (by cases z), fun z => (by cases z), fun z => (by cases z), fun z => (by cases z)⟩
          · rw [sI_o (Or.inl (by decide)), (s2.1 1156 (by decide) _).1]; exact n56
          · rw [sI_o (Or.inl (by decide)), (s2.1 1157 (by decide) _).1]; exact n57
          · rw [sI_o (Or.inl (by decide)), (s2.1 1158 (by decide) _).1]; exact n58
      refine NB_of (rd_step (atE_k (by rw [hk1.2]; decide)) hst') (fZ_X f7) gf (show ¬ (4 : Nat) = 0 by decide) hc0 hc1 (N_one_L hU hS n0 U (k + 3) p true _ _ (by omega) (by have := gf.2; omega) g.1 ?_ ?_ (Q6.u (by decide)) (by rw [sI_o (Or.inr (by decide))]; exact z6) M7 (by have := gf.2; omega) (Or.inl rfl))
      · rw [oq_snoc hml]
      · unfold oq
        simp only
        rw [List.take_append_of_le_length (Nat.le_refl _), List.take_length]
  · obtain ⟨z4, f4'⟩ := b3 q1
    rw [N_takeSign_e z4, b1_eq]
    refine bad σ4 z4 (fZ_X f4) ?_
    rw [sBg_1 hx, if_neg q1]
/-! ===== the reference's reader: messages, members, the whole schema ===== -/
def mo (n : Nat) (f : Nat → Nat) : Option Nat := if n = 0 then none else some (f (n - 1))
def fu (f : Nat → Nat) (d x : Nat) : Nat → Nat := fun t => if t = d then x else f t
theorem fu_s (f : Nat → Nat) (d x : Nat) : fu f d x d = x := if_pos rfl
theorem fu_o {f : Nat → Nat} {d x t : Nat} (h : t ≠ d) : fu f d x t = f t := if_neg h
/-- the open messages: n of them, f says which -/
def ST (σ : SG) (D : List Dc) (n : Nat) (f : Nat → Nat) : Prop := n ≤ cnt D 0 ∧ ∀ t, t < n → sI σ 1159 t = nI (cnt (D.take (f t)) 0) ∧ KM D (f t) ∧ scp D (some (f t)) = mo t f
def P9 (b k : Nat) : Prop := PZ b k ∨ b = 1159
theorem f9_Z {σ τ : SG} (h : fP PZ σ τ) : fP P9 σ τ := fP_mono h (fun _ _ z => Or.inl z)
theorem KM_app {D E : List Dc} {i : Nat} (h : KM D i) : KM (D ++ E) i := by
  have := KM_lt h
  obtain ⟨x, a, b⟩ := h
  exact ⟨x, by rw [List.getElem?_append_left this]; exact a, b⟩
theorem ST_app {σ τ : SG} {D E : List Dc} {n : Nat} {f : Nat → Nat} (h : ST σ D n f) (hf : ∀ t, sI τ 1159 t = sI σ 1159 t) (hc : cnt (D ++ E) 0 = cnt D 0) : ST τ (D ++ E) n f := by
  refine ⟨by rw [hc]; exact h.1, fun t ht => ?_⟩
  obtain ⟨a, b, c⟩ := h.2 t ht
  have hl := KM_lt b
  refine ⟨by rw [hf, List.take_append_of_le_length (Nat.le_of_lt hl)]; exact a, KM_app b, ?_⟩
  rw [← c]
  unfold scp
  simp only
  rw [List.getElem?_append_left hl]
def MI (σ : SG) (T : List Nat) (Ws : List Wd) (k : Nat) (b : Bool) (n : Nat) (f : Nat → Nat) (D : List Dc) (p : Nat) : Prop := IV Ws (k, mo n f, none, none, b) D ∧ ST σ D n f ∧ 7 * cnt D 0 ≤ pos Ws k ∧ 7 * cnt D 1 ≤ pos Ws k ∧ sI σ 1101 74 = 0 ∧ QX σ T Ws k ∧ RM σ T Ws D p ∧ 2 * p ≤ pos Ws k
def NL (T : List Nat) (Ws : List Wd) (σ : SG) (n : Nat) (s : Rs) (D : List Dc) (x : Option (Int32 × SG)) : Prop := ∃ v τ, x = some (v, τ) ∧ fP P9 σ τ ∧ ((∃ n' k' b' D' p' d' f', v = nI d' ∧ rd T Ws n s D = rd T Ws n' (k', mo d' f', none, none, b') D' ∧ 701 ≤ n' + pos Ws k' ∧ n' < n ∧ MI τ T Ws k' b' d' f' D' p') ∨ (rd T Ws n s D = none ∧ ¬ sI τ 1101 74 = 0))
theorem NL_of {T : List Nat} {Ws : List Wd} {σ : SG} {n k d : Nat} {f : Nat → Nat} {b : Bool} {D : List Dc} {x : Option SG} (hT : ST σ D d f) (h : NB T Ws σ n (k, mo d f, none, none, b) D x) : NL T Ws σ n (k, mo d f, none, none, b) D (b1 x fun τ => some (nI d, τ)) := by
  obtain ⟨τ, a1, a2, a3⟩ := h
  rw [a1, b1_eq]
  refine ⟨nI d, τ, rfl, f9_Z a2, ?_⟩
  rcases a3 with ⟨n', k', b', E, p', g1, g2, g3, g4, g5, g6, g7, g8, g9, g10, g11⟩ | g
  · exact Or.inl ⟨n', k', b', D ++ E, p', d, f, rfl, g1, g2, g3, g4, ST_app hT (fun t => fP_at a2 (fun z => by rcases z with z | z <;> omega)) g5, g6, g7, g8, g9, g10, g11⟩
  · exact Or.inr g
theorem N_msg_mid {σ4 : SG} {j d : Nat} {p0 va vl : Int32} {G : SG → Option (Int32 × SG)} (h32 : sI σ4 1101 32 = nI j) (hj : j < 100) (hd : d < 100) (hva : x_X12_lastAt 1101 σ4 = some va) (hvl : x_X12_lastLong 1101 σ4 = some vl) :
    (ix (sI σ4 1101 32) 100 fun j6 => sb (uI σ4 1128 j6 p0) fun σ10 => b1 (x_X12_lastAt 1101 σ10) fun v12 => ix (sI σ10 1101 32) 100 fun j13 => sb (uI σ10 1129 j13 v12) fun σ17 => b1 (x_X12_lastLong 1101 σ17) fun v19 => ix (sI σ17 1101 32) 100 fun j20 => sb (uI σ17 1130 j20 v19) fun σ24 => ix (nI d) 100 fun j25 => sb (uI σ24 1159 j25 (sI σ24 1101 32)) fun σ29 => sb (uI σ29 1101 32 ((sI σ29 1101 32) + 1)) fun σ30 => G σ30) = G (uI (uI (uI (uI (uI σ4 1128 j p0) 1129 j va) 1130 j vl) 1159 d (nI j)) 1101 32 (nI (j + 1))) := by
  rw [h32, ix_in hj (by decide), sb_eq, lastAt_o (by decide) (by decide), hva, b1_eq]
  have e1 : sI (uI σ4 1128 j p0) 1101 32 = nI j := by rw [sI_o (Or.inl (by decide))]; exact h32
  rw [e1, ix_in hj (by decide), sb_eq, lastLong_o (by decide) (by decide), lastLong_o (by decide) (by decide), hvl, b1_eq]
  have e2 : sI (uI (uI σ4 1128 j p0) 1129 j va) 1101 32 = nI j := by rw [sI_o (Or.inl (by decide))]; exact e1
  rw [e2, ix_in hj (by decide), sb_eq, ix_in hd (by decide), sb_eq]
  have e3 : sI (uI (uI (uI σ4 1128 j p0) 1129 j va) 1130 j vl) 1101 32 = nI j := by rw [sI_o (Or.inl (by decide))]; exact e2
  rw [e3, sb_eq]
  have e4 : sI (uI (uI (uI (uI σ4 1128 j p0) 1129 j va) 1130 j vl) 1159 d (nI j)) 1101 32 = nI j := by rw [sI_o (Or.inl (by decide))]; exact e3
  rw [e4, nI_1]
theorem N_begin_16 {U k p n d : Nat} {f : Nat → Nat} {σ : SG} {T : List Nat} {Ws : List Wd} {D : List Dc} {b : Bool} (hU : 4000 < U) (hS : WS T Ws) (hn : 701 ≤ n + pos Ws k) (hC : sC Ws k = nI 20) (hMI : MI σ T Ws k b d f D p) :
    NL T Ws σ n (k, mo d f, none, none, b) D (x_X12_beginMessage_16 U 1101 (nI d) (oq D 0 (mo d f)) σ) := by
  obtain ⟨hI, hT, hc0, hc1, h74, hQ, hM, hp⟩ := hMI
  have hlen := hI.len hS
  have hl1 : D.length < 180 := hlen.1
  have hp700 : pos Ws k ≤ 700 := hlen.2.2
  obtain ⟨n0, rfl⟩ : ∃ n0, n = n0 + 1 := by
    cases n with
    | zero => omega
    | succ n0 => exact ⟨n0, rfl⟩
  have hWF := hI.2.2.1
  have hml : ∀ i, mo d f = some i → i ≤ D.length := fun i hi => Nat.le_of_lt (KM_lt (hI.2.2.2.1 i hi))
  have hk1 := far_sC hS (by decide) hC
  have hk7 : far Ws k (k + 1) 7 := far_le (far_kw (q := 0) hS (by decide) hC) (by decide)
  have hst := sMm_kw (T := T) (q := 0) (z := 0) (m := mo d f) (b := b) (D := D) hC (Or.inl ⟨rfl, rfl⟩)
  unfold x_X12_beginMessage_16
  obtain ⟨σ2, a1, a2, a3⟩ := N_next hU hS hQ (by rw [hk1.2]; decide) (by rw [hk1.2]; decide)
  rw [a1, b1_eq]
  have hp1 : pos Ws (k + 1) ≤ 700 := by
    obtain ⟨x, hx⟩ := hk7.1
    have := hS.le _ x hx
    have := hS.2.1
    rw [pos_some hx]; omega
  have hj : cnt D 0 < 100 := by have := hk7.2; omega
  have hd : d < 100 := by have := hT.1; omega
  obtain ⟨hL2, x, hx, hC2⟩ := a2
  have a2 : QX σ2 T Ws (k + 1) := ⟨hL2, x, hx, hC2⟩
  have z2 : sI σ2 1101 74 = 0 := (a3.2.1 74 (by decide)).trans h74
  have c38 : sI σ2 1101 38 = nI D.length := (a3.2.1 38 (by decide)).trans hM.2.2.1
  have c32 : sI σ2 1101 32 = nI (cnt D 0) := (a3.2.1 32 (by decide)).trans (hM.1 0 (by decide))
  obtain ⟨σ4, b1', b2', b3, b4⟩ := N_declare (v := oq D 0 (mo d f)) (c := ct D p) hU hS a2 hx z2 c38 (by omega) rfl
  rw [b1', b1_eq]
  have f4 : fP (PX (ct D p)) σ σ4 := fP_trans (fX_q a3 (by decide)) b2'
  by_cases q1 : x.1 = 1
  · obtain ⟨z4, Q4, n38, n56, n57, n58, o4⟩ := b4 q1
    rw [N_msg_mid (va := nI x.2.1) (vl := nI (x.2.2.1 - x.2.1)) ((o4 32 (by decide)).trans c32) hj hd (by rw [N_lastAt n38 (by omega), n57]) (by rw [N_lastLong n38 (by omega), n58])]
    have Q30 : QX (uI (uI (uI (uI (uI σ4 1128 (cnt D 0) (oq D 0 (mo d f))) 1129 (cnt D 0) (nI x.2.1)) 1130 (cnt D 0) (nI (x.2.2.1 - x.2.1))) 1159 d (nI (cnt D 0))) 1101 32 (nI (cnt D 0 + 1))) T Ws (k + 2) := ((((Q4.o (by decide) (by decide)).o (by decide) (by decide)).o (by decide) (by decide)).o (by decide) (by decide)).u (by decide)
    have f24 : fP (PX (ct D p)) σ (uI (uI (uI (uI σ4 1128 (cnt D 0) (oq D 0 (mo d f))) 1129 (cnt D 0) (nI x.2.1)) 1130 (cnt D 0) (nI (x.2.2.1 - x.2.1))) 1101 32 (nI (cnt D 0 + 1))) := fP_trans f4 (fP_trans (fP_trans (fP_trans (fP_u (PX_m (by decide) (by decide) (Nat.le_refl _))) (fP_u (PX_m (by decide) (by decide) (Nat.le_refl _)))) (fP_u (PX_m (by decide) (by decide) (Nat.le_refl _)))) (fP_u (PX_0 (by decide))))
    have o24 : ∀ i, i ≠ 32 → sI (uI (uI (uI (uI σ4 1128 (cnt D 0) (oq D 0 (mo d f))) 1129 (cnt D 0) (nI x.2.1)) 1130 (cnt D 0) (nI (x.2.2.1 - x.2.1))) 1101 32 (nI (cnt D 0 + 1))) 1101 i = sI σ4 1101 i := fun i hi => by
      rw [sI_o (Or.inr hi), sI_o (Or.inl (by decide)), sI_o (Or.inl (by decide)), sI_o (Or.inl (by decide))]
    have M24 : RM (uI (uI (uI (uI σ4 1128 (cnt D 0) (oq D 0 (mo d f))) 1129 (cnt D 0) (nI x.2.1)) 1130 (cnt D 0) (nI (x.2.2.1 - x.2.1))) 1101 32 (nI (cnt D 0 + 1))) T Ws (D ++ [d0 0 (mo d f) none x.2.1 x.2.2.1]) p := by
      refine RM_snoc hWF hM f24 (Nat.le_refl _) (cnt_up (z := 0) hM.1 rfl (by decide) (sI_s _ _ _ _) (fun q h1 h2 => ?_)) ?_ ?_ ?_
      · rw [o24 (32 + q) (by omega), o4 (32 + q) (by simp only [List.mem_cons, List.not_mem_nil, or_false]; omega), a3.2.1 (32 + q) (by simp only [List.mem_cons, List.not_mem_nil, or_false]; omega)]
      · rw [o24 37 (by decide), o4 37 (by decide), a3.2.1 37 (by decide)]; exact hM.2.1
      · rw [o24 38 (by decide)]; exact n38
      · have e1 : oq (D ++ [d0 0 (mo d f) none x.2.1 x.2.2.1]) 0 (mo d f) = oq D 0 (mo d f) := oq_snoc hml
        unfold RwD
        rw [show dS (d0 0 (mo d f) none x.2.1 x.2.2.1) = mo d f from rfl, e1, List.take_append_of_le_length (Nat.le_refl _), List.take_length]
        refine ⟨⟨?_, ?_, ?_⟩, fun _ => ⟨?_, ?_, ?_⟩, fun z => (by cases z), fun z => (by cases z), fun z => (by cases z)⟩
        · rw [sI_o (Or.inl (by decide)), sI_o (Or.inl (by decide)), sI_o (Or.inl (by decide)), sI_o (Or.inl (by decide))]; exact n56
        · rw [sI_o (Or.inl (by decide)), sI_o (Or.inl (by decide)), sI_o (Or.inl (by decide)), sI_o (Or.inl (by decide))]; exact n57
        · rw [sI_o (Or.inl (by decide)), sI_o (Or.inl (by decide)), sI_o (Or.inl (by decide)), sI_o (Or.inl (by decide))]; exact n58
        · rw [sI_o (Or.inl (by decide)), sI_o (Or.inl (by decide)), sI_o (Or.inl (by decide)), sI_s]
        · rw [sI_o (Or.inl (by decide)), sI_o (Or.inl (by decide)), sI_s]; try rfl
        · rw [sI_o (Or.inl (by decide)), sI_s]; try rfl
    have M30 : RM (uI (uI (uI (uI (uI σ4 1128 (cnt D 0) (oq D 0 (mo d f))) 1129 (cnt D 0) (nI x.2.1)) 1130 (cnt D 0) (nI (x.2.2.1 - x.2.1))) 1159 d (nI (cnt D 0))) 1101 32 (nI (cnt D 0 + 1))) T Ws (D ++ [d0 0 (mo d f) none x.2.1 x.2.2.1]) p := by
      refine RM_sm M24 (fun b h1 h2 i => ⟨?_, rfl, rfl⟩) (fun i h1 h2 => ?_)
      · rw [sI_o (Or.inl (by omega)), sI_o (Or.inl (by omega)), sI_o (σ := uI (uI (uI σ4 1128 (cnt D 0) (oq D 0 (mo d f))) 1129 (cnt D 0) (nI x.2.1)) 1130 (cnt D 0) (nI (x.2.2.1 - x.2.1))) (k := 32) (Or.inl (show b ≠ 1101 by omega))]
      · by_cases q : i = 32
        · subst q; rw [sI_s, sI_s]
        · rw [sI_o (Or.inr q), sI_o (Or.inl (by decide)), sI_o (Or.inr q)]
    have f30 : fP P9 σ (uI (uI (uI (uI (uI σ4 1128 (cnt D 0) (oq D 0 (mo d f))) 1129 (cnt D 0) (nI x.2.1)) 1130 (cnt D 0) (nI (x.2.2.1 - x.2.1))) 1159 d (nI (cnt D 0))) 1101 32 (nI (cnt D 0 + 1))) := fP_trans (f9_Z (fZ_X f4)) (fP_trans (fP_trans (fP_trans (fP_trans (fP_u (Or.inl (Or.inr ⟨by decide, by decide⟩))) (fP_u (Or.inl (Or.inr ⟨by decide, by decide⟩)))) (fP_u (Or.inl (Or.inr ⟨by decide, by decide⟩)))) (fP_u (Or.inr rfl))) (fP_u (Or.inl (Or.inl ⟨rfl, by decide⟩))))
    have z30 : sI (uI (uI (uI (uI (uI σ4 1128 (cnt D 0) (oq D 0 (mo d f))) 1129 (cnt D 0) (nI x.2.1)) 1130 (cnt D 0) (nI (x.2.2.1 - x.2.1))) 1159 d (nI (cnt D 0))) 1101 32 (nI (cnt D 0 + 1))) 1101 74 = 0 := by
      rw [sI_o (Or.inr (by decide)), sI_o (Or.inl (by decide)), sI_o (Or.inl (by decide)), sI_o (Or.inl (by decide)), sI_o (Or.inl (by decide))]; exact z4
    have t30 : ∀ t, sI (uI (uI (uI (uI (uI σ4 1128 (cnt D 0) (oq D 0 (mo d f))) 1129 (cnt D 0) (nI x.2.1)) 1130 (cnt D 0) (nI (x.2.2.1 - x.2.1))) 1159 d (nI (cnt D 0))) 1101 32 (nI (cnt D 0 + 1))) 1159 t = if t = d then nI (cnt D 0) else sI σ 1159 t := fun t => by
      rw [sI_o (Or.inl (by decide))]
      by_cases q : t = d
      · subst q; rw [if_pos rfl, sI_s]
      · rw [if_neg q, sI_o (Or.inr q), sI_o (Or.inl (by decide)), sI_o (Or.inl (by decide)), sI_o (Or.inl (by decide))]
        exact fP_at f4 (fun z => by
          have := PX_Z z
          rcases this with y | y <;> omega)
    generalize (uI (uI (uI (uI (uI σ4 1128 (cnt D 0) (oq D 0 (mo d f))) 1129 (cnt D 0) (nI x.2.1)) 1130 (cnt D 0) (nI (x.2.2.1 - x.2.1))) 1159 d (nI (cnt D 0))) 1101 32 (nI (cnt D 0 + 1))) = σ30 at *
    obtain ⟨σ32, s1, s2, s3, s4⟩ := N_takeSign (q := 123) hU hS Q30 z30 (by decide)
    have s1' : x_X12_takeSign U 1101 123 σ30 = some σ32 := s1
    rw [s1', b1_eq, nI_1]
    have hbg : sBg T Ws 0 (k + 1, mo d f, none, none, b) D = if sS T Ws 123 (k + 2) then some ((k + 3, some D.length, none, none, true), D ++ [d0 0 (mo d f) none x.2.1 x.2.2.1]) else none := by
      rw [sBg_1 hx, if_pos q1]; try rfl
    refine ⟨nI (d + 1), σ32, rfl, fP_trans f30 (f9_Z (fZ_q s2 (by decide))), ?_⟩
    cases q2 : sS T Ws 123 (k + 2) with
    | false => exact Or.inr ⟨rd_no (atE_k (by rw [hk1.2]; decide)) (by rw [hst, hbg, q2]; rfl), s4 (by rw [q2]; rfl)⟩
    | true =>
      obtain ⟨z32, Q32⟩ := s3 (k + 3) (by rw [q2]; rfl)
      have hst' : sStep T Ws (k, mo d f, none, none, b) D = some ((k + 3, some D.length, none, none, true), D ++ [d0 0 (mo d f) none x.2.1 x.2.2.1]) := by rw [hst, hbg, q2]; try rfl
      have g := sStep_IV hS hI hst'
      have gf : far Ws k (k + 3) 7 := far_le (far_trans hk7 (far_trans (far_sK hS (k := k + 1) (Or.inl (by rw [sK_some hx]; exact q1))) (far_sS hS q2))) (by omega)
      have c1 : cnt (D ++ [d0 0 (mo d f) none x.2.1 x.2.2.1]) 0 = cnt D 0 + 1 := by rw [cnt_sn]; try rfl
      have c2 : cnt (D ++ [d0 0 (mo d f) none x.2.1 x.2.2.1]) 1 = cnt D 1 := by rw [cnt_sn]; try rfl
      have mo1 : mo (d + 1) (fu f d D.length) = some D.length := by
        unfold mo
        rw [if_neg (by omega), show d + 1 - 1 = d by omega, fu_s]
      have mot : ∀ t, t ≤ d → mo t (fu f d D.length) = mo t f := fun t ht => by
        unfold mo
        by_cases q : t = 0
        · rw [if_pos q, if_pos q]
        · rw [if_neg q, if_neg q, fu_o (by omega)]
      refine Or.inl ⟨n0, k + 3, true, _, p, d + 1, fu f d D.length, rfl, ?_, by have := gf.2; omega, by omega, ?_, ⟨by rw [c1]; have := hT.1; omega, fun t ht => ?_⟩, by rw [c1]; have := gf.2; omega, by rw [c2]; have := gf.2; omega, z32, Q32, RM_q M30 s2, by have := gf.2; omega⟩
      · rw [mo1]
        exact rd_step (atE_k (by rw [hk1.2]; decide)) hst'
      · rw [mo1]; exact g.1
      · rw [mot t (by omega), (s2.1 1159 (by decide) t).1, t30]
        by_cases q : t = d
        · subst q
          rw [if_pos rfl, fu_s, List.take_append_of_le_length (Nat.le_refl _), List.take_length]
          refine ⟨rfl, ⟨_, get_snoc_last D _, rfl⟩, ?_⟩
          unfold scp
          simp only
          rw [get_snoc_last]
          try rfl
        · rw [if_neg q, fu_o q]
          obtain ⟨w1, w2, w3⟩ := hT.2 t (by omega)
          have hl := KM_lt w2
          refine ⟨by rw [List.take_append_of_le_length (Nat.le_of_lt hl)]; exact w1, KM_snoc w2, ?_⟩
          rw [← w3]
          unfold scp
          simp only
          rw [List.getElem?_append_left hl]
  · obtain ⟨z4, f4'⟩ := b3 q1
    have c32' : sI σ4 1101 32 = nI (cnt D 0) := (f4'.2.1 32 (by decide)).trans c32
    have c38' : sI σ4 1101 38 = nI D.length := (f4'.2.1 38 (by decide)).trans c38
    obtain ⟨va, hva⟩ := N_lastAt_any c38' (by omega)
    obtain ⟨vl, hvl⟩ := N_lastLong_any c38' (by omega)
    rw [N_msg_mid (va := va) (vl := vl) c32' hj hd hva hvl]
    have z24 : ¬ sI (uI (uI (uI (uI (uI σ4 1128 (cnt D 0) (oq D 0 (mo d f))) 1129 (cnt D 0) va) 1130 (cnt D 0) vl) 1159 d (nI (cnt D 0))) 1101 32 (nI (cnt D 0 + 1))) 1101 74 = 0 := by
      rw [sI_o (Or.inr (by decide)), sI_o (Or.inl (by decide)), sI_o (Or.inl (by decide)), sI_o (Or.inl (by decide)), sI_o (Or.inl (by decide))]; exact z4
    have f24 : fP P9 σ (uI (uI (uI (uI (uI σ4 1128 (cnt D 0) (oq D 0 (mo d f))) 1129 (cnt D 0) va) 1130 (cnt D 0) vl) 1159 d (nI (cnt D 0))) 1101 32 (nI (cnt D 0 + 1))) := fP_trans (f9_Z (fZ_X f4)) (fP_trans (fP_trans (fP_trans (fP_trans (fP_u (Or.inl (Or.inr ⟨by decide, by decide⟩))) (fP_u (Or.inl (Or.inr ⟨by decide, by decide⟩)))) (fP_u (Or.inl (Or.inr ⟨by decide, by decide⟩)))) (fP_u (Or.inr rfl))) (fP_u (Or.inl (Or.inl ⟨rfl, by decide⟩))))
    rw [N_takeSign_e z24, b1_eq, nI_1]
    have hbg : sBg T Ws 0 (k + 1, mo d f, none, none, b) D = none := by
      rw [sBg_1 hx, if_neg q1]
    exact ⟨nI (d + 1), _, rfl, f24, Or.inr ⟨rd_no (atE_k (by rw [hk1.2]; decide)) (by rw [hst, hbg]), z24⟩⟩
/-! ===== the reference's reader: a member, the whole schema ===== -/
theorem oq_mo {σ : SG} {D : List Dc} {d : Nat} {f : Nat → Nat} (hT : ST σ D (d + 1) f) : sI σ 1159 d = oq D 0 (mo (d + 1) f) := by
  have := (hT.2 d (by omega)).1
  rw [this]
  unfold oq mo
  rw [if_neg (by omega)]
  try rfl
theorem N_beginMessage {U k p n d : Nat} {f : Nat → Nat} {σ : SG} {T : List Nat} {Ws : List Wd} {D : List Dc} {b : Bool} (hU : 4000 < U) (hS : WS T Ws) (hn : 701 ≤ n + pos Ws k) (hC : sC Ws k = nI 20) (hMI : MI σ T Ws k b d f D p) (hd : d ≤ 100) :
    NL T Ws σ n (k, mo d f, none, none, b) D (x_X12_beginMessage U 1101 (nI d) σ) := by
  have key := N_begin_16 hU hS hn hC hMI
  unfold x_X12_beginMessage
  cases d with
  | zero =>
    rw [if_pos (show nI 0 = 0 from rfl)]
    exact key
  | succ d =>
    rw [if_neg (show ¬ nI (d + 1) = 0 from fun z => by have := (nI_eq (b := 0) (by omega) (by decide)).mp z; omega), show (1 : Int32) = nI 1 from rfl, nI_sub (by omega), show d + 1 - 1 = d by omega, ix_in (by omega) (by decide), oq_mo hMI.2.1]
    exact key
/-- one word more, and nothing else -/
theorem NL_word {U k p n d d' : Nat} {f : Nat → Nat} {σ : SG} {T : List Nat} {Ws : List Wd} {D : List Dc} {b : Bool} (hU : 4000 < U) (hS : WS T Ws) (hn : 701 ≤ n + pos Ws k) (hMI : MI σ T Ws k b d f D p) (h4 : sK Ws k = 4) (hdd : d' ≤ d) (hst : sStep T Ws (k, mo d f, none, none, b) D = some ((k + 1, mo d' f, none, none, b), D)) :
    NL T Ws σ n (k, mo d f, none, none, b) D (b1 (x_X12_next U 1101 σ) fun τ => some (nI d', τ)) := by
  obtain ⟨hI, hT, hc0, hc1, h74, hQ, hM, hp⟩ := hMI
  have hp700 : pos Ws k ≤ 700 := (hI.len hS).2.2
  obtain ⟨n0, rfl⟩ : ∃ n0, n = n0 + 1 := by
    cases n with
    | zero => omega
    | succ n0 => exact ⟨n0, rfl⟩
  obtain ⟨τ, a1, a2, a3⟩ := N_next hU hS hQ (by rw [h4]; decide) (by rw [h4]; decide)
  rw [a1, b1_eq]
  have g := sStep_IV hS hI hst
  have gf : far Ws k (k + 1) 1 := g.2
  have a3' : fq KF σ τ := fq_mono a3 (by decide)
  refine ⟨nI d', τ, rfl, f9_Z (fZ_q a3 (by decide)), Or.inl ⟨n0, k + 1, b, D, p, d', f, rfl, rd_step (atE_k (by rw [h4]; decide)) hst, by have := gf.2; omega, by omega, g.1, ⟨by have := hT.1; omega, fun t ht => ?_⟩, by have := gf.2; omega, by have := gf.2; omega, (a3.2.1 74 (by decide)).trans h74, a2, RM_q hM a3', by have := gf.2; omega⟩⟩
  obtain ⟨w1, w2, w3⟩ := hT.2 t (by omega)
  exact ⟨((a3.1 1159 (by decide) t).1).trans w1, w2, w3⟩
theorem sS_4 {T : List Nat} {Ws : List Wd} {c k : Nat} (h : sS T Ws c k = true) : sK Ws k = 4 := by
  unfold sS at h
  cases e : Ws[k]? with
  | none => rw [e] at h; cases h
  | some x => rw [e] at h; rw [sK_some e]; exact sg_4 h
/-- a sign has no code -/
theorem sC_4 {T : List Nat} {Ws : List Wd} {c k q : Nat} (h : sS T Ws c k = true) (hq : q < 256) : ¬ sC Ws k = nI q := fun z => by
  rw [sS_not hq z] at h; cases h
/-- two signs are one -/
theorem sS_1 {T : List Nat} {Ws : List Wd} {c c' k : Nat} (h : sS T Ws c k = true) (hcc : c ≠ c') : sS T Ws c' k = false := by
  unfold sS at *
  cases e : Ws[k]? with
  | none => rfl
  | some x =>
    rw [e] at h
    simp only at h ⊢
    have h1 := (of_decide_eq_true h).2
    exact decide_eq_false (fun z => by
      have h2 := z.2
      rw [h1] at h2
      first | exact hcc h2 | (cases h2; exact hcc rfl) | (have := Option.some.inj h2; exact hcc this))
theorem N_takeMember {U k p n d : Nat} {f : Nat → Nat} {σ : SG} {T : List Nat} {Ws : List Wd} {D : List Dc} {b : Bool} (hU : 4000 < U) (hS : WS T Ws) (hn : 701 ≤ n + pos Ws k) (hn9 : n < 3000) (hMI : MI σ T Ws k b (d + 1) f D p) (hd : d < 100) :
    NL T Ws σ n (k, mo (d + 1) f, none, none, b) D (x_X12_takeMember U 1101 (nI (d + 1)) σ) := by
  have hMI' := hMI
  obtain ⟨hI, hT, hc0, hc1, h74, hQ, hM, hp⟩ := hMI'
  have hp700 : pos Ws k ≤ 700 := (hI.len hS).2.2
  obtain ⟨n0, hn0⟩ : ∃ n0, n = n0 + 1 := by
    cases n with
    | zero => omega
    | succ n0 => exact ⟨n0, rfl⟩
  have hmo : mo (d + 1) f = some (f d) := by unfold mo; rw [if_neg (by omega)]; try rfl
  have hml : ∀ i, mo (d + 1) f = some i → i ≤ D.length := fun i hi => Nat.le_of_lt (KM_lt (hI.2.2.2.1 i hi))
  have hstep : sStep T Ws (k, mo (d + 1) f, none, none, b) D = sMm T Ws (k, mo (d + 1) f, none, none, b) D := rfl
  have e1 : x_X12_isSign 1101 125 σ = some (zI (sS T Ws 125 k)) := N_isSign (q := 125) hS hQ (by decide)
  have e2 : x_X12_isSign 1101 59 σ = some (zI (sS T Ws 59 k)) := N_isSign (q := 59) hS hQ (by decide)
  have w0' : x_X12_isWord U 1101 30792318992869221 σ = some (zI (decide (sC Ws k = nI 20))) := N_isKw (q := 0) hU hS hQ (by decide) (by decide +kernel)
  have w1' : x_X12_isWord U 1101 1701737837 σ = some (zI (decide (sC Ws k = nI 21))) := N_isKw (q := 1) hU hS hQ (by decide) (by decide +kernel)
  have w2' : x_X12_isWord U 1101 478593511270 σ = some (zI (decide (sC Ws k = nI 22))) := N_isKw (q := 2) hU hS hQ (by decide) (by decide +kernel)
  unfold x_X12_takeMember
  rw [show nI (d + 1) - 1 = nI d by rw [show (1 : Int32) = nI 1 from rfl, nI_sub (by omega)]; rfl, ix_in (by omega) (by decide), oq_mo hT, e1, b1_eq, ifz]
  cases q1 : sS T Ws 125 k with
  | true =>
    simp only [if_true]
    refine NL_word hU hS hn hMI (sS_4 q1) (by omega) ?_
    rw [hstep]
    unfold sMm
    show (if sC Ws k = 40 then none else if sC Ws k = nI 20 then _ else if sC Ws k = nI 21 then _ else if mo (d + 1) f = none then none else if sS T Ws 59 k = true then _ else if sS T Ws 125 k = true then some ((k + 1, scp D (mo (d + 1) f), none, none, b), D) else _) = _
    rw [if_neg (show ¬ sC Ws k = 40 from sC_4 (q := 40) q1 (by decide)), if_neg (sC_4 (q := 20) q1 (by decide)), if_neg (sC_4 (q := 21) q1 (by decide)), if_neg (by rw [hmo]; exact fun z => by cases z), sS_1 (c' := 59) q1 (by decide), if_neg (by decide), if_pos q1, hmo, (hT.2 d (by omega)).2.2]
  | false =>
  simp only [Bool.false_eq_true, if_false]
  rw [e2, b1_eq, ifz]
  cases q2 : sS T Ws 59 k with
  | true =>
    simp only [if_true]
    refine NL_word hU hS hn hMI (sS_4 q2) (by omega) ?_
    rw [hstep]
    unfold sMm
    show (if sC Ws k = 40 then none else if sC Ws k = nI 20 then _ else if sC Ws k = nI 21 then _ else if mo (d + 1) f = none then none else if sS T Ws 59 k = true then some ((k + 1, mo (d + 1) f, none, none, b), D) else _) = _
    rw [if_neg (show ¬ sC Ws k = 40 from sC_4 (q := 40) q2 (by decide)), if_neg (sC_4 (q := 20) q2 (by decide)), if_neg (sC_4 (q := 21) q2 (by decide)), if_neg (by rw [hmo]; exact fun z => by cases z), if_pos q2]
  | false =>
  simp only [Bool.false_eq_true, if_false]
  rw [N_isForeign hU hS hQ, b1_eq, ifz]
  have hk0 : ∀ q, q < 256 → sC Ws k = nI q → sK Ws k ≠ 0 := fun q hq z => by rw [(far_sC hS hq z).2]; decide
  by_cases q3 : sC Ws k = 40
  · rw [decide_eq_true q3]
    simp only [if_true]
    obtain ⟨τ, a1, a2, a3⟩ := N_fail (σ := σ) (v := 2) (w := sI σ 1101 71) (by decide)
    rw [a1, b1_eq]
    refine ⟨_, τ, rfl, f9_Z (fZ_q a3 (by decide)), Or.inr ⟨?_, a2⟩⟩
    rw [hn0]
    refine rd_no (atE_k (hk0 40 (by decide) q3)) ?_
    rw [hstep]
    unfold sMm
    rw [if_pos q3]
  rw [decide_eq_false q3, w0', b1_eq, ifz]
  simp only [Bool.false_eq_true, if_false]
  by_cases q4 : sC Ws k = nI 20
  · rw [decide_eq_true q4]
    simp only [if_true]
    have := N_beginMessage hU hS hn q4 hMI (by omega)
    obtain ⟨v, τ, a1, a2⟩ := this
    rw [a1, b2_eq]
    exact ⟨v, τ, rfl, a2⟩
  rw [decide_eq_false q4, w1', b1_eq, ifz]
  simp only [Bool.false_eq_true, if_false]
  by_cases q5 : sC Ws k = nI 21
  · rw [decide_eq_true q5]
    simp only [if_true]
    exact NL_of hT (N_takeEnum hU hS hn hI hn9 q5 hQ h74 hM hp hc0 hc1)
  rw [decide_eq_false q5, w2', b1_eq, ifz]
  simp only [Bool.false_eq_true, if_false]
  by_cases q6 : sC Ws k = nI 22
  · rw [decide_eq_true q6]
    simp only [if_true]
    have hI2 := hI
    have key : NB T Ws σ n (k, mo (d + 1) f, none, none, b) D (x_X12_takeOneof U 1101 (oq D 0 (mo (d + 1) f)) σ) := by
      rw [hmo] at hI2 ⊢
      exact N_takeOneof hU hS hn hI2 hn9 q6 hQ h74 hM hp hc0 hc1
    exact NL_of hT key
  rw [decide_eq_false q6]
  simp only [Bool.false_eq_true, if_false]
  refine NL_of hT ?_
  have hst : sStep T Ws (k, mo (d + 1) f, none, none, b) D = adv (mo (d + 1) f, none, none, b) D (sFd T Ws (mo (d + 1) f) none k) := by
    rw [hstep]
    unfold sMm
    show (if sC Ws k = 40 then none else if sC Ws k = nI 20 then _ else if sC Ws k = nI 21 then _ else if mo (d + 1) f = none then none else if sS T Ws 59 k = true then _ else if sS T Ws 125 k = true then _ else if sC Ws k = nI 22 then _ else _) = _
    rw [if_neg q3, if_neg q4, if_neg q5, if_neg (by rw [hmo]; exact fun z => by cases z), q2, if_neg (by decide), q1, if_neg (by decide), if_neg q6]
  have hat : atE Ws (k, mo (d + 1) f, none, none, b) = false := by rw [hmo]; exact atE_m
  obtain ⟨τ, a1, a2, a3, a4⟩ := N_takeField (m := mo (d + 1) f) (o := none) hU hS hI.2.2.1 hM hQ h74 hI.2.1 hp hml (fun i hi => by cases hi)
  refine ⟨τ, a1, fZ_X a2, ?_⟩
  cases hs : sFd T Ws (mo (d + 1) f) none k with
  | none =>
    refine Or.inr ⟨?_, a4 hs⟩
    rw [hn0]
    exact rd_no hat (by rw [hst, hs]; rfl)
  | some kd =>
    obtain ⟨k', e⟩ := kd
    obtain ⟨z1, Q1, p', hp', hM1⟩ := a3 k' e hs
    have hst' : sStep T Ws (k, mo (d + 1) f, none, none, b) D = some ((k', mo (d + 1) f, none, none, b), D ++ [e]) := by rw [hst, hs]; try rfl
    have g := sStep_IV hS hI hst'
    have gf : far Ws k k' 1 := g.2
    have d1 := sFd_dO hS hs
    have c0 : cnt (D ++ [e]) 0 = cnt D 0 := by rw [cnt_snoc, if_neg (show ¬ e.1 = 0 from fun z => by have : dK e = 0 := z; omega)]; try rfl
    have c1 : cnt (D ++ [e]) 1 = cnt D 1 := by rw [cnt_snoc, if_neg (show ¬ e.1 = 1 from fun z => by have : dK e = 1 := z; omega)]; try rfl
    subst hn0
    exact Or.inl ⟨n0, k', b, [e], p', rd_step hat hst', by have := gf.2; omega, by omega, g.1, c0, by rw [c0]; have := gf.2; omega, by rw [c1]; have := gf.2; omega, z1, Q1, hM1, hp'⟩
/-- what the whole reading leaves -/
def NS (T : List Nat) (Ws : List Wd) (σ : SG) (o : Option (List Dc)) (x : Option SG) : Prop := ∃ τ, x = some τ ∧ fP P9 σ τ ∧ (∀ D', o = some D' → sI τ 1101 74 = 0 ∧ ∃ p', RM τ T Ws D' p' ∧ cnt D' 0 ≤ 100 ∧ cnt D' 1 ≤ 100 ∧ p' ≤ 350) ∧ (o = none → ¬ sI τ 1101 74 = 0)
theorem NS_e {U U1 : Nat} {v : Int32} {σ υ : SG} {T : List Nat} {Ws : List Wd} (hf : fP P9 σ υ) (h : ¬ sI υ 1101 74 = 0) : NS T Ws σ none (x_X12_readSchema_L105 U 1101 (U1 + 1) v υ) := by
  rw [x_X12_readSchema_L105, if_neg h]
  exact ⟨υ, rfl, hf, fun D' z => (by cases z), fun _ => h⟩
theorem N_schema_L {U : Nat} {T : List Nat} {Ws : List Wd} (hU : 4000 < U) (hS : WS T Ws) : ∀ (N n U1 k p d : Nat) (b : Bool) (f : Nat → Nat) (D : List Dc) (σ : SG), n < N → n + 1 < U1 → n < 3000 → 701 ≤ n + pos Ws k → MI σ T Ws k b d f D p → NS T Ws σ (rd T Ws n (k, mo d f, none, none, b) D) (x_X12_readSchema_L105 U 1101 U1 (nI d) σ) := by
  intro N
  induction N with
  | zero => intro n U1 k p d b f D σ h; omega
  | succ N ih =>
    intro n U1 k p d b f D σ hN hu hn9 hn hMI
    have hMI' := hMI
    obtain ⟨hI, hT, hc0, hc1, h74, hQ, hM, hp⟩ := hMI'
    have hlen := hI.len hS
    have hp700 : pos Ws k ≤ 700 := hlen.2.2
    have hd100 : d ≤ 100 := by have := hT.1; omega
    cases U1 with
    | zero => omega
    | succ U1 =>
    have hcont : ∀ (x : Option (Int32 × SG)), NL T Ws σ n (k, mo d f, none, none, b) D x → NS T Ws σ (rd T Ws n (k, mo d f, none, none, b) D) (b2 x fun v τ => x_X12_readSchema_L105 U 1101 U1 v τ) := by
      intro x hx
      obtain ⟨v, τ, a1, a2, a3⟩ := hx
      rw [a1, b2_eq]
      rcases a3 with ⟨n', k', b', D', p', d', f', g1, g2, g3, g4, g5⟩ | ⟨g1, g2⟩
      · rw [g1, g2]
        obtain ⟨υ, w1, w2, w3⟩ := ih n' U1 k' p' d' b' f' D' τ (by omega) (by omega) (by omega) g3 g5
        exact ⟨υ, w1, fP_trans a2 w2, w3⟩
      · rw [g1]
        cases U1 with
        | zero => omega
        | succ U2 => exact NS_e a2 g2
    rw [x_X12_readSchema_L105, if_pos h74]
    obtain ⟨n0, hn0⟩ : ∃ n0, n = n0 + 1 := by
      cases n with
      | zero => omega
      | succ n0 => exact ⟨n0, rfl⟩
    cases d with
    | succ d =>
      rw [if_pos (show (0 : Int32) < nI (d + 1) from (ltI (a := 0) (by decide) (by omega)).mpr (by omega))]
      unfold x_X12_readSchema_123
      rw [if_pos (show (0 : Int32) < nI (d + 1) from (ltI (a := 0) (by decide) (by omega)).mpr (by omega))]
      exact hcont _ (N_takeMember hU hS hn hn9 hMI (by omega))
    | zero =>
      rw [if_neg (show ¬ (0 : Int32) < nI 0 by decide), N_kind hQ]
      have hk6 : sK Ws k < 100 := by
        obtain ⟨_, x, hx, _⟩ := hQ
        rw [sK_some hx]
        have := (hS.G.2 _ _ hx).1
        omega
      have hmo : mo 0 f = none := rfl
      by_cases q0 : sK Ws k = 0
      · rw [if_pos (show nI (sK Ws k) = 0 by rw [q0]; rfl)]
        have ha : atE Ws (k, mo 0 f, none, none, b) = true := decide_eq_true ⟨q0, rfl, rfl, rfl⟩
        rw [hn0, rd, ha]
        exact ⟨σ, rfl, fP_refl _ σ, fun D' z => (by cases z; exact ⟨h74, p, hM, by omega, by omega, by omega⟩), fun z => (by cases z)⟩
      · rw [if_neg (show ¬ nI (sK Ws k) = 0 from fun z => q0 ((nI_eq (b := 0) (by omega) (by decide)).mp z))]
        unfold x_X12_readSchema_123
        rw [if_neg (show ¬ (0 : Int32) < nI 0 by decide), N_isForeign hU hS hQ, b1_eq, ifz]
        have bad : ∀ υ, ¬ sI υ 1101 74 = 0 → fP P9 σ υ → sMm T Ws (k, mo 0 f, none, none, b) D = none → NS T Ws σ (rd T Ws n (k, mo 0 f, none, none, b) D) (x_X12_readSchema_L105 U 1101 U1 (nI 0) υ) := by
          intro υ zυ fυ hno
          have hr : rd T Ws n (k, mo 0 f, none, none, b) D = none := by
            rw [hn0]
            exact rd_no (atE_k q0) hno
          rw [hr]
          cases U1 with
          | zero => omega
          | succ U2 => exact NS_e fυ zυ
        by_cases q3 : sC Ws k = 40
        · rw [decide_eq_true q3]
          simp only [if_true]
          obtain ⟨τ, a1, a2, a3⟩ := N_fail (σ := σ) (v := 2) (w := sI σ 1101 71) (by decide)
          rw [a1, b1_eq]
          refine bad τ a2 (f9_Z (fZ_q a3 (by decide))) ?_
          unfold sMm
          rw [if_pos q3]
        rw [decide_eq_false q3]
        simp only [Bool.false_eq_true, if_false]
        have w0' : x_X12_isWord U 1101 30792318992869221 σ = some (zI (decide (sC Ws k = nI 20))) := N_isKw (q := 0) hU hS hQ (by decide) (by decide +kernel)
        have w1' : x_X12_isWord U 1101 1701737837 σ = some (zI (decide (sC Ws k = nI 21))) := N_isKw (q := 1) hU hS hQ (by decide) (by decide +kernel)
        rw [w0', b1_eq, ifz]
        by_cases q4 : sC Ws k = nI 20
        · rw [decide_eq_true q4]
          simp only [if_true]
          exact hcont _ (N_beginMessage (d := 0) hU hS hn q4 hMI (by decide))
        rw [decide_eq_false q4, w1', b1_eq, ifz]
        simp only [Bool.false_eq_true, if_false]
        by_cases q5 : sC Ws k = nI 21
        · rw [decide_eq_true q5]
          simp only [if_true]
          have key := NL_of hT (N_takeEnum hU hS hn hI hn9 q5 hQ h74 hM hp hc0 hc1)
          have := hcont _ key
          obtain ⟨υ, u1, u2⟩ := N_takeEnum hU hS hn hI hn9 q5 hQ h74 hM hp hc0 hc1
          have e : x_X12_takeEnum U 1101 (-1) σ = some υ := u1
          rw [u1, b1_eq, b2_eq] at this
          rw [e, b1_eq]
          exact this
        rw [decide_eq_false q5]
        simp only [Bool.false_eq_true, if_false]
        obtain ⟨τ, a1, a2, a3⟩ := N_fail (σ := σ) (v := 1) (w := sI σ 1101 71) (by decide)
        rw [a1, b1_eq]
        refine bad τ a2 (f9_Z (fZ_q a3 (by decide))) ?_
        unfold sMm
        show (if sC Ws k = 40 then none else if sC Ws k = nI 20 then _ else if sC Ws k = nI 21 then _ else if mo 0 f = none then none else _) = _
        rw [if_neg q3, if_neg q4, if_neg q5, if_pos hmo]
/-- the reference reads a schema -/
theorem N_97 {U : Nat} {σ0 σ : SG} {T : List Nat} {Ws : List Wd} (hU : 4000 < U) (hS : WS T Ws) (hf : fP P9 σ0 σ) (h74 : sI σ 1101 74 = 0) (hQ : QX σ T Ws 3) (hM : RM σ T Ws [] 0) :
    NS T Ws σ0 (if sS T Ws 59 3 then rd T Ws 701 (4, none, none, none, false) [] else none) (x_X12_readSchema_97 U 1101 σ) := by
  unfold x_X12_readSchema_97
  obtain ⟨σ26, a1, a2, a3, a4⟩ := N_takeSign (q := 59) hU hS hQ h74 (by decide)
  have a1' : x_X12_takeSign U 1101 59 σ = some σ26 := a1
  rw [a1', b1_eq]
  cases q : sS T Ws 59 3 with
  | false =>
    simp only [Bool.false_eq_true, if_false]
    cases U with
    | zero => omega
    | succ U1 => exact NS_e (fP_trans hf (f9_Z (fZ_q a2 (by decide)))) (a4 (by rw [q]; rfl))
  | true =>
    simp only [if_true]
    obtain ⟨z26, Q26⟩ := a3 4 (by rw [q]; rfl)
    have hx : ∃ y, Ws[4]? = some y := by obtain ⟨_, x, hx, _⟩ := Q26; exact ⟨x, hx⟩
    have I0 : IV Ws (4, mo 0 (fun _ => 0), none, none, false) [] := ⟨hx, Nat.zero_le _, WF_nil, fun m h => (by cases h), fun m h => (by cases h), fun m h => (by cases h)⟩
    have key := N_schema_L hU hS 702 701 U 4 0 0 false (fun _ => 0) [] σ26 (by decide) (by omega) (by decide) (by omega) ⟨I0, ⟨Nat.zero_le _, fun t ht => (by omega)⟩, Nat.zero_le _, Nat.zero_le _, z26, Q26, RM_q hM a2, Nat.zero_le _⟩
    obtain ⟨τ, w1, w2, w3⟩ := key
    exact ⟨τ, w1, fP_trans hf (fP_trans (f9_Z (fZ_q a2 (by decide))) w2), w3⟩
theorem N_97e {U : Nat} {σ0 σ : SG} {T : List Nat} {Ws : List Wd} (hU : 4000 < U) (hf : fP P9 σ0 σ) (h74 : ¬ sI σ 1101 74 = 0) : NS T Ws σ0 none (x_X12_readSchema_97 U 1101 σ) := by
  unfold x_X12_readSchema_97
  rw [N_takeSign_e h74, b1_eq]
  cases U with
  | zero => omega
  | succ U1 => exact NS_e hf h74
theorem N_readSchema {U : Nat} {σ : SG} {T : List Nat} (hU : 4000 < U) (hL : LR σ T) : NS T (wl T 701 0) σ (dcl T) (x_X12_readSchema U 1101 σ) := by
  have hS : WS T (wl T 701 0) := WS_wl hL.2.2.2 hL.2.2.1
  unfold dcl
  generalize wl T 701 0 = Ws at *
  unfold x_X12_readSchema rdS sSy
  rw [sb_eq, sb_eq, sb_eq, sb_eq, sb_eq, sb_eq, sb_eq, sb_eq, sb_eq]
  have L9 : LR (uI (uI (uI (uI (uI (uI (uI (uI (uI σ 1101 74 0) 1101 76 0) 1101 32 0) 1101 33 0) 1101 34 0) 1101 35 0) 1101 36 0) 1101 37 0) 1101 38 0) T := ((((((((hL.u (by decide)).u (by decide)).u (by decide)).u (by decide)).u (by decide)).u (by decide)).u (by decide)).u (by decide)).u (by decide)
  have c9 : ∀ i, i ∈ [74, 76, 32, 33, 34, 35, 36, 37, 38] → sI (uI (uI (uI (uI (uI (uI (uI (uI (uI σ 1101 74 0) 1101 76 0) 1101 32 0) 1101 33 0) 1101 34 0) 1101 35 0) 1101 36 0) 1101 37 0) 1101 38 0) 1101 i = 0 := by
    intro i hi
    simp only [sI_uI]
    simp only [List.mem_cons, List.not_mem_nil, or_false] at hi
    rcases hi with h | h | h | h | h | h | h | h | h <;> subst h <;> simp
  have f9 : fP P9 σ (uI (uI (uI (uI (uI (uI (uI (uI (uI σ 1101 74 0) 1101 76 0) 1101 32 0) 1101 33 0) 1101 34 0) 1101 35 0) 1101 36 0) 1101 37 0) 1101 38 0) := by
    refine fP_trans (fP_trans (fP_trans (fP_trans (fP_trans (fP_trans (fP_trans (fP_trans (fP_u ?_) (fP_u ?_)) (fP_u ?_)) (fP_u ?_)) (fP_u ?_)) (fP_u ?_)) (fP_u ?_)) (fP_u ?_)) (fP_u ?_)
    all_goals exact Or.inl (Or.inl ⟨rfl, by decide⟩)
  generalize (uI (uI (uI (uI (uI (uI (uI (uI (uI σ 1101 74 0) 1101 76 0) 1101 32 0) 1101 33 0) 1101 34 0) 1101 35 0) 1101 36 0) 1101 37 0) 1101 38 0) = σ9 at *
  obtain ⟨σ11, a1, a2, a3⟩ := X12_look (p := 0) hU L9 (Nat.zero_le _) (c9 76 (by decide))
  have a1' : x_X12_look U 1101 0 σ9 = some σ11 := a1
  rw [a1', b1_eq]
  have f11 : fP P9 σ σ11 := fP_trans f9 (f9_Z (fZ_q a3 (by decide)))
  have Q11 : QX σ11 T Ws 0 := ⟨L9.fq a3 (by decide), nw T 0, hS.2.2.1, a2⟩
  have z11 : sI σ11 1101 74 = 0 := (a3.2.1 74 (by decide)).trans (c9 74 (by decide))
  have M11 : RM σ11 T Ws [] 0 := by
    refine ⟨fun q hq => ?_, ?_, ?_, fun i d hd => by simp at hd⟩
    · rw [a3.2.1 (32 + q) (by simp only [List.mem_cons, List.not_mem_nil, or_false]; omega), c9 (32 + q) (by simp only [List.mem_cons, List.not_mem_nil, or_false]; omega)]; try rfl
    · rw [a3.2.1 37 (by decide), c9 37 (by decide)]; try rfl
    · rw [a3.2.1 38 (by decide), c9 38 (by decide)]; try rfl
  obtain ⟨σ13, b1', b2', b3, b4⟩ := N_takeWord (q := 4) (w := 126965381357944) hU hS Q11 z11 (by decide) (by decide +kernel)
  rw [b1', b1_eq]
  have f13 : fP P9 σ σ13 := fP_trans f11 (f9_Z (fZ_q b2' (by decide)))
  have M13 := RM_q M11 b2'
  -- an error
  have bad : ∀ υ, ¬ sI υ 1101 74 = 0 → fP P9 σ υ → NS T Ws σ none (x_X12_readSchema_86 U 1101 υ) := fun υ z g => by
    unfold x_X12_readSchema_86
    rw [if_neg z]
    exact N_97e hU g z
  by_cases q1 : sC Ws 0 = nI 24
  · rw [decide_eq_true q1]
    obtain ⟨z13, Q13⟩ := b3 1 (if_pos q1)
    obtain ⟨σ15, c1, c2, c3, c4⟩ := N_takeSign (q := 61) hU hS Q13 z13 (by decide)
    have c1' : x_X12_takeSign U 1101 61 σ13 = some σ15 := c1
    rw [c1', b1_eq]
    have f15 : fP P9 σ σ15 := fP_trans f13 (f9_Z (fZ_q c2 (by decide)))
    have M15 := RM_q M13 c2
    cases q2 : sS T Ws 61 1 with
    | false =>
      have z15 := c4 (by rw [q2]; rfl)
      rw [if_neg z15]
      simp only [Bool.and_false, Bool.false_and, Bool.false_eq_true, if_false]
      exact bad σ15 z15 f15
    | true =>
      obtain ⟨z15, Q15⟩ := c3 2 (by rw [q2]; rfl)
      rw [if_pos z15]
      obtain ⟨hL5, x, hx, hC5⟩ := Q15
      have Q15 : QX σ15 T Ws 2 := ⟨hL5, x, hx, hC5⟩
      rw [X12_isProto3 hU hL5 (hS.G.2 _ _ hx) hC5, b1_eq, ifz, hx]
      simp only [Bool.true_and]
      by_cases q3 : x.1 = 3 ∧ x.2.2.2 = Int32.toInt64 (nI 28)
      · rw [decide_eq_true q3]
        simp only [if_true, Bool.true_and]
        unfold x_X12_readSchema_86
        rw [if_pos z15]
        obtain ⟨σ24, d1, d2, d3⟩ := N_next hU hS Q15 (by rw [sK_some hx]; omega) (by rw [sK_some hx]; omega)
        rw [d1, b1_eq]
        exact N_97 hU hS (fP_trans f15 (f9_Z (fZ_q d3 (by decide)))) ((d3.2.1 74 (by decide)).trans z15) d2 (RM_q M15 (fq_mono d3 (by decide)))
      · rw [decide_eq_false q3]
        simp only [Bool.false_eq_true, if_false, Bool.false_and]
        obtain ⟨τ, g1, g2, g3⟩ := N_fail (σ := σ15) (v := 1) (w := sI σ15 1101 71) (by decide)
        rw [g1, b1_eq]
        exact bad τ g2 (fP_trans f15 (f9_Z (fZ_q g3 (by decide))))
  · rw [decide_eq_false q1]
    simp only [Bool.false_and, Bool.false_eq_true, if_false]
    have z13 := b4 (if_neg q1)
    rw [N_takeSign_e z13, b1_eq, if_neg z13]
    exact bad σ13 z13 f13
/-! ===== names: what a declaration's words are; comparing texts ===== -/
/-- the first place whose thing has a property, from a place on -/
def ff {α : Type} (p : α → Bool) : List α → Nat → Option Nat
  | [], _ => none
  | d :: L, k => if p d then some k else ff p L (k + 1)
theorem ff_some {α : Type} {p : α → Bool} : ∀ (L : List α) (k i : Nat), ff p L k = some i → ∃ d, L[i - k]? = some d ∧ p d = true ∧ k ≤ i ∧ ∀ j x, j < i - k → L[j]? = some x → p x = false := by
  intro L
  induction L with
  | nil => intro k i h; cases h
  | cons d L ih =>
    intro k i h
    rw [ff] at h
    cases e : p d with
    | true =>
      rw [e, if_pos rfl] at h
      cases h
      exact ⟨d, by rw [Nat.sub_self]; rfl, e, Nat.le_refl _, fun j x hj => by omega⟩
    | false =>
      rw [e, if_neg (by decide)] at h
      obtain ⟨x, h1, h2, h3, h4⟩ := ih (k + 1) i h
      have hi : i - k = (i - (k + 1)) + 1 := by omega
      refine ⟨x, by rw [hi]; exact h1, h2, by omega, fun j y hj hy => ?_⟩
      cases j with
      | zero => simp at hy; rw [← hy]; exact e
      | succ j => exact h4 j y (by omega) hy
theorem ff_none {α : Type} {p : α → Bool} : ∀ (L : List α) (k : Nat), ff p L k = none → ∀ x ∈ L, p x = false := by
  intro L
  induction L with
  | nil => intro k _ x hx; cases hx
  | cons d L ih =>
    intro k h x hx
    rw [ff] at h
    cases e : p d with
    | true => rw [e, if_pos rfl] at h; cases h
    | false =>
      rw [e, if_neg (by decide)] at h
      rcases List.mem_cons.mp hx with q | q
      · rw [q]; exact e
      · exact ih (k + 1) h x q
theorem ff_here {α : Type} {p : α → Bool} : ∀ (L : List α) (k i : Nat) (d : α), L[i]? = some d → p d = true → (∀ j x, j < i → L[j]? = some x → p x = false) → ff p L k = some (k + i) := by
  intro L
  induction L with
  | nil => intro k i d h; simp at h
  | cons a L ih =>
    intro k i d h hp hb
    rw [ff]
    cases i with
    | zero => simp at h; rw [h, hp, if_pos rfl]; try rfl
    | succ i =>
      rw [hb 0 a (by omega) rfl, if_neg (by decide), ih (k + 1) i d (by simpa using h) hp (fun j x hj hx => hb (j + 1) x (by omega) (by simpa using hx))]
      congr 1; omega
theorem ff_no {α : Type} {p : α → Bool} : ∀ (L : List α) (k : Nat), (∀ x ∈ L, p x = false) → ff p L k = none := by
  intro L
  induction L with
  | nil => intro k _; try rfl
  | cons a L ih =>
    intro k h
    rw [ff, h a (List.mem_cons_self ..), if_neg (by decide)]
    exact ih _ (fun x hx => h x (List.mem_cons_of_mem _ hx))
theorem ff_drop {α : Type} {p : α → Bool} {L : List α} {k : Nat} {d : α} (h : L[k]? = some d) : ff p (L.drop k) k = if p d then some k else ff p (L.drop (k + 1)) (k + 1) := by
  obtain ⟨hk, he⟩ := List.getElem?_eq_some_iff.mp h
  rw [List.drop_eq_getElem_cons hk, ff, he]
theorem nB_inj {a b : Nat} (ha : a < 256) (hb : b < 256) : nB a = nB b ↔ a = b := by
  refine ⟨fun h => ?_, fun h => by rw [h]⟩
  have h1 := nB_and ha
  rw [h, nB_and hb, nI_eq (by omega) (by omega)] at h1
  exact h1.symm
theorem slc_cons {T : List Nat} {s e : Nat} (h : s < e) (hs : s < T.length) : slc T s e = T[s] :: slc T (s + 1) e := by
  unfold slc
  rw [List.drop_eq_getElem_cons hs, show e - s = (e - (s + 1)) + 1 by omega, List.take_succ_cons]
theorem slc_nil {T : List Nat} {s e : Nat} (h : e ≤ s) : slc T s e = [] := by unfold slc; rw [show e - s = 0 by omega, List.take_zero]
theorem slc_out {T : List Nat} {s e : Nat} (h : T.length ≤ s) : slc T s e = [] := by unfold slc; rw [List.drop_eq_nil_of_le h, List.take_nil]
theorem ifd {α : Type} {p q : Prop} [Decidable p] [Decidable q] (h : p ↔ q) {A B : α} : (if p then A else B) = if q then A else B := by
  by_cases hp : p
  · rw [if_pos hp, if_pos (h.mp hp)]
  · rw [if_neg hp, if_neg (fun z => hp (h.mpr z))]
theorem zI_if {p : Prop} [Decidable p] : (if p then some 1 else some 0) = some (zI (decide p)) := by
  by_cases h : p
  · rw [if_pos h, decide_eq_true h]; try rfl
  · rw [if_neg h, decide_eq_false h]; try rfl
/-- the class compares two pieces of texts -/
theorem X0_isSame_L {U a b f to p : Nat} {σ : SG} {T S : List Nat} {z y : Int32} (hb0 : sh b = 0) (ha : RB σ a T z) (hb : RB σ b S y) (hto : to ≤ S.length) (hp : p < 2 ^ 30) : ∀ (j k U1 : Nat), k + j = to → f ≤ k → j < U1 →
    x_X0_isSame_L32 U a (nI p) (some b) (nI f) (nI to) σ U1 (nI k) = some (zI (decide (slc T (p + (k - f)) (p + (to - f)) = slc S k to))) := by
  have hla := ln_small (a + 1)
  have hlb := ln_small (b + 1)
  have hSl : S.length ≤ 4000 := Nat.le_trans hb.2.2.1 hlb
  have hTl : T.length ≤ 4000 := Nat.le_trans ha.2.2.1 hla
  intro j
  induction j with
  | zero =>
    intro k U1 hk hf hu
    obtain ⟨V, rfl⟩ : ∃ V, U1 = V + 1 := ⟨U1 - 1, by omega⟩
    rw [x_X0_isSame_L32, if_neg (fun q => by have := (ltI (by omega) (by omega)).mp q; omega), slc_nil (by omega), slc_nil (by omega)]
    try rfl
  | succ j ih =>
    intro k U1 hk hf hu
    obtain ⟨V, rfl⟩ : ∃ V, U1 = V + 1 := ⟨U1 - 1, by omega⟩
    have hkS : k < S.length := by omega
    rw [x_X0_isSame_L32, if_pos ((ltI (by omega) (by omega)).mpr (by omega)), nI_add, nI_sub (by omega), show p + k - f = p + (k - f) by omega, ha.1, slc_cons (show k < to by omega) hkS]
    by_cases hq : p + (k - f) < T.length
    · rw [if_pos ((ltI (by omega) (by omega)).mpr hq), if_pos ((ltI (by omega) (by omega)).mpr (by have := ha.2.2.1; omega)), ix_in (by have := ha.2.2.1; omega) (by omega), ck_eq hb0, ix_in (by have := hb.2.2.1; omega) (by omega), ha.2.2.2.1 _ _ (List.getElem?_eq_getElem hq), hb.2.2.2.1 _ _ (List.getElem?_eq_getElem hkS), slc_cons (show p + (k - f) < p + (to - f) by omega) hq, nI_1, ih (k + 1) V (by omega) (by omega) (by omega), show p + (k + 1 - f) = p + (k - f) + 1 by omega]
      by_cases hc : T[p + (k - f)] = S[k]
      · rw [if_pos (by rw [hc]), hc]
        congr 2
        apply Bool.eq_iff_iff.mpr
        rw [decide_eq_true_iff, decide_eq_true_iff]
        exact ⟨fun q => by rw [q], fun q => (List.cons.inj q).2⟩
      · rw [if_neg (fun q => hc ((nB_inj (ha.2.2.2.2 _ (List.getElem_mem hq)) (hb.2.2.2.2 _ (List.getElem_mem hkS))).mp q)), decide_eq_false (fun q => hc (List.cons.inj q).1)]
        try rfl
    · rw [if_neg (fun q => hq ((ltI (by omega) (by omega)).mp q)), slc_out (by omega), decide_eq_false (by intro q; cases q)]
      try rfl
theorem X0_isSame {U a b f to p : Nat} {σ : SG} {T S : List Nat} {z y : Int32} (hU : 4000 < U) (hb0 : sh b = 0) (ha : RB σ a T z) (hb : RB σ b S y) (hf : f ≤ to) (hto : to ≤ S.length) (hp : p < 2 ^ 30) :
    x_X0_isSame U a (nI p) (some b) (nI f) (nI to) σ = some (zI (decide (slc T p (p + (to - f)) = slc S f to))) := by
  have hlb := ln_small (b + 1)
  have hSl : S.length ≤ ln (b + 1) := hb.2.2.1
  unfold x_X0_isSame
  rw [if_neg (nI_neg (by omega)), if_neg (nI_neg (by omega)), ck_eq hb0, hb.1, if_neg (fun q => by have := (ltI (by omega) (by omega)).mp q; omega), if_neg (fun q => by have := (ltI (by omega) (by omega)).mp q; omega), X0_isSame_L hb0 ha hb hto hp (to - f) f U (by omega) (Nat.le_refl _) (by omega), Nat.sub_self, Nat.add_zero]
/-- the reference compares two pieces of its tape -/
theorem N_sameText_L {U a b n : Nat} {σ : SG} {T : List Nat} (hL : LR σ T) (ha : a + n ≤ T.length) (hb : b + n ≤ T.length) : ∀ (j k U1 : Nat), k + j = n → j < U1 →
    x_X12_sameText_L11 U 1101 (nI a) (nI n) (nI b) σ U1 (nI k) = some (zI (decide (slc T (a + k) (a + n) = slc T (b + k) (b + n)))) := by
  have hl := hL.2.2.1
  intro j
  induction j with
  | zero =>
    intro k U1 hk hu
    obtain ⟨V, rfl⟩ : ∃ V, U1 = V + 1 := ⟨U1 - 1, by omega⟩
    rw [x_X12_sameText_L11, if_neg (fun q => by have := (ltI (by omega) (by omega)).mp q; omega), slc_nil (by omega), slc_nil (by omega)]
    try rfl
  | succ j ih =>
    intro k U1 hk hu
    obtain ⟨V, rfl⟩ : ∃ V, U1 = V + 1 := ⟨U1 - 1, by omega⟩
    have h1 : a + k < T.length := by omega
    have h2 : b + k < T.length := by omega
    rw [x_X12_sameText_L11, if_pos ((ltI (by omega) (by omega)).mpr (by omega)), nI_add, nI_add, ix_in (by omega) (by decide), ix_in (by omega) (by decide), hL.2.1 _ _ (List.getElem?_eq_getElem h1), hL.2.1 _ _ (List.getElem?_eq_getElem h2), nI_1, ih (k + 1) V (by omega) (by omega), slc_cons (show a + k < a + n by omega) h1, slc_cons (show b + k < b + n by omega) h2]
    have c1 := hL.2.2.2 _ (List.getElem_mem h1)
    have c2 := hL.2.2.2 _ (List.getElem_mem h2)
    by_cases hc : T[a + k] = T[b + k]
    · rw [if_pos (by rw [hc]), hc]
      congr 2
      apply Bool.eq_iff_iff.mpr
      rw [decide_eq_true_iff, decide_eq_true_iff]
      exact ⟨fun q => by rw [show a + k + 1 = a + (k + 1) by omega, show b + k + 1 = b + (k + 1) by omega, q], fun q => (List.cons.inj q).2⟩
    · rw [if_neg (fun q => hc ((nI_eq (by omega) (by omega)).mp q)), decide_eq_false (fun q => hc (List.cons.inj q).1)]
      try rfl
theorem N_sameText {U a b n m : Nat} {σ : SG} {T : List Nat} (hU : 4000 < U) (hL : LR σ T) (ha : a + n ≤ T.length) (hb : b + m ≤ T.length) :
    x_X12_sameText U 1101 (nI a) (nI n) (nI b) (nI m) σ = some (zI (decide (slc T a (a + n) = slc T b (b + m)))) := by
  have hl := hL.2.2.1
  unfold x_X12_sameText
  by_cases h : n = m
  · subst h
    have := N_sameText_L (U := U) hL ha hb n 0 U (by omega) (by omega)
    rw [if_pos rfl]
    exact this
  · rw [if_neg (fun q => h ((nI_eq (by omega) (by omega)).mp q)), decide_eq_false]
    · rfl
    · intro q
      have := congrArg List.length q
      rw [slc_len (by omega) ha, slc_len (by omega) hb] at this
      omega
/-! ===== what every declaration that was read is ===== -/
theorem WS.nw {T : List Nat} {Ws : List Wd} (h : WS T Ws) : ∀ (k : Nat) (x : Wd), Ws[k]? = some x → ∃ p, p ≤ T.length ∧ x = nw T p := by
  intro k
  induction k with
  | zero => intro x hx; exact ⟨0, Nat.zero_le _, by have := h.2.2.1; rw [hx] at this; exact Option.some.inj this⟩
  | succ k ih =>
    intro y hy
    cases e : Ws[k]? with
    | none =>
      have : Ws.length ≤ k := by simpa using e
      rw [List.getElem?_eq_none (by omega)] at hy
      cases hy
    | some x =>
      obtain ⟨a1, a2, a3⟩ := h.2.2.2 k x e
      by_cases h0 : x.1 = 0 ∨ x.1 = 5
      · rw [a3 h0] at hy; cases hy
      · have h0' : x.1 ≠ 0 := fun z => h0 (Or.inl z)
        have h5' : x.1 ≠ 5 := fun z => h0 (Or.inr z)
        rw [a2 h0' h5'] at hy
        exact ⟨x.2.2.1, (a1.2.2.1 h0' h5').2, (Option.some.inj hy).symm⟩
/-- a name: begins with a letter, holds letters, digits and _ alone -/
def NMo (N : List Nat) : Prop := (∃ c, N[0]? = some c ∧ pL c = true) ∧ ∀ c ∈ N, pW c = true
theorem lx_name {T : List Nat} {p : Nat} {u : Bool} (h : (lx T p u).1 = 1) : NMo (slc T (lx T p u).2.1 (lx T p u).2.2.1) := by
  unfold lx at h ⊢
  cases e : T[p]? with
  | none => rw [e] at h; simp only at h; cases u <;> cases h
  | some c =>
    rw [e] at h
    simp only at h ⊢
    by_cases hc : pL c = true
    · rw [if_pos hc]
      obtain ⟨hp, he⟩ := List.getElem?_eq_some_iff.mp e
      have hs : slc T p (p + rn pW T p) = (T.drop p).takeWhile pW := by
        unfold slc rn
        rw [show p + ((T.drop p).takeWhile pW).length - p = ((T.drop p).takeWhile pW).length by omega]
        exact (List.prefix_iff_eq_take.mp (List.takeWhile_prefix pW)).symm
      show NMo (slc T p (p + rn pW T p))
      rw [hs]
      refine ⟨⟨c, ?_, hc⟩, fun x hx => ?_⟩
      · rw [List.drop_eq_getElem_cons hp, he, List.takeWhile_cons, pL_W c hc, if_pos rfl]; try rfl
      · exact List.all_eq_true.mp List.all_takeWhile x hx
    · rw [if_neg hc] at h
      exfalso
      by_cases hd : pD c = true
      · rw [if_pos hd] at h
        simp only at h
        split at h <;> cases h
      · rw [if_neg hd] at h
        by_cases h34 : c = 34
        · rw [if_pos h34] at h
          split at h <;> cases h
        · rw [if_neg h34] at h; cases h
/-- a declaration's name is a name -/
def GN (T : List Nat) (d : Dc) : Prop := dA d < dE d ∧ dE d ≤ T.length ∧ NMo (slc T (dA d) (dE d))
theorem GN_of {T : List Nat} {Ws : List Wd} {k : Nat} {x : Wd} {d : Dc} (h : WS T Ws) (hx : Ws[k]? = some x) (h1 : x.1 = 1) (ha : dA d = x.2.1) (he : dE d = x.2.2.1) : GN T d := by
  have g := (h.G.2 _ _ hx).2.2.1 (by rw [h1]; decide) (by rw [h1]; decide)
  obtain ⟨p, hp, e⟩ := h.nw k x hx
  refine ⟨by rw [ha, he]; exact g.1, by rw [he]; exact g.2, ?_⟩
  rw [ha, he, e]
  rw [e] at h1
  exact lx_name h1
/-- what is known of a field's or value's words -/
def GF (T : List Nat) (Ws : List Wd) (d : Dc) : Prop := (dN d).2 ≤ 2 ^ 40 ∧ dP d ≤ 2 ∧ (dK d = 2 → (dN d).1 = false ∧ dT d ≤ 13 ∧ (dT d = 13 → ∃ k', sTy T Ws (dW d) = some k')) ∧ (dK d ≠ 2 → dT d = 0) ∧ (dR d = true → dO d = none)
theorem sNu_g {T : List Nat} {Ws : List Wd} {b : Bool} {k k' : Nat} {v : Bool × Nat} (h : WS T Ws) (hs : sNu T Ws b k = some (k', v)) : v.2 ≤ 2 ^ 40 ∧ (b = false → v.1 = false) := by
  have nu : ∀ (j : Nat) (x : Wd), Ws[j]? = some x → x.1 = 2 → nuX x ≤ 2 ^ 40 := fun j x hx h2 => by
    have g := (h.G.2 _ _ hx).2.2.2.2.2.2 h2
    obtain ⟨n, hn, e⟩ := g
    unfold nuX
    rw [e, pk_lT (by omega)]
    omega
  unfold sNu at hs
  cases e : Ws[k]? with
  | none => rw [e] at hs; cases hs
  | some x =>
    rw [e] at hs
    simp only at hs
    by_cases q : b = true ∧ sgX T x 45 = true
    · rw [if_pos q] at hs
      cases e2 : Ws[k + 1]? with
      | none => rw [e2] at hs; cases hs
      | some y =>
        rw [e2] at hs
        simp only at hs
        by_cases q2 : y.1 = 2
        · rw [if_pos q2] at hs
          cases hs
          exact ⟨nu _ y e2 q2, fun z => by rw [z] at q; cases q.1⟩
        · rw [if_neg q2] at hs; cases hs
    · rw [if_neg q] at hs
      by_cases q2 : x.1 = 2
      · rw [if_pos q2] at hs
        cases hs
        exact ⟨nu _ x e q2, fun _ => rfl⟩
      · rw [if_neg q2] at hs; cases hs
theorem sPk_g {T : List Nat} {Ws : List Wd} {k k' v : Nat} (hs : sPk T Ws k = some (k', v)) : v ≤ 2 := by
  unfold sPk at hs
  split at hs
  · split at hs
    · split at hs
      · split at hs
        · split at hs
          · cases hs; split <;> decide
          · cases hs
        · cases hs
      · cases hs
    · cases hs
  · cases hs; decide
theorem sFe_g {T : List Nat} {Ws : List Wd} {m o : Option Nat} {t w k k' : Nat} {r : Bool} {d : Dc} (h : WS T Ws) (hs : sFe T Ws m o t w r k = some (k', d)) (ht : t ≤ 13) (hw : t = 13 → ∃ k', sTy T Ws w = some k') (hro : r = true → o = none) : GN T d ∧ GF T Ws d := by
  unfold sFe at hs
  cases e : Ws[k]? with
  | none => rw [e] at hs; cases hs
  | some x =>
    rw [e] at hs
    simp only at hs
    by_cases q : x.1 = 1
    · rw [if_pos q] at hs
      by_cases q2 : sS T Ws 61 (k + 1) = true
      · rw [if_pos q2] at hs
        cases e3 : sNu T Ws false (k + 2) with
        | none => rw [e3] at hs; cases hs
        | some y =>
          obtain ⟨k4, v⟩ := y
          rw [e3] at hs
          simp only at hs
          cases e4 : sPk T Ws k4 with
          | none => rw [e4] at hs; cases hs
          | some y =>
            obtain ⟨k5, pk⟩ := y
            rw [e4] at hs
            simp only at hs
            by_cases q5 : sS T Ws 59 k5 = true
            · rw [if_pos q5] at hs
              cases hs
              have g := sNu_g h e3
              exact ⟨GN_of h e q rfl rfl, g.1, sPk_g e4, fun _ => ⟨g.2 rfl, ht, hw⟩, fun z => absurd rfl z, hro⟩
            · rw [if_neg q5] at hs; cases hs
      · rw [if_neg q2] at hs; cases hs
    · rw [if_neg q] at hs; cases hs
theorem sFd_g {T : List Nat} {Ws : List Wd} {m o : Option Nat} {k k' : Nat} {d : Dc} (h : WS T Ws) (hs : sFd T Ws m o k = some (k', d)) : GN T d ∧ GF T Ws d := by
  have ft : ∀ (r : Bool) (j : Nat), (r = true → o = none) → sFt T Ws m o r j = some (k', d) → GN T d ∧ GF T Ws d := by
    intro r j hro hj
    unfold sFt at hj
    cases e : sPl Ws j with
    | true =>
      rw [e] at hj
      simp only [if_true] at hj
      have hp : ¬ sC Ws j < 0 ∧ ¬ 12 < sC Ws j := of_decide_eq_true e
      refine sFe_g h hj ?_ ?_ hro
      · obtain ⟨n, hn, e2⟩ := nI_of hp.1
        rw [e2, nI_clamp hn]
        have : ¬ 12 < n := fun z => hp.2 (by rw [e2]; exact (ltI (a := 12) (by decide) hn).mpr z)
        omega
      · intro z
        obtain ⟨n, hn, e2⟩ := nI_of hp.1
        rw [e2, nI_clamp hn] at z
        exact absurd ((ltI (a := 12) (by decide) hn).mpr (by omega)) (by rw [← e2]; exact hp.2)
    | false =>
      rw [e] at hj
      simp only [Bool.false_eq_true, if_false] at hj
      cases e2 : sTy T Ws j with
      | none => rw [e2] at hj; cases hj
      | some k2 =>
        rw [e2] at hj
        exact sFe_g h hj (Nat.le_refl _) (fun _ => ⟨k2, e2⟩) hro
  unfold sFd at hs
  by_cases q : o = none ∧ sC Ws k = nI 23
  · rw [if_pos q] at hs; exact ft _ _ (fun _ => q.1) hs
  · rw [if_neg q] at hs; exact ft _ _ (fun z => (by cases z)) hs
theorem sVl_g {T : List Nat} {Ws : List Wd} {m o : Option Nat} {k k' : Nat} {d : Dc} (h : WS T Ws) (hs : sVl T Ws m o k = some (k', d)) : GN T d ∧ GF T Ws d := by
  unfold sVl at hs
  cases e : Ws[k]? with
  | none => rw [e] at hs; cases hs
  | some x =>
    rw [e] at hs
    simp only at hs
    by_cases q : x.1 = 1
    · rw [if_pos q] at hs
      by_cases q2 : sS T Ws 61 (k + 1) = true
      · rw [if_pos q2] at hs
        cases e3 : sNu T Ws true (k + 2) with
        | none => rw [e3] at hs; cases hs
        | some y =>
          obtain ⟨k4, v⟩ := y
          rw [e3] at hs
          simp only at hs
          by_cases q5 : sS T Ws 59 k4 = true
          · rw [if_pos q5] at hs
            cases hs
            have g := sNu_g h e3
            exact ⟨GN_of h e q rfl rfl, g.1, (by show 0 ≤ 2; decide), fun z => (by cases z), fun _ => rfl, fun z => (by cases z)⟩
          · rw [if_neg q5] at hs; cases hs
      · rw [if_neg q2] at hs; cases hs
    · rw [if_neg q] at hs; cases hs
/-- a value's enum is the last one that was declared before it -/
def GE (D : List Dc) (i : Nat) (d : Dc) : Prop := dK d = 3 → ∀ o, dO d = some o → ∀ j x, o < j → j < i → D[j]? = some x → dK x ≠ 1
def GD (T : List Nat) (Ws : List Wd) (D : List Dc) : Prop := ∀ i d, D[i]? = some d → GN T d ∧ GF T Ws d ∧ GE D i d
def GS (T : List Nat) (Ws : List Wd) (s : Rs) (D : List Dc) : Prop := GD T Ws D ∧ ∀ e, s.2.2.2.1 = some e → ∀ j x, e < j → D[j]? = some x → dK x ≠ 1
theorem GD_snoc {T : List Nat} {Ws : List Wd} {D : List Dc} {d : Dc} (h : GD T Ws D) (h1 : GN T d) (h2 : GF T Ws d) (h3 : dK d = 3 → ∀ o, dO d = some o → ∀ j x, o < j → D[j]? = some x → dK x ≠ 1) : GD T Ws (D ++ [d]) := by
  intro i x hx
  rcases Nat.lt_trichotomy i D.length with hi | hi | hi
  · rw [List.getElem?_append_left hi] at hx
    obtain ⟨a, b, c⟩ := h i x hx
    refine ⟨a, b, fun k3 o ho j y hj hji hy => ?_⟩
    rw [List.getElem?_append_left (by omega)] at hy
    exact c k3 o ho j y hj hji hy
  · subst hi
    rw [get_snoc_last] at hx
    cases hx
    refine ⟨h1, h2, fun k3 o ho j y hj hji hy => ?_⟩
    rw [List.getElem?_append_left hji] at hy
    exact h3 k3 o ho j y hj hy
  · rw [List.getElem?_eq_none (by rw [List.length_append]; simp; omega)] at hx
    cases hx
theorem last_snoc {D : List Dc} {d : Dc} {e : Nat} (h : ∀ j x, e < j → D[j]? = some x → dK x ≠ 1) (hd : dK d ≠ 1) : ∀ j x, e < j → (D ++ [d])[j]? = some x → dK x ≠ 1 := by
  intro j x hj hx
  rcases Nat.lt_trichotomy j D.length with hi | hi | hi
  · rw [List.getElem?_append_left hi] at hx; exact h j x hj hx
  · subst hi
    rw [get_snoc_last] at hx
    cases hx; exact hd
  · rw [List.getElem?_eq_none (by rw [List.length_append]; simp; omega)] at hx
    cases hx
theorem sBg_GS {T : List Nat} {Ws : List Wd} {q : Nat} {s s' : Rs} {D D' : List Dc} (hS : WS T Ws) (hn : s.2.2.2.1 = none) (hq : q = 0 ∨ q = 1 ∨ q = 4) (h : GS T Ws s D) (hs : sBg T Ws q s D = some (s', D')) : GS T Ws s' D' := by
  unfold sBg at hs
  cases e : Ws[s.1]? with
  | none => rw [e] at hs; cases hs
  | some x =>
    rw [e] at hs
    simp only at hs
    by_cases q1 : x.1 = 1
    · rw [if_pos q1] at hs
      by_cases q2 : sS T Ws 123 (s.1 + 1) = true
      · rw [if_pos q2] at hs
        cases hs
        refine ⟨GD_snoc h.1 (GN_of hS e q1 rfl rfl) ⟨Nat.zero_le _, Nat.zero_le _, fun z => ?_, fun _ => rfl, fun z => (by cases z)⟩ (fun z => ?_), fun e' he' j y hj hy => ?_⟩
        · have : q = 2 := z
          omega
        · have : q = 3 := z
          omega
        · have he2 : (if q = 1 then some D.length else s.2.2.2.1) = some e' := he'
          by_cases q3 : q = 1
          · rw [if_pos q3] at he2
            cases he2
            rw [List.getElem?_eq_none (by rw [List.length_append]; simp; omega)] at hy
            cases hy
          · rw [if_neg q3, hn] at he2; cases he2
      · rw [if_neg q2] at hs; cases hs
    · rw [if_neg q1] at hs; cases hs
theorem adv_GS {T : List Nat} {Ws : List Wd} {s s' : Rs} {D D' : List Dc} {b : Bool} {o : Option (Nat × Dc)} (h : GS T Ws s D) (hs : adv (s.2.1, s.2.2.1, s.2.2.2.1, b) D o = some (s', D')) (ho : ∀ k d, o = some (k, d) → GN T d ∧ GF T Ws d ∧ dK d ≠ 1 ∧ (dK d = 3 → dO d = s.2.2.2.1)) : GS T Ws s' D' := by
  cases o with
  | none => cases hs
  | some kd =>
    obtain ⟨k, d⟩ := kd
    obtain ⟨a1, a2, a3, a4⟩ := ho k d rfl
    cases hs
    exact ⟨GD_snoc h.1 a1 a2 (fun k3 o' ho' => h.2 o' (by rw [← a4 k3]; exact ho')), fun e he => last_snoc (h.2 e he) a3⟩
theorem sStep_GS {T : List Nat} {Ws : List Wd} {s s' : Rs} {D D' : List Dc} (hS : WS T Ws) (h : GS T Ws s D) (hs : sStep T Ws s D = some (s', D')) : GS T Ws s' D' := by
  have hf : ∀ (m o : Option Nat) (j k : Nat) (d : Dc), sFd T Ws m o j = some (k, d) → GN T d ∧ GF T Ws d ∧ dK d ≠ 1 ∧ (dK d = 3 → dO d = s.2.2.2.1) := fun m o j k d e => by
    have g := sFd_g hS e
    have f := far_sFd hS e
    exact ⟨g.1, g.2, by rw [f.2.1]; decide, fun z => by rw [f.2.1] at z; cases z⟩
  unfold sStep at hs
  by_cases q1 : s.2.2.2.1 = none
  · rw [if_pos q1] at hs
    by_cases q2 : s.2.2.1 = none
    · rw [if_pos q2] at hs
      unfold sMm at hs
      by_cases c1 : sC Ws s.1 = 40
      · rw [if_pos c1] at hs; cases hs
      rw [if_neg c1] at hs
      by_cases c2 : sC Ws s.1 = nI 20
      · rw [if_pos c2] at hs; exact sBg_GS hS q1 (Or.inl rfl) (s := (s.1 + 1, s.2)) h hs
      rw [if_neg c2] at hs
      by_cases c3 : sC Ws s.1 = nI 21
      · rw [if_pos c3] at hs; exact sBg_GS hS q1 (Or.inr (Or.inl rfl)) (s := (s.1 + 1, s.2)) h hs
      rw [if_neg c3] at hs
      by_cases c4 : s.2.1 = none
      · rw [if_pos c4] at hs; cases hs
      rw [if_neg c4] at hs
      by_cases c5 : sS T Ws 59 s.1 = true
      · rw [if_pos c5] at hs; cases hs; exact h
      rw [if_neg c5] at hs
      by_cases c6 : sS T Ws 125 s.1 = true
      · rw [if_pos c6] at hs; cases hs; exact h
      rw [if_neg c6] at hs
      by_cases c7 : sC Ws s.1 = nI 22
      · rw [if_pos c7] at hs; exact sBg_GS hS q1 (Or.inr (Or.inr rfl)) (s := (s.1 + 1, s.2)) h hs
      rw [if_neg c7] at hs
      exact adv_GS (b := s.2.2.2.2) h hs (fun k d e => hf _ _ _ k d e)
    · rw [if_neg q2] at hs
      unfold sOm at hs
      by_cases c1 : s.2.2.2.2 = false ∧ sS T Ws 125 s.1 = true
      · rw [if_pos c1] at hs; cases hs; exact h
      rw [if_neg c1] at hs
      by_cases c2 : sC Ws s.1 = 40
      · rw [if_pos c2] at hs; cases hs
      rw [if_neg c2] at hs
      exact adv_GS h hs (fun k d e => hf _ _ _ k d e)
  · rw [if_neg q1] at hs
    unfold sVm at hs
    by_cases c1 : s.2.2.2.2 = false ∧ sS T Ws 125 s.1 = true
    · rw [if_pos c1] at hs; cases hs; exact ⟨h.1, fun e he => by cases he⟩
    rw [if_neg c1] at hs
    by_cases c2 : sC Ws s.1 = 40
    · rw [if_pos c2] at hs; cases hs
    rw [if_neg c2] at hs
    refine adv_GS h hs (fun k d e => ?_)
    have g := sVl_g hS e
    have f := far_sVl hS e
    exact ⟨g.1, g.2, by rw [f.2.1]; decide, fun _ => f.2.2.2⟩
theorem rd_GD {T : List Nat} {Ws : List Wd} (hS : WS T Ws) : ∀ (n : Nat) (s : Rs) (D D' : List Dc), GS T Ws s D → rd T Ws n s D = some D' → GD T Ws D' := by
  intro n
  induction n with
  | zero => intro s D D' _ h; cases h
  | succ n ih =>
    intro s D D' hG h
    rw [rd] at h
    by_cases q : atE Ws s = true
    · rw [if_pos q] at h; cases h; exact hG.1
    · rw [if_neg q] at h
      cases e : sStep T Ws s D with
      | none => rw [e] at h; cases h
      | some x =>
        rw [e] at h
        exact ih x.1 x.2 D' (sStep_GS hS hG e) h
theorem dcl_GD {T : List Nat} {D : List Dc} (h8 : ok8 T) (hl : T.length ≤ 700) (h : dcl T = some D) : GD T (wl T 701 0) D ∧ WF D ∧ D.length < 180 := by
  have hS := WS_wl h8 hl
  unfold dcl rdS at h
  cases q : sSy T (wl T 701 0) with
  | false => rw [q] at h; cases h
  | true =>
    rw [q, if_pos rfl] at h
    have I0 : IV (wl T 701 0) (4, none, none, none, false) [] := ⟨sSy_far hS q, Nat.zero_le _, WF_nil, fun m h => (by cases h), fun m h => (by cases h), fun m h => (by cases h)⟩
    have := rd_WF hS 701 _ [] D I0 h
    exact ⟨rd_GD hS 701 _ [] D ⟨fun i d hd => by simp at hd, fun e he => by cases he⟩ h, this.1, this.2⟩
/-! ===== the class judges: names and types ===== -/
/-- what of an item never changes once it is read -/
def IS (σ : SG) (c a i : Nat) (d : Dc) : Prop := sI σ a 0 = nI (dK d) ∧ sI σ a 1 = nI i ∧ sP σ a 2 = ad c (dS d) ∧ sP σ a 3 = ad c (dO d) ∧ sI σ a 4 = nI (dA d) ∧ sI σ a 5 = nI (dE d) ∧ sL σ a 6 = nL (dN d) ∧ (dT d = 13 → sI σ a 9 = nI (dW d)) ∧ sI σ a 11 = zI (dR d) ∧ sI σ a 13 = zI (decide (dP d = 2)) ∧ (sI σ a 14 < 0 ↔ dP d = 0)
def JS (σ : SG) (c : Nat) (D : List Dc) : Prop := sI σ (c + 1) 3 = nI D.length ∧ D.length < 180 ∧ ∀ i d, D[i]? = some d → IS σ c (c + 5 + i) (cnt (D.take i) (dK d)) d
theorem IS_of {σ : SG} {c a i : Nat} {d : Dc} (h : IT σ c a i d) : IS σ c a i d := by
  obtain ⟨h0, h1, h2, h3, h4, h5, h6, h8, h9, h10, h11, h12, h13, h14, h15, h16⟩ := h
  exact ⟨h0, h1, h2, h3, h4, h5, h6, h9, h11, h13, h14⟩
theorem ad_inj {c : Nat} {o p : Option Nat} : ad c o = ad c p ↔ o = p := by
  cases o <;> cases p <;> simp [ad]
theorem ad_some (c i : Nat) : ad c (some i) = some (c + 5 + i) := rfl
theorem X6_item {c k : Nat} {σ : SG} {D : List Dc} (h : sI σ (c + 1) 3 = nI D.length) (hl : D.length < 180) (hk : k < D.length) : x_X6_item (c + 1) (nI k) σ = some (some (c + 5 + k)) := by
  unfold x_X6_item
  rw [if_neg (nI_neg (by omega)), h, if_pos ((ltI (by omega) (by omega)).mpr hk), show (180 : Int32) = nI 180 from rfl, if_pos ((ltI (by omega) (by decide)).mpr (by omega)), ix_in (by omega) (by decide), show c + 1 + 4 + k = c + 5 + k by omega]
/-- the names of all declarations lie in the text -/
def GNs (T : List Nat) (D : List Dc) : Prop := ∀ (i : Nat) (d : Dc), D[i]? = some d → GN T d
theorem slc_same {T : List Nat} {a e s t : Nat} (h1 : a ≤ e) (h2 : e ≤ T.length) (h3 : s ≤ t) (h4 : t ≤ T.length) (h : slc T a e = slc T s t) : e - a = t - s := by
  have := congrArg List.length h
  rw [slc_len h1 h2, slc_len h3 h4] at this
  exact this
theorem X6_isCalled {U c b i s e : Nat} {σ : SG} {T S : List Nat} {z : Int32} {d : Dc} {n : Nat} (hU : 4000 < U) (hcb : cb c) (hi : i < 180) (hT : RB σ (c + 2) T 0) (hb0 : sh b = 0) (hb : RB σ b S z) (hI : IS σ c (c + 5 + i) n d) (hN : GN T d) (hse : s ≤ e) (he : e ≤ S.length) :
    x_X6_isCalled U (c + 1) (some (c + 5 + i)) (some b) (nI s) (nI e) σ = some (zI (decide (slc T (dA d) (dE d) = slc S s e))) := by
  have hTl : T.length ≤ 4000 := Nat.le_trans hT.2.2.1 (ln_small _)
  have hSl : S.length ≤ 4000 := Nat.le_trans hb.2.2.1 (ln_small _)
  obtain ⟨n1, n2, n3⟩ := hN
  unfold x_X6_isCalled
  rw [ck_eq (it_sh hcb hi), hI.2.2.2.2.1, hI.2.2.2.2.2.1, nI_sub (Nat.le_of_lt n1), nI_sub hse]
  by_cases q : dE d - dA d = e - s
  · rw [if_pos (by rw [q]), X0_isSame hU hb0 (show RB σ (c + 1 + 1) T 0 from hT) hb hse he (by omega), b1_eq, ifz, show dA d + (e - s) = dE d by omega]
    try (cases decide (slc T (dA d) (dE d) = slc S s e) <;> rfl)
  · rw [if_neg (fun z => q ((nI_eq (by omega) (by omega)).mp z)), decide_eq_false]
    · rfl
    · intro z
      have := congrArg List.length z
      rw [slc_len (by omega) n2, slc_len hse he] at this
      exact q this
/-- the first message or enum of a scope that is called so, as the class looks -/
def pC (T : List Nat) (sc : Option Nat) (nm : List Nat) (d : Dc) : Bool := decide (dS d = sc ∧ dK d ≤ 1 ∧ slc T (dA d) (dE d) = nm)
def lkC (T : List Nat) (D : List Dc) (sc : Option Nat) (nm : List Nat) : Option Nat := ff (pC T sc nm) D 0
theorem X3_isType {c a i : Nat} {σ : SG} {d : Dc} (hI : IS σ c a i d) (hk : dK d < 5) : x_X3_isType a σ = some (zI (decide (dK d ≤ 1))) := by
  unfold x_X3_isType
  rw [hI.1]
  by_cases q0 : dK d = 0
  · rw [q0]; try rfl
  rw [if_neg (show ¬ nI (dK d) = 0 from fun z => q0 ((nI_eq (b := 0) (by omega) (by decide)).mp z))]
  by_cases q1 : dK d = 1
  · rw [q1]; try rfl
  rw [if_neg (show ¬ nI (dK d) = 1 from fun z => q1 ((nI_eq (b := 1) (by omega) (by decide)).mp z)), decide_eq_false (by omega)]
  try rfl
theorem WF.k5 {D : List Dc} {i : Nat} {d : Dc} (h : WF D) (hd : D[i]? = some d) : dK d < 5 := by
  rcases (h i d hd).2 with z | z | z | z | z <;> omega
theorem X6_typeIn_L {U c s e : Nat} {sc : Option Nat} {σ : SG} {T : List Nat} {D : List Dc} (hU : 4000 < U) (hcb : cb c) (hT : RB σ (c + 2) T 0) (hJ : JS σ c D) (hW : WF D) (hN : GNs T D) (hse : s ≤ e) (he : e ≤ T.length) : ∀ (j k U1 : Nat), k + j = D.length → j < U1 →
    x_X6_typeIn_L3 U (c + 1) (ad c sc) (nI s) (nI e) σ U1 (nI k) = some (ad c (ff (pC T sc (slc T s e)) (D.drop k) k)) := by
  have hl := hJ.2.1
  intro j
  induction j with
  | zero =>
    intro k U1 hk hu
    obtain ⟨V, rfl⟩ : ∃ V, U1 = V + 1 := ⟨U1 - 1, by omega⟩
    rw [x_X6_typeIn_L3, hJ.1, if_neg (fun q => by have := (ltI (by omega) (by omega)).mp q; omega), List.drop_eq_nil_of_le (by omega)]
    try rfl
  | succ j ih =>
    intro k U1 hk hu
    obtain ⟨V, rfl⟩ : ∃ V, U1 = V + 1 := ⟨U1 - 1, by omega⟩
    have hkl : k < D.length := by omega
    have hd := List.getElem?_eq_getElem hkl
    have hI := hJ.2.2 k _ hd
    have hk5 := hW.k5 hd
    have hr := ih (k + 1) V (by omega) (by omega)
    rw [x_X6_typeIn_L3, hJ.1, if_pos ((ltI (by omega) (by omega)).mpr hkl), X6_item hJ.1 hl hkl, b1_eq, if_neg (by intro z; cases z), ck_eq (it_sh hcb (by omega)), hI.2.2.1, ff_drop hd]
    unfold x_X6_typeIn_60
    rw [nI_1]
    by_cases q1 : dS D[k] = sc
    · rw [if_pos (by rw [q1]), X3_isType hI hk5, b1_eq, ifz]
      by_cases q2 : dK D[k] ≤ 1
      · rw [decide_eq_true q2, if_pos rfl, show c + 1 + 1 = c + 2 by omega, X6_isCalled hU hcb (by omega) hT (cb_sh hcb).2.2.2.1 hT hI (hN k _ hd) hse he, b1_eq, ifz]
        by_cases q3 : slc T (dA D[k]) (dE D[k]) = slc T s e
        · rw [decide_eq_true q3, if_pos rfl, if_pos (show pC T sc (slc T s e) D[k] = true from decide_eq_true ⟨q1, q2, q3⟩)]
          try rfl
        · rw [decide_eq_false q3, if_neg (by decide), if_neg (show ¬ pC T sc (slc T s e) D[k] = true from fun z => q3 (of_decide_eq_true z).2.2)]
          exact hr
      · rw [decide_eq_false q2, if_neg (by decide), if_neg (show ¬ pC T sc (slc T s e) D[k] = true from fun z => q2 (of_decide_eq_true z).2.1)]
        exact hr
    · rw [if_neg (fun z => q1 (ad_inj.mp z)), if_neg (show ¬ pC T sc (slc T s e) D[k] = true from fun z => q1 (of_decide_eq_true z).1)]
      exact hr
theorem X6_typeIn {U c s e : Nat} {sc : Option Nat} {σ : SG} {T : List Nat} {D : List Dc} (hU : 4000 < U) (hcb : cb c) (hT : RB σ (c + 2) T 0) (hJ : JS σ c D) (hW : WF D) (hN : GNs T D) (hse : s ≤ e) (he : e ≤ T.length) : x_X6_typeIn U (c + 1) (ad c sc) (nI s) (nI e) σ = some (ad c (lkC T D sc (slc T s e))) := by
  have hl := hJ.2.1
  have := X6_typeIn_L (U := U) (sc := sc) hU hcb hT hJ hW hN hse he D.length 0 U (by omega) (by omega)
  exact this
/-- is a name in its scope already -/
def pT9 (T : List Nat) (d x : Dc) : Bool := decide (dS x = dS d ∧ slc T (dA x) (dE x) = slc T (dA d) (dE d))
def tkn (T : List Nat) (D : List Dc) (k : Nat) (d : Dc) : Bool := (ff (pT9 T d) (D.take k) 0).isSome
theorem X2_isTaken_L {U c k : Nat} {σ : SG} {T : List Nat} {D : List Dc} {d : Dc} (hU : 4000 < U) (hcb : cb c) (hT : RB σ (c + 2) T 0) (hJ : JS σ c D) (hN : GNs T D) (hd : D[k]? = some d) : ∀ (j i U1 : Nat), i + j = k → j < U1 →
    x_X2_isTaken_L2 U c (some (c + 5 + k)) (nI k) σ U1 (nI i) = some (zI (ff (pT9 T d) ((D.take k).drop i) i).isSome) := by
  have hl := hJ.2.1
  have hkl := (List.getElem?_eq_some_iff.mp hd).1
  have hId := hJ.2.2 k _ hd
  have hGd := hN k _ hd
  intro j
  induction j with
  | zero =>
    intro i U1 hi hu
    obtain ⟨V, rfl⟩ : ∃ V, U1 = V + 1 := ⟨U1 - 1, by omega⟩
    rw [x_X2_isTaken_L2, if_neg (fun q => by have := (ltI (by omega) (by omega)).mp q; omega), List.drop_eq_nil_of_le (by rw [List.length_take]; omega)]
    try rfl
  | succ j ih =>
    intro i U1 hi hu
    obtain ⟨V, rfl⟩ : ∃ V, U1 = V + 1 := ⟨U1 - 1, by omega⟩
    have hil : i < D.length := by omega
    have hx := List.getElem?_eq_getElem hil
    have hI := hJ.2.2 i _ hx
    have hr := ih (i + 1) V (by omega) (by omega)
    have hx' : (D.take k)[i]? = some D[i] := by rw [List.getElem?_take_of_lt (by omega)]; exact hx
    rw [x_X2_isTaken_L2, if_pos ((ltI (by omega) (by omega)).mpr (by omega)), X6_item hJ.1 hl hil, b1_eq, if_neg (by intro z; cases z), ck_eq (it_sh hcb (by omega)), ck_eq (it_sh hcb (by omega)), hI.2.2.1, hId.2.2.1, ff_drop hx']
    unfold x_X2_isTaken_63
    rw [nI_1]
    by_cases q1 : dS D[i] = dS d
    · rw [if_pos (by rw [q1]), show x_X6_text (c + 1) σ = some (some (c + 2)) from rfl, b1_eq, hId.2.2.2.2.1, hId.2.2.2.2.2.1, X6_isCalled hU hcb (by omega) hT (cb_sh hcb).2.2.2.1 hT hI (hN i _ hx) (Nat.le_of_lt hGd.1) hGd.2.1, b1_eq, ifz]
      by_cases q3 : slc T (dA D[i]) (dE D[i]) = slc T (dA d) (dE d)
      · rw [decide_eq_true q3, if_pos rfl, if_pos (show pT9 T d D[i] = true from decide_eq_true ⟨q1, q3⟩)]
        try rfl
      · rw [decide_eq_false q3, if_neg (by decide), if_neg (show ¬ pT9 T d D[i] = true from fun z => q3 (of_decide_eq_true z).2)]
        exact hr
    · rw [if_neg (fun z => q1 (ad_inj.mp z)), if_neg (show ¬ pT9 T d D[i] = true from fun z => q1 (of_decide_eq_true z).1)]
      exact hr
theorem X2_isTaken {U c k : Nat} {σ : SG} {T : List Nat} {D : List Dc} {d : Dc} (hU : 4000 < U) (hcb : cb c) (hT : RB σ (c + 2) T 0) (hJ : JS σ c D) (hN : GNs T D) (hd : D[k]? = some d) :
    x_X2_isTaken U c (some (c + 5 + k)) (nI k) σ = some (zI (tkn T D k d)) := by
  have hl := hJ.2.1
  have hkl := (List.getElem?_eq_some_iff.mp hd).1
  have := X2_isTaken_L (U := U) hU hcb hT hJ hN hd k 0 U (by omega) (by omega)
  exact this
/-! a type's name -/
/-- the text of a word -/
def wnm (T : List Nat) (Ws : List Wd) (k : Nat) : List Nat := match Ws[k]? with
  | some x => slc T x.2.1 x.2.2.1
  | none => []
/-- behind the first part -/
def rsN (lk : Option Nat → List Nat → Option Nat) (T : List Nat) (Ws : List Wd) : Nat → Nat → Option Nat → Option Nat
  | 0, _, f => f
  | n + 1, k, f => match f with
    | none => none
    | some t => if sS T Ws 46 (k + 1) then rsN lk T Ws n (k + 2) (lk (some t) (wnm T Ws (k + 2))) else some t
/-- the first part, from a scope outwards -/
def rsU (lk : Option Nat → List Nat → Option Nat) (D : List Dc) (nm : List Nat) : Nat → Option Nat → Option Nat
  | 0, _ => none
  | n + 1, sc => match sc with
    | none => lk none nm
    | some m => match lk (some m) nm with
      | some t => some t
      | none => rsU lk D nm n (scp D (some m))
/-- what a field's type's name tells -/
def rsl (lk : Option Nat → List Nat → Option Nat) (T : List Nat) (Ws : List Wd) (D : List Dc) (d : Dc) : Option Nat := rsN lk T Ws Ws.length (w0 T Ws (dW d)) (if sS T Ws 46 (dW d) then lk none (wnm T Ws (dW d + 1)) else rsU lk D (wnm T Ws (dW d)) (D.length + 1) (dS d))
theorem sTN_1 {T : List Nat} {Ws : List Wd} {n k k' : Nat} (h : sTN T Ws n k = some k') : ∃ m x, n = m + 1 ∧ Ws[k]? = some x ∧ x.1 = 1 ∧ (sS T Ws 46 (k + 1) = true → sTN T Ws m (k + 2) = some k') := by
  cases n with
  | zero => cases h
  | succ m =>
    rw [sTN] at h
    by_cases q : sK Ws k = 1
    · rw [if_pos q] at h
      cases e : Ws[k]? with
      | none => unfold sK at q; rw [e] at q; cases q
      | some x =>
        refine ⟨m, x, rfl, rfl, by rw [sK_some e] at q; exact q, fun z => ?_⟩
        rw [if_pos z] at h; exact h
    · rw [if_neg q] at h; cases h
theorem X2_findsType_L {U c : Nat} {σ : SG} {T : List Nat} {Ws : List Wd} {D : List Dc} {K : Option Nat → Option (Int32 × SG)} {v1 : Option Nat} (hU : 4000 < U) (hcb : cb c) (hS : WS T Ws) (hWA : WA σ (c + 186) Ws) (hT : RB σ (c + 2) T 0) (hJ : JS σ c D) (hW : WF D) (hN : GNs T D) : ∀ (n k k' U1 : Nat) (f : Option Nat), sTN T Ws n k = some k' → n < U1 → k < 2500 →
    x_X2_findsType_L65 U c K v1 σ U1 (nI k) (ad c f) = K (ad c (rsN (lkC T D) T Ws n k f)) := by
  intro n
  induction n with
  | zero => intro k k' U1 f h; cases h
  | succ n ih =>
    intro k k' U1 f h hu hk
    obtain ⟨V, rfl⟩ : ∃ V, U1 = V + 1 := ⟨U1 - 1, by omega⟩
    obtain ⟨m, x, hm, hx, hx1, hnx⟩ := sTN_1 h
    cases hm
    rw [x_X2_findsType_L65]
    cases f with
    | none => rw [if_pos (show ad c none = none from rfl), rsN]
    | some t =>
      rw [rsN, if_neg (by intro z; cases z), nI_1, show (46 : Int32) = nI 46 from rfl, U10_isSign hWA hS.G (by omega) (by decide), b1_eq, ifz]
      by_cases q : sS T Ws 46 (k + 1) = true
      · rw [if_pos q, if_pos q]
        have hkl := (List.getElem?_eq_some_iff.mp hx).1
        have hwl := hWA.2.1
        obtain ⟨m2, y, hm2, hy, hy1, _⟩ := sTN_1 (hnx q)
        have gy := (hS.G.2 _ _ hy).2.2.1 (by rw [hy1]; decide) (by rw [hy1]; decide)
        have hc : x_X10_count (c + 186) σ = some (nI Ws.length) := by
          unfold x_X10_count
          rw [hWA.1]
        rw [hc, b1_eq, if_pos ((ltI (by omega) (by omega)).mpr hkl), show (2 : Int32) = nI 2 from rfl, nI_add, X10_startOf hWA hy, b1_eq, X10_endOf hWA hy, b1_eq, X6_typeIn hU hcb hT hJ hW hN (Nat.le_of_lt gy.1) gy.2, b1_eq, ih (k + 2) k' V _ (hnx q) (by omega) (by omega)]
        unfold wnm
        rw [hy]
      · rw [if_neg q, if_neg q]
theorem WF.sco {D : List Dc} {m : Nat} {d : Dc} (h : WF D) (hd : D[m]? = some d) : ∀ j, dS d = some j → j < m ∧ KM D j := fun j hj => ⟨(h.before hd).1 j hj, (KM_take ((h m d hd).1 j hj)).1⟩
theorem X2_typeAround_L {U c s e : Nat} {σ : SG} {T : List Nat} {D : List Dc} (hU : 4000 < U) (hcb : cb c) (hT : RB σ (c + 2) T 0) (hJ : JS σ c D) (hW : WF D) (hN : GNs T D) (hse : s ≤ e) (he : e ≤ T.length) : ∀ (n U1 : Nat) (sc : Option Nat), (∀ m, sc = some m → m + 1 < n ∧ m < D.length) → 0 < n → n < U1 →
    x_X2_typeAround_L22 U c (some (ad c (lkC T D none (slc T s e)))) (nI s) (nI e) σ U1 (ad c sc) = some (ad c (rsU (lkC T D) D (slc T s e) n sc)) := by
  intro n
  induction n with
  | zero => intro U1 sc _ h; omega
  | succ n ih =>
    intro U1 sc hsc _ hu
    obtain ⟨V, rfl⟩ : ∃ V, U1 = V + 1 := ⟨U1 - 1, by omega⟩
    rw [x_X2_typeAround_L22]
    cases sc with
    | none => rw [if_pos (show ad c none = none from rfl), rsU]
    | some m =>
      rw [rsU]
      obtain ⟨h1, h2⟩ := hsc m rfl
      have hl := hJ.2.1
      rw [if_neg (by intro z; cases z), X6_typeIn hU hcb hT hJ hW hN hse he, b1_eq]
      cases e1 : lkC T D (some m) (slc T s e) with
      | some t => rw [if_neg (by intro z; cases z)]
      | none =>
        have hd := List.getElem?_eq_getElem h2
        rw [if_pos (show ad c none = none from rfl), ad_some, ck_eq (it_sh hcb (by omega)), (hJ.2.2 m _ hd).2.2.1]
        have e2 : scp D (some m) = dS D[m] := by unfold scp; simp only; rw [hd]
        rw [e2]
        exact ih V (dS D[m]) (fun j hj => by have := hW.sco hd j hj; have := KM_lt this.2; omega) (by omega) (by omega)
theorem X2_typeAround {U c w : Nat} {sc : Option Nat} {σ : SG} {T : List Nat} {Ws : List Wd} {D : List Dc} {x : Wd} (hU : 4000 < U) (hcb : cb c) (hS : WS T Ws) (hWA : WA σ (c + 186) Ws) (hT : RB σ (c + 2) T 0) (hJ : JS σ c D) (hW : WF D) (hN : GNs T D) (hx : Ws[w]? = some x) (hx1 : x.1 = 1) (hsc : ∀ m, sc = some m → m < D.length) :
    x_X2_typeAround U c (ad c sc) (nI w) σ = some (ad c (rsU (lkC T D) D (wnm T Ws w) (D.length + 1) sc)) := by
  have hl := hJ.2.1
  have gx := (hS.G.2 _ _ hx).2.2.1 (by rw [hx1]; decide) (by rw [hx1]; decide)
  unfold x_X2_typeAround
  rw [X10_startOf hWA hx, b1_eq, X10_endOf hWA hx, b1_eq]
  have h0 := X6_typeIn (sc := none) hU hcb hT hJ hW hN (Nat.le_of_lt gx.1) gx.2
  have h0' : x_X6_typeIn U (c + 1) none (nI x.2.1) (nI x.2.2.1) σ = some (ad c (lkC T D none (slc T x.2.1 x.2.2.1))) := h0
  rw [h0', b1_eq, X2_typeAround_L hU hcb hT hJ hW hN (Nat.le_of_lt gx.1) gx.2 (D.length + 1) U sc (fun m hm => by have := hsc m hm; omega) (by omega) (by omega)]
  unfold wnm
  rw [hx]
/-- the class finds a field's type, or not -/
theorem X2_findsType {U c k k' : Nat} {σ : SG} {T : List Nat} {Ws : List Wd} {D : List Dc} {d : Dc} (hU : 4000 < U) (hcb : cb c) (hS : WS T Ws) (hWA : WA σ (c + 186) Ws) (hT : RB σ (c + 2) T 0) (hJ : JS σ c D) (hW : WF D) (hN : GNs T D) (hd : D[k]? = some d) (h13 : dT d = 13) (hty : sTy T Ws (dW d) = some k') :
    x_X2_findsType U c (some (c + 5 + k)) σ = x_X2_findsType_129 U c (some (c + 5 + k)) (ad c (rsl (lkC T D) T Ws D d)) σ := by
  have hl := hJ.2.1
  have hkl := (List.getElem?_eq_some_iff.mp hd).1
  have hI := hJ.2.2 k _ hd
  have hwl := hWA.2.1
  have hsc : ∀ m, dS d = some m → m < D.length := fun m hm => by have := (hW.before hd).1 m hm; omega
  unfold x_X2_findsType rsl
  rw [ck_eq (it_sh hcb (by omega)), hI.2.2.2.2.2.2.2.1 h13, show (46 : Int32) = nI 46 from rfl]
  unfold sTy at hty
  have hwk : dW d < 2000 := by
    by_cases q : sS T Ws 46 (dW d) = true
    · unfold sS at q
      cases e : Ws[dW d]? with
      | none => rw [e] at q; cases q
      | some x => have := (List.getElem?_eq_some_iff.mp e).1; omega
    · rw [if_neg q] at hty
      split at hty
      · cases hty
      · obtain ⟨m, x, _, hx, _⟩ := sTN_1 hty
        have := (List.getElem?_eq_some_iff.mp hx).1; omega
  rw [U10_isSign hWA hS.G (by omega) (by decide), b1_eq, ifz]
  unfold x_X2_findsType_23 x_X2_findsType_63 w0
  by_cases q : sS T Ws 46 (dW d) = true
  · rw [if_pos q] at hty
    obtain ⟨m, x, _, hx, hx1, _⟩ := sTN_1 hty
    have gx := (hS.G.2 _ _ hx).2.2.1 (by rw [hx1]; decide) (by rw [hx1]; decide)
    have h0 := X6_typeIn (sc := none) hU hcb hT hJ hW hN (Nat.le_of_lt gx.1) gx.2
    have h0' : x_X6_typeIn U (c + 1) none (nI x.2.1) (nI x.2.2.1) σ = some (ad c (lkC T D none (slc T x.2.1 x.2.2.1))) := h0
    rw [if_pos q, if_pos q, if_pos q, q, if_neg (show ¬ zI true = 0 by decide), nI_1, X10_startOf hWA hx, b1_eq, X10_endOf hWA hx, b1_eq, h0', b1_eq, X2_findsType_L hU hcb hS hWA hT hJ hW hN Ws.length (dW d + 1) k' U _ hty (by omega) (by omega)]
    have e : wnm T Ws (dW d + 1) = slc T x.2.1 x.2.2.1 := by unfold wnm; rw [hx]
    rw [e]
  · have q' : sS T Ws 46 (dW d) = false := by cases h : sS T Ws 46 (dW d) with | true => exact absurd h q | false => rfl
    rw [if_neg q] at hty
    split at hty
    · cases hty
    · obtain ⟨m, x, _, hx, hx1, _⟩ := sTN_1 hty
      rw [q', if_neg (show ¬ (false = true) by decide), if_neg (show ¬ (false = true) by decide), if_neg (show ¬ (false = true) by decide), if_pos (show zI false = 0 from rfl), ck_eq (it_sh hcb (by omega)), hI.2.2.1, X2_typeAround hU hcb hS hWA hT hJ hW hN hx hx1 hsc, b1_eq, X2_findsType_L hU hcb hS hWA hT hJ hW hN Ws.length (dW d) k' U _ hty (by omega) (by omega)]
