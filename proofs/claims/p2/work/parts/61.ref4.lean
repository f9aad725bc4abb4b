/-! ===== the reference's reader: the parts of a type's name ===== -/
/-- the parts from f on are the words k, k + 2, .. -/
def PTs (σ : SG) (Ws : List Wd) (f k m : Nat) : Prop := ∀ t, t < m → ∃ x, Ws[k + 2 * t]? = some x ∧ sI σ 1154 (f + t) = nI x.2.1 ∧ sI σ 1155 (f + t) = nI (x.2.2.1 - x.2.1)
def PQ (j p : Nat) (b k : Nat) : Prop := (b = 1101 ∧ k ∈ [37, 70, 71, 72, 74, 75, 76, 77]) ∨ (1154 ≤ b ∧ b ≤ 1155 ∧ p ≤ k) ∨ (b = 1144 ∧ k = j)
theorem PQ_q {j p : Nat} {K : List Nat} {σ τ : SG} (h : fq K σ τ) (hK : ∀ i, i ∈ K → i ∈ [37, 70, 71, 72, 74, 75, 76, 77]) : fP (PQ j p) σ τ := fP_q h (fun i hi => Or.inl ⟨rfl, hK i hi⟩) (Or.inl ⟨rfl, by decide⟩)
theorem PQ_le {j p q : Nat} (h : p ≤ q) {b k : Nat} (hp : PQ j q b k) : PQ j p b k := by
  rcases hp with z | z | z
  · exact Or.inl z
  · exact Or.inr (Or.inl ⟨z.1, z.2.1, by omega⟩)
  · exact Or.inr (Or.inr z)
theorem N_parts_L {U j : Nat} {T : List Nat} {Ws : List Wd} {K : SG → Option SG} (hU : 4000 < U) (hS : WS T Ws) (hj : j < 200) (hK : ∀ υ, K υ = b1 (x_X12_fail 1101 1 (sI υ 1101 71) υ) fun σ33 => some σ33) : ∀ (n U1 k p m0 : Nat) (v : Int32) (σ : SG), n + 1 < U1 → Ws.length ≤ n + k → ¬ v = 0 → QX σ T Ws k → sI σ 1101 74 = 0 → sI σ 1101 37 = nI p → 2 * p ≤ pos Ws k → sI σ 1144 j = nI m0 →
    ∃ τ, x_X12_takeParts_L2 U 1101 K (nI j) U1 v σ = some τ ∧ fP (PQ j p) σ τ ∧ (∀ k', sTN T Ws n k = some k' → sI τ 1101 74 = 0 ∧ QX τ T Ws k' ∧ ∃ m, k' + 1 = k + 2 * m ∧ 1 ≤ m ∧ sI τ 1101 37 = nI (p + m) ∧ sI τ 1144 j = nI (m0 + m) ∧ PTs τ Ws p k m) ∧ (sTN T Ws n k = none → ¬ sI τ 1101 74 = 0) := by
  intro n
  induction n with
  | zero =>
    intro U1 k p m0 v σ _ hl _ hQ
    obtain ⟨_, x, hx, _⟩ := hQ
    obtain ⟨q, _⟩ := List.getElem?_eq_some_iff.mp hx
    omega
  | succ n ih =>
    intro U1 k p m0 v σ hu hl hv hQ z0 h37 hp h44
    cases U1 with
    | zero => omega
    | succ U1 =>
    obtain ⟨hL, x, hx, hC⟩ := hQ
    have hQ : QX σ T Ws k := ⟨hL, x, hx, hC⟩
    have hg := hS.G.2 _ _ hx
    have h6 := hg.1
    have hle := hS.le _ x hx
    have hT := hS.2.1
    have hp' := hp
    rw [pos_some hx] at hp'
    have hp4 : p < 400 := by omega
    rw [x_X12_takeParts_L2, if_neg hv, if_pos z0, N_kind hQ, sTN, sK_some hx]
    by_cases q1 : x.1 = 1
    · rw [if_pos (show nI x.1 = 1 by rw [q1]; rfl), if_pos q1, h37, ix_in hp4 (by decide), sb_eq, hC.2.1]
      have n1 : sI (uI σ 1154 p (nI x.2.1)) 1101 37 = nI p := by rw [sI_o (Or.inl (by decide))]; exact h37
      have b := hg.2.2.1 (by omega) (by omega)
      have e2 : sI (uI σ 1154 p (nI x.2.1)) 1101 72 - sI (uI σ 1154 p (nI x.2.1)) 1101 71 = nI (x.2.2.1 - x.2.1) := by
        rw [sI_o (Or.inl (by decide)), sI_o (Or.inl (by decide)), hC.2.1, (hC.2.2.1 (by omega) (by omega)).1, nI_sub (by omega)]
      rw [n1, ix_in hp4 (by decide), sb_eq, e2, sb_eq]
      have n2 : sI (uI (uI σ 1154 p (nI x.2.1)) 1155 p (nI (x.2.2.1 - x.2.1))) 1101 37 = nI p := by rw [sI_o (Or.inl (by decide))]; exact n1
      rw [n2, nI_1, ix_in hj (by decide), ix_in hj (by decide), sb_eq]
      have e44 : sI (uI (uI (uI σ 1154 p (nI x.2.1)) 1155 p (nI (x.2.2.1 - x.2.1))) 1101 37 (nI (p + 1))) 1144 j = nI m0 := by
        rw [sI_o (Or.inl (by decide)), sI_o (Or.inl (by decide)), sI_o (Or.inl (by decide))]; exact h44
      rw [e44, nI_1]
      have Q23 : QX (uI (uI (uI (uI σ 1154 p (nI x.2.1)) 1155 p (nI (x.2.2.1 - x.2.1))) 1101 37 (nI (p + 1))) 1144 j (nI (m0 + 1))) T Ws k :=
        (((hQ.o (by decide) (by decide)).o (by decide) (by decide)).u (by decide)).o (by decide) (by decide)
      have f23 : fP (PQ j p) σ (uI (uI (uI (uI σ 1154 p (nI x.2.1)) 1155 p (nI (x.2.2.1 - x.2.1))) 1101 37 (nI (p + 1))) 1144 j (nI (m0 + 1))) :=
        fP_trans (fP_trans (fP_trans (fP_u (Or.inr (Or.inl ⟨by decide, by decide, Nat.le_refl _⟩))) (fP_u (Or.inr (Or.inl ⟨by decide, by decide, Nat.le_refl _⟩)))) (fP_u (Or.inl ⟨rfl, by decide⟩))) (fP_u (Or.inr (Or.inr ⟨rfl, rfl⟩)))
      have z23 : sI (uI (uI (uI (uI σ 1154 p (nI x.2.1)) 1155 p (nI (x.2.2.1 - x.2.1))) 1101 37 (nI (p + 1))) 1144 j (nI (m0 + 1))) 1101 74 = 0 := by
        rw [sI_o (Or.inl (by decide)), sI_o (Or.inr (by decide)), sI_o (Or.inl (by decide)), sI_o (Or.inl (by decide))]; exact z0
      have c23 : sI (uI (uI (uI (uI σ 1154 p (nI x.2.1)) 1155 p (nI (x.2.2.1 - x.2.1))) 1101 37 (nI (p + 1))) 1144 j (nI (m0 + 1))) 1101 37 = nI (p + 1) := by
        rw [sI_o (Or.inl (by decide)), sI_s]
      have m23 : sI (uI (uI (uI (uI σ 1154 p (nI x.2.1)) 1155 p (nI (x.2.2.1 - x.2.1))) 1101 37 (nI (p + 1))) 1144 j (nI (m0 + 1))) 1144 j = nI (m0 + 1) := sI_s _ _ _ _
      have r1 : sI (uI (uI (uI (uI σ 1154 p (nI x.2.1)) 1155 p (nI (x.2.2.1 - x.2.1))) 1101 37 (nI (p + 1))) 1144 j (nI (m0 + 1))) 1154 p = nI x.2.1 := by
        rw [sI_o (Or.inl (by decide)), sI_o (Or.inl (by decide)), sI_o (Or.inl (by decide)), sI_s]
      have r2 : sI (uI (uI (uI (uI σ 1154 p (nI x.2.1)) 1155 p (nI (x.2.2.1 - x.2.1))) 1101 37 (nI (p + 1))) 1144 j (nI (m0 + 1))) 1155 p = nI (x.2.2.1 - x.2.1) := by
        rw [sI_o (Or.inl (by decide)), sI_o (Or.inl (by decide)), sI_s]
      generalize (uI (uI (uI (uI σ 1154 p (nI x.2.1)) 1155 p (nI (x.2.2.1 - x.2.1))) 1101 37 (nI (p + 1))) 1144 j (nI (m0 + 1))) = σ23 at *
      obtain ⟨σ25, a1, a2, a3⟩ := N_next hU hS Q23 (by rw [sK_some hx]; omega) (by rw [sK_some hx]; omega)
      have i46 : x_X12_isSign 1101 46 σ25 = some (zI (sS T Ws 46 (k + 1))) := N_isSign (q := 46) hS a2 (by decide)
      rw [a1, b1_eq, i46, b1_eq, ifz]
      have f25 : fP (PQ j p) σ σ25 := fP_trans f23 (PQ_q a3 (by decide))
      have z25 : sI σ25 1101 74 = 0 := (a3.2.1 74 (by decide)).trans z23
      have c25 : sI σ25 1101 37 = nI (p + 1) := (a3.2.1 37 (by decide)).trans c23
      have m25 : sI σ25 1144 j = nI (m0 + 1) := ((a3.1 1144 (by decide) j).1).trans m23
      have r1' : sI σ25 1154 p = nI x.2.1 := ((a3.1 1154 (by decide) p).1).trans r1
      have r2' : sI σ25 1155 p = nI (x.2.2.1 - x.2.1) := ((a3.1 1155 (by decide) p).1).trans r2
      cases q2 : sS T Ws 46 (k + 1) with
      | false =>
        simp only [Bool.false_eq_true, if_false]
        cases U1 with
        | zero => omega
        | succ U2 =>
          rw [x_X12_takeParts_L2, if_pos (show zI false = 0 from rfl)]
          refine ⟨σ25, rfl, f25, fun k' z => ?_, fun z => (by cases z)⟩
          cases z
          refine ⟨z25, a2, 1, by omega, by omega, c25, m25, fun t ht => ?_⟩
          have t0 : t = 0 := by omega
          subst t0
          exact ⟨x, hx, r1', r2'⟩
      | true =>
        simp only [if_true]
        have hf1 := far_sK hS (k := k) (Or.inl (by rw [sK_some hx]; exact q1))
        have hf2 := far_sS hS q2
        have hk4 : sK Ws (k + 1) = 4 := by
          unfold sS at q2
          cases e : Ws[k + 1]? with
          | none => rw [e] at q2; cases q2
          | some y => rw [e] at q2; rw [sK_some e]; exact sg_4 q2
        obtain ⟨σ30, b1', b2', b3⟩ := N_next hU hS a2 (by rw [hk4]; decide) (by rw [hk4]; decide)
        rw [b1', b1_eq]
        obtain ⟨τ, g1, g2, g3, g4⟩ := ih U1 (k + 2) (p + 1) (m0 + 1) (zI true) σ30 (by omega) (by omega) (by decide) b2' ((b3.2.1 74 (by decide)).trans z25) ((b3.2.1 37 (by decide)).trans c25) (by have := hf1.2; have := hf2.2; rw [show k + 2 = k + 1 + 1 by omega]; omega) (((b3.1 1144 (by decide) j).1).trans m25)
        refine ⟨τ, g1, fP_trans f25 (fP_trans (PQ_q b3 (by decide)) (fP_mono g2 (fun b k => PQ_le (by omega)))), fun k' z => ?_, g4⟩
        obtain ⟨w1, w2, m, w3, w4, w5, w6, w7⟩ := g3 k' z
        refine ⟨w1, w2, m + 1, by omega, by omega, by rw [w5]; congr 1; omega, by rw [w6]; congr 1; omega, fun t ht => ?_⟩
        cases t with
        | zero =>
          refine ⟨x, hx, ?_, ?_⟩
          · have o1 := (g2 1154 p (fun z => by rcases z with z | z | z <;> omega)).1
            have o2 := (b3.1 1154 (by decide) p).1
            exact o1.trans (o2.trans r1')
          · have o1 := (g2 1155 p (fun z => by rcases z with z | z | z <;> omega)).1
            have o2 := (b3.1 1155 (by decide) p).1
            exact o1.trans (o2.trans r2')
        | succ t =>
          obtain ⟨y, y1, y2, y3⟩ := w7 t (by omega)
          exact ⟨y, by rw [show k + 2 * (t + 1) = k + 2 + 2 * t by omega]; exact y1, by rw [show p + (t + 1) = p + 1 + t by omega]; exact y2, by rw [show p + (t + 1) = p + 1 + t by omega]; exact y3⟩
    · rw [if_neg (show ¬ nI x.1 = 1 from fun z => q1 ((nI_eq (b := 1) (by omega) (by decide)).mp z)), if_neg q1, hK]
      obtain ⟨τ, e1, e2, e3⟩ := N_fail (σ := σ) (v := 1) (w := sI σ 1101 71) (by decide)
      rw [e1, b1_eq]
      exact ⟨τ, rfl, PQ_q e3 (by decide), fun k' z => (by cases z), fun _ => e2⟩
