/-! ===== the reference's reader: an enum's value ===== -/
theorem N_num {k : Nat} {σ : SG} {T : List Nat} {Ws : List Wd} {y : Wd} (h : QX σ T Ws k) (hy : Ws[k]? = some y) (h2 : y.1 = 2) (ng : Bool) : NR (if ng then -(sL σ 1101 77) else sL σ 1101 77) (ng, nuX y) := by
  obtain ⟨_, x, hx, hC⟩ := h
  rw [hy] at hx
  cases hx
  obtain ⟨v, n, a1, a2, a3, a4⟩ := hC.2.2.2 h2
  have hn : n ≤ 2 ^ 40 := by rcases a3 with z | z <;> omega
  have e : nuX y = n := by unfold nuX; rw [a4, pk_lT (by omega)]; rfl
  refine ⟨v, a2, by rw [e]; exact a3, ?_⟩
  rw [a1]
  rfl
def PW (w : Nat) (b k : Nat) : Prop := (b = 1101 ∧ k ∈ [35, 70, 71, 72, 74, 75, 76, 77]) ∨ (b = 1152 ∧ k = w)
theorem PW_q {w : Nat} {K : List Nat} {σ τ : SG} (h : fq K σ τ) (hK : ∀ i, i ∈ K → i ∈ [35, 70, 71, 72, 74, 75, 76, 77]) : fP (PW w) σ τ := fP_q h (fun i hi => Or.inl ⟨rfl, hK i hi⟩) (Or.inl ⟨rfl, by decide⟩)
theorem N_value_97 {U k w : Nat} {ng : Bool} {σ : SG} {T : List Nat} {Ws : List Wd} {y : Wd} (hU : 4000 < U) (hS : WS T Ws) (h : QX σ T Ws k) (hy : Ws[k]? = some y) (h74 : sI σ 1101 74 = 0) (h35 : sI σ 1101 35 = nI w) (hw : w < 200) :
    ∃ τ, x_X12_takeValue_97 U 1101 (nI w) (zI ng) σ = some τ ∧ fP (PW w) σ τ ∧ (y.1 = 2 → sS T Ws 59 (k + 1) = true → sI τ 1101 74 = 0 ∧ QX τ T Ws (k + 2) ∧ sI τ 1101 35 = nI (w + 1) ∧ NR (sL τ 1152 w) (ng, nuX y)) ∧ (¬ (y.1 = 2 ∧ sS T Ws 59 (k + 1) = true) → ¬ sI τ 1101 74 = 0) := by
  have h6 := (hS.G.2 _ _ hy).1
  unfold x_X12_takeValue_97
  rw [N_kind h, sK_some hy]
  by_cases q : y.1 = 2
  · have hn := N_num h hy q ng
    have go : ∀ l, l = (if ng then -(sL σ 1101 77) else sL σ 1101 77) → ∃ τ, x_X12_takeValue_136 U 1101 l (nI w) σ = some τ ∧ fP (PW w) σ τ ∧ (y.1 = 2 → sS T Ws 59 (k + 1) = true → sI τ 1101 74 = 0 ∧ QX τ T Ws (k + 2) ∧ sI τ 1101 35 = nI (w + 1) ∧ NR (sL τ 1152 w) (ng, nuX y)) ∧ (¬ (y.1 = 2 ∧ sS T Ws 59 (k + 1) = true) → ¬ sI τ 1101 74 = 0) := by
      intro l hl
      unfold x_X12_takeValue_136
      rw [ix_in hw (by decide), sb_eq, sb_eq]
      have e35 : sI (uL σ 1152 w l) 1101 35 = nI w := h35
      rw [e35, nI_1]
      have Q43 : QX (uI (uL σ 1152 w l) 1101 35 (nI (w + 1))) T Ws k := (h.oL (by decide) (by decide)).u (by decide)
      have z43 : sI (uI (uL σ 1152 w l) 1101 35 (nI (w + 1))) 1101 74 = 0 := by rw [sI_o (Or.inr (by decide))]; exact h74
      have c43 : sI (uI (uL σ 1152 w l) 1101 35 (nI (w + 1))) 1101 35 = nI (w + 1) := sI_s _ _ _ _
      have l43 : sL (uI (uL σ 1152 w l) 1101 35 (nI (w + 1))) 1152 w = l := by
        show sL (uL σ 1152 w l) 1152 w = l
        rw [sL_uL, if_pos ⟨rfl, rfl⟩]
      have f43 : fP (PW w) σ (uI (uL σ 1152 w l) 1101 35 (nI (w + 1))) := fP_trans (fP_L (Or.inr ⟨rfl, rfl⟩)) (fP_u (Or.inl ⟨rfl, by decide⟩))
      generalize uI (uL σ 1152 w l) 1101 35 (nI (w + 1)) = σ43 at *
      obtain ⟨σ45, a1, a2, a3⟩ := N_next hU hS Q43 (by rw [sK_some hy]; omega) (by rw [sK_some hy]; omega)
      rw [a1, b1_eq]
      have z45 : sI σ45 1101 74 = 0 := (a3.2.1 74 (by decide)).trans z43
      obtain ⟨τ, e1, e2, e3, e4⟩ := N_takeSign (q := 59) hU hS a2 z45 (by decide)
      have e1' : x_X12_takeSign U 1101 59 σ45 = some τ := e1
      rw [e1', b1_eq]
      refine ⟨τ, rfl, fP_trans f43 (fP_trans (PW_q a3 (by decide)) (PW_q e2 (by decide))), fun _ hs => ?_, fun hno => e4 ?_⟩
      · have r := e3 (k + 2) (by rw [hs]; rfl)
        refine ⟨r.1, r.2, ?_, ?_⟩
        · rw [e2.2.1 35 (by decide), a3.2.1 35 (by decide)]; exact c43
        · rw [(e2.1 1152 (by decide) w).2.1, (a3.1 1152 (by decide) w).2.1, l43, hl]; exact hn
      · cases e : sS T Ws 59 (k + 1) with
        | true => exact absurd ⟨q, e⟩ hno
        | false => rfl
    rw [if_pos (show nI y.1 = 2 by rw [q]; rfl), ifz]
    cases ng with
    | true => exact go _ rfl
    | false => exact go _ rfl
  · rw [if_neg (show ¬ nI y.1 = 2 from fun z => q ((nI_eq (b := 2) (by omega) (by decide)).mp z))]
    obtain ⟨τ, e1, e2, e3⟩ := N_fail (σ := σ) (v := 1) (w := sI σ 1101 71) (by decide)
    rw [e1, b1_eq]
    exact ⟨τ, rfl, PW_q e3 (by decide), fun z => absurd z q, fun _ => e2⟩
/-- with an error set, nothing but the cells at the counts is touched -/
theorem N_value_e {U w n : Nat} {v : Int32} {σ : SG} {c : CT} (h74 : ¬ sI σ 1101 74 = 0) (h35 : sI σ 1101 35 = nI w) (hw : w < 200) (h38 : sI σ 1101 38 = nI n) (hn : n ≤ 400) (hc : tV c = w) :
    ∃ τ, x_X12_takeValue_16 U 1101 v σ = some τ ∧ fP (PX c) σ τ ∧ ¬ sI τ 1101 74 = 0 := by
  unfold x_X12_takeValue_16
  rw [N_declare_e h74, b1_eq, h35, ix_in hw (by decide), sb_eq]
  obtain ⟨v1, e1⟩ := N_lastAt_any (σ := uI σ 1149 w (sI σ 1101 33 - 1)) (n := n) (by rw [sI_o (Or.inl (by decide))]; exact h38) hn
  rw [e1, b1_eq, ix_in hw (by decide), sb_eq]
  obtain ⟨v2, e2⟩ := N_lastLong_any (σ := uI (uI σ 1149 w (sI σ 1101 33 - 1)) 1150 w v1) (n := n) (by rw [sI_o (Or.inl (by decide)), sI_o (Or.inl (by decide))]; exact h38) hn
  rw [e2, b1_eq, ix_in hw (by decide), sb_eq]
  have z : ¬ sI (uI (uI (uI σ 1149 w (sI σ 1101 33 - 1)) 1150 w v1) 1151 w v2) 1101 74 = 0 := by
    rw [sI_o (Or.inl (by decide)), sI_o (Or.inl (by decide)), sI_o (Or.inl (by decide))]; exact h74
  rw [N_takeSign_e z, b1_eq, if_neg z]
  exact ⟨_, rfl, fP_trans (fP_trans (fP_u (PX_v (by decide) (by decide) (by omega))) (fP_u (PX_v (by decide) (by decide) (by omega)))) (fP_u (PX_v (by decide) (by decide) (by omega))), z⟩
