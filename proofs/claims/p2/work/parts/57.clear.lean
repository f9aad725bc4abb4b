/-! ===== the class's compile, up to the reading ===== -/
theorem X6_clear_L {c U : Nat} : ∀ (j v U1 : Nat) (σ : SG), v + j = 5 → j < U1 → (∀ k, k < v → sI σ (c + 185) k = 0) →
    ∃ τ, x_X6_clear_L19 U (c + 1) U1 (nI v) σ = some τ ∧ (∀ k, k < 5 → sI τ (c + 185) k = 0) ∧ ∀ b, b ≠ c + 185 → sm σ τ b := by
  intro j
  induction j with
  | zero =>
    intro v U1 σ hv hu h
    cases U1 with
    | zero => omega
    | succ U1 =>
      rw [x_X6_clear_L19, show (5 : Int32) = nI 5 from rfl, if_neg (fun z => by have := (ltI (by omega) (by decide)).mp z; omega)]
      exact ⟨σ, rfl, fun k hk => h k (by omega), fun b _ => sm_refl σ b⟩
  | succ j ih =>
    intro v U1 σ hv hu h
    cases U1 with
    | zero => omega
    | succ U1 =>
      rw [x_X6_clear_L19, show (5 : Int32) = nI 5 from rfl, if_pos ((ltI (by omega) (by decide)).mpr (by omega)), ix_in (by omega) (by decide), sb_eq, nI_1, show c + 1 + 184 = c + 185 by omega]
      obtain ⟨τ, e1, e2, e3⟩ := ih (v + 1) U1 (uI σ (c + 185) v 0) (by omega) (by omega) (fun k hk => by
        by_cases q : k = v
        · rw [q]; exact sI_s _ _ _ _
        · rw [sI_o (Or.inr q)]; exact h k (by omega))
      exact ⟨τ, e1, e2, fun b hb => sm_trans (sm_uI hb) (e3 b hb)⟩
theorem X6_clear {c U : Nat} {σ : SG} (hU : 4000 < U) : ∃ τ, x_X6_clear U (c + 1) σ = some τ ∧ RB τ (c + 2) [] 0 ∧ ITs τ c [] ∧ ∀ b, b ≠ c + 1 → b ≠ c + 2 → b ≠ c + 185 → sm σ τ b := by
  unfold x_X6_clear
  obtain ⟨σ2, a1, a2, a3⟩ := X0_clear (σ := σ) (a := c + 1 + 1)
  rw [a1, b1_eq, sb_eq, sb_eq]
  obtain ⟨τ, e1, e2, e3⟩ := X6_clear_L (c := c) (U := U) 5 0 U (uI (uI σ2 (c + 1) 3 0) (c + 1) 4 0) (by omega) (by omega) (fun k hk => by omega)
  have hz : x_X6_clear_L19 U (c + 1) U 0 (uI (uI σ2 (c + 1) 3 0) (c + 1) 4 0) = some τ := e1
  refine ⟨τ, hz, ?_, ⟨?_, ?_, ?_, ?_⟩, ?_⟩
  · refine RB.sm a2 (sm_trans (sm_trans (sm_uI (by omega)) (sm_uI (by omega))) (e3 _ (by omega))) (sm_trans (sm_trans (sm_uI (by omega)) (sm_uI (by omega))) (e3 _ (by omega)))
  · rw [(e3 (c + 1) (by omega) 3).1, sI_o (Or.inr (by decide)), sI_s]; rfl
  · rw [(e3 (c + 1) (by omega) 4).1, sI_s]; rfl
  · intro k hk; rw [e2 k hk]; rfl
  · intro i d h; simp at h
  · intro b h1 h2 h3
    exact sm_trans (a3 b (by omega)) (sm_trans (sm_trans (sm_uI h1) (sm_uI h1)) (e3 b h3))
/-- only the compiler at c is touched -/
def fC (c : Nat) (σ τ : SG) : Prop := ∀ b, (b < c ∨ c + 191 < b) → sm σ τ b
theorem fC_trans {c : Nat} {σ τ υ : SG} (h : fC c σ τ) (h' : fC c τ υ) : fC c σ υ := fun b hb => sm_trans (h b hb) (h' b hb)
theorem fC_R {c : Nat} {σ τ : SG} (h : fR c σ τ) : fC c σ τ := fun b hb => h b (by omega) (by omega) (by omega)
theorem cb_ln {c : Nat} (h : cb c) : ln (c + 3) = 700 := by rcases h with rfl | rfl <;> decide
theorem X10_startOf_any {w : Nat} {σ : SG} (v : Int32) : ∃ p, x_X10_startOf w v σ = some p := by
  unfold x_X10_startOf
  split
  · exact ⟨_, rfl⟩
  · next h0 =>
    split
    · split
      · next h7 =>
        unfold ix
        rw [if_neg (by
          intro z
          rcases z with z | z
          · exact h0 z
          · have e7 := Int32.lt_iff_toInt_lt.mp h7
            have e : (701 : Int32).toInt = 701 := by decide
            unfold Int32.toNatClampNeg at z
            omega)]
        exact ⟨_, rfl⟩
      · exact ⟨_, rfl⟩
    · exact ⟨_, rfl⟩
/-- the declarations of a text -/
def dcl (T : List Nat) : Option (List Dc) := rdS T (wl T 701 0)
theorem X2_pre {c U : Nat} {σ : SG} {T : List Nat} (hU : 4000 < U) (hcb : cb c) (hT : RB σ 1 T 0) :
    ∃ σ16, fC c σ σ16 ∧ RB σ16 (c + 2) T 0 ∧ WS T (wl T 701 0) ∧ WA σ16 (c + 186) (wl T 701 0) ∧ sI σ16 (c + 186) 6 = nI T.length ∧ ITs σ16 c [] ∧ RB σ16 1 T 0 ∧
      x_X2_run U c (some 1) σ = b2 (x_X5_read U (c + 191) σ16) fun v18 σ19 => sb (uI σ19 c 3 v18) fun σ20 => if sI σ20 c 3 = 0 then (x_X2_run_60 U c (some 1) (-1) σ20) else (b1 (x_X5_endPlace (c + 191) σ20) fun v47 => x_X2_run_60 U c (some 1) v47 σ20) := by
  have hc : c = 5 ∨ c = 197 := hcb
  have hl : T.length ≤ 700 := hT.2.2.1
  unfold x_X2_run
  obtain ⟨σ2, a1, a2, a3, a4⟩ := X6_clear (c := c) (σ := σ) hU
  have T2 : RB σ2 1 T 0 := hT.sm (a4 1 (by omega) (by omega) (by omega)) (a4 2 (by omega) (by omega) (by omega))
  have ht : x_X6_text (c + 1) σ2 = some (some (c + 2)) := rfl
  rw [a1, b1_eq, ht, b1_eq, ck_eq (show sh 1 = 0 by decide), X0_size T2, b1_eq, ck_eq (cb_sh hcb).2.2.2.1]
  obtain ⟨σ14, b1', b2', b3⟩ := X0_addAll (a := c + 2) (b := 1) (k := 0) (to := T.length) (w := ([], 0)) (by decide) (by unfold apt; omega) (Nat.zero_le _) (Nat.le_refl _) hU a2 T2
  have e14 : x_X0_addAll U (c + 2) (some 1) 0 (nI T.length) σ2 = some σ14 := b1'
  have h14 : RB σ14 (c + 2) T 0 := by
    rw [List.drop_zero, Nat.sub_zero, List.take_length, wrL_fit T ([], 0) (by rw [show c + 2 + 1 = c + 3 by omega, cb_ln hcb]; simp; exact hl)] at b2'
    exact b2'
  obtain ⟨σ16, c1, c2, c3, c4⟩ := X10_split (w := c + 186) hU (cb_sh hcb).2.1 (by rw [show c + 186 - 184 = c + 2 by omega]; exact h14) hl
  rw [e14, b1_eq, c1, b1_eq]
  have g : ∀ b, b ≠ c + 2 → b ≠ c + 3 → (b < c + 186 ∨ c + 190 < b) → sm σ2 σ16 b := fun b h1 h2 h3 => sm_trans (b3 b h1 h2) (c4.1 b (by omega))
  refine ⟨σ16, fun b hb => sm_trans (a4 b (by omega) (by omega) (by omega)) (g b (by omega) (by omega) (by omega)), h14.sm (c4.1 _ (by omega)) (c4.1 _ (by omega)), WS_wl hT.2.2.2.2 hl, c3, c2.2.2.1, ?_, T2.sm (g 1 (by omega) (by omega) (by omega)) (g 2 (by omega) (by omega) (by omega)), rfl⟩
  refine ⟨(g (c + 1) (by omega) (by omega) (by omega) 3).1.trans a3.1, (g (c + 1) (by omega) (by omega) (by omega) 4).1.trans a3.2.1, fun k hk => (g (c + 185) (by omega) (by omega) (by omega) k).1.trans (a3.2.2.1 k hk), fun i d h => by simp at h⟩
