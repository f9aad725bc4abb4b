/-! ===== the class's reader: an enum's value, a oneof's field, a member ===== -/
def adv (t : Option Nat × Option Nat × Option Nat × Bool) (D : List Dc) (o : Option (Nat × Dc)) : Option (Rs × List Dc) := match o with
  | some kd => some ((kd.1, t), D ++ [kd.2])
  | none => none
def sVm (T : List Nat) (Ws : List Wd) (s : Rs) (D : List Dc) : Option (Rs × List Dc) := if s.2.2.2.2 = false ∧ sS T Ws 125 s.1 = true then some ((s.1 + 1, s.2.1, s.2.2.1, none, s.2.2.2.2), D) else if sC Ws s.1 = 40 then none else adv (s.2.1, s.2.2.1, s.2.2.2.1, false) D (sVl T Ws s.2.1 s.2.2.2.1 s.1)
def sOm (T : List Nat) (Ws : List Wd) (s : Rs) (D : List Dc) : Option (Rs × List Dc) := if s.2.2.2.2 = false ∧ sS T Ws 125 s.1 = true then some ((s.1 + 1, s.2.1, none, s.2.2.2.1, s.2.2.2.2), D) else if sC Ws s.1 = 40 then none else adv (s.2.1, s.2.2.1, s.2.2.2.1, false) D (sFd T Ws s.2.1 s.2.2.1 s.1)
theorem U5_isForbidden {c : Nat} {σ : SG} {T : List Nat} {Ws : List Wd} {s : Rs} (hG : WG T Ws) (hW : WA σ (c + 186) Ws) (hR : RR σ c s) (hk : s.1 < 3000) :
    ∃ τ, x_X5_isForbidden (c + 191) σ = some (zI (decide (sC Ws s.1 = 40)), τ) ∧ RR τ c s ∧ (∀ b, b ≠ c + 191 → sm σ τ b) ∧ sI τ (c + 191) 7 = (if sC Ws s.1 = 40 then 2 else sI σ (c + 191) 7) := by
  unfold x_X5_isForbidden
  rw [show c + 191 - 5 = c + 186 by omega, hR.1, U10_codeOf hW hG hk, b1_eq]
  by_cases q1 : sC Ws s.1 = 40
  · rw [if_pos q1, if_pos q1, decide_eq_true q1, sb_eq]
    refine ⟨_, rfl, ⟨?_, hR.2.1, hR.2.2.1, hR.2.2.2.1, ?_⟩, fun b hb => sm_uI hb, sI_s _ _ _ _⟩
    · rw [sI_o (Or.inr (by decide))]; exact hR.1
    · rw [sI_o (Or.inr (by decide))]; exact hR.2.2.2.2
  · rw [if_neg q1, if_neg q1, decide_eq_false q1]
    exact ⟨σ, rfl, hR, fun b _ => sm_refl σ b, rfl⟩
theorem RP_of_RO {c : Nat} {σ τ : SG} {s : Rs} {D : List Dc} {o : Option (Nat × Dc)} {x : Option (Int32 × SG)} (hf : fR c σ τ) (h7 : ¬ sI τ (c + 191) 7 = 0) (h : RO c τ s D o x) : RP c σ (adv s.2 D o) x := by
  obtain ⟨υ, g1, g2, g3, g4⟩ := h
  cases o with
  | none => exact ⟨υ, g1, fR_trans hf g2, by rw [g3]; exact h7, fun s' D' h => by cases h⟩
  | some kd =>
    obtain ⟨k', d⟩ := kd
    refine ⟨υ, g1, fR_trans hf g2, by rw [g3]; exact h7, fun s' D' h => ?_⟩
    cases h
    exact g4 k' d rfl
theorem b2_id (x : Option (Int32 × SG)) : (b2 x fun v s => some (v, s)) = x := by cases x <;> rfl
theorem b2_zb {c : Nat} {σ : SG} {o : Option (Rs × List Dc)} {x : Option (Int32 × SG)} (h : RP c σ o x) : RP c σ o (b2 x fun v s => zb v <| some (v, s)) := by
  obtain ⟨τ, g1, g2⟩ := h
  refine ⟨τ, ?_, g2⟩
  rw [g1, b2_eq]
  cases o.isSome <;> rfl
theorem X5_readValue {c : Nat} {σ : SG} {T : List Nat} {Ws : List Wd} {s : Rs} {D : List Dc} (hcb : cb c) (hS : WS T Ws) (hW : WA σ (c + 186) Ws) (hR : RR σ c s) (hI : ITs σ c D) (hl : D.length < 180) (hk : s.1 < 1700) (h7 : ¬ sI σ (c + 191) 7 = 0) :
    RP c σ (sVm T Ws s D) (x_X5_readValue (c + 191) σ) := by
  have hG := hS.G
  -- a value
  have val : ∀ (τ : SG), fr c σ τ → RR τ c s → RP c σ (if sC Ws s.1 = 40 then none else adv (s.2.1, s.2.2.1, s.2.2.2.1, false) D (sVl T Ws s.2.1 s.2.2.2.1 s.1)) (x_X5_readValue_23 (c + 191) τ) := by
    intro τ hf hRτ
    unfold x_X5_readValue_23
    have hWτ := hW.fR (fR_r hf.1)
    have hIτ := hI.r (by omega) hf.1
    obtain ⟨σ8, t1, t2, t3, t4⟩ := U5_isForbidden hG hWτ hRτ (by omega)
    rw [t1, b2_eq, ifz]
    by_cases q : sC Ws s.1 = 40
    · rw [decide_eq_true q, if_pos q]
      simp only [if_true]
      exact RP_fail (fR_trans (fR_r hf.1) (fR_r t3)) (by rw [t4, if_pos q]; decide)
    · rw [decide_eq_false q, if_neg q]
      simp only [Bool.false_eq_true, if_false]
      rw [sb_eq]
      rw [if_neg q] at t4
      have f10 : ∀ b, b ≠ c + 191 → sm σ8 (uI σ8 (c + 191) 5 0) b := fun b hb => sm_uI hb
      have R10 : RR (uI σ8 (c + 191) 5 0) c (s.1, s.2.1, s.2.2.1, s.2.2.2.1, false) := ⟨by rw [sI_o (Or.inr (by decide))]; exact t2.1, t2.2.1, t2.2.2.1, t2.2.2.2.1, by rw [sI_s]; rfl⟩
      have fR10 : fR c σ (uI σ8 (c + 191) 5 0) := fR_trans (fR_r hf.1) (fR_trans (fR_r t3) (fR_r f10))
      have s10 : ¬ sI (uI σ8 (c + 191) 5 0) (c + 191) 7 = 0 := by rw [sI_o (Or.inr (by decide)), t4, hf.2]; exact h7
      have key := X5_value (s := (s.1, s.2.1, s.2.2.1, s.2.2.2.1, false)) hcb hS (hW.fR fR10) R10 ((hIτ.r (by omega) t3).r (by omega) f10) hl (by show s.1 < 1800; omega)
      exact RP_of_RO fR10 s10 key
  unfold x_X5_readValue sVm
  rw [ifnz (v := sI σ (c + 191) 5), hR.2.2.2.2]
  cases hb : s.2.2.2.2 with
  | true =>
    rw [if_pos rfl, if_neg (show ¬ (true = false ∧ sS T Ws 125 s.1 = true) from fun z => by cases z.1)]
    exact val σ (fr_refl c σ) hR
  | false =>
    rw [if_neg (show ¬ (false = true) by decide)]
    obtain ⟨τ, t1, t2, t3, t4⟩ := U5_takes (q := 125) hG hW hR (by omega) (by decide)
    have t1' : x_X5_takes (c + 191) 125 σ = some (zI (sS T Ws 125 s.1), τ) := t1
    rw [t1', b2_eq, ifz]
    cases q : sS T Ws 125 s.1 with
    | false =>
      rw [q, if_neg (by decide)] at t2
      rw [if_neg (show ¬ (false = true) by decide), if_neg (show ¬ (false = false ∧ false = true) from fun z => by cases z.2)]
      exact val τ ⟨t3, t4⟩ t2
    | true =>
      rw [q, if_pos rfl] at t2
      rw [if_pos (show true = true from rfl), if_pos (show false = false ∧ true = true from ⟨rfl, rfl⟩), sb_eq]
      refine ⟨_, rfl, fR_trans (fR_r t3) (fR_r (fun b hb' => sm_uP hb')), by rw [sI_uP, t4]; exact h7, fun s' D' h => ?_⟩
      cases h
      refine ⟨⟨t2.1, ?_, ?_, sP_s _ _ _ _, ?_⟩, (hI.r (by omega) t3).r (by omega) (fun b hb' => sm_uP hb')⟩
      · rw [sP_o (Or.inr (by decide))]; exact t2.2.1
      · rw [sP_o (Or.inr (by decide))]; exact t2.2.2.1
      · rw [sI_uP, t2.2.2.2.2, hb]
theorem X5_readChoice {c : Nat} {σ : SG} {T : List Nat} {Ws : List Wd} {s : Rs} {D : List Dc} {U : Nat} (hU : 4000 < U) (hcb : cb c) (hS : WS T Ws) (h6 : sI σ (c + 186) 6 = nI T.length) (hW : WA σ (c + 186) Ws) (hR : RR σ c s) (hI : ITs σ c D) (hl : D.length < 180) (hk : s.1 < 780) (h7 : ¬ sI σ (c + 191) 7 = 0) :
    RP c σ (sOm T Ws s D) (x_X5_readChoice U (c + 191) σ) := by
  have hG := hS.G
  have val : ∀ (τ : SG), fr c σ τ → RR τ c s → RP c σ (if sC Ws s.1 = 40 then none else adv (s.2.1, s.2.2.1, s.2.2.2.1, false) D (sFd T Ws s.2.1 s.2.2.1 s.1)) (x_X5_readChoice_23 U (c + 191) τ) := by
    intro τ hf hRτ
    unfold x_X5_readChoice_23
    have hWτ := hW.fR (fR_r hf.1)
    have hIτ := hI.r (by omega) hf.1
    obtain ⟨σ8, t1, t2, t3, t4⟩ := U5_isForbidden hG hWτ hRτ (by omega)
    rw [t1, b2_eq, ifz]
    by_cases q : sC Ws s.1 = 40
    · rw [decide_eq_true q, if_pos q]
      simp only [if_true]
      exact RP_fail (fR_trans (fR_r hf.1) (fR_r t3)) (by rw [t4, if_pos q]; decide)
    · rw [decide_eq_false q, if_neg q]
      simp only [Bool.false_eq_true, if_false]
      rw [sb_eq]
      rw [if_neg q] at t4
      have f10 : ∀ b, b ≠ c + 191 → sm σ8 (uI σ8 (c + 191) 5 0) b := fun b hb => sm_uI hb
      have R10 : RR (uI σ8 (c + 191) 5 0) c (s.1, s.2.1, s.2.2.1, s.2.2.2.1, false) := ⟨by rw [sI_o (Or.inr (by decide))]; exact t2.1, t2.2.1, t2.2.2.1, t2.2.2.2.1, by rw [sI_s]; rfl⟩
      have fR10 : fR c σ (uI σ8 (c + 191) 5 0) := fR_trans (fR_r hf.1) (fR_trans (fR_r t3) (fR_r f10))
      have s10 : ¬ sI (uI σ8 (c + 191) 5 0) (c + 191) 7 = 0 := by rw [sI_o (Or.inr (by decide)), t4, hf.2]; exact h7
      have key := X5_readField (s := (s.1, s.2.1, s.2.2.1, s.2.2.2.1, false)) hU hcb hS ((fR10 (c + 186) (by omega) (by omega) (by omega) 6).1.trans h6) (hW.fR fR10) R10 ((hIτ.r (by omega) t3).r (by omega) f10) hl (by show s.1 < 790; omega)
      exact b2_zb (RP_of_RO fR10 s10 key)
  unfold x_X5_readChoice sOm
  rw [ifnz (v := sI σ (c + 191) 5), hR.2.2.2.2]
  cases hb : s.2.2.2.2 with
  | true =>
    rw [if_pos rfl, if_neg (show ¬ (true = false ∧ sS T Ws 125 s.1 = true) from fun z => by cases z.1)]
    exact val σ (fr_refl c σ) hR
  | false =>
    rw [if_neg (show ¬ (false = true) by decide)]
    obtain ⟨τ, t1, t2, t3, t4⟩ := U5_takes (q := 125) hG hW hR (by omega) (by decide)
    have t1' : x_X5_takes (c + 191) 125 σ = some (zI (sS T Ws 125 s.1), τ) := t1
    rw [t1', b2_eq, ifz]
    cases q : sS T Ws 125 s.1 with
    | false =>
      rw [q, if_neg (by decide)] at t2
      rw [if_neg (show ¬ (false = true) by decide), if_neg (show ¬ (false = false ∧ false = true) from fun z => by cases z.2)]
      exact val τ ⟨t3, t4⟩ t2
    | true =>
      rw [q, if_pos rfl] at t2
      rw [if_pos (show true = true from rfl), if_pos (show false = false ∧ true = true from ⟨rfl, rfl⟩), sb_eq]
      refine ⟨_, rfl, fR_trans (fR_r t3) (fR_r (fun b hb' => sm_uP hb')), by rw [sI_uP, t4]; exact h7, fun s' D' h => ?_⟩
      cases h
      refine ⟨⟨t2.1, ?_, sP_s _ _ _ _, ?_, ?_⟩, (hI.r (by omega) t3).r (by omega) (fun b hb' => sm_uP hb')⟩
      · rw [sP_o (Or.inr (by decide))]; exact t2.2.1
      · rw [sP_o (Or.inr (by decide))]; exact t2.2.2.2.1
      · rw [sI_uP, t2.2.2.2.2, hb]
