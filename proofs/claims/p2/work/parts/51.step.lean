/-! ===== the class's reader, step by step ===== -/
def sVl (T : List Nat) (Ws : List Wd) (m e : Option Nat) (k : Nat) : Option (Nat × Dc) := match Ws[k]? with
  | none => none
  | some x => if x.1 = 1 then (if sS T Ws 61 (k + 1) then (match sNu T Ws true (k + 2) with | some (k4, v) => if sS T Ws 59 k4 then some (k4 + 1, (3, m, e, x.2.1, x.2.2.1, v, 0, 0, false, 0)) else none | none => none) else none) else none
theorem X5_value {c : Nat} {σ : SG} {T : List Nat} {Ws : List Wd} {s : Rs} {D : List Dc} (hcb : cb c) (hS : WS T Ws) (hW : WA σ (c + 186) Ws) (hR : RR σ c s) (hI : ITs σ c D) (hl : D.length < 180) (hk : s.1 < 1800) :
    RO c σ s D (sVl T Ws s.2.1 s.2.2.2.1 s.1) (b2 (x_X5_readName (c + 191) 3 σ) fun v12 σ13 => if v12 = none then (some (0, σ13)) else (b2 (x_X5_takes (c + 191) 61 σ13) fun v16 σ17 => if v16 = 0 then (some (0, σ17)) else (b2 (x_X5_readNumber (c + 191) v12 1 σ17) fun v20 σ21 => if v20 = 0 then (some (0, σ21)) else (b2 (x_X5_takes (c + 191) 59 σ21) fun v24 σ25 => if v24 = 0 then (some (0, σ25)) else (some (1, σ25)))))) := by
  have hG := hS.G
  unfold sVl
  cases hx : Ws[s.1]? with
  | none =>
    unfold x_X5_readName
    rw [show c + 191 - 5 = c + 186 by omega, hR.1, U10_kindOf hW (by omega), b1_eq, show sK Ws s.1 = 0 by unfold sK; rw [hx], if_neg (by decide), b2_eq, if_pos rfl]
    exact RO_fail (fR_refl c σ) rfl
  | some x =>
    simp only
    by_cases q1 : ¬ x.1 = 1
    · rw [X5_readName_no hW hR hx (hG.2 _ _ hx).1 q1, b2_eq, if_pos rfl, if_neg q1]
      exact RO_fail (fR_refl c σ) rfl
    have q1 := Classical.not_not.mp q1
    obtain ⟨σ16, n1, n2, n3, n4, n5⟩ := X5_readName (k := 3) hS hW hR hI hx hl (by decide) q1
    have n1' : x_X5_readName (c + 191) 3 σ = some (some (c + 5 + D.length), σ16) := n1
    rw [n1', b2_eq, if_neg (show ¬ (some (c + 5 + D.length) = none) from fun z => by cases z), if_pos q1]
    obtain ⟨σ34, t1, t2, t3, t4⟩ := U5_takes (q := 61) (s := (s.1 + 1, s.2)) hG (hW.fR n4) n2 (by show s.1 + 1 < 3000; omega) (by decide)
    have t1' : x_X5_takes (c + 191) 61 σ16 = some (zI (sS T Ws 61 (s.1 + 1)), σ34) := t1
    rw [t1', b2_eq, ifz]
    have fR34 : fR c σ σ34 := fR_trans n4 (fR_r t3)
    have s34 := t4.trans n5
    cases q2 : sS T Ws 61 (s.1 + 1) with
    | false =>
      simp only [Bool.false_eq_true, if_false]
      exact RO_fail fR34 s34
    | true =>
      simp only [if_true]
      have R34 : RR σ34 c (s.1 + 2, s.2) := by
        have := t2
        simp only [q2, if_true] at this
        exact this
      have I34 : ITs σ34 c (D ++ [d0 3 s.2.1 s.2.2.2.1 x.2.1 x.2.2.1]) := n3.r (by rw [List.length_append, List.length_singleton]; omega) t3
      obtain ⟨y, hy⟩ : ∃ y, Ws[s.1 + 2]? = some y := by
        unfold sS at q2
        cases e : Ws[s.1 + 1]? with
        | none => rw [e] at q2; cases q2
        | some z =>
          rw [e] at q2
          obtain ⟨y, hy, -⟩ := hS.next e (by rw [sg_4 q2]; decide) (by rw [sg_4 q2]; decide)
          exact ⟨y, hy⟩
      obtain ⟨σ38, u1, u2, u3, u4⟩ := X5_readNumber (s := (s.1 + 2, s.2)) (mi := true) hcb hS (hW.fR fR34) R34 I34 hl hy
      have u1' : x_X5_readNumber (c + 191) (some (c + 5 + D.length)) 1 σ34 = some (zI (sNu T Ws true (s.1 + 2)).isSome, σ38) := u1
      rw [u1', b2_eq, ifz]
      have fR38 : fR c σ σ38 := fR_trans fR34 u2
      have s38 := u3.trans s34
      cases q3 : sNu T Ws true (s.1 + 2) with
      | none =>
        simp only [Option.isSome_none, Bool.false_eq_true, if_false]
        exact RO_fail fR38 s38
      | some kv =>
        obtain ⟨k4, v⟩ := kv
        simp only [Option.isSome_some, if_true]
        obtain ⟨R38, I38⟩ := u4 k4 v q3
        have b4 := sNu_le q3
        obtain ⟨σ46, z1, z2, z3, z4⟩ := U5_takes (q := 59) (s := (k4, s.2)) hG (hW.fR fR38) R38 (by show k4 < 3000; omega) (by decide)
        have z1' : x_X5_takes (c + 191) 59 σ38 = some (zI (sS T Ws 59 k4), σ46) := z1
        rw [z1', b2_eq, ifz]
        have fR46 : fR c σ σ46 := fR_trans fR38 (fR_r z3)
        have s46 := z4.trans s38
        cases q5 : sS T Ws 59 k4 with
        | false =>
          simp only [Bool.false_eq_true, if_false]
          exact RO_fail fR46 s46
        | true =>
          simp only [if_true]
          refine ⟨σ46, rfl, fR46, s46, fun k' d h => ?_⟩
          cases h
          have R46 : RR σ46 c (k4 + 1, s.2) := by
            have := z2
            simp only [q5, if_true] at this
            exact this
          exact ⟨R46, I38.r (by rw [List.length_append, List.length_singleton]; omega) z3⟩
/-- what a step answers -/
def RP (c : Nat) (σ : SG) (o : Option (Rs × List Dc)) (x : Option (Int32 × SG)) : Prop := ∃ τ, x = some (zI o.isSome, τ) ∧ fR c σ τ ∧ ¬ sI τ (c + 191) 7 = 0 ∧ ∀ s' D', o = some (s', D') → RR τ c s' ∧ ITs τ c D'
theorem RP_fail {c : Nat} {σ τ : SG} (hf : fR c σ τ) (h7 : ¬ sI τ (c + 191) 7 = 0) : RP c σ none (some (0, τ)) := ⟨τ, rfl, hf, h7, fun k' d h => by cases h⟩
theorem RP_from {c : Nat} {σ τ : SG} {o : Option (Rs × List Dc)} {x : Option (Int32 × SG)} (hf : fR c σ τ) (h : RP c τ o x) : RP c σ o x := by
  obtain ⟨υ, g1, g2, g3, g4⟩ := h
  exact ⟨υ, g1, fR_trans hf g2, g3, g4⟩
/-- the beginning of a message (0), an enum (1), a oneof (4), behind its word -/
def sBg (T : List Nat) (Ws : List Wd) (q : Nat) (s : Rs) (D : List Dc) : Option (Rs × List Dc) := match Ws[s.1]? with
  | none => none
  | some x => if x.1 = 1 then (if sS T Ws 123 (s.1 + 1) then some ((s.1 + 2, if q = 0 then some D.length else s.2.1, if q = 4 then some D.length else s.2.2.1, if q = 1 then some D.length else s.2.2.2.1, true), D ++ [d0 q s.2.1 none x.2.1 x.2.2.1]) else none) else none
theorem X5_begin {c q : Nat} {σ : SG} {T : List Nat} {Ws : List Wd} {s : Rs} {D : List Dc} (hS : WS T Ws) (hW : WA σ (c + 186) Ws) (hR : RR σ c s) (hI : ITs σ c D) (hl : D.length < 180) (hk : s.1 < 1800) (hq : q = 0 ∨ q = 1 ∨ q = 4) (h7 : ¬ sI σ (c + 191) 7 = 0) :
    RP c σ (sBg T Ws q s D) (x_X5_begin (c + 191) (nI q) σ) := by
  have hG := hS.G
  have how : own s q = none := by unfold own; rw [if_neg (by omega), if_neg (by omega)]
  unfold x_X5_begin sBg
  cases hx : Ws[s.1]? with
  | none =>
    unfold x_X5_readName
    simp only
    rw [show c + 191 - 5 = c + 186 by omega, hR.1, U10_kindOf hW (by omega), b1_eq, show sK Ws s.1 = 0 by unfold sK; rw [hx], if_neg (show ¬ nI 0 = 1 by decide), b2_eq, if_pos rfl]
    exact RP_fail (fR_refl c σ) h7
  | some x =>
    simp only
    by_cases q1 : ¬ x.1 = 1
    · rw [X5_readName_no hW hR hx (hG.2 _ _ hx).1 q1, b2_eq, if_pos rfl, if_neg q1]
      exact RP_fail (fR_refl c σ) h7
    have q1 := Classical.not_not.mp q1
    obtain ⟨σ3, n1, n2, n3, n4, n5⟩ := X5_readName (k := q) hS hW hR hI hx hl (by omega) q1
    rw [how] at n3
    rw [n1, b2_eq, if_neg (show ¬ (some (c + 5 + D.length) = none) from fun z => by cases z), if_pos q1]
    obtain ⟨σ7, t1, t2, t3, t4⟩ := U5_takes (q := 123) (s := (s.1 + 1, s.2)) hG (hW.fR n4) n2 (by show s.1 + 1 < 3000; omega) (by decide)
    have t1' : x_X5_takes (c + 191) 123 σ3 = some (zI (sS T Ws 123 (s.1 + 1)), σ7) := t1
    rw [t1', b2_eq, ifz]
    have fR7 : fR c σ σ7 := fR_trans n4 (fR_r t3)
    have s7 : ¬ sI σ7 (c + 191) 7 = 0 := by rw [t4, n5]; exact h7
    cases q2 : sS T Ws 123 (s.1 + 1) with
    | false =>
      simp only [Bool.false_eq_true, if_false]
      exact RP_fail fR7 s7
    | true =>
      simp only [if_true]
      have R7 : RR σ7 c (s.1 + 2, s.2) := by
        have := t2
        simp only [q2, if_true] at this
        exact this
      have I7 := n3.r (by rw [List.length_append, List.length_singleton]; omega) t3
      have Il : (D ++ [d0 q s.2.1 none x.2.1 x.2.2.1]).length ≤ 180 := by rw [List.length_append, List.length_singleton]; omega
      unfold x_X5_begin_51
      have fin : ∀ j v (s' : Rs), (∀ b, b ≠ c + 191 → sm σ7 (uI (uP σ7 (c + 191) j v) (c + 191) 5 1) b) := fun j v s' b hb => sm_trans (sm_uP hb) (sm_uI hb)
      rcases hq with rfl | rfl | rfl
      · rw [if_pos (show nI 0 = 0 from rfl), sb_eq, sb_eq]
        refine ⟨_, rfl, fR_trans fR7 (fR_r (fin 2 _ s)), ?_, fun s' D' h => ?_⟩
        · rw [sI_o (Or.inr (by decide)), sI_uP]; exact s7
        · cases h
          refine ⟨⟨?_, ?_, ?_, ?_, ?_⟩, I7.r Il (fin 2 _ s)⟩
          · rw [sI_o (Or.inr (by decide)), sI_uP]; exact R7.1
          · rw [sP_uI, sP_s]; rfl
          · rw [sP_uI, sP_o (Or.inr (by decide))]; exact R7.2.2.1
          · rw [sP_uI, sP_o (Or.inr (by decide))]; exact R7.2.2.2.1
          · rw [sI_s]; rfl
      · rw [if_neg (show ¬ nI 1 = 0 by decide), if_pos (show nI 1 = 1 from rfl), sb_eq, sb_eq]
        refine ⟨_, rfl, fR_trans fR7 (fR_r (fin 4 _ s)), ?_, fun s' D' h => ?_⟩
        · rw [sI_o (Or.inr (by decide)), sI_uP]; exact s7
        · cases h
          refine ⟨⟨?_, ?_, ?_, ?_, ?_⟩, I7.r Il (fin 4 _ s)⟩
          · rw [sI_o (Or.inr (by decide)), sI_uP]; exact R7.1
          · rw [sP_uI, sP_o (Or.inr (by decide))]; exact R7.2.1
          · rw [sP_uI, sP_o (Or.inr (by decide))]; exact R7.2.2.1
          · rw [sP_uI, sP_s]; rfl
          · rw [sI_s]; rfl
      · rw [if_neg (show ¬ nI 4 = 0 by decide), if_neg (show ¬ nI 4 = 1 by decide), sb_eq, sb_eq]
        refine ⟨_, rfl, fR_trans fR7 (fR_r (fin 3 _ s)), ?_, fun s' D' h => ?_⟩
        · rw [sI_o (Or.inr (by decide)), sI_uP]; exact s7
        · cases h
          refine ⟨⟨?_, ?_, ?_, ?_, ?_⟩, I7.r Il (fin 3 _ s)⟩
          · rw [sI_o (Or.inr (by decide)), sI_uP]; exact R7.1
          · rw [sP_uI, sP_o (Or.inr (by decide))]; exact R7.2.1
          · rw [sP_uI, sP_s]; rfl
          · rw [sP_uI, sP_o (Or.inr (by decide))]; exact R7.2.2.2.1
          · rw [sI_s]; rfl
