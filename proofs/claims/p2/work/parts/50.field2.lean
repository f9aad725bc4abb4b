/-! ===== the class reads a field, a value, a beginning ===== -/
theorem sC_lt {T : List Nat} {Ws : List Wd} (hG : WG T Ws) (k : Nat) (h : ¬ sC Ws k < 0) : ∃ q, q < 41 ∧ sC Ws k = nI q := by
  cases e : Ws[k]? with
  | none => unfold sC at h; rw [e] at h; exact absurd (by decide) h
  | some x =>
    rw [sC_some e] at h ⊢
    by_cases q1 : x.1 = 1
    · rw [cdX_1 (hG.2 _ _ e) q1] at h ⊢
      rcases cdS_cases (slc T x.2.1 x.2.2.1) with ⟨j, hj, e1, _⟩ | ⟨j, hj, e1, _⟩ | ⟨e1, _⟩ | ⟨e1, _⟩
      · exact ⟨j, by omega, e1⟩
      · exact ⟨20 + j, by omega, e1⟩
      · exact ⟨40, by omega, e1⟩
      · rw [e1] at h; exact absurd (by decide) h
    · unfold cdX at h; rw [if_neg q1] at h; exact absurd (by decide) h
theorem RO_fail {c : Nat} {σ τ : SG} {s : Rs} {D : List Dc} (hf : fR c σ τ) (h7 : sI τ (c + 191) 7 = sI σ (c + 191) 7) : RO c σ s D none (some (0, τ)) := ⟨τ, rfl, hf, h7, fun k' d h => by cases h⟩
theorem RO_from {c : Nat} {σ τ : SG} {s s' : Rs} {D : List Dc} {o : Option (Nat × Dc)} {x : Option (Int32 × SG)} (hf : fR c σ τ) (h7 : sI τ (c + 191) 7 = sI σ (c + 191) 7) (hs : s'.2 = s.2) (h : RO c τ s' D o x) : RO c σ s D o x := by
  obtain ⟨υ, g1, g2, g3, g4⟩ := h
  exact ⟨υ, g1, fR_trans hf g2, g3.trans h7, fun k' d hd => by have := g4 k' d hd; rw [hs] at this; exact this⟩
theorem X5_fieldType {c : Nat} {σ : SG} {T : List Nat} {Ws : List Wd} {s : Rs} {D : List Dc} {r : Bool} {U : Nat} (hU : 4000 < U) (hcb : cb c) (hS : WS T Ws) (h6 : sI σ (c + 186) 6 = nI T.length) (hW : WA σ (c + 186) Ws) (hR : RR σ c s) (hI : ITs σ c D) (hl : D.length < 180) (hk : s.1 < 800) :
    RO c σ s D (sFt T Ws s.2.1 s.2.2.1 r s.1) (x_X5_readField_21 U (c + 191) (zI r) σ) := by
  have hG := hS.G
  have h2 := hW.2.1
  unfold x_X5_readField_21 x_X5_readField_53 x_X5_readField_54 sFt
  rw [show c + 191 - 5 = c + 186 by omega, hR.1, U10_codeOf hW hG (by omega), b1_eq, if_pos (show (0 : Int32) = 0 from rfl), if_neg (show ¬ (1 : Int32) = 0 by decide)]
  have named : sPl Ws s.1 = false → RO c σ s D (match (if sPl Ws s.1 then some (s.1 + 1) else sTy T Ws s.1) with | none => none | some k2 => sFe T Ws s.2.1 s.2.2.1 (if sPl Ws s.1 then (sC Ws s.1).toNatClampNeg else 13) s.1 r k2) (b2 (x_X5_readTypeName U (c + 191) σ) fun v11 σ12 => if v11 = 0 then some (0, σ12) else x_X5_readField_83 U (c + 191) (zI r) (nI s.1) (sC Ws s.1) 0 σ12) := by
    intro hp
    simp only [hp, Bool.false_eq_true, if_false]
    obtain ⟨τ, t1, t2, t3, t4⟩ := X5_readTypeName hU hG hW hR hk
    rw [t1, b2_eq, ifz]
    cases q : sTy T Ws s.1 with
    | none =>
      simp only [Option.isSome_none, Bool.false_eq_true, if_false]
      exact RO_fail (fR_r t2) t3
    | some k2 =>
      simp only [Option.isSome_some, if_true]
      have b2' : k2 < 1800 ∨ ¬ k2 < 1800 := Nat.lt_or_ge k2 1800 |>.imp id (by omega)
      have hk2 : k2 ≤ s.1 + 1 + 2 * Ws.length := by
        unfold sTy at q
        split at q
        · have := sTN_le _ _ _ q; omega
        · split at q
          · cases q
          · have := sTN_le _ _ _ q; omega
      refine RO_from (fR_r t2) t3 (s' := (k2, s.2)) rfl ?_
      rcases b2' with b | b
      · exact X5_fieldEnd (s := (k2, s.2)) hcb hS ((t2 (c + 186) (by omega) 6).1.trans h6) (hW.fR (fR_r t2)) (t4 k2 q) (hI.r (by omega) t2) hl b (by rw [if_pos rfl]; rfl)
      · -- no word stands so far behind
        have hnone : Ws[k2]? = none := List.getElem?_eq_none (by omega)
        have e1 : sFe T Ws s.2.1 s.2.2.1 13 s.1 r k2 = none := by unfold sFe; rw [hnone]
        rw [e1]
        unfold x_X5_readField_83 x_X5_readName
        rw [show c + 191 - 5 = c + 186 by omega, (t4 k2 q).1]
        have hWτ := hW.fR (fR_r t2)
        rw [U10_kindOf hWτ (by show k2 < 3000; omega), b1_eq, show sK Ws (k2, s.2).1 = 0 by unfold sK; rw [hnone], if_neg (by decide), b2_eq, if_pos rfl]
        exact RO_fail (fR_refl c τ) rfl
  by_cases q1 : sC Ws s.1 < 0
  · rw [if_pos q1]
    exact named (by unfold sPl; exact decide_eq_false (fun z => z.1 q1))
  · rw [if_neg q1]
    by_cases q2 : 12 < sC Ws s.1
    · rw [if_pos q2]
      exact named (by unfold sPl; exact decide_eq_false (fun z => z.2 q2))
    · rw [if_neg q2, sb_eq, nI_1]
      have hp : sPl Ws s.1 = true := by unfold sPl; exact decide_eq_true ⟨q1, q2⟩
      obtain ⟨q, hq, hqe⟩ := sC_lt hG s.1 q1
      simp only [hp, if_true]
      have f1 : ∀ b, b ≠ c + 191 → sm σ (uI σ (c + 191) 6 (nI (s.1 + 1))) b := fun b hb => sm_uI hb
      refine RO_from (fR_r f1) (sI_o (Or.inr (by decide))) (s' := (s.1 + 1, s.2)) rfl ?_
      exact X5_fieldEnd (v4 := 1) (v3 := sC Ws s.1) (s := (s.1 + 1, s.2)) hcb hS ((f1 (c + 186) (by omega) 6).1.trans h6) (hW.fR (fR_r f1)) hR.at (hI.r (by omega) f1) hl (by show s.1 + 1 < 1800; omega) (by rw [if_neg (by decide), hqe, nI_clamp (by omega)])
theorem X5_readField {c : Nat} {σ : SG} {T : List Nat} {Ws : List Wd} {s : Rs} {D : List Dc} {U : Nat} (hU : 4000 < U) (hcb : cb c) (hS : WS T Ws) (h6 : sI σ (c + 186) 6 = nI T.length) (hW : WA σ (c + 186) Ws) (hR : RR σ c s) (hI : ITs σ c D) (hl : D.length < 180) (hk : s.1 < 790) :
    RO c σ s D (sFd T Ws s.2.1 s.2.2.1 s.1) (x_X5_readField U (c + 191) σ) := by
  have hG := hS.G
  unfold x_X5_readField x_X5_readField_20 sFd
  rw [hR.2.2.1]
  cases ho : s.2.2.1 with
  | some i =>
    rw [if_neg (show ¬ ad c (some i) = none from fun z => by cases z), if_neg (fun z => by cases z.1), ← ho]
    exact X5_fieldType (r := false) hU hcb hS h6 hW hR hI hl (by omega)
  | none =>
    rw [if_pos (show ad c none = none from rfl)]
    obtain ⟨τ, t1, t2, t3, t4⟩ := U5_takesWord (q := 23) hG hW hR (by omega)
    have t1' : x_X5_takesWord (c + 191) 23 σ = some (zI (decide (sC Ws s.1 = nI 23)), τ) := t1
    rw [t1', b2_eq, ifz]
    by_cases q : sC Ws s.1 = nI 23
    · rw [decide_eq_true q, if_pos ⟨rfl, q⟩, ← ho]
      rw [if_pos q] at t2
      simp only [if_true]
      refine RO_from (fR_r t3) t4 (s' := (s.1 + 1, s.2)) rfl ?_
      exact X5_fieldType (r := true) (s := (s.1 + 1, s.2)) hU hcb hS ((t3 (c + 186) (by omega) 6).1.trans h6) (hW.fR (fR_r t3)) t2 (hI.r (by omega) t3) hl (by show s.1 + 1 < 800; omega)
    · rw [decide_eq_false q, if_neg (fun z => q z.2), ← ho]
      rw [if_neg q] at t2
      simp only [Bool.false_eq_true, if_false]
      refine RO_from (fR_r t3) t4 (s' := s) rfl ?_
      exact X5_fieldType (r := false) hU hcb hS ((t3 (c + 186) (by omega) 6).1.trans h6) (hW.fR (fR_r t3)) t2 (hI.r (by omega) t3) hl (by omega)
