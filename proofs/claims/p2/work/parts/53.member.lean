/-! ===== the class's reader: a member, the syntax ===== -/
def scp (D : List Dc) (m : Option Nat) : Option Nat := match m with
  | none => none
  | some i => match D[i]? with
    | none => none
    | some d => dS d
def sMm (T : List Nat) (Ws : List Wd) (s : Rs) (D : List Dc) : Option (Rs × List Dc) :=
  if sC Ws s.1 = 40 then none else if sC Ws s.1 = nI 20 then sBg T Ws 0 (s.1 + 1, s.2) D else if sC Ws s.1 = nI 21 then sBg T Ws 1 (s.1 + 1, s.2) D else if s.2.1 = none then none
  else if sS T Ws 59 s.1 = true then some ((s.1 + 1, s.2), D) else if sS T Ws 125 s.1 = true then some ((s.1 + 1, scp D s.2.1, s.2.2), D) else if sC Ws s.1 = nI 22 then sBg T Ws 4 (s.1 + 1, s.2) D else adv s.2 D (sFd T Ws s.2.1 s.2.2.1 s.1)
theorem X5_readMember {c : Nat} {σ : SG} {T : List Nat} {Ws : List Wd} {s : Rs} {D : List Dc} {U : Nat} (hU : 4000 < U) (hcb : cb c) (hS : WS T Ws) (h6 : sI σ (c + 186) 6 = nI T.length) (hW : WA σ (c + 186) Ws) (hR : RR σ c s) (hI : ITs σ c D) (hl : D.length < 180) (hk : s.1 < 780) (h7 : ¬ sI σ (c + 191) 7 = 0) (hm : ∀ m, s.2.1 = some m → m < D.length) :
    RP c σ (sMm T Ws s D) (x_X5_readMember U (c + 191) σ) := by
  have hG := hS.G
  unfold x_X5_readMember sMm
  obtain ⟨σ3, a1, a2, a3, a4⟩ := U5_isForbidden hG hW hR (by omega)
  rw [a1, b2_eq, ifz]
  by_cases q0 : sC Ws s.1 = 40
  · rw [decide_eq_true q0, if_pos q0]
    simp only [if_true]
    exact RP_fail (fR_r a3) (by rw [a4, if_pos q0]; decide)
  rw [decide_eq_false q0, if_neg q0]
  simp only [Bool.false_eq_true, if_false]
  rw [if_neg q0] at a4
  have W3 := hW.fR (fR_r a3)
  have I3 := hI.r (by omega) a3
  have F3 : fr c σ σ3 := ⟨a3, a4⟩
  obtain ⟨σ7, b1', b2', b3, b4⟩ := U5_takesWord (q := 20) hG W3 a2 (by omega)
  have e7 : x_X5_takesWord (c + 191) 20 σ3 = some (zI (decide (sC Ws s.1 = nI 20)), σ7) := b1'
  rw [e7, b2_eq, ifz]
  have F7 : fr c σ σ7 := fr_trans F3 ⟨b3, b4⟩
  have bg : ∀ (q : Nat) (τ : SG), (q = 0 ∨ q = 1 ∨ q = 4) → fr c σ τ → RR τ c (s.1 + 1, s.2) → RP c σ (sBg T Ws q (s.1 + 1, s.2) D) (b2 (x_X5_begin (c + 191) (nI q) τ) fun v s => zb v <| some (v, s)) := by
    intro q τ hq hf hRτ
    exact b2_zb (RP_from (fR_r hf.1) (X5_begin hS (hW.fR (fR_r hf.1)) hRτ (hI.r (by omega) hf.1) hl (by show s.1 + 1 < 1800; omega) hq (by rw [hf.2]; exact h7)))
  by_cases q1 : sC Ws s.1 = nI 20
  · rw [if_pos q1] at b2'
    rw [decide_eq_true q1, if_pos q1]
    simp only [if_true]
    exact bg 0 σ7 (Or.inl rfl) F7 b2'
  rw [if_neg q1] at b2'
  rw [decide_eq_false q1, if_neg q1]
  simp only [Bool.false_eq_true, if_false]
  obtain ⟨σ11, c1, c2, c3, c4⟩ := U5_takesWord (q := 21) hG (hW.fR (fR_r F7.1)) b2' (by omega)
  have e11 : x_X5_takesWord (c + 191) 21 σ7 = some (zI (decide (sC Ws s.1 = nI 21)), σ11) := c1
  rw [e11, b2_eq, ifz]
  have F11 : fr c σ σ11 := fr_trans F7 ⟨c3, c4⟩
  by_cases q2 : sC Ws s.1 = nI 21
  · rw [if_pos q2] at c2
    rw [decide_eq_true q2, if_pos q2]
    simp only [if_true]
    exact bg 1 σ11 (Or.inr (Or.inl rfl)) F11 c2
  rw [if_neg q2] at c2
  rw [decide_eq_false q2, if_neg q2]
  simp only [Bool.false_eq_true, if_false]
  rw [c2.2.1]
  cases hm0 : s.2.1 with
  | none =>
    rw [if_pos (show ad c none = none from rfl), if_pos rfl]
    exact RP_fail (fR_r F11.1) (by rw [F11.2]; exact h7)
  | some m =>
    have hml := hm m hm0
    rw [if_neg (show ¬ ad c (some m) = none from fun z => by cases z), if_neg (show ¬ (some m = none) from fun z => by cases z)]
    obtain ⟨σ16, d1, d2, d3, d4⟩ := U5_takes (q := 59) hG (hW.fR (fR_r F11.1)) c2 (by omega) (by decide)
    have e16 : x_X5_takes (c + 191) 59 σ11 = some (zI (sS T Ws 59 s.1), σ16) := d1
    rw [e16, b2_eq, ifz]
    have F16 : fr c σ σ16 := fr_trans F11 ⟨d3, d4⟩
    cases q3 : sS T Ws 59 s.1 with
    | true =>
      rw [q3, if_pos rfl] at d2
      simp only [if_true]
      refine ⟨σ16, rfl, fR_r F16.1, by rw [F16.2]; exact h7, fun s' D' h => ?_⟩
      cases h
      exact ⟨d2, hI.r (by omega) F16.1⟩
    | false =>
      rw [q3, if_neg (by decide)] at d2
      simp only [Bool.false_eq_true, if_false]
      obtain ⟨σ20, g1, g2, g3, g4⟩ := U5_takes (q := 125) hG (hW.fR (fR_r F16.1)) d2 (by omega) (by decide)
      have e20 : x_X5_takes (c + 191) 125 σ16 = some (zI (sS T Ws 125 s.1), σ20) := g1
      rw [e20, b2_eq, ifz]
      have F20 : fr c σ σ20 := fr_trans F16 ⟨g3, g4⟩
      have I20 := hI.r (by omega) F20.1
      cases q4 : sS T Ws 125 s.1 with
      | true =>
        rw [q4, if_pos rfl] at g2
        simp only [if_true]
        have hit := I20.2.2.2 m D[m] (List.getElem?_eq_getElem hml)
        rw [g2.2.1]
        show RP c σ _ (ck 3 (ad c s.2.1) fun q34 => sb (uP σ20 (c + 191) 2 (sP σ20 q34 2)) fun σ37 => some (1, σ37))
        rw [hm0]
        show RP c σ _ (ck 3 (some (c + 5 + m)) fun q34 => sb (uP σ20 (c + 191) 2 (sP σ20 q34 2)) fun σ37 => some (1, σ37))
        rw [ck_eq (it_sh hcb (by omega)), sb_eq]
        refine ⟨_, rfl, fR_trans (fR_r F20.1) (fR_r (fun b hb => sm_uP hb)), by rw [sI_uP, F20.2]; exact h7, fun s' D' h => ?_⟩
        cases h
        refine ⟨⟨g2.1, ?_, ?_, ?_, g2.2.2.2.2⟩, I20.r (by omega) (fun b hb => sm_uP hb)⟩
        · rw [sP_s, hit.2.2.1]
          unfold scp
          simp only [List.getElem?_eq_getElem hml]
        · rw [sP_o (Or.inr (by decide))]; exact g2.2.2.1
        · rw [sP_o (Or.inr (by decide))]; exact g2.2.2.2.1
      | false =>
        rw [q4, if_neg (by decide)] at g2
        simp only [Bool.false_eq_true, if_false]
        obtain ⟨σ24, i1, i2, i3, i4⟩ := U5_takesWord (q := 22) hG (hW.fR (fR_r F20.1)) g2 (by omega)
        have e24 : x_X5_takesWord (c + 191) 22 σ20 = some (zI (decide (sC Ws s.1 = nI 22)), σ24) := i1
        rw [e24, b2_eq, ifz]
        have F24 : fr c σ σ24 := fr_trans F20 ⟨i3, i4⟩
        by_cases q5 : sC Ws s.1 = nI 22
        · rw [if_pos q5] at i2
          rw [decide_eq_true q5, if_pos q5]
          simp only [if_true]
          exact bg 4 σ24 (Or.inr (Or.inr rfl)) F24 i2
        · rw [if_neg q5] at i2
          rw [decide_eq_false q5, if_neg q5]
          simp only [Bool.false_eq_true, if_false]
          have key := X5_readField hU hcb hS ((F24.1 (c + 186) (by omega) 6).1.trans h6) (hW.fR (fR_r F24.1)) i2 (hI.r (by omega) F24.1) hl (by omega)
          rw [← hm0]
          exact b2_zb (RP_of_RO (fR_r F24.1) (by rw [F24.2]; exact h7) key)
/-- the first words -/
def sSy (T : List Nat) (Ws : List Wd) : Bool := decide (sC Ws 0 = nI 24) && sS T Ws 61 1 && (match Ws[2]? with | some x => decide (x.1 = 3 ∧ x.2.2.2 = Int32.toInt64 (nI 28)) | none => false) && sS T Ws 59 3
theorem X5_readSyntax {c : Nat} {σ : SG} {T : List Nat} {Ws : List Wd} {t : Option Nat × Option Nat × Option Nat × Bool} (hG : WG T Ws) (hW : WA σ (c + 186) Ws) (hR : RR σ c (0, t)) :
    ∃ τ, x_X5_readSyntax (c + 191) σ = some (zI (sSy T Ws), τ) ∧ fr c σ τ ∧ (sSy T Ws = true → RR τ c (4, t)) := by
  unfold x_X5_readSyntax sSy
  obtain ⟨σ3, a1, a2, a3, a4⟩ := U5_takesWord (q := 24) hG hW hR (show 0 < 3000 by decide)
  have e3 : x_X5_takesWord (c + 191) 24 σ = some (zI (decide (sC Ws 0 = nI 24)), σ3) := a1
  rw [e3, b2_eq, ifz]
  have F3 : fr c σ σ3 := ⟨a3, a4⟩
  cases q1 : decide (sC Ws 0 = nI 24) with
  | false => exact ⟨σ3, rfl, F3, fun h => by simp at h⟩
  | true =>
    have R3 : RR σ3 c (1, t) := by
      have := a2
      rw [if_pos (of_decide_eq_true q1)] at this
      exact this
    rw [if_pos rfl]
    obtain ⟨σ7, b1', b2', b3, b4⟩ := U5_takes (q := 61) hG (hW.fR (fR_r F3.1)) R3 (show 1 < 3000 by decide) (by decide)
    have e7 : x_X5_takes (c + 191) 61 σ3 = some (zI (sS T Ws 61 1), σ7) := b1'
    rw [e7, b2_eq, ifz]
    have F7 : fr c σ σ7 := fr_trans F3 ⟨b3, b4⟩
    cases q2 : sS T Ws 61 1 with
    | false => exact ⟨σ7, rfl, F7, fun h => by simp at h⟩
    | true =>
      have R7 : RR σ7 c (2, t) := by
        have := b2'
        simp only [q2, if_true] at this
        exact this
      have W7 := hW.fR (fR_r F7.1)
      rw [if_pos rfl, show c + 191 - 5 = c + 186 by omega, R7.1, U10_kindOf W7 (show 2 < 3000 by decide), b1_eq]
      cases hx : Ws[2]? with
      | none =>
        rw [show sK Ws (2, t).1 = 0 by unfold sK; rw [hx], if_neg (show ¬ nI 0 = 3 by decide)]
        exact ⟨σ7, rfl, F7, fun h => by simp at h⟩
      | some x =>
        have hx6 := (hG.2 _ _ hx).1
        rw [show sK Ws (2, t).1 = x.1 by unfold sK; rw [hx]]
        simp only
        by_cases q3 : x.1 = 3
        · rw [if_pos (show nI x.1 = 3 by rw [q3]; rfl), X10_valueOf W7 hx, b1_eq]
          by_cases q4 : x.2.2.2 = Int32.toInt64 (nI 28)
          · rw [if_pos (show x.2.2.2 = 28 by rw [q4]; rfl), sb_eq, nI_1, decide_eq_true ⟨q3, q4⟩]
            have f15 : ∀ b, b ≠ c + 191 → sm σ7 (uI σ7 (c + 191) 6 (nI (2 + 1))) b := fun b hb => sm_uI hb
            obtain ⟨σ18, d1, d2, d3, d4⟩ := U5_takes (q := 59) (s := (3, t)) hG (W7.fR (fR_r f15)) (RR.at (s := (2, t)) R7) (show 3 < 3000 by decide) (by decide)
            have e18 : x_X5_takes (c + 191) 59 (uI σ7 (c + 191) 6 (nI (2 + 1))) = some (zI (sS T Ws 59 3), σ18) := d1
            rw [e18, b2_eq]
            refine ⟨σ18, ?_, fr_trans F7 (fr_trans ⟨f15, sI_o (Or.inr (by decide))⟩ ⟨d3, d4⟩), fun h => ?_⟩
            · cases sS T Ws 59 3 <;> rfl
            · have q5 : sS T Ws 59 3 = true := by simpa using h
              simp only [q5, if_true] at d2
              exact d2
          · rw [if_neg (show ¬ x.2.2.2 = 28 from fun z => q4 (z.trans rfl)), decide_eq_false (fun z => q4 z.2)]
            exact ⟨σ7, rfl, F7, fun h => by simp at h⟩
        · rw [if_neg (show ¬ nI x.1 = 3 from fun z => q3 ((nI_eq (b := 3) (by omega) (by decide)).mp z)), decide_eq_false (fun z => q3 z.1)]
          exact ⟨σ7, rfl, F7, fun h => by simp at h⟩
