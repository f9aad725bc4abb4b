/-! ===== the class's reader: packed and fields ===== -/
def sPk (T : List Nat) (Ws : List Wd) (k : Nat) : Option (Nat × Nat) := if sS T Ws 91 k then (if sC Ws (k + 1) = nI 25 then (if sS T Ws 61 (k + 2) then (if sC Ws (k + 3) = nI 26 ∨ sC Ws (k + 3) = nI 27 then (if sS T Ws 93 (k + 4) then some (k + 5, if sC Ws (k + 3) = nI 27 then 2 else 1) else none) else none) else none) else none) else some (k, 0)
theorem RR.s {σ τ : SG} {c : Nat} {s : Rs} (h : RR σ c s) (hs : sm σ τ (c + 191)) : RR τ c s := ⟨(hs 6).1.trans h.1, (hs 2).2.2.trans h.2.1, (hs 3).2.2.trans h.2.2.1, (hs 4).2.2.trans h.2.2.2.1, (congrArg vN (hs 5).1).trans h.2.2.2.2⟩
/-- the reader is where it was but for its own object -/
def fr (c : Nat) (σ τ : SG) : Prop := (∀ b, b ≠ c + 191 → sm σ τ b) ∧ sI τ (c + 191) 7 = sI σ (c + 191) 7
theorem fr_refl (c : Nat) (σ : SG) : fr c σ σ := ⟨fun b _ => sm_refl σ b, rfl⟩
theorem fr_trans {c : Nat} {σ τ υ : SG} (h : fr c σ τ) (h' : fr c τ υ) : fr c σ υ := ⟨fun b hb => sm_trans (h.1 b hb) (h'.1 b hb), h'.2.trans h.2⟩
theorem IT_p {σ : SG} {c a i v : Nat} {d : Dc} {z : Bool} (h : IT σ c a i d) (hv : v < 2 ^ 31) : IT (uI (uI σ a 14 (nI v)) a 13 (zI z)) c a i (wP d (if z then 2 else 1)) := by
  unfold IT wP dK dS dO dA dE dN dT dW dR dP at *
  simp only [sP_uI, sL_uI, sI_s]
  obtain ⟨h1, h2, h3, h4, h5, h6, h7, h8, h9, h10, h11, h12, h13, h14, h15, h16⟩ := h
  refine ⟨?_, ?_, h3, h4, ?_, ?_, h7, ?_, fun q => ?_, h10, ?_, ?_, ?_, ?_, h15, h16⟩
  · rw [sI_o (Or.inr (by decide)), sI_o (Or.inr (by decide))]; exact h1
  · rw [sI_o (Or.inr (by decide)), sI_o (Or.inr (by decide))]; exact h2
  · rw [sI_o (Or.inr (by decide)), sI_o (Or.inr (by decide))]; exact h5
  · rw [sI_o (Or.inr (by decide)), sI_o (Or.inr (by decide))]; exact h6
  · rw [sI_o (Or.inr (by decide)), sI_o (Or.inr (by decide))]; exact h8
  · rw [sI_o (Or.inr (by decide)), sI_o (Or.inr (by decide))]; exact h9 q
  · rw [sI_o (Or.inr (by decide)), sI_o (Or.inr (by decide))]; exact h11
  · rw [sI_o (Or.inr (by decide)), sI_o (Or.inr (by decide))]; exact h12
  · cases z <;> rfl
  · rw [sI_o (Or.inr (by decide)), sI_s]
    exact ⟨fun q => absurd q (nI_neg hv), fun q => by cases z <;> simp at q⟩
theorem X5_readPacked {c : Nat} {σ : SG} {T : List Nat} {Ws : List Wd} {s : Rs} {D : List Dc} {d : Dc} (hcb : cb c) (hG : WG T Ws) (h6 : sI σ (c + 186) 6 = nI T.length) (hT : T.length ≤ 700) (hW : WA σ (c + 186) Ws) (hR : RR σ c s) (hI : ITs σ c (D ++ [d])) (hl : D.length < 180) (hk : s.1 < 2000) (hd : dP d = 0) :
    ∃ τ, x_X5_readPacked (c + 191) (some (c + 5 + D.length)) σ = some (zI (sPk T Ws s.1).isSome, τ) ∧ fR c σ τ ∧ sI τ (c + 191) 7 = sI σ (c + 191) 7 ∧ ∀ k' v, sPk T Ws s.1 = some (k', v) → RR τ c (k', s.2) ∧ ITs τ c (D ++ [wP d v]) := by
  have hsh := it_sh hcb hl
  have hd0 : wP d 0 = d := by
    obtain ⟨a1, a2, a3, a4, a5, a6, a7, a8, a9, a10⟩ := d
    unfold dP at hd
    simp only at hd
    subst hd
    rfl
  unfold x_X5_readPacked sPk
  obtain ⟨σ3, t1, t2, t3, t4⟩ := U5_takes (q := 91) hG hW hR (by omega) (by decide)
  have t1' : x_X5_takes (c + 191) 91 σ = some (zI (sS T Ws 91 s.1), σ3) := t1
  rw [t1', b2_eq, ifz]
  have F3 : fr c σ σ3 := ⟨t3, t4⟩
  cases hs : sS T Ws 91 s.1 with
  | false =>
    rw [hs, if_neg (by decide)] at t2
    simp only [Bool.false_eq_true, if_false]
    refine ⟨σ3, rfl, fR_r t3, t4, fun k' v hv => ?_⟩
    cases hv
    rw [hd0]
    exact ⟨t2, hI.r (by rw [List.length_append, List.length_singleton]; omega) t3⟩
  | true =>
    rw [hs, if_pos rfl] at t2
    simp only [if_true]
    obtain ⟨p, hp, hp7⟩ := U10_startOf (k := s.1 + 1) (hW.fR (fR_r t3)) hG ((t3 (c + 186) (by omega) 6).1.trans h6) hT (by omega)
    rw [show c + 191 - 5 = c + 186 by omega, t2.1, hp, b1_eq, ck_eq hsh, sb_eq]
    let σ10 := uI σ3 (c + 5 + D.length) 14 (nI p)
    have f10 : ∀ b, b ≠ c + 5 + D.length → sm σ3 σ10 b := fun b hb => sm_uI hb
    have R10 : RR σ10 c (s.1 + 1, s.2) := t2.s (f10 _ (by omega))
    have fR10 : fR c σ σ10 := fun b h1 h2 h3 => sm_trans (t3 b h3) (f10 b (by omega))
    have W10 := hW.fR fR10
    have s7 : sI σ10 (c + 191) 7 = sI σ (c + 191) 7 := ((f10 _ (by omega)) 7).1.trans t4
    obtain ⟨σ13, u1, u2, u3, u4⟩ := U5_takesWord (q := 25) (s := (s.1 + 1, s.2)) hG W10 R10 (by show s.1 + 1 < 3000; omega)
    have u1' : x_X5_takesWord (c + 191) 25 σ10 = some (zI (decide (sC Ws (s.1 + 1) = nI 25)), σ13) := u1
    show ∃ τ, b2 (x_X5_takesWord (c + 191) 25 σ10) _ = _ ∧ _
    rw [u1', b2_eq, ifz]
    have fR13 : fR c σ σ13 := fR_trans fR10 (fR_r u3)
    have s13 := u4.trans s7
    by_cases q1 : ¬ sC Ws (s.1 + 1) = nI 25
    · rw [decide_eq_false q1, if_neg q1]
      exact ⟨σ13, rfl, fR13, s13, fun k' v hv => by cases hv⟩
    have q1 := Classical.not_not.mp q1
    rw [decide_eq_true q1, if_pos q1]
    simp only [if_true]
    have R13 : RR σ13 c (s.1 + 2, s.2) := by
      have := u2
      simp only [q1, if_true] at this
      exact this
    obtain ⟨σ17, v1, v2, v3, v4⟩ := U5_takes (q := 61) (s := (s.1 + 2, s.2)) hG (hW.fR fR13) R13 (by show s.1 + 2 < 3000; omega) (by decide)
    have v1' : x_X5_takes (c + 191) 61 σ13 = some (zI (sS T Ws 61 (s.1 + 2)), σ17) := v1
    rw [v1', b2_eq, ifz]
    have fR17 : fR c σ σ17 := fR_trans fR13 (fR_r v3)
    have s17 := v4.trans s13
    cases q2 : sS T Ws 61 (s.1 + 2) with
    | false =>
      simp only [Bool.false_eq_true, if_false]
      exact ⟨σ17, rfl, fR17, s17, fun k' v hv => by cases hv⟩
    | true =>
      simp only [if_true]
      have R17 : RR σ17 c (s.1 + 3, s.2) := by
        have := v2
        simp only [q2, if_true] at this
        exact this
      rw [R17.1, U10_codeOf (hW.fR fR17) hG (by show s.1 + 3 < 3000; omega), b1_eq]
      -- true or false, and the end
      have tail : ∀ z : Bool, z = decide (sC Ws (s.1 + 3) = nI 27) → ∃ τ, x_X5_readPacked_68 (c + 191) (zI z) (some (c + 5 + D.length)) σ17 = some (zI (if sC Ws (s.1 + 3) = nI 26 ∨ sC Ws (s.1 + 3) = nI 27 then (if sS T Ws 93 (s.1 + 4) then some (s.1 + 5, if sC Ws (s.1 + 3) = nI 27 then 2 else 1) else none) else none : Option (Nat × Nat)).isSome, τ) ∧ fR c σ τ ∧ sI τ (c + 191) 7 = sI σ (c + 191) 7 ∧ ∀ k' v, (if sC Ws (s.1 + 3) = nI 26 ∨ sC Ws (s.1 + 3) = nI 27 then (if sS T Ws 93 (s.1 + 4) then some (s.1 + 5, if sC Ws (s.1 + 3) = nI 27 then 2 else 1) else none) else none : Option (Nat × Nat)) = some (k', v) → RR τ c (k', s.2) ∧ ITs τ c (D ++ [wP d v]) := by
        intro z hz
        unfold x_X5_readPacked_68
        rw [ck_eq hsh, show ∀ f : Option (Int32 × SG), zb (zI z) f = f from fun f => by cases z <;> rfl, sb_eq]
        let σ26 := uI σ17 (c + 5 + D.length) 13 (zI z)
        have f26 : ∀ b, b ≠ c + 5 + D.length → sm σ17 σ26 b := fun b hb => sm_uI hb
        have fR26 : fR c σ σ26 := fun b h1 h2 h3 => sm_trans (fR17 b h1 h2 h3) (f26 b (by omega))
        have R26 : RR σ26 c (s.1 + 3, s.2) := R17.s (f26 _ (by omega))
        have s26 : sI σ26 (c + 191) 7 = sI σ (c + 191) 7 := ((f26 _ (by omega)) 7).1.trans s17
        have I26 : ITs σ26 c (D ++ [wP d (if z then 2 else 1)]) := by
          refine ITs_last hI hl (fun b h1 h2 => sm_trans (sm_trans (sm_trans (sm_trans (t3 b h2) (f10 b h1)) (u3 b h2)) (v3 b h2)) (f26 b h1)) rfl rfl rfl ?_
          have hlast := (hI.last).sm (t3 (c + 5 + D.length) (by omega))
          refine (IT_p (z := z) (v := p) hlast (by omega)).sm ?_
          intro j
          have a1 := u3 (c + 5 + D.length) (by omega) j
          have a2 := v3 (c + 5 + D.length) (by omega) j
          refine ⟨?_, ?_, ?_⟩
          · show sI (uI σ17 (c + 5 + D.length) 13 (zI z)) (c + 5 + D.length) j = _
            rw [sI_uI, sI_uI, a2.1, a1.1]
          · show sL σ17 (c + 5 + D.length) j = _
            rw [a2.2.1, a1.2.1]; rfl
          · show sP σ17 (c + 5 + D.length) j = _
            rw [a2.2.2, a1.2.2]; rfl
        show ∃ τ, b2 (x_X5_takesWord (c + 191) 26 σ26) _ = _ ∧ _
        have close : ∀ (σ9 : SG), fr c σ26 σ9 → RR σ9 c (s.1 + 4, s.2) → (sC Ws (s.1 + 3) = nI 26 ∨ sC Ws (s.1 + 3) = nI 27) → ∃ τ, x_X5_readPacked_89 (c + 191) σ9 = some (zI (if sC Ws (s.1 + 3) = nI 26 ∨ sC Ws (s.1 + 3) = nI 27 then (if sS T Ws 93 (s.1 + 4) then some (s.1 + 5, if sC Ws (s.1 + 3) = nI 27 then 2 else 1) else none) else none : Option (Nat × Nat)).isSome, τ) ∧ fR c σ τ ∧ sI τ (c + 191) 7 = sI σ (c + 191) 7 ∧ ∀ k' v, (if sC Ws (s.1 + 3) = nI 26 ∨ sC Ws (s.1 + 3) = nI 27 then (if sS T Ws 93 (s.1 + 4) then some (s.1 + 5, if sC Ws (s.1 + 3) = nI 27 then 2 else 1) else none) else none : Option (Nat × Nat)) = some (k', v) → RR τ c (k', s.2) ∧ ITs τ c (D ++ [wP d v]) := by
          intro σ9 hf hR9 hor
          rw [if_pos hor]
          unfold x_X5_readPacked_89
          obtain ⟨σ37, w1, w2, w3, w4⟩ := U5_takes (q := 93) (s := (s.1 + 4, s.2)) hG (hW.fR (fR_trans fR26 (fR_r hf.1))) hR9 (by show s.1 + 4 < 3000; omega) (by decide)
          have w1' : x_X5_takes (c + 191) 93 σ9 = some (zI (sS T Ws 93 (s.1 + 4)), σ37) := w1
          rw [w1', b2_eq, ifz]
          have fR37 : fR c σ σ37 := fR_trans (fR_trans fR26 (fR_r hf.1)) (fR_r w3)
          have s37 := (w4.trans hf.2).trans s26
          cases q4 : sS T Ws 93 (s.1 + 4) with
          | false =>
            simp only [Bool.false_eq_true, if_false]
            exact ⟨σ37, rfl, fR37, s37, fun k' v hv => by cases hv⟩
          | true =>
            simp only [if_true]
            have R37 : RR σ37 c (s.1 + 5, s.2) := by
              have := w2
              simp only [q4, if_true] at this
              exact this
            refine ⟨σ37, rfl, fR37, s37, fun k' v hv => ?_⟩
            cases hv
            refine ⟨R37, ?_⟩
            have I37 := (I26.r (by rw [List.length_append, List.length_singleton]; omega) hf.1).r (by rw [List.length_append, List.length_singleton]; omega) w3
            have ez : (if z = true then 2 else 1) = (if sC Ws (s.1 + 3) = nI 27 then 2 else 1) := by
              rw [hz]
              by_cases q : sC Ws (s.1 + 3) = nI 27
              · rw [decide_eq_true q, if_pos q]; rfl
              · rw [decide_eq_false q, if_neg q]; rfl
            rw [ez] at I37
            exact I37
        obtain ⟨σ29, x1, x2, x3, x4⟩ := U5_takesWord (q := 26) (s := (s.1 + 3, s.2)) hG (hW.fR fR26) R26 (by show s.1 + 3 < 3000; omega)
        have x1' : x_X5_takesWord (c + 191) 26 σ26 = some (zI (decide (sC Ws (s.1 + 3) = nI 26)), σ29) := x1
        rw [x1', b2_eq, ifz]
        by_cases p1 : sC Ws (s.1 + 3) = nI 26
        · rw [decide_eq_true p1]
          have R29 : RR σ29 c (s.1 + 4, s.2) := by
            have := x2
            simp only [p1, if_true] at this
            exact this
          simp only [if_true]
          exact close σ29 ⟨x3, x4⟩ R29 (Or.inl p1)
        · rw [decide_eq_false p1]
          have R29 : RR σ29 c (s.1 + 3, s.2) := by
            have := x2
            simp only [p1, if_false] at this
            exact this
          obtain ⟨σ33, y1, y2, y3, y4⟩ := U5_takesWord (q := 27) (s := (s.1 + 3, s.2)) hG (hW.fR (fR_trans fR26 (fR_r x3))) R29 (by show s.1 + 3 < 3000; omega)
          have y1' : x_X5_takesWord (c + 191) 27 σ29 = some (zI (decide (sC Ws (s.1 + 3) = nI 27)), σ33) := y1
          rw [y1', b2_eq, ifz]
          by_cases p2 : sC Ws (s.1 + 3) = nI 27
          · rw [decide_eq_true p2]
            have R33 : RR σ33 c (s.1 + 4, s.2) := by
              have := y2
              simp only [p2, if_true] at this
              exact this
            have := close σ33 (fr_trans ⟨x3, x4⟩ ⟨y3, y4⟩) R33 (Or.inr p2)
            simpa only [Bool.false_eq_true, if_false, if_true] using this
          · have hno : ¬ (sC Ws (s.1 + 3) = nI 26 ∨ sC Ws (s.1 + 3) = nI 27) := fun z => z.elim p1 p2
            rw [decide_eq_false p2]
            simp only [Bool.false_eq_true, if_false]
            simp only [if_neg hno]
            exact ⟨σ33, rfl, fR_trans fR26 (fR_trans (fR_r x3) (fR_r y3)), (y4.trans x4).trans s26, fun k' v hv => by cases hv⟩
      by_cases q3 : sC Ws (s.1 + 3) = nI 27
      · rw [if_pos (show sC Ws (s.1 + 3, s.2).1 = 27 from q3)]
        exact tail true (by rw [decide_eq_true q3])
      · rw [if_neg (show ¬ sC Ws (s.1 + 3, s.2).1 = 27 from q3)]
        exact tail false (by rw [decide_eq_false q3])
