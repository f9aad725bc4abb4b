/-! ===== the class reads a field ===== -/
theorem IT_t {σ : SG} {c a i t w : Nat} {d : Dc} {r : Bool} (h : IT σ c a i d) : IT (uI (uI (uI σ a 11 (zI r)) a 8 (nI t)) a 9 (nI w)) c a i (wT d t w r) := by
  unfold IT wT dK dS dO dA dE dN dT dW dR dP at *
  simp only [sP_uI, sL_uI]
  obtain ⟨h1, h2, h3, h4, h5, h6, h7, h8, h9, h10, h11, h12, h13, h14, h15, h16⟩ := h
  have o : ∀ k v, k ≠ 11 → k ≠ 8 → k ≠ 9 → sI σ a k = v → sI (uI (uI (uI σ a 11 (zI r)) a 8 (nI t)) a 9 (nI w)) a k = v := fun k v q1 q2 q3 e => by rw [sI_o (Or.inr q3), sI_o (Or.inr q2), sI_o (Or.inr q1)]; exact e
  refine ⟨o 0 _ (by decide) (by decide) (by decide) h1, o 1 _ (by decide) (by decide) (by decide) h2, h3, h4, o 4 _ (by decide) (by decide) (by decide) h5, o 5 _ (by decide) (by decide) (by decide) h6, h7, ?_, fun _ => sI_s _ _ _ _, h10, ?_, o 12 _ (by decide) (by decide) (by decide) h12, o 13 _ (by decide) (by decide) (by decide) h13, ?_, h15, h16⟩
  · rw [sI_o (Or.inr (by decide)), sI_s]
  · rw [sI_o (Or.inr (by decide)), sI_o (Or.inr (by decide)), sI_s]
  · rw [o 14 _ (by decide) (by decide) (by decide) rfl]; exact h14
/-- the field behind its type: name, number, packed, ; -/
def sFe (T : List Nat) (Ws : List Wd) (m o : Option Nat) (t w : Nat) (r : Bool) (k : Nat) : Option (Nat × Dc) := match Ws[k]? with
  | none => none
  | some x => if x.1 = 1 then (if sS T Ws 61 (k + 1) then (match sNu T Ws false (k + 2) with | some (k4, v) => (match sPk T Ws k4 with | some (k5, pk) => if sS T Ws 59 k5 then some (k5 + 1, (2, m, o, x.2.1, x.2.2.1, v, t, w, r, pk)) else none | none => none) | none => none) else none) else none
def sPl (Ws : List Wd) (k : Nat) : Bool := decide (¬ sC Ws k < 0 ∧ ¬ 12 < sC Ws k)
def sFt (T : List Nat) (Ws : List Wd) (m o : Option Nat) (r : Bool) (k : Nat) : Option (Nat × Dc) := match (if sPl Ws k then some (k + 1) else sTy T Ws k) with
  | none => none
  | some k2 => sFe T Ws m o (if sPl Ws k then (sC Ws k).toNatClampNeg else 13) k r k2
def sFd (T : List Nat) (Ws : List Wd) (m o : Option Nat) (k : Nat) : Option (Nat × Dc) := if o = none ∧ sC Ws k = nI 23 then sFt T Ws m o true (k + 1) else sFt T Ws m o false k
/-- what a part of the reading answers -/
def RO (c : Nat) (σ : SG) (s : Rs) (D : List Dc) (o : Option (Nat × Dc)) (x : Option (Int32 × SG)) : Prop := ∃ τ, x = some (zI o.isSome, τ) ∧ fR c σ τ ∧ sI τ (c + 191) 7 = sI σ (c + 191) 7 ∧ ∀ k' d, o = some (k', d) → RR τ c (k', s.2) ∧ ITs τ c (D ++ [d])
theorem sNu_le {T : List Nat} {Ws : List Wd} {b : Bool} {k k' : Nat} {v : Bool × Nat} (h : sNu T Ws b k = some (k', v)) : k + 1 ≤ k' ∧ k' ≤ k + 2 := by
  unfold sNu at h
  cases e : Ws[k]? with
  | none => rw [e] at h; cases h
  | some x =>
    rw [e] at h
    simp only at h
    split at h
    · cases e2 : Ws[k + 1]? with
      | none => rw [e2] at h; cases h
      | some y => rw [e2] at h; simp only at h; split at h <;> cases h; omega
    · split at h <;> cases h; omega
theorem sPk_le {T : List Nat} {Ws : List Wd} {k k' v : Nat} (h : sPk T Ws k = some (k', v)) : k ≤ k' ∧ k' ≤ k + 5 := by
  unfold sPk at h
  repeat' split at h
  all_goals first | (cases h; omega) | cases h
theorem X5_fieldEnd {c t w : Nat} {σ : SG} {T : List Nat} {Ws : List Wd} {s : Rs} {D : List Dc} {r : Bool} {v4 v3 : Int32} (hcb : cb c) (hS : WS T Ws) (h6 : sI σ (c + 186) 6 = nI T.length) (hW : WA σ (c + 186) Ws) (hR : RR σ c s) (hI : ITs σ c D) (hl : D.length < 180) (hk : s.1 < 1800) (ht : nI t = (if v4 = 0 then 13 else v3)) {U : Nat} :
    RO c σ s D (sFe T Ws s.2.1 s.2.2.1 t w r s.1) (x_X5_readField_83 U (c + 191) (zI r) (nI w) v3 v4 σ) := by
  have hG := hS.G
  have hT := hS.2.1
  unfold x_X5_readField_83 sFe
  cases hx : Ws[s.1]? with
  | none =>
    have h2 := hW.2.1
    have h1 := List.getElem?_eq_none_iff.mp hx
    refine ⟨σ, ?_, fR_refl c σ, rfl, fun k' d h => by cases h⟩
    unfold x_X5_readName
    rw [show c + 191 - 5 = c + 186 by omega, hR.1, U10_kindOf hW (by omega), b1_eq, show sK Ws s.1 = 0 by unfold sK; rw [hx], if_neg (by decide), b2_eq, if_pos rfl]; rfl
  | some x =>
    simp only
    by_cases q1 : ¬ x.1 = 1
    · rw [X5_readName_no hW hR hx (hG.2 _ _ hx).1 q1, b2_eq, if_pos rfl, if_neg q1]
      exact ⟨σ, rfl, fR_refl c σ, rfl, fun k' d h => by cases h⟩
    have q1 := Classical.not_not.mp q1
    have hsh := it_sh hcb hl
    obtain ⟨σ16, n1, n2, n3, n4, n5⟩ := X5_readName (k := 2) hS hW hR hI hx hl (by decide) q1
    have n1' : x_X5_readName (c + 191) 2 σ = some (some (c + 5 + D.length), σ16) := n1
    rw [n1', b2_eq, if_neg (show ¬ (some (c + 5 + D.length) = none) from fun z => by cases z), ck_eq hsh, show ∀ f : Option (Int32 × SG), zb (zI r) f = f from fun f => by cases r <;> rfl, sb_eq, if_pos q1]
    -- the type's marks
    let σ31 := uI (uI (uI σ16 (c + 5 + D.length) 11 (zI r)) (c + 5 + D.length) 8 (nI t)) (c + 5 + D.length) 9 (nI w)
    have go : ∀ (A B : SG → Option (Int32 × SG)), (if v4 = 0 then x_X5_readField_116 U (c + 191) (nI w) (some (c + 5 + D.length)) 13 (some (c + 5 + D.length)) (uI σ16 (c + 5 + D.length) 11 (zI r)) else x_X5_readField_116 U (c + 191) (nI w) (some (c + 5 + D.length)) v3 (some (c + 5 + D.length)) (uI σ16 (c + 5 + D.length) 11 (zI r))) = x_X5_readField_116 U (c + 191) (nI w) (some (c + 5 + D.length)) (nI t) (some (c + 5 + D.length)) (uI σ16 (c + 5 + D.length) 11 (zI r)) := by
      intro _ _
      rw [ht]
      by_cases q : v4 = 0
      · rw [if_pos q, if_pos q]
      · rw [if_neg q, if_neg q]
    rw [go (fun _ => none) (fun _ => none)]
    unfold x_X5_readField_116
    rw [ck_eq hsh, sb_eq, ck_eq hsh, sb_eq]
    have f31 : ∀ b, b ≠ c + 5 + D.length → sm σ16 σ31 b := fun b hb => sm_trans (sm_trans (sm_uI hb) (sm_uI hb)) (sm_uI hb)
    have fR31 : fR c σ σ31 := fun b h1 h2 h3 => sm_trans (n4 b h1 h2 h3) (f31 b (by omega))
    have R31 : RR σ31 c (s.1 + 1, s.2) := n2.s (f31 _ (by omega))
    have s31 : sI σ31 (c + 191) 7 = sI σ (c + 191) 7 := ((f31 _ (by omega)) 7).1.trans n5
    have I31 : ITs σ31 c (D ++ [wT (d0 2 s.2.1 s.2.2.1 x.2.1 x.2.2.1) t w r]) := ITs_last n3 hl (fun b h1 _ => f31 b h1) rfl rfl rfl (IT_t n3.last)
    obtain ⟨σ34, t1, t2, t3, t4⟩ := U5_takes (q := 61) (s := (s.1 + 1, s.2)) hG (hW.fR fR31) R31 (by show s.1 + 1 < 3000; omega) (by decide)
    have t1' : x_X5_takes (c + 191) 61 σ31 = some (zI (sS T Ws 61 (s.1 + 1)), σ34) := t1
    show RO c σ s D _ (b2 (x_X5_takes (c + 191) 61 σ31) _)
    rw [t1', b2_eq, ifz]
    have fR34 : fR c σ σ34 := fR_trans fR31 (fR_r t3)
    have s34 := t4.trans s31
    cases q2 : sS T Ws 61 (s.1 + 1) with
    | false =>
      simp only [Bool.false_eq_true, if_false]
      exact ⟨σ34, rfl, fR34, s34, fun k' d h => by cases h⟩
    | true =>
      simp only [if_true]
      have R34 : RR σ34 c (s.1 + 2, s.2) := by
        have := t2
        simp only [q2, if_true] at this
        exact this
      have I34 : ITs σ34 c (D ++ [wT (d0 2 s.2.1 s.2.2.1 x.2.1 x.2.2.1) t w r]) := I31.r (by rw [List.length_append, List.length_singleton]; omega) t3
      obtain ⟨y, hy⟩ : ∃ y, Ws[s.1 + 2]? = some y := by
        unfold sS at q2
        cases e : Ws[s.1 + 1]? with
        | none => rw [e] at q2; cases q2
        | some z =>
          rw [e] at q2
          obtain ⟨y, hy, -⟩ := hS.next e (by rw [sg_4 q2]; decide) (by rw [sg_4 q2]; decide)
          exact ⟨y, hy⟩
      obtain ⟨σ38, u1, u2, u3, u4⟩ := X5_readNumber (s := (s.1 + 2, s.2)) (mi := false) hcb hS (hW.fR fR34) R34 I34 hl hy
      have u1' : x_X5_readNumber (c + 191) (some (c + 5 + D.length)) 0 σ34 = some (zI (sNu T Ws false (s.1 + 2)).isSome, σ38) := u1
      rw [u1', b2_eq, ifz]
      have fR38 : fR c σ σ38 := fR_trans fR34 u2
      have s38 := u3.trans s34
      cases q3 : sNu T Ws false (s.1 + 2) with
      | none =>
        simp only [Option.isSome_none, Bool.false_eq_true, if_false]
        exact ⟨σ38, rfl, fR38, s38, fun k' d h => by cases h⟩
      | some kv =>
        obtain ⟨k4, v⟩ := kv
        simp only [Option.isSome_some, if_true]
        obtain ⟨R38, I38⟩ := u4 k4 v q3
        have b4 := sNu_le q3
        obtain ⟨σ42, w1, w2, w3, w4⟩ := X5_readPacked (s := (k4, s.2)) hcb hG ((fR38 (c + 186) (by omega) (by omega) (by omega) 6).1.trans h6) hT (hW.fR fR38) R38 I38 hl (by show k4 < 2000; omega) rfl
        rw [w1, b2_eq, ifz]
        have fR42 : fR c σ σ42 := fR_trans fR38 w2
        have s42 := w3.trans s38
        cases q4 : sPk T Ws k4 with
        | none =>
          simp only [Option.isSome_none, Bool.false_eq_true, if_false]
          exact ⟨σ42, rfl, fR42, s42, fun k' d h => by cases h⟩
        | some kp =>
          obtain ⟨k5, pk⟩ := kp
          simp only [Option.isSome_some, if_true]
          obtain ⟨R42, I42⟩ := w4 k5 pk q4
          have b5 := sPk_le q4
          obtain ⟨σ46, z1, z2, z3, z4⟩ := U5_takes (q := 59) (s := (k5, s.2)) hG (hW.fR fR42) R42 (by show k5 < 3000; omega) (by decide)
          have z1' : x_X5_takes (c + 191) 59 σ42 = some (zI (sS T Ws 59 k5), σ46) := z1
          rw [z1', b2_eq, ifz]
          have fR46 : fR c σ σ46 := fR_trans fR42 (fR_r z3)
          have s46 := z4.trans s42
          cases q5 : sS T Ws 59 k5 with
          | false =>
            simp only [Bool.false_eq_true, if_false]
            exact ⟨σ46, rfl, fR46, s46, fun k' d h => by cases h⟩
          | true =>
            simp only [if_true]
            refine ⟨σ46, rfl, fR46, s46, fun k' d h => ?_⟩
            cases h
            have R46 : RR σ46 c (k5 + 1, s.2) := by
              have := z2
              simp only [q5, if_true] at this
              exact this
            exact ⟨R46, I42.r (by rw [List.length_append, List.length_singleton]; omega) z3⟩
