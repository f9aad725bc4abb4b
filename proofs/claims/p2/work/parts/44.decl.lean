/-! ===== declarations, and the class's reader: small steps ===== -/
/-- a declaration: kind, scope and owner (places in the list), name's start and end, number (minus?, how much), type, type's word, repeated, packed (0 not told, 1 true, 2 false) -/
abbrev Dc : Type := Nat × Option Nat × Option Nat × Nat × Nat × (Bool × Nat) × Nat × Nat × Bool × Nat
def dK (d : Dc) : Nat := d.1
def dS (d : Dc) : Option Nat := d.2.1
def dO (d : Dc) : Option Nat := d.2.2.1
def dA (d : Dc) : Nat := d.2.2.2.1
def dE (d : Dc) : Nat := d.2.2.2.2.1
def dN (d : Dc) : Bool × Nat := d.2.2.2.2.2.1
def dT (d : Dc) : Nat := d.2.2.2.2.2.2.1
def dW (d : Dc) : Nat := d.2.2.2.2.2.2.2.1
def dR (d : Dc) : Bool := d.2.2.2.2.2.2.2.2.1
def dP (d : Dc) : Nat := d.2.2.2.2.2.2.2.2.2
def cnt (D : List Dc) (k : Nat) : Nat := (D.filter (fun d => d.1 == k)).length
def nmB (D : List Dc) : Nat := (D.map (fun d => dE d - dA d)).sum
def nL (x : Bool × Nat) : Int64 := if x.1 then -(lN x.2) else lN x.2
def ad (c : Nat) (o : Option Nat) : Option Nat := o.map (fun i => c + 5 + i)
/-- an item of the class as it has been read -/
def IT (σ : SG) (c a i : Nat) (d : Dc) : Prop := sI σ a 0 = nI (dK d) ∧ sI σ a 1 = nI i ∧ sP σ a 2 = ad c (dS d) ∧ sP σ a 3 = ad c (dO d) ∧ sI σ a 4 = nI (dA d) ∧ sI σ a 5 = nI (dE d) ∧ sL σ a 6 = nL (dN d) ∧ sI σ a 8 = nI (dT d) ∧ (dT d = 13 → sI σ a 9 = nI (dW d)) ∧ sP σ a 10 = none ∧ sI σ a 11 = zI (dR d) ∧ sI σ a 12 = 0 ∧ sI σ a 13 = zI (decide (dP d = 2)) ∧ (sI σ a 14 < 0 ↔ dP d = 0) ∧ sP σ a 15 = none ∧ sP σ a 16 = none
theorem IT.sm {σ τ : SG} {c a i : Nat} {d : Dc} (h : IT σ c a i d) (hs : sm σ τ a) : IT τ c a i d := by
  unfold IT at *
  simp only [(hs _).1, (hs _).2.1, (hs _).2.2]
  exact h
/-- all the class's items -/
def ITs (σ : SG) (c : Nat) (D : List Dc) : Prop := sI σ (c + 1) 3 = nI D.length ∧ sI σ (c + 1) 4 = nI (nmB D) ∧ (∀ k, k < 5 → sI σ (c + 185) k = nI (cnt D k)) ∧ ∀ i d, D[i]? = some d → IT σ c (c + 5 + i) (cnt (D.take i) (dK d)) d
/-- where the class's reader stands: word, open message, oneof, enum, nothing read in it yet -/
abbrev Rs : Type := Nat × Option Nat × Option Nat × Option Nat × Bool
def vN (v : Int32) : Bool := decide (¬ v = 0)
theorem ifnz {α : Type} {v : Int32} {x y : α} : (if v = 0 then x else y) = if vN v = true then y else x := by
  unfold vN
  by_cases h : v = 0
  · rw [if_pos h, decide_eq_false (fun z => z h), if_neg (by decide)]
  · rw [if_neg h, decide_eq_true h, if_pos rfl]
def RR (σ : SG) (c : Nat) (s : Rs) : Prop := sI σ (c + 191) 6 = nI s.1 ∧ sP σ (c + 191) 2 = ad c s.2.1 ∧ sP σ (c + 191) 3 = ad c s.2.2.1 ∧ sP σ (c + 191) 4 = ad c s.2.2.2.1 ∧ vN (sI σ (c + 191) 5) = s.2.2.2.2
/-- a compiler's block -/
def cb (c : Nat) : Prop := c = 5 ∨ c = 197
theorem cb_sh {c : Nat} (h : cb c) : sh (c + 191) = 5 ∧ sh (c + 186) = 10 ∧ sh (c + 1) = 6 ∧ sh (c + 2) = 0 ∧ sh c = 2 := by rcases h with rfl | rfl <;> decide
theorem it_sh {c i : Nat} (h : cb c) (hi : i < 180) : sh (c + 5 + i) = 3 := by
  have := sh_itS (cb_sh h).2.2.1 hi
  rw [show c + 1 + 4 + i = c + 5 + i by omega] at this; exact this
/-- what reading may touch -/
def fR (c : Nat) (σ τ : SG) : Prop := (∀ b, b ≠ c + 1 → (b < c + 5 ∨ c + 185 < b) → b ≠ c + 191 → sm σ τ b)
theorem fR_refl (c : Nat) (σ : SG) : fR c σ σ := fun b _ _ _ => sm_refl σ b
theorem fR_trans {c : Nat} {σ τ υ : SG} (h : fR c σ τ) (h' : fR c τ υ) : fR c σ υ := fun b h1 h2 h3 => sm_trans (h b h1 h2 h3) (h' b h1 h2 h3)
theorem WA.fR {σ τ : SG} {c : Nat} {Ws : List Wd} (h : WA σ (c + 186) Ws) (hf : fR c σ τ) : WA τ (c + 186) Ws := by
  refine ⟨((hf (c + 186) (by omega) (by omega) (by omega)) 5).1.trans h.1, h.2.1, fun i x hi => ?_⟩
  obtain ⟨a1, a2, a3, a4⟩ := h.2.2 i x hi
  exact ⟨((hf (c + 186 + 1) (by omega) (by omega) (by omega)) i).1.trans a1, ((hf (c + 186 + 2) (by omega) (by omega) (by omega)) i).1.trans a2, ((hf (c + 186 + 3) (by omega) (by omega) (by omega)) i).1.trans a3, ((hf (c + 186 + 4) (by omega) (by omega) (by omega)) i).2.1.trans a4⟩
/-- the words of a text, all of them right -/
def WG (T : List Nat) (Ws : List Wd) : Prop := ok8 T ∧ ∀ (k : Nat) (x : Wd), Ws[k]? = some x → gw T x
theorem ITs.r {σ τ : SG} {c : Nat} {D : List Dc} (h : ITs σ c D) (hl : D.length ≤ 180) (hs : ∀ b, b ≠ c + 191 → sm σ τ b) : ITs τ c D :=
  ⟨((hs _ (by omega)) 3).1.trans h.1, ((hs _ (by omega)) 4).1.trans h.2.1, fun k hk => ((hs _ (by omega)) k).1.trans (h.2.2.1 k hk), fun i d hi => (h.2.2.2 i d hi).sm (hs _ (by have := (List.getElem?_eq_some_iff.mp hi).1; omega))⟩
theorem fR_r {c : Nat} {σ τ : SG} (hs : ∀ b, b ≠ c + 191 → sm σ τ b) : fR c σ τ := fun b _ _ h => hs b h
theorem RR.at {σ : SG} {c : Nat} {s : Rs} (h : RR σ c s) : RR (uI σ (c + 191) 6 (nI (s.1 + 1))) c (s.1 + 1, s.2) :=
  ⟨sI_s _ _ _ _, h.2.1, h.2.2.1, h.2.2.2.1, by rw [sI_o (Or.inr (by decide))]; exact h.2.2.2.2⟩
theorem X5_takes {c : Nat} {σ : SG} {T : List Nat} {Ws : List Wd} {s : Rs} {x : Wd} {q : Nat} (hG : WG T Ws) (hW : WA σ (c + 186) Ws) (hR : RR σ c s) (hx : Ws[s.1]? = some x) (hq : q < 256) :
    ∃ τ, x_X5_takes (c + 191) (nI q) σ = some (zI (sgX T x q), τ) ∧ RR τ c (if sgX T x q then (s.1 + 1, s.2) else s) ∧ (∀ b, b ≠ c + 191 → sm σ τ b) ∧ sI τ (c + 191) 7 = sI σ (c + 191) 7 := by
  unfold x_X5_takes
  rw [show c + 191 - 5 = c + 186 by omega, hR.1, X10_isSign hW hx (hG.2 _ _ hx) hG.1 hq, b1_eq, ifz]
  cases sgX T x q with
  | false => exact ⟨σ, rfl, hR, fun b _ => sm_refl σ b, rfl⟩
  | true =>
    rw [if_pos rfl, sb_eq, nI_1]
    exact ⟨_, rfl, hR.at, fun b hb => sm_uI hb, sI_o (Or.inr (by decide))⟩
theorem X5_takesWord {c : Nat} {σ : SG} {T : List Nat} {Ws : List Wd} {s : Rs} {x : Wd} {q : Nat} (hG : WG T Ws) (hW : WA σ (c + 186) Ws) (hR : RR σ c s) (hx : Ws[s.1]? = some x) :
    ∃ τ, x_X5_takesWord (c + 191) (nI q) σ = some (zI (decide (cdX x = nI q)), τ) ∧ RR τ c (if cdX x = nI q then (s.1 + 1, s.2) else s) ∧ (∀ b, b ≠ c + 191 → sm σ τ b) ∧ sI τ (c + 191) 7 = sI σ (c + 191) 7 := by
  unfold x_X5_takesWord
  rw [show c + 191 - 5 = c + 186 by omega, hR.1, X10_codeOf hW hx (hG.2 _ _ hx).1, b1_eq]
  by_cases q1 : cdX x = nI q
  · rw [if_pos q1, if_pos q1, decide_eq_true q1, sb_eq, nI_1]
    exact ⟨_, rfl, hR.at, fun b hb => sm_uI hb, sI_o (Or.inr (by decide))⟩
  · rw [if_neg q1, if_neg q1, decide_eq_false q1]
    exact ⟨σ, rfl, hR, fun b _ => sm_refl σ b, rfl⟩
theorem X5_isForbidden {c : Nat} {σ : SG} {T : List Nat} {Ws : List Wd} {s : Rs} {x : Wd} (hG : WG T Ws) (hW : WA σ (c + 186) Ws) (hR : RR σ c s) (hx : Ws[s.1]? = some x) :
    ∃ τ, x_X5_isForbidden (c + 191) σ = some (zI (decide (cdX x = 40)), τ) ∧ RR τ c s ∧ (∀ b, b ≠ c + 191 → sm σ τ b) ∧ sI τ (c + 191) 7 = (if cdX x = 40 then 2 else sI σ (c + 191) 7) := by
  unfold x_X5_isForbidden
  rw [show c + 191 - 5 = c + 186 by omega, hR.1, X10_codeOf hW hx (hG.2 _ _ hx).1, b1_eq]
  by_cases q1 : cdX x = 40
  · rw [if_pos q1, if_pos q1, decide_eq_true q1, sb_eq]
    refine ⟨_, rfl, ⟨?_, hR.2.1, hR.2.2.1, hR.2.2.2.1, ?_⟩, fun b hb => sm_uI hb, sI_s _ _ _ _⟩
    · rw [sI_o (Or.inr (by decide))]; exact hR.1
    · rw [sI_o (Or.inr (by decide))]; exact hR.2.2.2.2
  · rw [if_neg q1, if_neg q1, decide_eq_false q1]
    exact ⟨σ, rfl, hR, fun b _ => sm_refl σ b, rfl⟩
/-- a declaration as it begins -/
def d0 (k : Nat) (sc ow : Option Nat) (s e : Nat) : Dc := (k, sc, ow, s, e, (false, 0), 0, 0, false, 0)
theorem X3_begin {σ : SG} {c a k i : Nat} {sc ow : Option Nat} {s e : Nat} : ∃ τ, x_X3_begin a (nI k) (nI i) (ad c sc) (ad c ow) (nI s) (nI e) σ = some τ ∧ IT τ c a i (d0 k sc ow s e) ∧ ∀ b, b ≠ a → sm σ τ b := by
  unfold x_X3_begin
  simp only [sb_eq]
  refine ⟨_, rfl, ?_, ?_⟩
  · unfold IT d0 dK dS dO dA dE dN dT dW dR dP nL
    simp only [sI_uI, sI_uL, sI_uP, sL_uI, sL_uL, sL_uP, sP_uI, sP_uL, sP_uP]
    simp [zI]
    exact ⟨rfl, rfl⟩
  · intro b hb k9
    simp only [sI_uI, sI_uL, sI_uP, sL_uI, sL_uL, sL_uP, sP_uI, sP_uL, sP_uP, hb, false_and, if_false, and_self]
theorem cnt_snoc (D : List Dc) (d : Dc) (k : Nat) : cnt (D ++ [d]) k = cnt D k + (if d.1 = k then 1 else 0) := by
  unfold cnt
  rw [List.filter_append, List.length_append]
  by_cases h : d.1 = k
  · rw [if_pos h]; simp [List.filter_cons, h]
  · rw [if_neg h]; simp [List.filter_cons, h]
theorem cnt_le (D : List Dc) (k : Nat) : cnt D k ≤ D.length := List.length_filter_le _ _
theorem nmB_snoc (D : List Dc) (d : Dc) : nmB (D ++ [d]) = nmB D + (dE d - dA d) := by unfold nmB; rw [List.map_append, List.sum_append]; simp
theorem X6_declare {c : Nat} {σ : SG} {D : List Dc} {k s e : Nat} {sc ow : Option Nat} (h : ITs σ c D) (hl : D.length < 180) (hk : k < 5) (hse : s ≤ e) :
    ∃ τ, x_X6_declare (c + 1) (nI k) (ad c sc) (ad c ow) (nI s) (nI e) σ = some (some (c + 5 + D.length), τ) ∧ ITs τ c (D ++ [d0 k sc ow s e]) ∧ ∀ b, b ≠ c + 1 → b ≠ c + 5 + D.length → b ≠ c + 185 → sm σ τ b := by
  have hc := cnt_le D k
  have e1 : c + 1 + 4 + D.length = c + 5 + D.length := by omega
  have e2 : c + 1 + 184 = c + 185 := by omega
  obtain ⟨τ, g1, g2, g3⟩ := X3_begin (σ := σ) (c := c) (a := c + 5 + D.length) (k := k) (i := cnt D k) (sc := sc) (ow := ow) (s := s) (e := e)
  have t3 : sI τ (c + 1) 3 = nI D.length := ((g3 _ (by omega)) 3).1.trans h.1
  have t4 : sI τ (c + 1) 4 = nI (nmB D) := ((g3 _ (by omega)) 4).1.trans h.2.1
  have t5 : sI τ (c + 185) k = nI (cnt D k) := ((g3 _ (by omega)) k).1.trans (h.2.2.1 k hk)
  have es : nI e - nI s = nI (e - s) := nI_sub hse
  refine ⟨uI (uI (uI τ (c + 1) 3 (nI (D.length + 1))) (c + 185) k (nI (cnt D k + 1))) (c + 1) 4 (nI (nmB D + (e - s))), ?_, ⟨?_, ?_, ?_, ?_⟩, ?_⟩
  · unfold x_X6_declare
    rw [h.1, if_neg (nI_neg (by omega)), if_pos (show nI D.length < 180 from (ltI (b := 180) (by omega) (by decide)).mpr hl), if_neg (nI_neg (by omega)), if_pos (show nI k < 5 from (ltI (b := 5) (by omega) (by decide)).mpr hk), ix_in hl (by decide), ix_in hk (by decide), e1, e2, h.2.2.1 k hk, g1, b1_eq, sb_eq, t3, nI_1, ix_in hk (by decide), ix_in hk (by decide), sb_eq, sI_o (Or.inl (by omega)), t5, nI_1, sb_eq, sI_o (Or.inl (by omega)), sI_o (Or.inr (by decide)), t4, es, nI_add]
  · rw [sI_o (Or.inr (by decide)), sI_o (Or.inl (by omega)), sI_s, List.length_append]; rfl
  · rw [sI_s, nmB_snoc]; rfl
  · intro k' hk'
    rw [sI_o (Or.inl (by omega)), cnt_snoc]
    by_cases q : k' = k
    · subst q; rw [sI_s, if_pos (show (d0 k' sc ow s e).1 = k' from rfl)]
    · rw [sI_o (Or.inr q), sI_o (Or.inl (by omega)), ((g3 _ (by omega)) k').1, h.2.2.1 k' hk', if_neg (show ¬ (d0 k sc ow s e).1 = k' from fun z => q z.symm)]; rfl
  · intro i d hi
    have fr : ∀ b, b ≠ c + 1 → b ≠ c + 185 → sm τ (uI (uI (uI τ (c + 1) 3 (nI (D.length + 1))) (c + 185) k (nI (cnt D k + 1))) (c + 1) 4 (nI (nmB D + (e - s)))) b := fun b h1 h2 => sm_trans (sm_trans (sm_uI h1) (sm_uI h2)) (sm_uI h1)
    by_cases hj : i = D.length
    · subst hj
      rw [List.getElem?_append_right (Nat.le_refl _)] at hi
      simp at hi
      subst hi
      rw [List.take_append_of_le_length (Nat.le_refl _), List.take_length]
      exact g2.sm (fr _ (by omega) (by omega))
    · have hil : i < D.length := by
        rcases Nat.lt_or_ge i D.length with q | q
        · exact q
        · rw [List.getElem?_eq_none (by rw [List.length_append, List.length_singleton]; omega)] at hi; cases hi
      rw [List.getElem?_append_left hil] at hi
      rw [List.take_append_of_le_length (by omega)]
      exact ((h.2.2.2 i d hi).sm (g3 _ (by omega))).sm (fr _ (by omega) (by omega))
  · intro b h1 h2 h3
    exact sm_trans (g3 b h2) (sm_trans (sm_trans (sm_uI h1) (sm_uI h3)) (sm_uI h1))
