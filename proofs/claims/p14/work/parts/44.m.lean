/-! ===== declarations, and the class's reader: small steps ===== -/
/-- a declaration: kind, scope and owner (places in the list), name's start and end, number (minus?, how much), type, type's word, repeated, packed (0 not told, 1 true, 2 false) -/
abbrev Dc : Type := Nat × Option Nat × Option Nat × Nat × Nat × (Bool × Nat) × Nat × Nat × Bool × Nat
def dK (d : Dc) : Nat := d.1
def dS (d : Dc) : Option Nat := d.2.1
def dO (d : Dc) : Option Nat := d.2.2.1
def dA (d : Dc) : Nat := d.2.2.2.1
def dE (d : Dc) : Nat := d.2.2.2.2.1
def dN (d : Dc) : Bool × Nat := d.2.2.2.2.2.1
def dT (d : Dc) : Nat := d.2.2.2.2.2.2.1
def dW (d : Dc) : Nat := d.2.2.2.2.2.2.2.1
def dR (d : Dc) : Bool := d.2.2.2.2.2.2.2.2.1
def dP (d : Dc) : Nat := d.2.2.2.2.2.2.2.2.2
def cnt (D : List Dc) (k : Nat) : Nat := (D.filter (fun d => d.1 == k)).length
def nmB (D : List Dc) : Nat := (D.map (fun d => dE d - dA d)).sum
def nL (x : Bool × Nat) : Int64 := if x.1 then -(lN x.2) else lN x.2
def ad (c : Nat) (o : Option Nat) : Option Nat := o.map (fun i => c + 5 + i)
/-- an item of the class as it has been read -/
def IT (σ : SG) (c a i : Nat) (d : Dc) : Prop := sI σ a 0 = nI (dK d) ∧ sI σ a 1 = nI i ∧ sP σ a 2 = ad c (dS d) ∧ sP σ a 3 = ad c (dO d) ∧ sI σ a 4 = nI (dA d) ∧ sI σ a 5 = nI (dE d) ∧ sL σ a 6 = nL (dN d) ∧ sI σ a 8 = nI (dT d) ∧ (dT d = 13 → sI σ a 9 = nI (dW d)) ∧ sP σ a 10 = none ∧ sI σ a 11 = zI (dR d) ∧ sI σ a 12 = 0 ∧ sI σ a 13 = zI (decide (dP d = 2)) ∧ (sI σ a 14 < 0 ↔ dP d = 0) ∧ sP σ a 15 = none ∧ sP σ a 16 = none
theorem IT.sm {σ τ : SG} {c a i : Nat} {d : Dc} (h : IT σ c a i d) (hs : sm σ τ a) : IT τ c a i d := by
  unfold IT at *
  simp only [(hs _).1, (hs _).2.1, (hs _).2.2]
  exact h
/-- all the class's items -/
def ITs (σ : SG) (c : Nat) (D : List Dc) : Prop := sI σ (c + 1) 3 = nI D.length ∧ sI σ (c + 1) 4 = nI (nmB D) ∧ (∀ k, k < 5 → sI σ (c + 185) k = nI (cnt D k)) ∧ ∀ i d, D[i]? = some d → IT σ c (c + 5 + i) (cnt (D.take i) (dK d)) d
/-- where the class's reader stands: word, open message, oneof, enum, nothing read in it yet -/
abbrev Rs : Type := Nat × Option Nat × Option Nat × Option Nat × Bool
def vN (v : Int32) : Bool := decide (¬ v = 0)
theorem ifnz {α : Type} {v : Int32} {x y : α} : (if v = 0 then x else y) = if vN v = true then y else x := by
  unfold vN
  by_cases h : v = 0
  · rw [if_pos h, decide_eq_false (fun z => z h), if_neg (by decide)]
  · rw [if_neg h, decide_eq_true h, if_pos rfl]
def RR (σ : SG) (c : Nat) (s : Rs) : Prop := sI σ (c + 191) 6 = nI s.1 ∧ sP σ (c + 191) 2 = ad c s.2.1 ∧ sP σ (c + 191) 3 = ad c s.2.2.1 ∧ sP σ (c + 191) 4 = ad c s.2.2.2.1 ∧ vN (sI σ (c + 191) 5) = s.2.2.2.2
/-- a compiler's block -/
def cb (c : Nat) : Prop := c = 5 ∨ c = 197
theorem cb_sh {c : Nat} (h : cb c) : sh (c + 191) = 5 ∧ sh (c + 186) = 10 ∧ sh (c + 1) = 6 ∧ sh (c + 2) = 0 ∧ sh c = 2 := by rcases h with rfl | rfl <;> decide
theorem it_sh {c i : Nat} (h : cb c) (hi : i < 180) : sh (c + 5 + i) = 3 := by
  have := sh_itS (cb_sh h).2.2.1 hi
  rw [show c + 1 + 4 + i = c + 5 + i by omega] at this; exact this
/-- what reading may touch -/
def fR (c : Nat) (σ τ : SG) : Prop := (∀ b, b ≠ c + 1 → (b < c + 5 ∨ c + 185 < b) → b ≠ c + 191 → sm σ τ b)
theorem fR_refl (c : Nat) (σ : SG) : fR c σ σ := fun b _ _ _ => sm_refl σ b
theorem fR_trans {c : Nat} {σ τ υ : SG} (h : fR c σ τ) (h' : fR c τ υ) : fR c σ υ := fun b h1 h2 h3 => sm_trans (h b h1 h2 h3) (h' b h1 h2 h3)
theorem WA.fR {σ τ : SG} {c : Nat} {Ws : List Wd} (h : WA σ (c + 186) Ws) (hf : fR c σ τ) : WA τ (c + 186) Ws := by
  refine ⟨((hf (c + 186) (by omega) (by omega) (by omega)) 5).1.trans h.1, h.2.1, fun i x hi => ?_⟩
  obtain ⟨a1, a2, a3, a4⟩ := h.2.2 i x hi
  exact ⟨((hf (c + 186 + 1) (by omega) (by omega) (by omega)) i).1.trans a1, ((hf (c + 186 + 2) (by omega) (by omega) (by omega)) i).1.trans a2, ((hf (c + 186 + 3) (by omega) (by omega) (by omega)) i).1.trans a3, ((hf (c + 186 + 4) (by omega) (by omega) (by omega)) i).2.1.trans a4⟩
/-- the words of a text, all of them right -/
def WG (T : List Nat) (Ws : List Wd) : Prop := ok8 T ∧ ∀ (k : Nat) (x : Wd), Ws[k]? = some x → gw T x
theorem ITs.r {σ τ : SG} {c : Nat} {D : List Dc} (h : ITs σ c D) (hl : D.length ≤ 180) (hs : ∀ b, b ≠ c + 191 → sm σ τ b) : ITs τ c D :=
  ⟨((hs _ (by omega)) 3).1.trans h.1, ((hs _ (by omega)) 4).1.trans h.2.1, fun k hk => ((hs _ (by omega)) k).1.trans (h.2.2.1 k hk), fun i d hi => (h.2.2.2 i d hi).sm (hs _ (by have := (List.getElem?_eq_some_iff.mp hi).1; omega))⟩
theorem fR_r {c : Nat} {σ τ : SG} (hs : ∀ b, b ≠ c + 191 → sm σ τ b) : fR c σ τ := fun b _ _ h => hs b h
theorem RR.at {σ : SG} {c : Nat} {s : Rs} (h : RR σ c s) : RR (uI σ (c + 191) 6 (nI (s.1 + 1))) c (s.1 + 1, s.2) :=
  ⟨sI_s _ _ _ _, h.2.1, h.2.2.1, h.2.2.2.1, by rw [sI_o (Or.inr (by decide))]; exact h.2.2.2.2⟩
theorem X5_takes {c : Nat} {σ : SG} {T : List Nat} {Ws : List Wd} {s : Rs} {x : Wd} {q : Nat} (hG : WG T Ws) (hW : WA σ (c + 186) Ws) (hR : RR σ c s) (hx : Ws[s.1]? = some x) (hq : q < 256) :
    ∃ τ, x_X5_takes (c + 191) (nI q) σ = some (zI (sgX T x q), τ) ∧ RR τ c (if sgX T x q then (s.1 + 1, s.2) else s) ∧ (∀ b, b ≠ c + 191 → sm σ τ b) ∧ sI τ (c + 191) 7 = sI σ (c + 191) 7 := by
  unfold x_X5_takes
  rw [show c + 191 - 5 = c + 186 by omega, hR.1, X10_isSign hW hx (hG.2 _ _ hx) hG.1 hq, b1_eq, ifz]
  cases sgX T x q with
  | false => exact ⟨σ, rfl, hR, fun b _ => sm_refl σ b, rfl⟩
  | true =>
    rw [if_pos rfl, sb_eq, nI_1]
    exact ⟨_, rfl, hR.at, fun b hb => sm_uI hb, sI_o (Or.inr (by decide))⟩
theorem X5_takesWord {c : Nat} {σ : SG} {T : List Nat} {Ws : List Wd} {s : Rs} {x : Wd} {q : Nat} (hG : WG T Ws) (hW : WA σ (c + 186) Ws) (hR : RR σ c s) (hx : Ws[s.1]? = some x) :
    ∃ τ, x_X5_takesWord (c + 191) (nI q) σ = some (zI (decide (cdX x = nI q)), τ) ∧ RR τ c (if cdX x = nI q then (s.1 + 1, s.2) else s) ∧ (∀ b, b ≠ c + 191 → sm σ τ b) ∧ sI τ (c + 191) 7 = sI σ (c + 191) 7 := by
  unfold x_X5_takesWord
  rw [show c + 191 - 5 = c + 186 by omega, hR.1, X10_codeOf hW hx (hG.2 _ _ hx).1, b1_eq]
  by_cases q1 : cdX x = nI q
  · rw [if_pos q1, if_pos q1, decide_eq_true q1, sb_eq, nI_1]
    exact ⟨_, rfl, hR.at, fun b hb => sm_uI hb, sI_o (Or.inr (by decide))⟩
  · rw [if_neg q1, if_neg q1, decide_eq_false q1]
    exact ⟨σ, rfl, hR, fun b _ => sm_refl σ b, rfl⟩
theorem X5_isForbidden {c : Nat} {σ : SG} {T : List Nat} {Ws : List Wd} {s : Rs} {x : Wd} (hG : WG T Ws) (hW : WA σ (c + 186) Ws) (hR : RR σ c s) (hx : Ws[s.1]? = some x) :
    ∃ τ, x_X5_isForbidden (c + 191) σ = some (zI (decide (cdX x = 40)), τ) ∧ RR τ c s ∧ (∀ b, b ≠ c + 191 → sm σ τ b) ∧ sI τ (c + 191) 7 = (if cdX x = 40 then 2 else sI σ (c + 191) 7) := by
  unfold x_X5_isForbidden
  rw [show c + 191 - 5 = c + 186 by omega, hR.1, X10_codeOf hW hx (hG.2 _ _ hx).1, b1_eq]
  by_cases q1 : cdX x = 40
  · rw [if_pos q1, if_pos q1, decide_eq_true q1, sb_eq]
    refine ⟨_, rfl, ⟨?_, hR.2.1, hR.2.2.1, hR.2.2.2.1, ?_⟩, fun b hb => sm_uI hb, sI_s _ _ _ _⟩
    · rw [sI_o (Or.inr (by decide))]; exact hR.1
    · rw [sI_o (Or.inr (by decide))]; exact hR.2.2.2.2
  · rw [if_neg q1, if_neg q1, decide_eq_false q1]
    exact ⟨σ, rfl, hR, fun b _ => sm_refl σ b, rfl⟩
/-- a declaration as it begins -/
def d0 (k : Nat) (sc ow : Option Nat) (s e : Nat) : Dc := (k, sc, ow, s, e, (false, 0), 0, 0, false, 0)
theorem X3_begin {σ : SG} {c a k i : Nat} {sc ow : Option Nat} {s e : Nat} : ∃ τ, x_X3_begin a (nI k) (nI i) (ad c sc) (ad c ow) (nI s) (nI e) σ = some τ ∧ IT τ c a i (d0 k sc ow s e) ∧ ∀ b, b ≠ a → sm σ τ b := by
  unfold x_X3_begin
  simp only [sb_eq]
  refine ⟨_, rfl, ?_, ?_⟩
  · unfold IT d0 dK dS dO dA dE dN dT dW dR dP nL
    simp only [sI_uI, sI_uL, sI_uP, sL_uI, sL_uL, sL_uP, sP_uI, sP_uL, sP_uP]
    simp [zI]
    exact ⟨rfl, rfl⟩
  · intro b hb k9
    simp only [sI_uI, sI_uL, sI_uP, sL_uI, sL_uL, sL_uP, sP_uI, sP_uL, sP_uP, hb, false_and, if_false, and_self]
theorem cnt_snoc (D : List Dc) (d : Dc) (k : Nat) : cnt (D ++ [d]) k = cnt D k + (if d.1 = k then 1 else 0) := by
  unfold cnt
  rw [List.filter_append, List.length_append]
  by_cases h : d.1 = k
  · rw [if_pos h]; simp [List.filter_cons, h]
  · rw [if_neg h]; simp [List.filter_cons, h]
theorem cnt_le (D : List Dc) (k : Nat) : cnt D k ≤ D.length := List.length_filter_le _ _
theorem nmB_snoc (D : List Dc) (d : Dc) : nmB (D ++ [d]) = nmB D + (dE d - dA d) := by unfold nmB; rw [List.map_append, List.sum_append]; simp
theorem X6_declare {c : Nat} {σ : SG} {D : List Dc} {k s e : Nat} {sc ow : Option Nat} (h : ITs σ c D) (hl : D.length < 180) (hk : k < 5) (hse : s ≤ e) :
    ∃ τ, x_X6_declare (c + 1) (nI k) (ad c sc) (ad c ow) (nI s) (nI e) σ = some (some (c + 5 + D.length), τ) ∧ ITs τ c (D ++ [d0 k sc ow s e]) ∧ ∀ b, b ≠ c + 1 → b ≠ c + 5 + D.length → b ≠ c + 185 → sm σ τ b := by
  have hc := cnt_le D k
  have e1 : c + 1 + 4 + D.length = c + 5 + D.length := by omega
  have e2 : c + 1 + 184 = c + 185 := by omega
  obtain ⟨τ, g1, g2, g3⟩ := X3_begin (σ := σ) (c := c) (a := c + 5 + D.length) (k := k) (i := cnt D k) (sc := sc) (ow := ow) (s := s) (e := e)
  have t3 : sI τ (c + 1) 3 = nI D.length := ((g3 _ (by omega)) 3).1.trans h.1
  have t4 : sI τ (c + 1) 4 = nI (nmB D) := ((g3 _ (by omega)) 4).1.trans h.2.1
  have t5 : sI τ (c + 185) k = nI (cnt D k) := ((g3 _ (by omega)) k).1.trans (h.2.2.1 k hk)
  have es : nI e - nI s = nI (e - s) := nI_sub hse
  refine ⟨uI (uI (uI τ (c + 1) 3 (nI (D.length + 1))) (c + 185) k (nI (cnt D k + 1))) (c + 1) 4 (nI (nmB D + (e - s))), ?_, ⟨?_, ?_, ?_, ?_⟩, ?_⟩
  · unfold x_X6_declare
    rw [h.1, if_neg (nI_neg (by omega)), if_pos (show nI D.length < 180 from (ltI (b := 180) (by omega) (by decide)).mpr hl), if_neg (nI_neg (by omega)), if_pos (show nI k < 5 from (ltI (b := 5) (by omega) (by decide)).mpr hk), ix_in hl (by decide), ix_in hk (by decide), e1, e2, h.2.2.1 k hk, g1, b1_eq, sb_eq, t3, nI_1, ix_in hk (by decide), ix_in hk (by decide), sb_eq, sI_o (Or.inl (by omega)), t5, nI_1, sb_eq, sI_o (Or.inl (by omega)), sI_o (Or.inr (by decide)), t4, es, nI_add]
  · rw [sI_o (Or.inr (by decide)), sI_o (Or.inl (by omega)), sI_s, List.length_append]; try rfl
  · rw [sI_s, nmB_snoc]; try rfl
  · intro k' hk'
    rw [sI_o (Or.inl (by omega)), cnt_snoc]
    by_cases q : k' = k
    · subst q; rw [sI_s, if_pos (show (d0 k' sc ow s e).1 = k' from rfl)]
    · rw [sI_o (Or.inr q), sI_o (Or.inl (by omega)), ((g3 _ (by omega)) k').1, h.2.2.1 k' hk', if_neg (show ¬ (d0 k sc ow s e).1 = k' from fun z => q z.symm)]; try rfl
  · intro i d hi
    have fr : ∀ b, b ≠ c + 1 → b ≠ c + 185 → sm τ (uI (uI (uI τ (c + 1) 3 (nI (D.length + 1))) (c + 185) k (nI (cnt D k + 1))) (c + 1) 4 (nI (nmB D + (e - s)))) b := fun b h1 h2 => sm_trans (sm_trans (sm_uI h1) (sm_uI h2)) (sm_uI h1)
    by_cases hj : i = D.length
    · subst hj
      rw [List.getElem?_append_right (Nat.le_refl _)] at hi
      simp at hi
      subst hi
      rw [List.take_append_of_le_length (Nat.le_refl _), List.take_length]
      exact g2.sm (fr _ (by omega) (by omega))
    · have hil : i < D.length := by
        rcases Nat.lt_or_ge i D.length with q | q
        · exact q
        · rw [List.getElem?_eq_none (by rw [List.length_append, List.length_singleton]; omega)] at hi; cases hi
      rw [List.getElem?_append_left hil] at hi
      rw [List.take_append_of_le_length (by omega)]
      exact ((h.2.2.2 i d hi).sm (g3 _ (by omega))).sm (fr _ (by omega) (by omega))
  · intro b h1 h2 h3
    exact sm_trans (g3 b h2) (sm_trans (sm_trans (sm_uI h1) (sm_uI h3)) (sm_uI h1))
/-! ===== the words of a text, one behind the other ===== -/
theorem wl_chain {T : List Nat} : ∀ (n p : Nat), T.length < p + n → p ≤ T.length → (wl T n p)[0]? = some (nw T p) ∧ ∀ (k : Nat) (x : Wd), (wl T n p)[k]? = some x → gw T x ∧ (x.1 ≠ 0 → x.1 ≠ 5 → (wl T n p)[k + 1]? = some (nw T x.2.2.1)) ∧ (x.1 = 0 ∨ x.1 = 5 → (wl T n p)[k + 1]? = none) := by
  intro n
  induction n with
  | zero => intro p h h'; omega
  | succ n ih =>
    intro p h h'
    rw [wl]
    by_cases hz : (nw T p).1 = 0 ∨ (nw T p).1 = 5
    · rw [if_pos hz]
      refine ⟨rfl, fun k x hk => ?_⟩
      have : k = 0 := by have := (List.getElem?_eq_some_iff.mp hk).1; simp at this; exact this
      subst this
      simp at hk
      subst hk
      exact ⟨gw_nw h', fun h0 h5 => absurd hz (fun q => q.elim h0 h5), fun _ => rfl⟩
    · rw [if_neg hz]
      have h0 : (nw T p).1 ≠ 0 := fun q => hz (Or.inl q)
      have h5 : (nw T p).1 ≠ 5 := fun q => hz (Or.inr q)
      obtain ⟨e1, e2, e3⟩ := nw_pos h' h0 h5
      obtain ⟨g1, g2⟩ := ih (nw T p).2.2.1 (by omega) e2
      refine ⟨rfl, fun k x hk => ?_⟩
      cases k with
      | zero =>
        simp at hk
        subst hk
        exact ⟨gw_nw h', fun _ _ => by rw [List.getElem?_cons_succ]; exact g1, fun q => absurd q hz⟩
      | succ k =>
        rw [List.getElem?_cons_succ] at hk
        obtain ⟨a1, a2, a3⟩ := g2 k x hk
        exact ⟨a1, fun q0 q5 => by rw [List.getElem?_cons_succ]; exact a2 q0 q5, fun q => by rw [List.getElem?_cons_succ]; exact a3 q⟩
/-- all the words of a text -/
def WS (T : List Nat) (Ws : List Wd) : Prop := ok8 T ∧ T.length ≤ 700 ∧ Ws[0]? = some (nw T 0) ∧ ∀ (k : Nat) (x : Wd), Ws[k]? = some x → gw T x ∧ (x.1 ≠ 0 → x.1 ≠ 5 → Ws[k + 1]? = some (nw T x.2.2.1)) ∧ (x.1 = 0 ∨ x.1 = 5 → Ws[k + 1]? = none)
theorem WS_wl {T : List Nat} (h8 : ok8 T) (hl : T.length ≤ 700) : WS T (wl T 701 0) := ⟨h8, hl, (wl_chain 701 0 (by omega) (Nat.zero_le _)).1, (wl_chain 701 0 (by omega) (Nat.zero_le _)).2⟩
theorem WS.G {T : List Nat} {Ws : List Wd} (h : WS T Ws) : WG T Ws := ⟨h.1, fun k x hk => (h.2.2.2 k x hk).1⟩
theorem nw_start {T : List Nat} {p : Nat} (hp : p ≤ T.length) : p ≤ (nw T p).2.1 ∧ (nw T p).2.1 ≤ T.length := by
  have := bbS_le (T := T) (T.length + 1) p false (by omega) hp
  unfold nw; rw [lx_start]; exact ⟨this.2, this.1⟩
/-- the next word, behind one that is taken -/
theorem WS.next {T : List Nat} {Ws : List Wd} {k : Nat} {x : Wd} (h : WS T Ws) (hk : Ws[k]? = some x) (h0 : x.1 ≠ 0) (h5 : x.1 ≠ 5) : ∃ y, Ws[k + 1]? = some y ∧ x.2.2.1 ≤ y.2.1 ∧ y.2.1 ≤ T.length ∧ x.2.1 < x.2.2.1 := by
  obtain ⟨a1, a2, a3⟩ := h.2.2.2 k x hk
  have hb := a1.2.2.1 h0 h5
  exact ⟨_, a2 h0 h5, (nw_start hb.2).1, (nw_start hb.2).2, hb.1⟩
theorem sg_4 {T : List Nat} {x : Wd} {c : Nat} (h : sgX T x c = true) : x.1 = 4 := (of_decide_eq_true h).1
theorem cd_1 {x : Wd} {q : Nat} (hq : q < 256) (h : cdX x = nI q) : x.1 = 1 := by
  by_cases q1 : x.1 = 1
  · exact q1
  · unfold cdX at h; rw [if_neg q1] at h; exact absurd h ((by decide +kernel : ∀ c, c < 256 → ¬ (-1 : Int32) = nI c) q hq)
/-- how long a keyword is -/
theorem kw_len {T : List Nat} {x : Wd} {k : Nat} (hx : gw T x) (hk : k < 9) (h : cdX x = nI (20 + k)) : x.2.2.1 - x.2.1 = (kwW.getD k []).length := by
  have h1 := cd_1 (by omega) h
  have hb := hx.2.2.1 (by omega) (by omega)
  rw [cdX_1 hx h1, cd_kw hk] at h
  rw [List.getD_eq_getElem?_getD, h]
  exact (slc_len (by omega) hb.2).symm
/-- where the k-th word begins -/
def pos (Ws : List Wd) (k : Nat) : Nat := match Ws[k]? with
  | some x => x.2.1
  | none => 0
theorem pos_some {Ws : List Wd} {k : Nat} {x : Wd} (h : Ws[k]? = some x) : pos Ws k = x.2.1 := by unfold pos; rw [h]
/-! ===== the class's reader: names, numbers, types, packed ===== -/
def own (s : Rs) (k : Nat) : Option Nat := if k = 3 then s.2.2.2.1 else if k = 2 then s.2.2.1 else none
theorem X5_readName {c : Nat} {σ : SG} {T : List Nat} {Ws : List Wd} {s : Rs} {x : Wd} {D : List Dc} {k : Nat} (hS : WS T Ws) (hW : WA σ (c + 186) Ws) (hR : RR σ c s) (hI : ITs σ c D) (hx : Ws[s.1]? = some x) (hl : D.length < 180) (hk : k < 5) (h1 : x.1 = 1) :
    ∃ τ, x_X5_readName (c + 191) (nI k) σ = some (some (c + 5 + D.length), τ) ∧ RR τ c (s.1 + 1, s.2) ∧ ITs τ c (D ++ [d0 k s.2.1 (own s k) x.2.1 x.2.2.1]) ∧ fR c σ τ ∧ sI τ (c + 191) 7 = sI σ (c + 191) 7 := by
  have hg := hS.G.2 _ _ hx
  have hb := hg.2.2.1 (by omega) (by omega)
  obtain ⟨τ, g1, g2, g3⟩ := X6_declare (k := k) (sc := s.2.1) (ow := own s k) (s := x.2.1) (e := x.2.2.1) hI hl hk (by omega)
  have hr := g3 (c + 191) (by omega) (by omega) (by omega)
  have key : ∀ o, o = ad c (own s k) → ∃ τ, x_X5_readName_42 (c + 191) (nI k) o σ = some (some (c + 5 + D.length), τ) ∧ RR τ c (s.1 + 1, s.2) ∧ ITs τ c (D ++ [d0 k s.2.1 (own s k) x.2.1 x.2.2.1]) ∧ fR c σ τ ∧ sI τ (c + 191) 7 = sI σ (c + 191) 7 := by
    intro o ho
    subst ho
    unfold x_X5_readName_42
    rw [show c + 191 - 5 = c + 186 by omega, show c + 191 - 190 = c + 1 by omega, hR.1, X10_startOf hW hx, b1_eq, X10_endOf hW hx, b1_eq, hR.2.1, g1, b2_eq, sb_eq, (hr 6).1, hR.1, nI_1]
    have hRτ : RR τ c s := ⟨(hr 6).1.trans hR.1, (hr 2).2.2.trans hR.2.1, (hr 3).2.2.trans hR.2.2.1, (hr 4).2.2.trans hR.2.2.2.1, (congrArg vN (hr 5).1).trans hR.2.2.2.2⟩
    refine ⟨_, rfl, hRτ.at, g2.r (by rw [List.length_append, List.length_singleton]; omega) (fun b hb => sm_uI hb), fun b h1 h2 h3 => sm_trans (g3 b h1 (by omega) (by omega)) (sm_uI h3), ?_⟩
    rw [sI_o (Or.inr (by decide)), (hr 7).1]
  unfold x_X5_readName
  rw [show c + 191 - 5 = c + 186 by omega, hR.1, X10_kindOf hW hx, b1_eq, if_pos (show nI x.1 = 1 by rw [h1]; rfl)]
  by_cases q3 : k = 3
  · rw [if_pos (by rw [q3]; rfl)]
    exact key _ (by rw [hR.2.2.2.1]; unfold own; rw [if_pos q3])
  · rw [if_neg (show ¬ nI k = 3 from fun z => q3 ((nI_eq (b := 3) (by omega) (by decide)).mp z))]
    by_cases q2 : k = 2
    · rw [if_pos (by rw [q2]; rfl)]
      exact key _ (by rw [hR.2.2.1]; unfold own; rw [if_neg q3, if_pos q2])
    · rw [if_neg (show ¬ nI k = 2 from fun z => q2 ((nI_eq (b := 2) (by omega) (by decide)).mp z))]
      exact key _ (by unfold own; rw [if_neg q3, if_neg q2]; rfl)
theorem X5_readName_no {c : Nat} {σ : SG} {Ws : List Wd} {s : Rs} {x : Wd} {k : Int32} (hW : WA σ (c + 186) Ws) (hR : RR σ c s) (hx : Ws[s.1]? = some x) (h6 : x.1 < 6) (h1 : x.1 ≠ 1) : x_X5_readName (c + 191) k σ = some (none, σ) := by
  unfold x_X5_readName
  rw [show c + 191 - 5 = c + 186 by omega, hR.1, X10_kindOf hW hx, b1_eq, if_neg (show ¬ nI x.1 = 1 from fun z => h1 ((nI_eq (b := 1) (by omega) (by decide)).mp z))]
/-- another look at the last declaration -/
theorem ITs_last {c : Nat} {σ τ : SG} {D : List Dc} {d d' : Dc} (h : ITs σ c (D ++ [d])) (hl : D.length < 180) (hs : ∀ b, b ≠ c + 5 + D.length → b ≠ c + 191 → sm σ τ b) (hk : dK d' = dK d) (hA : dA d' = dA d) (hE : dE d' = dE d) (hi : IT τ c (c + 5 + D.length) (cnt D (dK d)) d') : ITs τ c (D ++ [d']) := by
  have hc : ∀ k, cnt (D ++ [d']) k = cnt (D ++ [d]) k := fun k => by rw [cnt_snoc, cnt_snoc]; unfold dK at hk; rw [hk]
  have hn : nmB (D ++ [d']) = nmB (D ++ [d]) := by rw [nmB_snoc, nmB_snoc, hA, hE]
  refine ⟨?_, ?_, ?_, ?_⟩
  · rw [((hs (c + 1) (by omega) (by omega)) 3).1, h.1, List.length_append, List.length_append]; try rfl
  · rw [((hs (c + 1) (by omega) (by omega)) 4).1, h.2.1, hn]
  · intro k hk'; rw [((hs (c + 185) (by omega) (by omega)) k).1, h.2.2.1 k hk', hc]
  · intro i e hie
    by_cases hj : i = D.length
    · subst hj
      rw [List.getElem?_append_right (Nat.le_refl _)] at hie
      simp at hie
      subst hie
      rw [List.take_append_of_le_length (Nat.le_refl _), List.take_length, hk]
      exact hi
    · have hil : i < D.length := by
        rcases Nat.lt_or_ge i D.length with q | q
        · exact q
        · rw [List.getElem?_eq_none (by rw [List.length_append, List.length_singleton]; omega)] at hie; cases hie
      rw [List.getElem?_append_left hil] at hie
      have := h.2.2.2 i e (by rw [List.getElem?_append_left hil]; exact hie)
      rw [List.take_append_of_le_length (by omega)] at this ⊢
      exact this.sm (hs _ (by omega) (by omega))
theorem ITs.last {c : Nat} {σ : SG} {D : List Dc} {d : Dc} (h : ITs σ c (D ++ [d])) : IT σ c (c + 5 + D.length) (cnt D (dK d)) d := by
  have := h.2.2.2 D.length d (by rw [List.getElem?_append_right (Nat.le_refl _)]; simp)
  rw [List.take_append_of_le_length (Nat.le_refl _), List.take_length] at this
  exact this
def wN (d : Dc) (n : Bool × Nat) : Dc := (dK d, dS d, dO d, dA d, dE d, n, dT d, dW d, dR d, dP d)
def wT (d : Dc) (t w : Nat) (r : Bool) : Dc := (dK d, dS d, dO d, dA d, dE d, dN d, t, w, r, dP d)
def wP (d : Dc) (p : Nat) : Dc := (dK d, dS d, dO d, dA d, dE d, dN d, dT d, dW d, dR d, p)
/-- the number at a word -/
def nuX (x : Wd) : Nat := x.2.2.2.toInt.toNat
theorem nuX_2 {T : List Nat} {x : Wd} (hx : gw T x) (h2 : x.1 = 2) : x.2.2.2 = lN (nuX x) ∧ nuX x ≤ 2 ^ 40 := by
  obtain ⟨n, h1, h3⟩ := hx.2.2.2.2.2.2 h2
  have : nuX x = n := by unfold nuX; rw [h3, pk_lT (by omega)]; try rfl
  rw [this]; exact ⟨h3, h1⟩
/-- reading a number: at a word; a minus may stand in front -/
def sNu (T : List Nat) (Ws : List Wd) (mi : Bool) (k : Nat) : Option (Nat × Bool × Nat) := match Ws[k]? with
  | none => none
  | some x => if mi = true ∧ sgX T x 45 = true then (match Ws[k + 1]? with | some y => if y.1 = 2 then some (k + 2, true, nuX y) else none | none => none) else if x.1 = 2 then some (k + 1, false, nuX x) else none
theorem IT_n {σ : SG} {c a i : Nat} {d : Dc} {v : Bool × Nat} {p : Int32} (h : IT σ c a i d) : IT (uL (uI σ a 7 p) a 6 (nL v)) c a i (wN d v) := by
  unfold IT wN dK dS dO dA dE dN dT dW dR dP at *
  simp only [sI_uL, sP_uL, sP_uI, sL_s]
  obtain ⟨h1, h2, h3, h4, h5, h6, h7, h8, h9, h10, h11, h12, h13, h14, h15, h16⟩ := h
  refine ⟨?_, ?_, h3, h4, ?_, ?_, trivial, ?_, fun q => ?_, h10, ?_, ?_, ?_, ?_, h15, h16⟩
  all_goals (rw [sI_o (Or.inr (by decide))]; first | assumption | exact h9 q)
theorem X5_readNumber {c : Nat} {σ : SG} {T : List Nat} {Ws : List Wd} {s : Rs} {x : Wd} {D : List Dc} {d : Dc} {mi : Bool} (hcb : cb c) (hS : WS T Ws) (hW : WA σ (c + 186) Ws) (hR : RR σ c s) (hI : ITs σ c (D ++ [d])) (hl : D.length < 180) (hx : Ws[s.1]? = some x) :
    ∃ τ, x_X5_readNumber (c + 191) (some (c + 5 + D.length)) (zI mi) σ = some (zI (sNu T Ws mi s.1).isSome, τ) ∧ fR c σ τ ∧ sI τ (c + 191) 7 = sI σ (c + 191) 7 ∧ ∀ k' v, sNu T Ws mi s.1 = some (k', v) → RR τ c (k', s.2) ∧ ITs τ c (D ++ [wN d v]) := by
  have hsh := it_sh hcb hl
  have hg := hS.G.2 _ _ hx
  let σ6 := uI σ (c + 5 + D.length) 7 (nI x.2.1)
  have f6 : ∀ b, b ≠ c + 5 + D.length → sm σ σ6 b := fun b hb => sm_uI hb
  have fR6 : fR c σ σ6 := fun b _ h2 _ => f6 b (by omega)
  have hr6 := f6 (c + 191) (by omega)
  have hR6 : RR σ6 c s := ⟨(hr6 6).1.trans hR.1, (hr6 2).2.2.trans hR.2.1, (hr6 3).2.2.trans hR.2.2.1, (hr6 4).2.2.trans hR.2.2.2.1, (congrArg vN (hr6 5).1).trans hR.2.2.2.2⟩
  have hW6 : WA σ6 (c + 186) Ws := hW.fR fR6
  -- the number itself
  have num : ∀ (τ : SG) (k : Nat) (y : Wd) (ng : Bool), (∀ b, b ≠ c + 191 → sm σ6 τ b) → sI τ (c + 191) 7 = sI σ (c + 191) 7 → RR τ c (k, s.2) → Ws[k]? = some y →
      ∃ υ, x_X5_readNumber_33 (c + 191) (some (c + 5 + D.length)) (zI ng) τ = some (zI (decide (y.1 = 2)), υ) ∧ fR c σ υ ∧ sI υ (c + 191) 7 = sI σ (c + 191) 7 ∧ (y.1 = 2 → RR υ c (k + 1, s.2) ∧ ITs υ c (D ++ [wN d (ng, nuX y)])) := by
    intro τ k y ng hs h7 hRτ hy
    have fRτ : fR c σ τ := fR_trans fR6 (fR_r hs)
    have hWτ : WA τ (c + 186) Ws := hW6.fR (fR_r hs)
    have hgy := hS.G.2 _ _ hy
    have hy6 := hgy.1
    unfold x_X5_readNumber_33
    rw [show c + 191 - 5 = c + 186 by omega, hRτ.1, X10_kindOf hWτ hy, b1_eq]
    by_cases q : y.1 = 2
    · obtain ⟨e1, e2⟩ := nuX_2 hgy q
      rw [if_pos (show nI y.1 = 2 by rw [q]; rfl), decide_eq_true q, ifz, X10_valueOf hWτ hy, b1_eq, b1_eq]
      have fin : ∀ v, v = nL (ng, nuX y) → ∃ υ, x_X5_readNumber_82 (c + 191) v (some (c + 5 + D.length)) τ = some (zI true, υ) ∧ fR c σ υ ∧ sI υ (c + 191) 7 = sI σ (c + 191) 7 ∧ (y.1 = 2 → RR υ c (k + 1, s.2) ∧ ITs υ c (D ++ [wN d (ng, nuX y)])) := by
        intro v hv
        subst hv
        unfold x_X5_readNumber_82
        rw [ck_eq hsh, sb_eq, sI_uL, hRτ.1, nI_1, sb_eq]
        have e7 : sm (uL σ6 (c + 5 + D.length) 6 (nL (ng, nuX y))) (uI (uL τ (c + 5 + D.length) 6 (nL (ng, nuX y))) (c + 191) 6 (nI (k + 1))) (c + 5 + D.length) := by
          intro j
          have := hs (c + 5 + D.length) (by omega) j
          refine ⟨?_, ?_, ?_⟩
          · rw [sI_o (Or.inl (by omega)), sI_uL, sI_uL, this.1]
          · rw [sL_uI, sL_uL, sL_uL, this.2.1]
          · rw [sP_uI, sP_uL, sP_uL, this.2.2]
        refine ⟨_, rfl, ?_, ?_, fun _ => ⟨RR.at (s := (k, s.2)) ⟨hRτ.1, hRτ.2.1, hRτ.2.2.1, hRτ.2.2.2.1, hRτ.2.2.2.2⟩, ?_⟩⟩
        · exact fun b h1 h2 h3 => sm_trans (fRτ b h1 h2 h3) (sm_trans (sm_uL (by omega)) (sm_uI h3))
        · rw [sI_o (Or.inr (by decide)), sI_uL, h7]
        · exact ITs_last hI hl (fun b h1 h2 => sm_trans (sm_trans (f6 b h1) (hs b h2)) (sm_trans (sm_uL h1) (sm_uI h2))) rfl rfl rfl ((IT_n hI.last).sm e7)
      cases ng with
      | false => rw [if_neg (by decide)]; exact fin _ (by rw [e1]; rfl)
      | true => rw [if_pos rfl]; exact fin _ (by rw [e1]; rfl)
    · rw [if_neg (show ¬ nI y.1 = 2 from fun z => q ((nI_eq (b := 2) (by omega) (by decide)).mp z)), decide_eq_false q]
      exact ⟨τ, rfl, fRτ, h7, fun z => absurd z q⟩
  have h76 : sI σ6 (c + 191) 7 = sI σ (c + 191) 7 := (hr6 7).1
  have plain : ∃ υ, x_X5_readNumber_32 (c + 191) (some (c + 5 + D.length)) σ6 = some (zI (decide (x.1 = 2)), υ) ∧ fR c σ υ ∧ sI υ (c + 191) 7 = sI σ (c + 191) 7 ∧ (x.1 = 2 → RR υ c (s.1 + 1, s.2) ∧ ITs υ c (D ++ [wN d (false, nuX x)])) := num σ6 s.1 x false (fun b _ => sm_refl _ b) h76 hR6 hx
  unfold x_X5_readNumber sNu
  rw [show c + 191 - 5 = c + 186 by omega, hR.1, X10_startOf hW hx, b1_eq, ck_eq hsh, sb_eq, ifz, hx]
  simp only
  have fold : ∀ (o : Option (Nat × Bool × Nat)) (b : Bool), (b = true → ∃ k' v, o = some (k', v)) → True := fun _ _ _ => trivial
  cases mi with
  | false =>
    rw [if_neg (by decide), if_neg (fun z => by cases z.1)]
    obtain ⟨υ, g1, g2, g3, g4⟩ := plain
    refine ⟨υ, ?_, g2, g3, fun k' v hv => ?_⟩
    · refine g1.trans ?_
      by_cases q : x.1 = 2
      · rw [if_pos q, decide_eq_true q]; try rfl
      · rw [if_neg q, decide_eq_false q]; try rfl
    · by_cases q : x.1 = 2
      · rw [if_pos q] at hv; cases hv; exact g4 q
      · rw [if_neg q] at hv; cases hv
  | true =>
    rw [if_pos rfl]
    obtain ⟨τ, t1, t2, t3, t4⟩ := X5_takes (q := 45) hS.G hW6 hR6 hx (by decide)
    have t1' : x_X5_takes (c + 191) 45 σ6 = some (zI (sgX T x 45), τ) := t1
    show ∃ τ', b2 (x_X5_takes (c + 191) 45 σ6) _ = _ ∧ _
    rw [t1', b2_eq, ifz]
    cases hsg : sgX T x 45 with
    | true =>
      rw [hsg, if_pos rfl] at t2
      obtain ⟨y, hy, -⟩ := hS.next hx (by rw [sg_4 hsg]; decide) (by rw [sg_4 hsg]; decide)
      rw [if_pos rfl, if_pos ⟨rfl, rfl⟩, hy]
      simp only
      obtain ⟨υ, g1, g2, g3, g4⟩ := num τ (s.1 + 1) y true t3 (t4.trans h76) t2 hy
      refine ⟨υ, ?_, g2, g3, fun k' v hv => ?_⟩
      · refine g1.trans ?_
        by_cases q : y.1 = 2
        · rw [if_pos q, decide_eq_true q]; try rfl
        · rw [if_neg q, decide_eq_false q]; try rfl
      · by_cases q : y.1 = 2
        · rw [if_pos q] at hv; cases hv; exact g4 q
        · rw [if_neg q] at hv; cases hv
    | false =>
      rw [hsg, if_neg (by decide)] at t2
      rw [if_neg (by decide), if_neg (fun z => by cases z.2)]
      obtain ⟨υ, g1, g2, g3, g4⟩ := num τ s.1 x false t3 (t4.trans h76) t2 hx
      refine ⟨υ, ?_, g2, g3, fun k' v hv => ?_⟩
      · refine Eq.trans (show x_X5_readNumber_32 (c + 191) (some (c + 5 + D.length)) τ = _ from g1) ?_
        by_cases q : x.1 = 2
        · rw [if_pos q, decide_eq_true q]; try rfl
        · rw [if_neg q, decide_eq_false q]; try rfl
      · by_cases q : x.1 = 2
        · rw [if_pos q] at hv; cases hv; exact g4 q
        · rw [if_neg q] at hv; cases hv
/-! ===== the class's reader: packed, types, fields ===== -/
def sS (T : List Nat) (Ws : List Wd) (c k : Nat) : Bool := match Ws[k]? with
  | some x => sgX T x c
  | none => false
def sC (Ws : List Wd) (k : Nat) : Int32 := match Ws[k]? with
  | some x => cdX x
  | none => -1
def sK (Ws : List Wd) (k : Nat) : Nat := match Ws[k]? with
  | some x => x.1
  | none => 0
theorem sS_some {T : List Nat} {Ws : List Wd} {c k : Nat} {x : Wd} (h : Ws[k]? = some x) : sS T Ws c k = sgX T x c := by unfold sS; rw [h]
theorem sC_some {Ws : List Wd} {k : Nat} {x : Wd} (h : Ws[k]? = some x) : sC Ws k = cdX x := by unfold sC; rw [h]
theorem sK_some {Ws : List Wd} {k : Nat} {x : Wd} (h : Ws[k]? = some x) : sK Ws k = x.1 := by unfold sK; rw [h]
theorem U10_isSign {w k c : Nat} {σ : SG} {T : List Nat} {Ws : List Wd} (h : WA σ w Ws) (hG : WG T Ws) (hk : k < 3000) (hc8 : c < 256) : x_X10_isSign w (nI k) (nI c) σ = some (zI (sS T Ws c k)) := by
  cases e : Ws[k]? with
  | some x => rw [sS_some e]; exact X10_isSign h e (hG.2 _ _ e) hG.1 hc8
  | none =>
    have h1 := List.getElem?_eq_none_iff.mp e
    have h2 := h.2.1
    unfold x_X10_isSign sS
    rw [if_neg (nI_neg (by omega)), h.1, if_neg (fun z => by have := (ltI (by omega) (by omega)).mp z; omega), e]; try rfl
theorem U10_codeOf {w k : Nat} {σ : SG} {T : List Nat} {Ws : List Wd} (h : WA σ w Ws) (hG : WG T Ws) (hk : k < 3000) : x_X10_codeOf w (nI k) σ = some (sC Ws k) := by
  cases e : Ws[k]? with
  | some x => rw [sC_some e]; exact X10_codeOf h e (hG.2 _ _ e).1
  | none =>
    have h1 := List.getElem?_eq_none_iff.mp e
    have h2 := h.2.1
    unfold x_X10_codeOf x_X10_codeOf_44 x_X10_codeOf_45 sC
    rw [if_neg (nI_neg (by omega)), h.1, if_neg (fun z => by have := (ltI (by omega) (by omega)).mp z; omega), e, if_pos rfl]
theorem U10_kindOf {w k : Nat} {σ : SG} {Ws : List Wd} (h : WA σ w Ws) (hk : k < 3000) : x_X10_kindOf w (nI k) σ = some (nI (sK Ws k)) := by
  cases e : Ws[k]? with
  | some x => rw [sK_some e]; exact X10_kindOf h e
  | none =>
    have h1 := List.getElem?_eq_none_iff.mp e
    have h2 := h.2.1
    unfold x_X10_kindOf sK
    rw [if_neg (nI_neg (by omega)), h.1, if_neg (fun z => by have := (ltI (by omega) (by omega)).mp z; omega), e]; try rfl
theorem U10_startOf {w k : Nat} {σ : SG} {T : List Nat} {Ws : List Wd} (h : WA σ w Ws) (hG : WG T Ws) (hl : sI σ w 6 = nI T.length) (hT : T.length ≤ 700) (hk : k < 3000) : ∃ p, x_X10_startOf w (nI k) σ = some (nI p) ∧ p ≤ 700 := by
  cases e : Ws[k]? with
  | some x => exact ⟨_, X10_startOf h e, by have := (hG.2 _ _ e).2.1; omega⟩
  | none =>
    have h1 := List.getElem?_eq_none_iff.mp e
    have h2 := h.2.1
    refine ⟨T.length, ?_, hT⟩
    unfold x_X10_startOf
    rw [if_neg (nI_neg (by omega)), h.1, if_neg (fun z => by have := (ltI (by omega) (by omega)).mp z; omega), hl]
theorem U5_takes {c : Nat} {σ : SG} {T : List Nat} {Ws : List Wd} {s : Rs} {q : Nat} (hG : WG T Ws) (hW : WA σ (c + 186) Ws) (hR : RR σ c s) (hk : s.1 < 3000) (hq : q < 256) :
    ∃ τ, x_X5_takes (c + 191) (nI q) σ = some (zI (sS T Ws q s.1), τ) ∧ RR τ c (if sS T Ws q s.1 then (s.1 + 1, s.2) else s) ∧ (∀ b, b ≠ c + 191 → sm σ τ b) ∧ sI τ (c + 191) 7 = sI σ (c + 191) 7 := by
  unfold x_X5_takes
  rw [show c + 191 - 5 = c + 186 by omega, hR.1, U10_isSign hW hG hk hq, b1_eq, ifz]
  cases sS T Ws q s.1 with
  | false => exact ⟨σ, rfl, hR, fun b _ => sm_refl σ b, rfl⟩
  | true =>
    rw [if_pos rfl, sb_eq, nI_1]
    exact ⟨_, rfl, hR.at, fun b hb => sm_uI hb, sI_o (Or.inr (by decide))⟩
theorem U5_takesWord {c : Nat} {σ : SG} {T : List Nat} {Ws : List Wd} {s : Rs} {q : Nat} (hG : WG T Ws) (hW : WA σ (c + 186) Ws) (hR : RR σ c s) (hk : s.1 < 3000) :
    ∃ τ, x_X5_takesWord (c + 191) (nI q) σ = some (zI (decide (sC Ws s.1 = nI q)), τ) ∧ RR τ c (if sC Ws s.1 = nI q then (s.1 + 1, s.2) else s) ∧ (∀ b, b ≠ c + 191 → sm σ τ b) ∧ sI τ (c + 191) 7 = sI σ (c + 191) 7 := by
  unfold x_X5_takesWord
  rw [show c + 191 - 5 = c + 186 by omega, hR.1, U10_codeOf hW hG hk, b1_eq]
  by_cases q1 : sC Ws s.1 = nI q
  · rw [if_pos q1, if_pos q1, decide_eq_true q1, sb_eq, nI_1]
    exact ⟨_, rfl, hR.at, fun b hb => sm_uI hb, sI_o (Or.inr (by decide))⟩
  · rw [if_neg q1, if_neg q1, decide_eq_false q1]
    exact ⟨σ, rfl, hR, fun b _ => sm_refl σ b, rfl⟩
/-- the type's names, with points between, from word k on -/
def sTN (T : List Nat) (Ws : List Wd) : Nat → Nat → Option Nat
  | 0, _ => none
  | n + 1, k => if sK Ws k = 1 then (if sS T Ws 46 (k + 1) then sTN T Ws n (k + 2) else some (k + 1)) else none
def sTy (T : List Nat) (Ws : List Wd) (k : Nat) : Option Nat := if sS T Ws 46 k then sTN T Ws Ws.length (k + 1) else if ¬ sC Ws k < 20 ∧ ¬ 23 < sC Ws k then none else sTN T Ws Ws.length k
theorem sTN_le {T : List Nat} {Ws : List Wd} : ∀ (n k k' : Nat), sTN T Ws n k = some k' → k + 1 ≤ k' ∧ k' ≤ k + 2 * n := by
  intro n
  induction n with
  | zero => intro k k' h; cases h
  | succ n ih =>
    intro k k' h
    rw [sTN] at h
    split at h
    · split at h
      · have := ih _ _ h; omega
      · cases h; omega
    · cases h
theorem X5_types_L {U c : Nat} {T : List Nat} {Ws : List Wd} (hG : WG T Ws) : ∀ (n t U1 : Nat) (σ : SG) (s : Rs), t + n = Ws.length → n < U1 → WA σ (c + 186) Ws → RR σ c s → s.1 + 2 * n < 2900 →
    ∃ τ, x_X5_readTypeName_L37 U (c + 191) U1 (nI t) σ = some (zI (sTN T Ws n s.1).isSome, τ) ∧ (∀ b, b ≠ c + 191 → sm σ τ b) ∧ sI τ (c + 191) 7 = sI σ (c + 191) 7 ∧ ∀ k', sTN T Ws n s.1 = some k' → RR τ c (k', s.2) := by
  intro n
  induction n with
  | zero =>
    intro t U1 σ s ht hU hW hR hk
    have h2 := hW.2.1
    obtain ⟨V, rfl⟩ : ∃ V, U1 = V + 1 := ⟨U1 - 1, by omega⟩
    refine ⟨σ, ?_, fun b _ => sm_refl σ b, rfl, fun k' h => by cases h⟩
    rw [x_X5_readTypeName_L37]
    unfold x_X10_count
    rw [show c + 191 - 5 = c + 186 by omega, b1_eq, hW.1, if_neg (fun z => by have := (ltI (by omega) (by omega)).mp z; omega)]; try rfl
  | succ n ih =>
    intro t U1 σ s ht hU hW hR hk
    have h2 := hW.2.1
    obtain ⟨V, rfl⟩ : ∃ V, U1 = V + 1 := ⟨U1 - 1, by omega⟩
    rw [x_X5_readTypeName_L37, sTN]
    unfold x_X10_count
    have h6 : sK Ws s.1 < 6 := by
      unfold sK
      cases e : Ws[s.1]? with
      | none => decide
      | some x => exact (hG.2 _ _ e).1
    rw [show c + 191 - 5 = c + 186 by omega, b1_eq, hW.1, if_pos ((ltI (by omega) (by omega)).mpr (by omega)), hR.1, U10_kindOf hW (by omega), b1_eq]
    by_cases q : sK Ws s.1 = 1
    · rw [if_pos (show nI (sK Ws s.1) = 1 by rw [q]; rfl), if_pos q, sb_eq, nI_1]
      have f1 : ∀ b, b ≠ c + 191 → sm σ (uI σ (c + 191) 6 (nI (s.1 + 1))) b := fun b hb => sm_uI hb
      have hW1 := hW.fR (fR_r f1)
      obtain ⟨τ, t1, t2, t3, t4⟩ := U5_takes (s := (s.1 + 1, s.2)) (q := 46) hG hW1 hR.at (by show s.1 + 1 < 3000; omega) (by decide)
      have t1' : x_X5_takes (c + 191) 46 (uI σ (c + 191) 6 (nI (s.1 + 1))) = some (zI (sS T Ws 46 (s.1 + 1)), τ) := t1
      rw [t1', b2_eq, ifz]
      have f2 : ∀ b, b ≠ c + 191 → sm σ τ b := fun b hb => sm_trans (f1 b hb) (t3 b hb)
      have h7 : sI τ (c + 191) 7 = sI σ (c + 191) 7 := t4.trans (sI_o (Or.inr (by decide)))
      cases hs : sS T Ws 46 (s.1 + 1) with
      | true =>
        have t2' : RR τ c (s.1 + 1 + 1, s.2) := by
          have := t2
          simp only [hs, if_true] at this
          exact this
        rw [if_pos rfl, if_pos rfl, nI_1]
        obtain ⟨υ, g1, g2, g3, g4⟩ := ih (t + 1) V τ (s.1 + 1 + 1, s.2) (by omega) (by omega) (hW1.fR (fR_r t3)) t2' (by show s.1 + 1 + 1 + 2 * n < 2900; omega)
        exact ⟨υ, g1, fun b hb => sm_trans (f2 b hb) (g2 b hb), g3.trans h7, fun k' hk' => g4 k' hk'⟩
      | false =>
        have t2' : RR τ c (s.1 + 1, s.2) := by
          have := t2
          simp only [hs, Bool.false_eq_true, if_false] at this
          exact this
        rw [if_neg (by decide), if_neg (by decide)]
        exact ⟨τ, rfl, f2, h7, fun k' hk' => by cases hk'; exact t2'⟩
    · rw [if_neg (show ¬ nI (sK Ws s.1) = 1 from fun z => q ((nI_eq (b := 1) (by omega) (by decide)).mp z)), if_neg q]
      exact ⟨σ, rfl, fun b _ => sm_refl σ b, rfl, fun k' h => by cases h⟩
theorem X5_readTypeName {U c : Nat} {σ : SG} {T : List Nat} {Ws : List Wd} {s : Rs} (hU : 4000 < U) (hG : WG T Ws) (hW : WA σ (c + 186) Ws) (hR : RR σ c s) (hk : s.1 < 800) :
    ∃ τ, x_X5_readTypeName U (c + 191) σ = some (zI (sTy T Ws s.1).isSome, τ) ∧ (∀ b, b ≠ c + 191 → sm σ τ b) ∧ sI τ (c + 191) 7 = sI σ (c + 191) 7 ∧ ∀ k', sTy T Ws s.1 = some k' → RR τ c (k', s.2) := by
  have h2 := hW.2.1
  unfold x_X5_readTypeName x_X5_readTypeName_35 sTy
  rw [show c + 191 - 5 = c + 186 by omega, hR.1, U10_codeOf hW hG (by omega), b1_eq]
  obtain ⟨τ, t1, t2, t3, t4⟩ := U5_takes (q := 46) hG hW hR (by omega) (by decide)
  have t1' : x_X5_takes (c + 191) 46 σ = some (zI (sS T Ws 46 s.1), τ) := t1
  rw [t1', b2_eq, ifz]
  have hWτ := hW.fR (fR_r t3)
  cases hs : sS T Ws 46 s.1 with
  | true =>
    rw [hs, if_pos rfl] at t2
    rw [if_pos rfl, if_pos rfl]
    obtain ⟨υ, g1, g2, g3, g4⟩ := X5_types_L (U := U) hG Ws.length 0 U τ _ (by omega) (by omega) hWτ t2 (by show s.1 + 1 + 2 * Ws.length < 2900; omega)
    exact ⟨υ, g1, fun b hb => sm_trans (t3 b hb) (g2 b hb), g3.trans t4, fun k' hk' => g4 k' hk'⟩
  | false =>
    rw [hs, if_neg (by decide)] at t2
    simp only [Bool.false_eq_true, if_false]
    obtain ⟨υ, g1, g2, g3, g4⟩ := X5_types_L (U := U) hG Ws.length 0 U τ s (by omega) (by omega) hWτ t2 (by omega)
    by_cases q1 : sC Ws s.1 < 20
    · rw [if_pos q1, if_neg (fun z => z.1 q1)]
      exact ⟨υ, g1, fun b hb => sm_trans (t3 b hb) (g2 b hb), g3.trans t4, g4⟩
    · rw [if_neg q1]
      by_cases q2 : 23 < sC Ws s.1
      · rw [if_pos q2, if_neg (fun z => z.2 q2)]
        exact ⟨υ, g1, fun b hb => sm_trans (t3 b hb) (g2 b hb), g3.trans t4, g4⟩
      · rw [if_neg q2, if_pos ⟨q1, q2⟩]
        exact ⟨τ, rfl, t3, t4, fun k' h => by cases h⟩
/-! ===== the class's reader: packed and fields ===== -/
def sPk (T : List Nat) (Ws : List Wd) (k : Nat) : Option (Nat × Nat) := if sS T Ws 91 k then (if sC Ws (k + 1) = nI 25 then (if sS T Ws 61 (k + 2) then (if sC Ws (k + 3) = nI 26 ∨ sC Ws (k + 3) = nI 27 then (if sS T Ws 93 (k + 4) then some (k + 5, if sC Ws (k + 3) = nI 27 then 2 else 1) else none) else none) else none) else none) else some (k, 0)
theorem RR.s {σ τ : SG} {c : Nat} {s : Rs} (h : RR σ c s) (hs : sm σ τ (c + 191)) : RR τ c s := ⟨(hs 6).1.trans h.1, (hs 2).2.2.trans h.2.1, (hs 3).2.2.trans h.2.2.1, (hs 4).2.2.trans h.2.2.2.1, (congrArg vN (hs 5).1).trans h.2.2.2.2⟩
/-- the reader is where it was but for its own object -/
def fr (c : Nat) (σ τ : SG) : Prop := (∀ b, b ≠ c + 191 → sm σ τ b) ∧ sI τ (c + 191) 7 = sI σ (c + 191) 7
theorem fr_refl (c : Nat) (σ : SG) : fr c σ σ := ⟨fun b _ => sm_refl σ b, rfl⟩
theorem fr_trans {c : Nat} {σ τ υ : SG} (h : fr c σ τ) (h' : fr c τ υ) : fr c σ υ := ⟨fun b hb => sm_trans (h.1 b hb) (h'.1 b hb), h'.2.trans h.2⟩
theorem IT_p {σ : SG} {c a i v : Nat} {d : Dc} {z : Bool} (h : IT σ c a i d) (hv : v < 2 ^ 31) : IT (uI (uI σ a 14 (nI v)) a 13 (zI z)) c a i (wP d (if z then 2 else 1)) := by
  unfold IT wP dK dS dO dA dE dN dT dW dR dP at *
  simp only [sP_uI, sL_uI, sI_s]
  obtain ⟨h1, h2, h3, h4, h5, h6, h7, h8, h9, h10, h11, h12, h13, h14, h15, h16⟩ := h
  refine ⟨?_, ?_, h3, h4, ?_, ?_, h7, ?_, fun q => ?_, h10, ?_, ?_, ?_, ?_, h15, h16⟩
  · rw [sI_o (Or.inr (by decide)), sI_o (Or.inr (by decide))]; exact h1
  · rw [sI_o (Or.inr (by decide)), sI_o (Or.inr (by decide))]; exact h2
  · rw [sI_o (Or.inr (by decide)), sI_o (Or.inr (by decide))]; exact h5
  · rw [sI_o (Or.inr (by decide)), sI_o (Or.inr (by decide))]; exact h6
  · rw [sI_o (Or.inr (by decide)), sI_o (Or.inr (by decide))]; exact h8
  · rw [sI_o (Or.inr (by decide)), sI_o (Or.inr (by decide))]; exact h9 q
  · rw [sI_o (Or.inr (by decide)), sI_o (Or.inr (by decide))]; exact h11
  · rw [sI_o (Or.inr (by decide)), sI_o (Or.inr (by decide))]; exact h12
  · cases z <;> rfl
  · rw [sI_o (Or.inr (by decide)), sI_s]
    exact ⟨fun q => absurd q (nI_neg hv), fun q => by cases z <;> simp at q⟩
theorem X5_readPacked {c : Nat} {σ : SG} {T : List Nat} {Ws : List Wd} {s : Rs} {D : List Dc} {d : Dc} (hcb : cb c) (hG : WG T Ws) (h6 : sI σ (c + 186) 6 = nI T.length) (hT : T.length ≤ 700) (hW : WA σ (c + 186) Ws) (hR : RR σ c s) (hI : ITs σ c (D ++ [d])) (hl : D.length < 180) (hk : s.1 < 2000) (hd : dP d = 0) :
    ∃ τ, x_X5_readPacked (c + 191) (some (c + 5 + D.length)) σ = some (zI (sPk T Ws s.1).isSome, τ) ∧ fR c σ τ ∧ sI τ (c + 191) 7 = sI σ (c + 191) 7 ∧ ∀ k' v, sPk T Ws s.1 = some (k', v) → RR τ c (k', s.2) ∧ ITs τ c (D ++ [wP d v]) := by
  have hsh := it_sh hcb hl
  have hd0 : wP d 0 = d := by
    obtain ⟨a1, a2, a3, a4, a5, a6, a7, a8, a9, a10⟩ := d
    unfold dP at hd
    simp only at hd
    subst hd
    try rfl
  unfold x_X5_readPacked sPk
  obtain ⟨σ3, t1, t2, t3, t4⟩ := U5_takes (q := 91) hG hW hR (by omega) (by decide)
  have t1' : x_X5_takes (c + 191) 91 σ = some (zI (sS T Ws 91 s.1), σ3) := t1
  rw [t1', b2_eq, ifz]
  have F3 : fr c σ σ3 := ⟨t3, t4⟩
  cases hs : sS T Ws 91 s.1 with
  | false =>
    rw [hs, if_neg (by decide)] at t2
    simp only [Bool.false_eq_true, if_false]
    refine ⟨σ3, rfl, fR_r t3, t4, fun k' v hv => ?_⟩
    cases hv
    rw [hd0]
    exact ⟨t2, hI.r (by rw [List.length_append, List.length_singleton]; omega) t3⟩
  | true =>
    rw [hs, if_pos rfl] at t2
    simp only [if_true]
    obtain ⟨p, hp, hp7⟩ := U10_startOf (k := s.1 + 1) (hW.fR (fR_r t3)) hG ((t3 (c + 186) (by omega) 6).1.trans h6) hT (by omega)
    rw [show c + 191 - 5 = c + 186 by omega, t2.1, hp, b1_eq, ck_eq hsh, sb_eq]
    let σ10 := uI σ3 (c + 5 + D.length) 14 (nI p)
    have f10 : ∀ b, b ≠ c + 5 + D.length → sm σ3 σ10 b := fun b hb => sm_uI hb
    have R10 : RR σ10 c (s.1 + 1, s.2) := t2.s (f10 _ (by omega))
    have fR10 : fR c σ σ10 := fun b h1 h2 h3 => sm_trans (t3 b h3) (f10 b (by omega))
    have W10 := hW.fR fR10
    have s7 : sI σ10 (c + 191) 7 = sI σ (c + 191) 7 := ((f10 _ (by omega)) 7).1.trans t4
    obtain ⟨σ13, u1, u2, u3, u4⟩ := U5_takesWord (q := 25) (s := (s.1 + 1, s.2)) hG W10 R10 (by show s.1 + 1 < 3000; omega)
    have u1' : x_X5_takesWord (c + 191) 25 σ10 = some (zI (decide (sC Ws (s.1 + 1) = nI 25)), σ13) := u1
    show ∃ τ, b2 (x_X5_takesWord (c + 191) 25 σ10) _ = _ ∧ _
    rw [u1', b2_eq, ifz]
    have fR13 : fR c σ σ13 := fR_trans fR10 (fR_r u3)
    have s13 := u4.trans s7
    by_cases q1 : ¬ sC Ws (s.1 + 1) = nI 25
    · rw [decide_eq_false q1, if_neg q1]
      exact ⟨σ13, rfl, fR13, s13, fun k' v hv => by cases hv⟩
    have q1 := Classical.not_not.mp q1
    rw [decide_eq_true q1, if_pos q1]
    simp only [if_true]
    have R13 : RR σ13 c (s.1 + 2, s.2) := by
      have := u2
      simp only [q1, if_true] at this
      exact this
    obtain ⟨σ17, v1, v2, v3, v4⟩ := U5_takes (q := 61) (s := (s.1 + 2, s.2)) hG (hW.fR fR13) R13 (by show s.1 + 2 < 3000; omega) (by decide)
    have v1' : x_X5_takes (c + 191) 61 σ13 = some (zI (sS T Ws 61 (s.1 + 2)), σ17) := v1
    rw [v1', b2_eq, ifz]
    have fR17 : fR c σ σ17 := fR_trans fR13 (fR_r v3)
    have s17 := v4.trans s13
    cases q2 : sS T Ws 61 (s.1 + 2) with
    | false =>
      simp only [Bool.false_eq_true, if_false]
      exact ⟨σ17, rfl, fR17, s17, fun k' v hv => by cases hv⟩
    | true =>
      simp only [if_true]
      have R17 : RR σ17 c (s.1 + 3, s.2) := by
        have := v2
        simp only [q2, if_true] at this
        exact this
      rw [R17.1, U10_codeOf (hW.fR fR17) hG (by show s.1 + 3 < 3000; omega), b1_eq]
      -- true or false, and the end
      have tail : ∀ z : Bool, z = decide (sC Ws (s.1 + 3) = nI 27) → ∃ τ, x_X5_readPacked_68 (c + 191) (zI z) (some (c + 5 + D.length)) σ17 = some (zI (if sC Ws (s.1 + 3) = nI 26 ∨ sC Ws (s.1 + 3) = nI 27 then (if sS T Ws 93 (s.1 + 4) then some (s.1 + 5, if sC Ws (s.1 + 3) = nI 27 then 2 else 1) else none) else none : Option (Nat × Nat)).isSome, τ) ∧ fR c σ τ ∧ sI τ (c + 191) 7 = sI σ (c + 191) 7 ∧ ∀ k' v, (if sC Ws (s.1 + 3) = nI 26 ∨ sC Ws (s.1 + 3) = nI 27 then (if sS T Ws 93 (s.1 + 4) then some (s.1 + 5, if sC Ws (s.1 + 3) = nI 27 then 2 else 1) else none) else none : Option (Nat × Nat)) = some (k', v) → RR τ c (k', s.2) ∧ ITs τ c (D ++ [wP d v]) := by
        intro z hz
        unfold x_X5_readPacked_68
        rw [ck_eq hsh, show ∀ f : Option (Int32 × SG), zb (zI z) f = f from fun f => by cases z <;> rfl, sb_eq]
        let σ26 := uI σ17 (c + 5 + D.length) 13 (zI z)
        have f26 : ∀ b, b ≠ c + 5 + D.length → sm σ17 σ26 b := fun b hb => sm_uI hb
        have fR26 : fR c σ σ26 := fun b h1 h2 h3 => sm_trans (fR17 b h1 h2 h3) (f26 b (by omega))
        have R26 : RR σ26 c (s.1 + 3, s.2) := R17.s (f26 _ (by omega))
        have s26 : sI σ26 (c + 191) 7 = sI σ (c + 191) 7 := ((f26 _ (by omega)) 7).1.trans s17
        have I26 : ITs σ26 c (D ++ [wP d (if z then 2 else 1)]) := by
          refine ITs_last hI hl (fun b h1 h2 => sm_trans (sm_trans (sm_trans (sm_trans (t3 b h2) (f10 b h1)) (u3 b h2)) (v3 b h2)) (f26 b h1)) rfl rfl rfl ?_
          have hlast := (hI.last).sm (t3 (c + 5 + D.length) (by omega))
          refine (IT_p (z := z) (v := p) hlast (by omega)).sm ?_
          intro j
          have a1 := u3 (c + 5 + D.length) (by omega) j
          have a2 := v3 (c + 5 + D.length) (by omega) j
          refine ⟨?_, ?_, ?_⟩
          · show sI (uI σ17 (c + 5 + D.length) 13 (zI z)) (c + 5 + D.length) j = _
            rw [sI_uI, sI_uI, a2.1, a1.1]
          · show sL σ17 (c + 5 + D.length) j = _
            rw [a2.2.1, a1.2.1]; try rfl
          · show sP σ17 (c + 5 + D.length) j = _
            rw [a2.2.2, a1.2.2]; try rfl
        show ∃ τ, b2 (x_X5_takesWord (c + 191) 26 σ26) _ = _ ∧ _
        have close : ∀ (σ9 : SG), fr c σ26 σ9 → RR σ9 c (s.1 + 4, s.2) → (sC Ws (s.1 + 3) = nI 26 ∨ sC Ws (s.1 + 3) = nI 27) → ∃ τ, x_X5_readPacked_89 (c + 191) σ9 = some (zI (if sC Ws (s.1 + 3) = nI 26 ∨ sC Ws (s.1 + 3) = nI 27 then (if sS T Ws 93 (s.1 + 4) then some (s.1 + 5, if sC Ws (s.1 + 3) = nI 27 then 2 else 1) else none) else none : Option (Nat × Nat)).isSome, τ) ∧ fR c σ τ ∧ sI τ (c + 191) 7 = sI σ (c + 191) 7 ∧ ∀ k' v, (if sC Ws (s.1 + 3) = nI 26 ∨ sC Ws (s.1 + 3) = nI 27 then (if sS T Ws 93 (s.1 + 4) then some (s.1 + 5, if sC Ws (s.1 + 3) = nI 27 then 2 else 1) else none) else none : Option (Nat × Nat)) = some (k', v) → RR τ c (k', s.2) ∧ ITs τ c (D ++ [wP d v]) := by
          intro σ9 hf hR9 hor
          rw [if_pos hor]
          unfold x_X5_readPacked_89
          obtain ⟨σ37, w1, w2, w3, w4⟩ := U5_takes (q := 93) (s := (s.1 + 4, s.2)) hG (hW.fR (fR_trans fR26 (fR_r hf.1))) hR9 (by show s.1 + 4 < 3000; omega) (by decide)
          have w1' : x_X5_takes (c + 191) 93 σ9 = some (zI (sS T Ws 93 (s.1 + 4)), σ37) := w1
          rw [w1', b2_eq, ifz]
          have fR37 : fR c σ σ37 := fR_trans (fR_trans fR26 (fR_r hf.1)) (fR_r w3)
          have s37 := (w4.trans hf.2).trans s26
          cases q4 : sS T Ws 93 (s.1 + 4) with
          | false =>
            simp only [Bool.false_eq_true, if_false]
            exact ⟨σ37, rfl, fR37, s37, fun k' v hv => by cases hv⟩
          | true =>
            simp only [if_true]
            have R37 : RR σ37 c (s.1 + 5, s.2) := by
              have := w2
              simp only [q4, if_true] at this
              exact this
            refine ⟨σ37, rfl, fR37, s37, fun k' v hv => ?_⟩
            cases hv
            refine ⟨R37, ?_⟩
            have I37 := (I26.r (by rw [List.length_append, List.length_singleton]; omega) hf.1).r (by rw [List.length_append, List.length_singleton]; omega) w3
            have ez : (if z = true then 2 else 1) = (if sC Ws (s.1 + 3) = nI 27 then 2 else 1) := by
              rw [hz]
              by_cases q : sC Ws (s.1 + 3) = nI 27
              · rw [decide_eq_true q, if_pos q]; try rfl
              · rw [decide_eq_false q, if_neg q]; try rfl
            rw [ez] at I37
            exact I37
        obtain ⟨σ29, x1, x2, x3, x4⟩ := U5_takesWord (q := 26) (s := (s.1 + 3, s.2)) hG (hW.fR fR26) R26 (by show s.1 + 3 < 3000; omega)
        have x1' : x_X5_takesWord (c + 191) 26 σ26 = some (zI (decide (sC Ws (s.1 + 3) = nI 26)), σ29) := x1
        rw [x1', b2_eq, ifz]
        by_cases p1 : sC Ws (s.1 + 3) = nI 26
        · rw [decide_eq_true p1]
          have R29 : RR σ29 c (s.1 + 4, s.2) := by
            have := x2
            simp only [p1, if_true] at this
            exact this
          simp only [if_true]
          exact close σ29 ⟨x3, x4⟩ R29 (Or.inl p1)
        · rw [decide_eq_false p1]
          have R29 : RR σ29 c (s.1 + 3, s.2) := by
            have := x2
            simp only [p1, if_false] at this
            exact this
          obtain ⟨σ33, y1, y2, y3, y4⟩ := U5_takesWord (q := 27) (s := (s.1 + 3, s.2)) hG (hW.fR (fR_trans fR26 (fR_r x3))) R29 (by show s.1 + 3 < 3000; omega)
          have y1' : x_X5_takesWord (c + 191) 27 σ29 = some (zI (decide (sC Ws (s.1 + 3) = nI 27)), σ33) := y1
          rw [y1', b2_eq, ifz]
          by_cases p2 : sC Ws (s.1 + 3) = nI 27
          · rw [decide_eq_true p2]
            have R33 : RR σ33 c (s.1 + 4, s.2) := by
              have := y2
              simp only [p2, if_true] at this
              exact this
            have := close σ33 (fr_trans ⟨x3, x4⟩ ⟨y3, y4⟩) R33 (Or.inr p2)
            simpa only [Bool.false_eq_true, if_false, if_true] using this
          · have hno : ¬ (sC Ws (s.1 + 3) = nI 26 ∨ sC Ws (s.1 + 3) = nI 27) := fun z => z.elim p1 p2
            rw [decide_eq_false p2]
            simp only [Bool.false_eq_true, if_false]
            simp only [if_neg hno]
            exact ⟨σ33, rfl, fR_trans fR26 (fR_trans (fR_r x3) (fR_r y3)), (y4.trans x4).trans s26, fun k' v hv => by cases hv⟩
      by_cases q3 : sC Ws (s.1 + 3) = nI 27
      · rw [if_pos (show sC Ws (s.1 + 3, s.2).1 = 27 from q3)]
        exact tail true (by rw [decide_eq_true q3])
      · rw [if_neg (show ¬ sC Ws (s.1 + 3, s.2).1 = 27 from q3)]
        exact tail false (by rw [decide_eq_false q3])
/-! ===== the class reads a field ===== -/
theorem IT_t {σ : SG} {c a i t w : Nat} {d : Dc} {r : Bool} (h : IT σ c a i d) : IT (uI (uI (uI σ a 11 (zI r)) a 8 (nI t)) a 9 (nI w)) c a i (wT d t w r) := by
  unfold IT wT dK dS dO dA dE dN dT dW dR dP at *
  simp only [sP_uI, sL_uI]
  obtain ⟨h1, h2, h3, h4, h5, h6, h7, h8, h9, h10, h11, h12, h13, h14, h15, h16⟩ := h
  have o : ∀ k v, k ≠ 11 → k ≠ 8 → k ≠ 9 → sI σ a k = v → sI (uI (uI (uI σ a 11 (zI r)) a 8 (nI t)) a 9 (nI w)) a k = v := fun k v q1 q2 q3 e => by rw [sI_o (Or.inr q3), sI_o (Or.inr q2), sI_o (Or.inr q1)]; exact e
  refine ⟨o 0 _ (by decide) (by decide) (by decide) h1, o 1 _ (by decide) (by decide) (by decide) h2, h3, h4, o 4 _ (by decide) (by decide) (by decide) h5, o 5 _ (by decide) (by decide) (by decide) h6, h7, ?_, fun _ => sI_s _ _ _ _, h10, ?_, o 12 _ (by decide) (by decide) (by decide) h12, o 13 _ (by decide) (by decide) (by decide) h13, ?_, h15, h16⟩
  · rw [sI_o (Or.inr (by decide)), sI_s]
  · rw [sI_o (Or.inr (by decide)), sI_o (Or.inr (by decide)), sI_s]
  · rw [o 14 _ (by decide) (by decide) (by decide) rfl]; exact h14
/-- the field behind its type: name, number, packed, ; -/
def sFe (T : List Nat) (Ws : List Wd) (m o : Option Nat) (t w : Nat) (r : Bool) (k : Nat) : Option (Nat × Dc) := match Ws[k]? with
  | none => none
  | some x => if x.1 = 1 then (if sS T Ws 61 (k + 1) then (match sNu T Ws false (k + 2) with | some (k4, v) => (match sPk T Ws k4 with | some (k5, pk) => if sS T Ws 59 k5 then some (k5 + 1, (2, m, o, x.2.1, x.2.2.1, v, t, w, r, pk)) else none | none => none) | none => none) else none) else none
def sPl (Ws : List Wd) (k : Nat) : Bool := decide (¬ sC Ws k < 0 ∧ ¬ 12 < sC Ws k)
def sFt (T : List Nat) (Ws : List Wd) (m o : Option Nat) (r : Bool) (k : Nat) : Option (Nat × Dc) := match (if sPl Ws k then some (k + 1) else sTy T Ws k) with
  | none => none
  | some k2 => sFe T Ws m o (if sPl Ws k then (sC Ws k).toNatClampNeg else 13) k r k2
def sFd (T : List Nat) (Ws : List Wd) (m o : Option Nat) (k : Nat) : Option (Nat × Dc) := if o = none ∧ sC Ws k = nI 23 then sFt T Ws m o true (k + 1) else sFt T Ws m o false k
/-- what a part of the reading answers -/
def RO (c : Nat) (σ : SG) (s : Rs) (D : List Dc) (o : Option (Nat × Dc)) (x : Option (Int32 × SG)) : Prop := ∃ τ, x = some (zI o.isSome, τ) ∧ fR c σ τ ∧ sI τ (c + 191) 7 = sI σ (c + 191) 7 ∧ ∀ k' d, o = some (k', d) → RR τ c (k', s.2) ∧ ITs τ c (D ++ [d])
theorem sNu_le {T : List Nat} {Ws : List Wd} {b : Bool} {k k' : Nat} {v : Bool × Nat} (h : sNu T Ws b k = some (k', v)) : k + 1 ≤ k' ∧ k' ≤ k + 2 := by
  unfold sNu at h
  cases e : Ws[k]? with
  | none => rw [e] at h; cases h
  | some x =>
    rw [e] at h
    simp only at h
    split at h
    · cases e2 : Ws[k + 1]? with
      | none => rw [e2] at h; cases h
      | some y => rw [e2] at h; simp only at h; split at h <;> cases h; omega
    · split at h <;> cases h; omega
theorem sPk_le {T : List Nat} {Ws : List Wd} {k k' v : Nat} (h : sPk T Ws k = some (k', v)) : k ≤ k' ∧ k' ≤ k + 5 := by
  unfold sPk at h
  repeat' split at h
  all_goals first | (cases h; omega) | cases h
theorem X5_fieldEnd {c t w : Nat} {σ : SG} {T : List Nat} {Ws : List Wd} {s : Rs} {D : List Dc} {r : Bool} {v4 v3 : Int32} (hcb : cb c) (hS : WS T Ws) (h6 : sI σ (c + 186) 6 = nI T.length) (hW : WA σ (c + 186) Ws) (hR : RR σ c s) (hI : ITs σ c D) (hl : D.length < 180) (hk : s.1 < 1800) (ht : nI t = (if v4 = 0 then 13 else v3)) {U : Nat} :
    RO c σ s D (sFe T Ws s.2.1 s.2.2.1 t w r s.1) (x_X5_readField_83 U (c + 191) (zI r) (nI w) v3 v4 σ) := by
  have hG := hS.G
  have hT := hS.2.1
  unfold x_X5_readField_83 sFe
  cases hx : Ws[s.1]? with
  | none =>
    have h2 := hW.2.1
    have h1 := List.getElem?_eq_none_iff.mp hx
    refine ⟨σ, ?_, fR_refl c σ, rfl, fun k' d h => by cases h⟩
    unfold x_X5_readName
    rw [show c + 191 - 5 = c + 186 by omega, hR.1, U10_kindOf hW (by omega), b1_eq, show sK Ws s.1 = 0 by unfold sK; rw [hx], if_neg (by decide), b2_eq, if_pos rfl]; try rfl
  | some x =>
    simp only
    by_cases q1 : ¬ x.1 = 1
    · rw [X5_readName_no hW hR hx (hG.2 _ _ hx).1 q1, b2_eq, if_pos rfl, if_neg q1]
      exact ⟨σ, rfl, fR_refl c σ, rfl, fun k' d h => by cases h⟩
    have q1 := Classical.not_not.mp q1
    have hsh := it_sh hcb hl
    obtain ⟨σ16, n1, n2, n3, n4, n5⟩ := X5_readName (k := 2) hS hW hR hI hx hl (by decide) q1
    have n1' : x_X5_readName (c + 191) 2 σ = some (some (c + 5 + D.length), σ16) := n1
    rw [n1', b2_eq, if_neg (show ¬ (some (c + 5 + D.length) = none) from fun z => by cases z), ck_eq hsh, show ∀ f : Option (Int32 × SG), zb (zI r) f = f from fun f => by cases r <;> rfl, sb_eq, if_pos q1]
    -- the type's marks
    let σ31 := uI (uI (uI σ16 (c + 5 + D.length) 11 (zI r)) (c + 5 + D.length) 8 (nI t)) (c + 5 + D.length) 9 (nI w)
    have go : ∀ (A B : SG → Option (Int32 × SG)), (if v4 = 0 then x_X5_readField_116 U (c + 191) (nI w) (some (c + 5 + D.length)) 13 (some (c + 5 + D.length)) (uI σ16 (c + 5 + D.length) 11 (zI r)) else x_X5_readField_116 U (c + 191) (nI w) (some (c + 5 + D.length)) v3 (some (c + 5 + D.length)) (uI σ16 (c + 5 + D.length) 11 (zI r))) = x_X5_readField_116 U (c + 191) (nI w) (some (c + 5 + D.length)) (nI t) (some (c + 5 + D.length)) (uI σ16 (c + 5 + D.length) 11 (zI r)) := by
      intro _ _
      rw [ht]
      by_cases q : v4 = 0
      · rw [if_pos q, if_pos q]
      · rw [if_neg q, if_neg q]
    rw [go (fun _ => none) (fun _ => none)]
    unfold x_X5_readField_116
    rw [ck_eq hsh, sb_eq, ck_eq hsh, sb_eq]
    have f31 : ∀ b, b ≠ c + 5 + D.length → sm σ16 σ31 b := fun b hb => sm_trans (sm_trans (sm_uI hb) (sm_uI hb)) (sm_uI hb)
    have fR31 : fR c σ σ31 := fun b h1 h2 h3 => sm_trans (n4 b h1 h2 h3) (f31 b (by omega))
    have R31 : RR σ31 c (s.1 + 1, s.2) := n2.s (f31 _ (by omega))
    have s31 : sI σ31 (c + 191) 7 = sI σ (c + 191) 7 := ((f31 _ (by omega)) 7).1.trans n5
    have I31 : ITs σ31 c (D ++ [wT (d0 2 s.2.1 s.2.2.1 x.2.1 x.2.2.1) t w r]) := ITs_last n3 hl (fun b h1 _ => f31 b h1) rfl rfl rfl (IT_t n3.last)
    obtain ⟨σ34, t1, t2, t3, t4⟩ := U5_takes (q := 61) (s := (s.1 + 1, s.2)) hG (hW.fR fR31) R31 (by show s.1 + 1 < 3000; omega) (by decide)
    have t1' : x_X5_takes (c + 191) 61 σ31 = some (zI (sS T Ws 61 (s.1 + 1)), σ34) := t1
    show RO c σ s D _ (b2 (x_X5_takes (c + 191) 61 σ31) _)
    rw [t1', b2_eq, ifz]
    have fR34 : fR c σ σ34 := fR_trans fR31 (fR_r t3)
    have s34 := t4.trans s31
    cases q2 : sS T Ws 61 (s.1 + 1) with
    | false =>
      simp only [Bool.false_eq_true, if_false]
      exact ⟨σ34, rfl, fR34, s34, fun k' d h => by cases h⟩
    | true =>
      simp only [if_true]
      have R34 : RR σ34 c (s.1 + 2, s.2) := by
        have := t2
        simp only [q2, if_true] at this
        exact this
      have I34 : ITs σ34 c (D ++ [wT (d0 2 s.2.1 s.2.2.1 x.2.1 x.2.2.1) t w r]) := I31.r (by rw [List.length_append, List.length_singleton]; omega) t3
      obtain ⟨y, hy⟩ : ∃ y, Ws[s.1 + 2]? = some y := by
        unfold sS at q2
        cases e : Ws[s.1 + 1]? with
        | none => rw [e] at q2; cases q2
        | some z =>
          rw [e] at q2
          obtain ⟨y, hy, -⟩ := hS.next e (by rw [sg_4 q2]; decide) (by rw [sg_4 q2]; decide)
          exact ⟨y, hy⟩
      obtain ⟨σ38, u1, u2, u3, u4⟩ := X5_readNumber (s := (s.1 + 2, s.2)) (mi := false) hcb hS (hW.fR fR34) R34 I34 hl hy
      have u1' : x_X5_readNumber (c + 191) (some (c + 5 + D.length)) 0 σ34 = some (zI (sNu T Ws false (s.1 + 2)).isSome, σ38) := u1
      rw [u1', b2_eq, ifz]
      have fR38 : fR c σ σ38 := fR_trans fR34 u2
      have s38 := u3.trans s34
      cases q3 : sNu T Ws false (s.1 + 2) with
      | none =>
        simp only [Option.isSome_none, Bool.false_eq_true, if_false]
        exact ⟨σ38, rfl, fR38, s38, fun k' d h => by cases h⟩
      | some kv =>
        obtain ⟨k4, v⟩ := kv
        simp only [Option.isSome_some, if_true]
        obtain ⟨R38, I38⟩ := u4 k4 v q3
        have b4 := sNu_le q3
        obtain ⟨σ42, w1, w2, w3, w4⟩ := X5_readPacked (s := (k4, s.2)) hcb hG ((fR38 (c + 186) (by omega) (by omega) (by omega) 6).1.trans h6) hT (hW.fR fR38) R38 I38 hl (by show k4 < 2000; omega) rfl
        rw [w1, b2_eq, ifz]
        have fR42 : fR c σ σ42 := fR_trans fR38 w2
        have s42 := w3.trans s38
        cases q4 : sPk T Ws k4 with
        | none =>
          simp only [Option.isSome_none, Bool.false_eq_true, if_false]
          exact ⟨σ42, rfl, fR42, s42, fun k' d h => by cases h⟩
        | some kp =>
          obtain ⟨k5, pk⟩ := kp
          simp only [Option.isSome_some, if_true]
          obtain ⟨R42, I42⟩ := w4 k5 pk q4
          have b5 := sPk_le q4
          obtain ⟨σ46, z1, z2, z3, z4⟩ := U5_takes (q := 59) (s := (k5, s.2)) hG (hW.fR fR42) R42 (by show k5 < 3000; omega) (by decide)
          have z1' : x_X5_takes (c + 191) 59 σ42 = some (zI (sS T Ws 59 k5), σ46) := z1
          rw [z1', b2_eq, ifz]
          have fR46 : fR c σ σ46 := fR_trans fR42 (fR_r z3)
          have s46 := z4.trans s42
          cases q5 : sS T Ws 59 k5 with
          | false =>
            simp only [Bool.false_eq_true, if_false]
            exact ⟨σ46, rfl, fR46, s46, fun k' d h => by cases h⟩
          | true =>
            simp only [if_true]
            refine ⟨σ46, rfl, fR46, s46, fun k' d h => ?_⟩
            cases h
            have R46 : RR σ46 c (k5 + 1, s.2) := by
              have := z2
              simp only [q5, if_true] at this
              exact this
            exact ⟨R46, I42.r (by rw [List.length_append, List.length_singleton]; omega) z3⟩
/-! ===== the class reads a field, a value, a beginning ===== -/
theorem sC_lt {T : List Nat} {Ws : List Wd} (hG : WG T Ws) (k : Nat) (h : ¬ sC Ws k < 0) : ∃ q, q < 41 ∧ sC Ws k = nI q := by
  cases e : Ws[k]? with
  | none => unfold sC at h; rw [e] at h; exact absurd (by decide) h
  | some x =>
    rw [sC_some e] at h ⊢
    by_cases q1 : x.1 = 1
    · rw [cdX_1 (hG.2 _ _ e) q1] at h ⊢
      rcases cdS_cases (slc T x.2.1 x.2.2.1) with ⟨j, hj, e1, _⟩ | ⟨j, hj, e1, _⟩ | ⟨e1, _⟩ | ⟨e1, _⟩
      · exact ⟨j, by omega, e1⟩
      · exact ⟨20 + j, by omega, e1⟩
      · exact ⟨40, by omega, e1⟩
      · rw [e1] at h; exact absurd (by decide) h
    · unfold cdX at h; rw [if_neg q1] at h; exact absurd (by decide) h
theorem RO_fail {c : Nat} {σ τ : SG} {s : Rs} {D : List Dc} (hf : fR c σ τ) (h7 : sI τ (c + 191) 7 = sI σ (c + 191) 7) : RO c σ s D none (some (0, τ)) := ⟨τ, rfl, hf, h7, fun k' d h => by cases h⟩
theorem RO_from {c : Nat} {σ τ : SG} {s s' : Rs} {D : List Dc} {o : Option (Nat × Dc)} {x : Option (Int32 × SG)} (hf : fR c σ τ) (h7 : sI τ (c + 191) 7 = sI σ (c + 191) 7) (hs : s'.2 = s.2) (h : RO c τ s' D o x) : RO c σ s D o x := by
  obtain ⟨υ, g1, g2, g3, g4⟩ := h
  exact ⟨υ, g1, fR_trans hf g2, g3.trans h7, fun k' d hd => by have := g4 k' d hd; rw [hs] at this; exact this⟩
theorem X5_fieldType {c : Nat} {σ : SG} {T : List Nat} {Ws : List Wd} {s : Rs} {D : List Dc} {r : Bool} {U : Nat} (hU : 4000 < U) (hcb : cb c) (hS : WS T Ws) (h6 : sI σ (c + 186) 6 = nI T.length) (hW : WA σ (c + 186) Ws) (hR : RR σ c s) (hI : ITs σ c D) (hl : D.length < 180) (hk : s.1 < 800) :
    RO c σ s D (sFt T Ws s.2.1 s.2.2.1 r s.1) (x_X5_readField_21 U (c + 191) (zI r) σ) := by
  have hG := hS.G
  have h2 := hW.2.1
  unfold x_X5_readField_21 x_X5_readField_53 x_X5_readField_54 sFt
  rw [show c + 191 - 5 = c + 186 by omega, hR.1, U10_codeOf hW hG (by omega), b1_eq, if_pos (show (0 : Int32) = 0 from rfl), if_neg (show ¬ (1 : Int32) = 0 by decide)]
  have named : sPl Ws s.1 = false → RO c σ s D (match (if sPl Ws s.1 then some (s.1 + 1) else sTy T Ws s.1) with | none => none | some k2 => sFe T Ws s.2.1 s.2.2.1 (if sPl Ws s.1 then (sC Ws s.1).toNatClampNeg else 13) s.1 r k2) (b2 (x_X5_readTypeName U (c + 191) σ) fun v11 σ12 => if v11 = 0 then some (0, σ12) else x_X5_readField_83 U (c + 191) (zI r) (nI s.1) (sC Ws s.1) 0 σ12) := by
    intro hp
    simp only [hp, Bool.false_eq_true, if_false]
    obtain ⟨τ, t1, t2, t3, t4⟩ := X5_readTypeName hU hG hW hR hk
    rw [t1, b2_eq, ifz]
    cases q : sTy T Ws s.1 with
    | none =>
      simp only [Option.isSome_none, Bool.false_eq_true, if_false]
      exact RO_fail (fR_r t2) t3
    | some k2 =>
      simp only [Option.isSome_some, if_true]
      have b2' : k2 < 1800 ∨ ¬ k2 < 1800 := Nat.lt_or_ge k2 1800 |>.imp id (by omega)
      have hk2 : k2 ≤ s.1 + 1 + 2 * Ws.length := by
        unfold sTy at q
        split at q
        · have := sTN_le _ _ _ q; omega
        · split at q
          · cases q
          · have := sTN_le _ _ _ q; omega
      refine RO_from (fR_r t2) t3 (s' := (k2, s.2)) rfl ?_
      rcases b2' with b | b
      · exact X5_fieldEnd (s := (k2, s.2)) hcb hS ((t2 (c + 186) (by omega) 6).1.trans h6) (hW.fR (fR_r t2)) (t4 k2 q) (hI.r (by omega) t2) hl b (by rw [if_pos rfl]; rfl)
      · -- no word stands so far behind
        have hnone : Ws[k2]? = none := List.getElem?_eq_none (by omega)
        have e1 : sFe T Ws s.2.1 s.2.2.1 13 s.1 r k2 = none := by unfold sFe; rw [hnone]
        rw [e1]
        unfold x_X5_readField_83 x_X5_readName
        rw [show c + 191 - 5 = c + 186 by omega, (t4 k2 q).1]
        have hWτ := hW.fR (fR_r t2)
        rw [U10_kindOf hWτ (by show k2 < 3000; omega), b1_eq, show sK Ws (k2, s.2).1 = 0 by unfold sK; rw [hnone], if_neg (by decide), b2_eq, if_pos rfl]
        exact RO_fail (fR_refl c τ) rfl
  by_cases q1 : sC Ws s.1 < 0
  · rw [if_pos q1]
    exact named (by unfold sPl; exact decide_eq_false (fun z => z.1 q1))
  · rw [if_neg q1]
    by_cases q2 : 12 < sC Ws s.1
    · rw [if_pos q2]
      exact named (by unfold sPl; exact decide_eq_false (fun z => z.2 q2))
    · rw [if_neg q2, sb_eq, nI_1]
      have hp : sPl Ws s.1 = true := by unfold sPl; exact decide_eq_true ⟨q1, q2⟩
      obtain ⟨q, hq, hqe⟩ := sC_lt hG s.1 q1
      simp only [hp, if_true]
      have f1 : ∀ b, b ≠ c + 191 → sm σ (uI σ (c + 191) 6 (nI (s.1 + 1))) b := fun b hb => sm_uI hb
      refine RO_from (fR_r f1) (sI_o (Or.inr (by decide))) (s' := (s.1 + 1, s.2)) rfl ?_
      exact X5_fieldEnd (v4 := 1) (v3 := sC Ws s.1) (s := (s.1 + 1, s.2)) hcb hS ((f1 (c + 186) (by omega) 6).1.trans h6) (hW.fR (fR_r f1)) hR.at (hI.r (by omega) f1) hl (by show s.1 + 1 < 1800; omega) (by rw [if_neg (by decide), hqe, nI_clamp (by omega)])
theorem X5_readField {c : Nat} {σ : SG} {T : List Nat} {Ws : List Wd} {s : Rs} {D : List Dc} {U : Nat} (hU : 4000 < U) (hcb : cb c) (hS : WS T Ws) (h6 : sI σ (c + 186) 6 = nI T.length) (hW : WA σ (c + 186) Ws) (hR : RR σ c s) (hI : ITs σ c D) (hl : D.length < 180) (hk : s.1 < 790) :
    RO c σ s D (sFd T Ws s.2.1 s.2.2.1 s.1) (x_X5_readField U (c + 191) σ) := by
  have hG := hS.G
  unfold x_X5_readField x_X5_readField_20 sFd
  rw [hR.2.2.1]
  cases ho : s.2.2.1 with
  | some i =>
    rw [if_neg (show ¬ ad c (some i) = none from fun z => by cases z), if_neg (fun z => by cases z.1), ← ho]
    exact X5_fieldType (r := false) hU hcb hS h6 hW hR hI hl (by omega)
  | none =>
    rw [if_pos (show ad c none = none from rfl)]
    obtain ⟨τ, t1, t2, t3, t4⟩ := U5_takesWord (q := 23) hG hW hR (by omega)
    have t1' : x_X5_takesWord (c + 191) 23 σ = some (zI (decide (sC Ws s.1 = nI 23)), τ) := t1
    rw [t1', b2_eq, ifz]
    by_cases q : sC Ws s.1 = nI 23
    · rw [decide_eq_true q, if_pos ⟨rfl, q⟩, ← ho]
      rw [if_pos q] at t2
      simp only [if_true]
      refine RO_from (fR_r t3) t4 (s' := (s.1 + 1, s.2)) rfl ?_
      exact X5_fieldType (r := true) (s := (s.1 + 1, s.2)) hU hcb hS ((t3 (c + 186) (by omega) 6).1.trans h6) (hW.fR (fR_r t3)) t2 (hI.r (by omega) t3) hl (by show s.1 + 1 < 800; omega)
    · rw [decide_eq_false q, if_neg (fun z => q z.2), ← ho]
      rw [if_neg q] at t2
      simp only [Bool.false_eq_true, if_false]
      refine RO_from (fR_r t3) t4 (s' := s) rfl ?_
      exact X5_fieldType (r := false) hU hcb hS ((t3 (c + 186) (by omega) 6).1.trans h6) (hW.fR (fR_r t3)) t2 (hI.r (by omega) t3) hl (by omega)
/-! ===== the class's reader, step by step ===== -/
def sVl (T : List Nat) (Ws : List Wd) (m e : Option Nat) (k : Nat) : Option (Nat × Dc) := match Ws[k]? with
  | none => none
  | some x => if x.1 = 1 then (if sS T Ws 61 (k + 1) then (match sNu T Ws true (k + 2) with | some (k4, v) => if sS T Ws 59 k4 then some (k4 + 1, (3, m, e, x.2.1, x.2.2.1, v, 0, 0, false, 0)) else none | none => none) else none) else none
theorem X5_value {c : Nat} {σ : SG} {T : List Nat} {Ws : List Wd} {s : Rs} {D : List Dc} (hcb : cb c) (hS : WS T Ws) (hW : WA σ (c + 186) Ws) (hR : RR σ c s) (hI : ITs σ c D) (hl : D.length < 180) (hk : s.1 < 1800) :
    RO c σ s D (sVl T Ws s.2.1 s.2.2.2.1 s.1) (b2 (x_X5_readName (c + 191) 3 σ) fun v12 σ13 => if v12 = none then (some (0, σ13)) else (b2 (x_X5_takes (c + 191) 61 σ13) fun v16 σ17 => if v16 = 0 then (some (0, σ17)) else (b2 (x_X5_readNumber (c + 191) v12 1 σ17) fun v20 σ21 => if v20 = 0 then (some (0, σ21)) else (b2 (x_X5_takes (c + 191) 59 σ21) fun v24 σ25 => if v24 = 0 then (some (0, σ25)) else (some (1, σ25)))))) := by
  have hG := hS.G
  unfold sVl
  cases hx : Ws[s.1]? with
  | none =>
    unfold x_X5_readName
    rw [show c + 191 - 5 = c + 186 by omega, hR.1, U10_kindOf hW (by omega), b1_eq, show sK Ws s.1 = 0 by unfold sK; rw [hx], if_neg (by decide), b2_eq, if_pos rfl]
    exact RO_fail (fR_refl c σ) rfl
  | some x =>
    simp only
    by_cases q1 : ¬ x.1 = 1
    · rw [X5_readName_no hW hR hx (hG.2 _ _ hx).1 q1, b2_eq, if_pos rfl, if_neg q1]
      exact RO_fail (fR_refl c σ) rfl
    have q1 := Classical.not_not.mp q1
    obtain ⟨σ16, n1, n2, n3, n4, n5⟩ := X5_readName (k := 3) hS hW hR hI hx hl (by decide) q1
    have n1' : x_X5_readName (c + 191) 3 σ = some (some (c + 5 + D.length), σ16) := n1
    rw [n1', b2_eq, if_neg (show ¬ (some (c + 5 + D.length) = none) from fun z => by cases z), if_pos q1]
    obtain ⟨σ34, t1, t2, t3, t4⟩ := U5_takes (q := 61) (s := (s.1 + 1, s.2)) hG (hW.fR n4) n2 (by show s.1 + 1 < 3000; omega) (by decide)
    have t1' : x_X5_takes (c + 191) 61 σ16 = some (zI (sS T Ws 61 (s.1 + 1)), σ34) := t1
    rw [t1', b2_eq, ifz]
    have fR34 : fR c σ σ34 := fR_trans n4 (fR_r t3)
    have s34 := t4.trans n5
    cases q2 : sS T Ws 61 (s.1 + 1) with
    | false =>
      simp only [Bool.false_eq_true, if_false]
      exact RO_fail fR34 s34
    | true =>
      simp only [if_true]
      have R34 : RR σ34 c (s.1 + 2, s.2) := by
        have := t2
        simp only [q2, if_true] at this
        exact this
      have I34 : ITs σ34 c (D ++ [d0 3 s.2.1 s.2.2.2.1 x.2.1 x.2.2.1]) := n3.r (by rw [List.length_append, List.length_singleton]; omega) t3
      obtain ⟨y, hy⟩ : ∃ y, Ws[s.1 + 2]? = some y := by
        unfold sS at q2
        cases e : Ws[s.1 + 1]? with
        | none => rw [e] at q2; cases q2
        | some z =>
          rw [e] at q2
          obtain ⟨y, hy, -⟩ := hS.next e (by rw [sg_4 q2]; decide) (by rw [sg_4 q2]; decide)
          exact ⟨y, hy⟩
      obtain ⟨σ38, u1, u2, u3, u4⟩ := X5_readNumber (s := (s.1 + 2, s.2)) (mi := true) hcb hS (hW.fR fR34) R34 I34 hl hy
      have u1' : x_X5_readNumber (c + 191) (some (c + 5 + D.length)) 1 σ34 = some (zI (sNu T Ws true (s.1 + 2)).isSome, σ38) := u1
      rw [u1', b2_eq, ifz]
      have fR38 : fR c σ σ38 := fR_trans fR34 u2
      have s38 := u3.trans s34
      cases q3 : sNu T Ws true (s.1 + 2) with
      | none =>
        simp only [Option.isSome_none, Bool.false_eq_true, if_false]
        exact RO_fail fR38 s38
      | some kv =>
        obtain ⟨k4, v⟩ := kv
        simp only [Option.isSome_some, if_true]
        obtain ⟨R38, I38⟩ := u4 k4 v q3
        have b4 := sNu_le q3
        obtain ⟨σ46, z1, z2, z3, z4⟩ := U5_takes (q := 59) (s := (k4, s.2)) hG (hW.fR fR38) R38 (by show k4 < 3000; omega) (by decide)
        have z1' : x_X5_takes (c + 191) 59 σ38 = some (zI (sS T Ws 59 k4), σ46) := z1
        rw [z1', b2_eq, ifz]
        have fR46 : fR c σ σ46 := fR_trans fR38 (fR_r z3)
        have s46 := z4.trans s38
        cases q5 : sS T Ws 59 k4 with
        | false =>
          simp only [Bool.false_eq_true, if_false]
          exact RO_fail fR46 s46
        | true =>
          simp only [if_true]
          refine ⟨σ46, rfl, fR46, s46, fun k' d h => ?_⟩
          cases h
          have R46 : RR σ46 c (k4 + 1, s.2) := by
            have := z2
            simp only [q5, if_true] at this
            exact this
          exact ⟨R46, I38.r (by rw [List.length_append, List.length_singleton]; omega) z3⟩
/-- what a step answers -/
def RP (c : Nat) (σ : SG) (o : Option (Rs × List Dc)) (x : Option (Int32 × SG)) : Prop := ∃ τ, x = some (zI o.isSome, τ) ∧ fR c σ τ ∧ ¬ sI τ (c + 191) 7 = 0 ∧ ∀ s' D', o = some (s', D') → RR τ c s' ∧ ITs τ c D'
theorem RP_fail {c : Nat} {σ τ : SG} (hf : fR c σ τ) (h7 : ¬ sI τ (c + 191) 7 = 0) : RP c σ none (some (0, τ)) := ⟨τ, rfl, hf, h7, fun k' d h => by cases h⟩
theorem RP_from {c : Nat} {σ τ : SG} {o : Option (Rs × List Dc)} {x : Option (Int32 × SG)} (hf : fR c σ τ) (h : RP c τ o x) : RP c σ o x := by
  obtain ⟨υ, g1, g2, g3, g4⟩ := h
  exact ⟨υ, g1, fR_trans hf g2, g3, g4⟩
/-- the beginning of a message (0), an enum (1), a oneof (4), behind its word -/
def sBg (T : List Nat) (Ws : List Wd) (q : Nat) (s : Rs) (D : List Dc) : Option (Rs × List Dc) := match Ws[s.1]? with
  | none => none
  | some x => if x.1 = 1 then (if sS T Ws 123 (s.1 + 1) then some ((s.1 + 2, if q = 0 then some D.length else s.2.1, if q = 4 then some D.length else s.2.2.1, if q = 1 then some D.length else s.2.2.2.1, true), D ++ [d0 q s.2.1 none x.2.1 x.2.2.1]) else none) else none
theorem X5_begin {c q : Nat} {σ : SG} {T : List Nat} {Ws : List Wd} {s : Rs} {D : List Dc} (hS : WS T Ws) (hW : WA σ (c + 186) Ws) (hR : RR σ c s) (hI : ITs σ c D) (hl : D.length < 180) (hk : s.1 < 1800) (hq : q = 0 ∨ q = 1 ∨ q = 4) (h7 : ¬ sI σ (c + 191) 7 = 0) :
    RP c σ (sBg T Ws q s D) (x_X5_begin (c + 191) (nI q) σ) := by
  have hG := hS.G
  have how : own s q = none := by unfold own; rw [if_neg (by omega), if_neg (by omega)]
  unfold x_X5_begin sBg
  cases hx : Ws[s.1]? with
  | none =>
    unfold x_X5_readName
    simp only
    rw [show c + 191 - 5 = c + 186 by omega, hR.1, U10_kindOf hW (by omega), b1_eq, show sK Ws s.1 = 0 by unfold sK; rw [hx], if_neg (show ¬ nI 0 = 1 by decide), b2_eq, if_pos rfl]
    exact RP_fail (fR_refl c σ) h7
  | some x =>
    simp only
    by_cases q1 : ¬ x.1 = 1
    · rw [X5_readName_no hW hR hx (hG.2 _ _ hx).1 q1, b2_eq, if_pos rfl, if_neg q1]
      exact RP_fail (fR_refl c σ) h7
    have q1 := Classical.not_not.mp q1
    obtain ⟨σ3, n1, n2, n3, n4, n5⟩ := X5_readName (k := q) hS hW hR hI hx hl (by omega) q1
    rw [how] at n3
    rw [n1, b2_eq, if_neg (show ¬ (some (c + 5 + D.length) = none) from fun z => by cases z), if_pos q1]
    obtain ⟨σ7, t1, t2, t3, t4⟩ := U5_takes (q := 123) (s := (s.1 + 1, s.2)) hG (hW.fR n4) n2 (by show s.1 + 1 < 3000; omega) (by decide)
    have t1' : x_X5_takes (c + 191) 123 σ3 = some (zI (sS T Ws 123 (s.1 + 1)), σ7) := t1
    rw [t1', b2_eq, ifz]
    have fR7 : fR c σ σ7 := fR_trans n4 (fR_r t3)
    have s7 : ¬ sI σ7 (c + 191) 7 = 0 := by rw [t4, n5]; exact h7
    cases q2 : sS T Ws 123 (s.1 + 1) with
    | false =>
      simp only [Bool.false_eq_true, if_false]
      exact RP_fail fR7 s7
    | true =>
      simp only [if_true]
      have R7 : RR σ7 c (s.1 + 2, s.2) := by
        have := t2
        simp only [q2, if_true] at this
        exact this
      have I7 := n3.r (by rw [List.length_append, List.length_singleton]; omega) t3
      have Il : (D ++ [d0 q s.2.1 none x.2.1 x.2.2.1]).length ≤ 180 := by rw [List.length_append, List.length_singleton]; omega
      unfold x_X5_begin_51
      have fin : ∀ j v (s' : Rs), (∀ b, b ≠ c + 191 → sm σ7 (uI (uP σ7 (c + 191) j v) (c + 191) 5 1) b) := fun j v s' b hb => sm_trans (sm_uP hb) (sm_uI hb)
      rcases hq with rfl | rfl | rfl
      · rw [if_pos (show nI 0 = 0 from rfl), sb_eq, sb_eq]
        refine ⟨_, rfl, fR_trans fR7 (fR_r (fin 2 _ s)), ?_, fun s' D' h => ?_⟩
        · rw [sI_o (Or.inr (by decide)), sI_uP]; exact s7
        · cases h
          refine ⟨⟨?_, ?_, ?_, ?_, ?_⟩, I7.r Il (fin 2 _ s)⟩
          · rw [sI_o (Or.inr (by decide)), sI_uP]; exact R7.1
          · rw [sP_uI, sP_s]; try rfl
          · rw [sP_uI, sP_o (Or.inr (by decide))]; exact R7.2.2.1
          · rw [sP_uI, sP_o (Or.inr (by decide))]; exact R7.2.2.2.1
          · rw [sI_s]; try rfl
      · rw [if_neg (show ¬ nI 1 = 0 by decide), if_pos (show nI 1 = 1 from rfl), sb_eq, sb_eq]
        refine ⟨_, rfl, fR_trans fR7 (fR_r (fin 4 _ s)), ?_, fun s' D' h => ?_⟩
        · rw [sI_o (Or.inr (by decide)), sI_uP]; exact s7
        · cases h
          refine ⟨⟨?_, ?_, ?_, ?_, ?_⟩, I7.r Il (fin 4 _ s)⟩
          · rw [sI_o (Or.inr (by decide)), sI_uP]; exact R7.1
          · rw [sP_uI, sP_o (Or.inr (by decide))]; exact R7.2.1
          · rw [sP_uI, sP_o (Or.inr (by decide))]; exact R7.2.2.1
          · rw [sP_uI, sP_s]; try rfl
          · rw [sI_s]; try rfl
      · rw [if_neg (show ¬ nI 4 = 0 by decide), if_neg (show ¬ nI 4 = 1 by decide), sb_eq, sb_eq]
        refine ⟨_, rfl, fR_trans fR7 (fR_r (fin 3 _ s)), ?_, fun s' D' h => ?_⟩
        · rw [sI_o (Or.inr (by decide)), sI_uP]; exact s7
        · cases h
          refine ⟨⟨?_, ?_, ?_, ?_, ?_⟩, I7.r Il (fin 3 _ s)⟩
          · rw [sI_o (Or.inr (by decide)), sI_uP]; exact R7.1
          · rw [sP_uI, sP_o (Or.inr (by decide))]; exact R7.2.1
          · rw [sP_uI, sP_s]; try rfl
          · rw [sP_uI, sP_o (Or.inr (by decide))]; exact R7.2.2.2.1
          · rw [sI_s]; try rfl
/-! ===== the class's reader: an enum's value, a oneof's field, a member ===== -/
def adv (t : Option Nat × Option Nat × Option Nat × Bool) (D : List Dc) (o : Option (Nat × Dc)) : Option (Rs × List Dc) := match o with
  | some kd => some ((kd.1, t), D ++ [kd.2])
  | none => none
def sVm (T : List Nat) (Ws : List Wd) (s : Rs) (D : List Dc) : Option (Rs × List Dc) := if s.2.2.2.2 = false ∧ sS T Ws 125 s.1 = true then some ((s.1 + 1, s.2.1, s.2.2.1, none, s.2.2.2.2), D) else if sC Ws s.1 = 40 then none else adv (s.2.1, s.2.2.1, s.2.2.2.1, false) D (sVl T Ws s.2.1 s.2.2.2.1 s.1)
def sOm (T : List Nat) (Ws : List Wd) (s : Rs) (D : List Dc) : Option (Rs × List Dc) := if s.2.2.2.2 = false ∧ sS T Ws 125 s.1 = true then some ((s.1 + 1, s.2.1, none, s.2.2.2.1, s.2.2.2.2), D) else if sC Ws s.1 = 40 then none else adv (s.2.1, s.2.2.1, s.2.2.2.1, false) D (sFd T Ws s.2.1 s.2.2.1 s.1)
theorem U5_isForbidden {c : Nat} {σ : SG} {T : List Nat} {Ws : List Wd} {s : Rs} (hG : WG T Ws) (hW : WA σ (c + 186) Ws) (hR : RR σ c s) (hk : s.1 < 3000) :
    ∃ τ, x_X5_isForbidden (c + 191) σ = some (zI (decide (sC Ws s.1 = 40)), τ) ∧ RR τ c s ∧ (∀ b, b ≠ c + 191 → sm σ τ b) ∧ sI τ (c + 191) 7 = (if sC Ws s.1 = 40 then 2 else sI σ (c + 191) 7) := by
  unfold x_X5_isForbidden
  rw [show c + 191 - 5 = c + 186 by omega, hR.1, U10_codeOf hW hG hk, b1_eq]
  by_cases q1 : sC Ws s.1 = 40
  · rw [if_pos q1, if_pos q1, decide_eq_true q1, sb_eq]
    refine ⟨_, rfl, ⟨?_, hR.2.1, hR.2.2.1, hR.2.2.2.1, ?_⟩, fun b hb => sm_uI hb, sI_s _ _ _ _⟩
    · rw [sI_o (Or.inr (by decide))]; exact hR.1
    · rw [sI_o (Or.inr (by decide))]; exact hR.2.2.2.2
  · rw [if_neg q1, if_neg q1, decide_eq_false q1]
    exact ⟨σ, rfl, hR, fun b _ => sm_refl σ b, rfl⟩
theorem RP_of_RO {c : Nat} {σ τ : SG} {s : Rs} {D : List Dc} {o : Option (Nat × Dc)} {x : Option (Int32 × SG)} (hf : fR c σ τ) (h7 : ¬ sI τ (c + 191) 7 = 0) (h : RO c τ s D o x) : RP c σ (adv s.2 D o) x := by
  obtain ⟨υ, g1, g2, g3, g4⟩ := h
  cases o with
  | none => exact ⟨υ, g1, fR_trans hf g2, by rw [g3]; exact h7, fun s' D' h => by cases h⟩
  | some kd =>
    obtain ⟨k', d⟩ := kd
    refine ⟨υ, g1, fR_trans hf g2, by rw [g3]; exact h7, fun s' D' h => ?_⟩
    cases h
    exact g4 k' d rfl
theorem b2_id (x : Option (Int32 × SG)) : (b2 x fun v s => some (v, s)) = x := by cases x <;> rfl
theorem b2_zb {c : Nat} {σ : SG} {o : Option (Rs × List Dc)} {x : Option (Int32 × SG)} (h : RP c σ o x) : RP c σ o (b2 x fun v s => zb v <| some (v, s)) := by
  obtain ⟨τ, g1, g2⟩ := h
  refine ⟨τ, ?_, g2⟩
  rw [g1, b2_eq]
  try (cases o.isSome <;> rfl)
theorem X5_readValue {c : Nat} {σ : SG} {T : List Nat} {Ws : List Wd} {s : Rs} {D : List Dc} (hcb : cb c) (hS : WS T Ws) (hW : WA σ (c + 186) Ws) (hR : RR σ c s) (hI : ITs σ c D) (hl : D.length < 180) (hk : s.1 < 1700) (h7 : ¬ sI σ (c + 191) 7 = 0) :
    RP c σ (sVm T Ws s D) (x_X5_readValue (c + 191) σ) := by
  have hG := hS.G
  -- a value
  have val : ∀ (τ : SG), fr c σ τ → RR τ c s → RP c σ (if sC Ws s.1 = 40 then none else adv (s.2.1, s.2.2.1, s.2.2.2.1, false) D (sVl T Ws s.2.1 s.2.2.2.1 s.1)) (x_X5_readValue_23 (c + 191) τ) := by
    intro τ hf hRτ
    unfold x_X5_readValue_23
    have hWτ := hW.fR (fR_r hf.1)
    have hIτ := hI.r (by omega) hf.1
    obtain ⟨σ8, t1, t2, t3, t4⟩ := U5_isForbidden hG hWτ hRτ (by omega)
    rw [t1, b2_eq, ifz]
    by_cases q : sC Ws s.1 = 40
    · rw [decide_eq_true q, if_pos q]
      simp only [if_true]
      exact RP_fail (fR_trans (fR_r hf.1) (fR_r t3)) (by rw [t4, if_pos q]; decide)
    · rw [decide_eq_false q, if_neg q]
      simp only [Bool.false_eq_true, if_false]
      rw [sb_eq]
      rw [if_neg q] at t4
      have f10 : ∀ b, b ≠ c + 191 → sm σ8 (uI σ8 (c + 191) 5 0) b := fun b hb => sm_uI hb
      have R10 : RR (uI σ8 (c + 191) 5 0) c (s.1, s.2.1, s.2.2.1, s.2.2.2.1, false) := ⟨by rw [sI_o (Or.inr (by decide))]; exact t2.1, t2.2.1, t2.2.2.1, t2.2.2.2.1, by rw [sI_s]; rfl⟩
      have fR10 : fR c σ (uI σ8 (c + 191) 5 0) := fR_trans (fR_r hf.1) (fR_trans (fR_r t3) (fR_r f10))
      have s10 : ¬ sI (uI σ8 (c + 191) 5 0) (c + 191) 7 = 0 := by rw [sI_o (Or.inr (by decide)), t4, hf.2]; exact h7
      have key := X5_value (s := (s.1, s.2.1, s.2.2.1, s.2.2.2.1, false)) hcb hS (hW.fR fR10) R10 ((hIτ.r (by omega) t3).r (by omega) f10) hl (by show s.1 < 1800; omega)
      exact RP_of_RO fR10 s10 key
  unfold x_X5_readValue sVm
  rw [ifnz (v := sI σ (c + 191) 5), hR.2.2.2.2]
  cases hb : s.2.2.2.2 with
  | true =>
    rw [if_pos rfl, if_neg (show ¬ (true = false ∧ sS T Ws 125 s.1 = true) from fun z => by cases z.1)]
    exact val σ (fr_refl c σ) hR
  | false =>
    rw [if_neg (show ¬ (false = true) by decide)]
    obtain ⟨τ, t1, t2, t3, t4⟩ := U5_takes (q := 125) hG hW hR (by omega) (by decide)
    have t1' : x_X5_takes (c + 191) 125 σ = some (zI (sS T Ws 125 s.1), τ) := t1
    rw [t1', b2_eq, ifz]
    cases q : sS T Ws 125 s.1 with
    | false =>
      rw [q, if_neg (by decide)] at t2
      rw [if_neg (show ¬ (false = true) by decide), if_neg (show ¬ (false = false ∧ false = true) from fun z => by cases z.2)]
      exact val τ ⟨t3, t4⟩ t2
    | true =>
      rw [q, if_pos rfl] at t2
      rw [if_pos (show true = true from rfl), if_pos (show false = false ∧ true = true from ⟨rfl, rfl⟩), sb_eq]
      refine ⟨_, rfl, fR_trans (fR_r t3) (fR_r (fun b hb' => sm_uP hb')), by rw [sI_uP, t4]; exact h7, fun s' D' h => ?_⟩
      cases h
      refine ⟨⟨t2.1, ?_, ?_, sP_s _ _ _ _, ?_⟩, (hI.r (by omega) t3).r (by omega) (fun b hb' => sm_uP hb')⟩
      · rw [sP_o (Or.inr (by decide))]; exact t2.2.1
      · rw [sP_o (Or.inr (by decide))]; exact t2.2.2.1
      · rw [sI_uP, t2.2.2.2.2, hb]
theorem X5_readChoice {c : Nat} {σ : SG} {T : List Nat} {Ws : List Wd} {s : Rs} {D : List Dc} {U : Nat} (hU : 4000 < U) (hcb : cb c) (hS : WS T Ws) (h6 : sI σ (c + 186) 6 = nI T.length) (hW : WA σ (c + 186) Ws) (hR : RR σ c s) (hI : ITs σ c D) (hl : D.length < 180) (hk : s.1 < 780) (h7 : ¬ sI σ (c + 191) 7 = 0) :
    RP c σ (sOm T Ws s D) (x_X5_readChoice U (c + 191) σ) := by
  have hG := hS.G
  have val : ∀ (τ : SG), fr c σ τ → RR τ c s → RP c σ (if sC Ws s.1 = 40 then none else adv (s.2.1, s.2.2.1, s.2.2.2.1, false) D (sFd T Ws s.2.1 s.2.2.1 s.1)) (x_X5_readChoice_23 U (c + 191) τ) := by
    intro τ hf hRτ
    unfold x_X5_readChoice_23
    have hWτ := hW.fR (fR_r hf.1)
    have hIτ := hI.r (by omega) hf.1
    obtain ⟨σ8, t1, t2, t3, t4⟩ := U5_isForbidden hG hWτ hRτ (by omega)
    rw [t1, b2_eq, ifz]
    by_cases q : sC Ws s.1 = 40
    · rw [decide_eq_true q, if_pos q]
      simp only [if_true]
      exact RP_fail (fR_trans (fR_r hf.1) (fR_r t3)) (by rw [t4, if_pos q]; decide)
    · rw [decide_eq_false q, if_neg q]
      simp only [Bool.false_eq_true, if_false]
      rw [sb_eq]
      rw [if_neg q] at t4
      have f10 : ∀ b, b ≠ c + 191 → sm σ8 (uI σ8 (c + 191) 5 0) b := fun b hb => sm_uI hb
      have R10 : RR (uI σ8 (c + 191) 5 0) c (s.1, s.2.1, s.2.2.1, s.2.2.2.1, false) := ⟨by rw [sI_o (Or.inr (by decide))]; exact t2.1, t2.2.1, t2.2.2.1, t2.2.2.2.1, by rw [sI_s]; rfl⟩
      have fR10 : fR c σ (uI σ8 (c + 191) 5 0) := fR_trans (fR_r hf.1) (fR_trans (fR_r t3) (fR_r f10))
      have s10 : ¬ sI (uI σ8 (c + 191) 5 0) (c + 191) 7 = 0 := by rw [sI_o (Or.inr (by decide)), t4, hf.2]; exact h7
      have key := X5_readField (s := (s.1, s.2.1, s.2.2.1, s.2.2.2.1, false)) hU hcb hS ((fR10 (c + 186) (by omega) (by omega) (by omega) 6).1.trans h6) (hW.fR fR10) R10 ((hIτ.r (by omega) t3).r (by omega) f10) hl (by show s.1 < 790; omega)
      exact b2_zb (RP_of_RO fR10 s10 key)
  unfold x_X5_readChoice sOm
  rw [ifnz (v := sI σ (c + 191) 5), hR.2.2.2.2]
  cases hb : s.2.2.2.2 with
  | true =>
    rw [if_pos rfl, if_neg (show ¬ (true = false ∧ sS T Ws 125 s.1 = true) from fun z => by cases z.1)]
    exact val σ (fr_refl c σ) hR
  | false =>
    rw [if_neg (show ¬ (false = true) by decide)]
    obtain ⟨τ, t1, t2, t3, t4⟩ := U5_takes (q := 125) hG hW hR (by omega) (by decide)
    have t1' : x_X5_takes (c + 191) 125 σ = some (zI (sS T Ws 125 s.1), τ) := t1
    rw [t1', b2_eq, ifz]
    cases q : sS T Ws 125 s.1 with
    | false =>
      rw [q, if_neg (by decide)] at t2
      rw [if_neg (show ¬ (false = true) by decide), if_neg (show ¬ (false = false ∧ false = true) from fun z => by cases z.2)]
      exact val τ ⟨t3, t4⟩ t2
    | true =>
      rw [q, if_pos rfl] at t2
      rw [if_pos (show true = true from rfl), if_pos (show false = false ∧ true = true from ⟨rfl, rfl⟩), sb_eq]
      refine ⟨_, rfl, fR_trans (fR_r t3) (fR_r (fun b hb' => sm_uP hb')), by rw [sI_uP, t4]; exact h7, fun s' D' h => ?_⟩
      cases h
      refine ⟨⟨t2.1, ?_, sP_s _ _ _ _, ?_, ?_⟩, (hI.r (by omega) t3).r (by omega) (fun b hb' => sm_uP hb')⟩
      · rw [sP_o (Or.inr (by decide))]; exact t2.2.1
      · rw [sP_o (Or.inr (by decide))]; exact t2.2.2.2.1
      · rw [sI_uP, t2.2.2.2.2, hb]
/-! ===== the class's reader: a member, the syntax ===== -/
def scp (D : List Dc) (m : Option Nat) : Option Nat := match m with
  | none => none
  | some i => match D[i]? with
    | none => none
    | some d => dS d
def sMm (T : List Nat) (Ws : List Wd) (s : Rs) (D : List Dc) : Option (Rs × List Dc) :=
  if sC Ws s.1 = 40 then none else if sC Ws s.1 = nI 20 then sBg T Ws 0 (s.1 + 1, s.2) D else if sC Ws s.1 = nI 21 then sBg T Ws 1 (s.1 + 1, s.2) D else if s.2.1 = none then none
  else if sS T Ws 59 s.1 = true then some ((s.1 + 1, s.2), D) else if sS T Ws 125 s.1 = true then some ((s.1 + 1, scp D s.2.1, s.2.2), D) else if sC Ws s.1 = nI 22 then sBg T Ws 4 (s.1 + 1, s.2) D else adv s.2 D (sFd T Ws s.2.1 s.2.2.1 s.1)
theorem X5_readMember {c : Nat} {σ : SG} {T : List Nat} {Ws : List Wd} {s : Rs} {D : List Dc} {U : Nat} (hU : 4000 < U) (hcb : cb c) (hS : WS T Ws) (h6 : sI σ (c + 186) 6 = nI T.length) (hW : WA σ (c + 186) Ws) (hR : RR σ c s) (hI : ITs σ c D) (hl : D.length < 180) (hk : s.1 < 780) (h7 : ¬ sI σ (c + 191) 7 = 0) (hm : ∀ m, s.2.1 = some m → m < D.length) :
    RP c σ (sMm T Ws s D) (x_X5_readMember U (c + 191) σ) := by
  have hG := hS.G
  unfold x_X5_readMember sMm
  obtain ⟨σ3, a1, a2, a3, a4⟩ := U5_isForbidden hG hW hR (by omega)
  rw [a1, b2_eq, ifz]
  by_cases q0 : sC Ws s.1 = 40
  · rw [decide_eq_true q0, if_pos q0]
    simp only [if_true]
    exact RP_fail (fR_r a3) (by rw [a4, if_pos q0]; decide)
  rw [decide_eq_false q0, if_neg q0]
  simp only [Bool.false_eq_true, if_false]
  rw [if_neg q0] at a4
  have W3 := hW.fR (fR_r a3)
  have I3 := hI.r (by omega) a3
  have F3 : fr c σ σ3 := ⟨a3, a4⟩
  obtain ⟨σ7, b1', b2', b3, b4⟩ := U5_takesWord (q := 20) hG W3 a2 (by omega)
  have e7 : x_X5_takesWord (c + 191) 20 σ3 = some (zI (decide (sC Ws s.1 = nI 20)), σ7) := b1'
  rw [e7, b2_eq, ifz]
  have F7 : fr c σ σ7 := fr_trans F3 ⟨b3, b4⟩
  have bg : ∀ (q : Nat) (τ : SG), (q = 0 ∨ q = 1 ∨ q = 4) → fr c σ τ → RR τ c (s.1 + 1, s.2) → RP c σ (sBg T Ws q (s.1 + 1, s.2) D) (b2 (x_X5_begin (c + 191) (nI q) τ) fun v s => zb v <| some (v, s)) := by
    intro q τ hq hf hRτ
    exact b2_zb (RP_from (fR_r hf.1) (X5_begin hS (hW.fR (fR_r hf.1)) hRτ (hI.r (by omega) hf.1) hl (by show s.1 + 1 < 1800; omega) hq (by rw [hf.2]; exact h7)))
  by_cases q1 : sC Ws s.1 = nI 20
  · rw [if_pos q1] at b2'
    rw [decide_eq_true q1, if_pos q1]
    simp only [if_true]
    exact bg 0 σ7 (Or.inl rfl) F7 b2'
  rw [if_neg q1] at b2'
  rw [decide_eq_false q1, if_neg q1]
  simp only [Bool.false_eq_true, if_false]
  obtain ⟨σ11, c1, c2, c3, c4⟩ := U5_takesWord (q := 21) hG (hW.fR (fR_r F7.1)) b2' (by omega)
  have e11 : x_X5_takesWord (c + 191) 21 σ7 = some (zI (decide (sC Ws s.1 = nI 21)), σ11) := c1
  rw [e11, b2_eq, ifz]
  have F11 : fr c σ σ11 := fr_trans F7 ⟨c3, c4⟩
  by_cases q2 : sC Ws s.1 = nI 21
  · rw [if_pos q2] at c2
    rw [decide_eq_true q2, if_pos q2]
    simp only [if_true]
    exact bg 1 σ11 (Or.inr (Or.inl rfl)) F11 c2
  rw [if_neg q2] at c2
  rw [decide_eq_false q2, if_neg q2]
  simp only [Bool.false_eq_true, if_false]
  rw [c2.2.1]
  cases hm0 : s.2.1 with
  | none =>
    rw [if_pos (show ad c none = none from rfl), if_pos rfl]
    exact RP_fail (fR_r F11.1) (by rw [F11.2]; exact h7)
  | some m =>
    have hml := hm m hm0
    rw [if_neg (show ¬ ad c (some m) = none from fun z => by cases z), if_neg (show ¬ (some m = none) from fun z => by cases z)]
    obtain ⟨σ16, d1, d2, d3, d4⟩ := U5_takes (q := 59) hG (hW.fR (fR_r F11.1)) c2 (by omega) (by decide)
    have e16 : x_X5_takes (c + 191) 59 σ11 = some (zI (sS T Ws 59 s.1), σ16) := d1
    rw [e16, b2_eq, ifz]
    have F16 : fr c σ σ16 := fr_trans F11 ⟨d3, d4⟩
    cases q3 : sS T Ws 59 s.1 with
    | true =>
      rw [q3, if_pos rfl] at d2
      simp only [if_true]
      refine ⟨σ16, rfl, fR_r F16.1, by rw [F16.2]; exact h7, fun s' D' h => ?_⟩
      cases h
      exact ⟨d2, hI.r (by omega) F16.1⟩
    | false =>
      rw [q3, if_neg (by decide)] at d2
      simp only [Bool.false_eq_true, if_false]
      obtain ⟨σ20, g1, g2, g3, g4⟩ := U5_takes (q := 125) hG (hW.fR (fR_r F16.1)) d2 (by omega) (by decide)
      have e20 : x_X5_takes (c + 191) 125 σ16 = some (zI (sS T Ws 125 s.1), σ20) := g1
      rw [e20, b2_eq, ifz]
      have F20 : fr c σ σ20 := fr_trans F16 ⟨g3, g4⟩
      have I20 := hI.r (by omega) F20.1
      cases q4 : sS T Ws 125 s.1 with
      | true =>
        rw [q4, if_pos rfl] at g2
        simp only [if_true]
        have hit := I20.2.2.2 m D[m] (List.getElem?_eq_getElem hml)
        rw [g2.2.1]
        show RP c σ _ (ck 3 (ad c s.2.1) fun q34 => sb (uP σ20 (c + 191) 2 (sP σ20 q34 2)) fun σ37 => some (1, σ37))
        rw [hm0]
        show RP c σ _ (ck 3 (some (c + 5 + m)) fun q34 => sb (uP σ20 (c + 191) 2 (sP σ20 q34 2)) fun σ37 => some (1, σ37))
        rw [ck_eq (it_sh hcb (by omega)), sb_eq]
        refine ⟨_, rfl, fR_trans (fR_r F20.1) (fR_r (fun b hb => sm_uP hb)), by rw [sI_uP, F20.2]; exact h7, fun s' D' h => ?_⟩
        cases h
        refine ⟨⟨g2.1, ?_, ?_, ?_, g2.2.2.2.2⟩, I20.r (by omega) (fun b hb => sm_uP hb)⟩
        · rw [sP_s, hit.2.2.1]
          unfold scp
          simp only [List.getElem?_eq_getElem hml]
        · rw [sP_o (Or.inr (by decide))]; exact g2.2.2.1
        · rw [sP_o (Or.inr (by decide))]; exact g2.2.2.2.1
      | false =>
        rw [q4, if_neg (by decide)] at g2
        simp only [Bool.false_eq_true, if_false]
        obtain ⟨σ24, i1, i2, i3, i4⟩ := U5_takesWord (q := 22) hG (hW.fR (fR_r F20.1)) g2 (by omega)
        have e24 : x_X5_takesWord (c + 191) 22 σ20 = some (zI (decide (sC Ws s.1 = nI 22)), σ24) := i1
        rw [e24, b2_eq, ifz]
        have F24 : fr c σ σ24 := fr_trans F20 ⟨i3, i4⟩
        by_cases q5 : sC Ws s.1 = nI 22
        · rw [if_pos q5] at i2
          rw [decide_eq_true q5, if_pos q5]
          simp only [if_true]
          exact bg 4 σ24 (Or.inr (Or.inr rfl)) F24 i2
        · rw [if_neg q5] at i2
          rw [decide_eq_false q5, if_neg q5]
          simp only [Bool.false_eq_true, if_false]
          have key := X5_readField hU hcb hS ((F24.1 (c + 186) (by omega) 6).1.trans h6) (hW.fR (fR_r F24.1)) i2 (hI.r (by omega) F24.1) hl (by omega)
          rw [← hm0]
          exact b2_zb (RP_of_RO (fR_r F24.1) (by rw [F24.2]; exact h7) key)
/-- the first words -/
def sSy (T : List Nat) (Ws : List Wd) : Bool := decide (sC Ws 0 = nI 24) && sS T Ws 61 1 && (match Ws[2]? with | some x => decide (x.1 = 3 ∧ x.2.2.2 = Int32.toInt64 (nI 28)) | none => false) && sS T Ws 59 3
theorem X5_readSyntax {c : Nat} {σ : SG} {T : List Nat} {Ws : List Wd} {t : Option Nat × Option Nat × Option Nat × Bool} (hG : WG T Ws) (hW : WA σ (c + 186) Ws) (hR : RR σ c (0, t)) :
    ∃ τ, x_X5_readSyntax (c + 191) σ = some (zI (sSy T Ws), τ) ∧ fr c σ τ ∧ (sSy T Ws = true → RR τ c (4, t)) := by
  unfold x_X5_readSyntax sSy
  obtain ⟨σ3, a1, a2, a3, a4⟩ := U5_takesWord (q := 24) hG hW hR (show 0 < 3000 by decide)
  have e3 : x_X5_takesWord (c + 191) 24 σ = some (zI (decide (sC Ws 0 = nI 24)), σ3) := a1
  rw [e3, b2_eq, ifz]
  have F3 : fr c σ σ3 := ⟨a3, a4⟩
  cases q1 : decide (sC Ws 0 = nI 24) with
  | false => exact ⟨σ3, rfl, F3, fun h => by simp at h⟩
  | true =>
    have R3 : RR σ3 c (1, t) := by
      have := a2
      rw [if_pos (of_decide_eq_true q1)] at this
      exact this
    rw [if_pos rfl]
    obtain ⟨σ7, b1', b2', b3, b4⟩ := U5_takes (q := 61) hG (hW.fR (fR_r F3.1)) R3 (show 1 < 3000 by decide) (by decide)
    have e7 : x_X5_takes (c + 191) 61 σ3 = some (zI (sS T Ws 61 1), σ7) := b1'
    rw [e7, b2_eq, ifz]
    have F7 : fr c σ σ7 := fr_trans F3 ⟨b3, b4⟩
    cases q2 : sS T Ws 61 1 with
    | false => exact ⟨σ7, rfl, F7, fun h => by simp at h⟩
    | true =>
      have R7 : RR σ7 c (2, t) := by
        have := b2'
        simp only [q2, if_true] at this
        exact this
      have W7 := hW.fR (fR_r F7.1)
      rw [if_pos rfl, show c + 191 - 5 = c + 186 by omega, R7.1, U10_kindOf W7 (show 2 < 3000 by decide), b1_eq]
      cases hx : Ws[2]? with
      | none =>
        rw [show sK Ws (2, t).1 = 0 by unfold sK; rw [hx], if_neg (show ¬ nI 0 = 3 by decide)]
        exact ⟨σ7, rfl, F7, fun h => by simp at h⟩
      | some x =>
        have hx6 := (hG.2 _ _ hx).1
        rw [show sK Ws (2, t).1 = x.1 by unfold sK; rw [hx]]
        simp only
        by_cases q3 : x.1 = 3
        · rw [if_pos (show nI x.1 = 3 by rw [q3]; rfl), X10_valueOf W7 hx, b1_eq]
          by_cases q4 : x.2.2.2 = Int32.toInt64 (nI 28)
          · rw [if_pos (show x.2.2.2 = 28 by rw [q4]; rfl), sb_eq, nI_1, decide_eq_true ⟨q3, q4⟩]
            have f15 : ∀ b, b ≠ c + 191 → sm σ7 (uI σ7 (c + 191) 6 (nI (2 + 1))) b := fun b hb => sm_uI hb
            obtain ⟨σ18, d1, d2, d3, d4⟩ := U5_takes (q := 59) (s := (3, t)) hG (W7.fR (fR_r f15)) (RR.at (s := (2, t)) R7) (show 3 < 3000 by decide) (by decide)
            have e18 : x_X5_takes (c + 191) 59 (uI σ7 (c + 191) 6 (nI (2 + 1))) = some (zI (sS T Ws 59 3), σ18) := d1
            rw [e18, b2_eq]
            refine ⟨σ18, ?_, fr_trans F7 (fr_trans ⟨f15, sI_o (Or.inr (by decide))⟩ ⟨d3, d4⟩), fun h => ?_⟩
            · cases sS T Ws 59 3 <;> rfl
            · have q5 : sS T Ws 59 3 = true := by simpa using h
              simp only [q5, if_true] at d2
              exact d2
          · rw [if_neg (show ¬ x.2.2.2 = 28 from fun z => q4 (z.trans rfl)), decide_eq_false (fun z => q4 z.2)]
            exact ⟨σ7, rfl, F7, fun h => by simp at h⟩
        · rw [if_neg (show ¬ nI x.1 = 3 from fun z => q3 ((nI_eq (b := 3) (by omega) (by decide)).mp z)), decide_eq_false (fun z => q3 z.1)]
          exact ⟨σ7, rfl, F7, fun h => by simp at h⟩
/-! ===== how far a step goes ===== -/
/-- word k' stands, n bytes or more behind word k -/
def far (Ws : List Wd) (k k' n : Nat) : Prop := (∃ y, Ws[k']? = some y) ∧ pos Ws k + n ≤ pos Ws k'
theorem far_trans {Ws : List Wd} {k k' k'' n n' : Nat} (h : far Ws k k' n) (h' : far Ws k' k'' n') : far Ws k k'' (n + n') := ⟨h'.1, by have := h.2; have := h'.2; omega⟩
theorem far_le {Ws : List Wd} {k k' n n' : Nat} (h : far Ws k k' n) (hn : n' ≤ n) : far Ws k k' n' := ⟨h.1, by have := h.2; omega⟩
theorem far_refl {Ws : List Wd} {k : Nat} {x : Wd} (h : Ws[k]? = some x) : far Ws k k 0 := ⟨⟨x, h⟩, Nat.le_refl _⟩
theorem WS.far {T : List Nat} {Ws : List Wd} {k : Nat} {x : Wd} (h : WS T Ws) (hk : Ws[k]? = some x) (h0 : x.1 ≠ 0) (h5 : x.1 ≠ 5) : far Ws k (k + 1) (x.2.2.1 - x.2.1) ∧ 1 ≤ x.2.2.1 - x.2.1 := by
  obtain ⟨y, e1, e2, e3, e4⟩ := h.next hk h0 h5
  exact ⟨⟨⟨y, e1⟩, by rw [pos_some hk, pos_some e1]; omega⟩, by omega⟩
theorem far_sS {T : List Nat} {Ws : List Wd} {c k : Nat} (h : WS T Ws) (hs : sS T Ws c k = true) : far Ws k (k + 1) 1 := by
  unfold sS at hs
  cases e : Ws[k]? with
  | none => rw [e] at hs; cases hs
  | some x =>
    rw [e] at hs
    have := h.far e (by rw [sg_4 hs]; decide) (by rw [sg_4 hs]; decide)
    exact far_le this.1 this.2
theorem far_sK {T : List Nat} {Ws : List Wd} {k : Nat} (h : WS T Ws) (hs : sK Ws k = 1 ∨ sK Ws k = 2) : far Ws k (k + 1) 1 := by
  unfold sK at hs
  cases e : Ws[k]? with
  | none => rw [e] at hs; simp at hs
  | some x =>
    rw [e] at hs
    simp only at hs
    have := h.far e (by omega) (by omega)
    exact far_le this.1 this.2
theorem far_sC {T : List Nat} {Ws : List Wd} {q k : Nat} (h : WS T Ws) (hq : q < 256) (hs : sC Ws k = nI q) : far Ws k (k + 1) 1 ∧ sK Ws k = 1 := by
  unfold sC at hs
  cases e : Ws[k]? with
  | none => rw [e] at hs; exact absurd hs ((by decide +kernel : ∀ c, c < 256 → ¬ (-1 : Int32) = nI c) q hq)
  | some x =>
    rw [e] at hs
    have h1 := cd_1 hq hs
    have hk : sK Ws k = 1 := by rw [sK_some e]; exact h1
    exact ⟨far_sK h (Or.inl hk), hk⟩
theorem far_kw {T : List Nat} {Ws : List Wd} {q k : Nat} (h : WS T Ws) (hq : q < 9) (hs : sC Ws k = nI (20 + q)) : far Ws k (k + 1) (kwW.getD q []).length := by
  unfold sC at hs
  cases e : Ws[k]? with
  | none => rw [e] at hs; exact absurd hs ((by decide +kernel : ∀ c, c < 256 → ¬ (-1 : Int32) = nI c) (20 + q) (by omega))
  | some x =>
    rw [e] at hs
    have h1 := cd_1 (by omega) hs
    have hl := kw_len (h.G.2 _ _ e) hq hs
    have := h.far e (by omega) (by omega)
    rw [hl] at this
    exact this.1
theorem far_sNu {T : List Nat} {Ws : List Wd} {b : Bool} {k k' : Nat} {v : Bool × Nat} (h : WS T Ws) (hs : sNu T Ws b k = some (k', v)) : far Ws k k' 1 := by
  unfold sNu at hs
  cases e : Ws[k]? with
  | none => rw [e] at hs; cases hs
  | some x =>
    rw [e] at hs
    simp only at hs
    split at hs
    · next hc =>
      have f1 := far_sS (T := T) (c := 45) (k := k) h (by unfold sS; rw [e]; exact hc.2)
      cases e2 : Ws[k + 1]? with
      | none => rw [e2] at hs; cases hs
      | some y =>
        rw [e2] at hs
        simp only at hs
        split at hs
        · next h2 => cases hs; exact far_le (far_trans f1 (far_sK h (Or.inr (by rw [sK_some e2]; exact h2)))) (by omega)
        · cases hs
    · split at hs
      · next h2 => cases hs; exact far_sK h (Or.inr (by rw [sK_some e]; exact h2))
      · cases hs
theorem far_sPk {T : List Nat} {Ws : List Wd} {k k' v : Nat} (h : WS T Ws) (hk : ∃ x, Ws[k]? = some x) (hs : sPk T Ws k = some (k', v)) : far Ws k k' 0 := by
  unfold sPk at hs
  split at hs
  · next h1 =>
    split at hs
    · next h2 =>
      split at hs
      · next h3 =>
        split at hs
        · next h4 =>
          split at hs
          · next h5 =>
            cases hs
            have a1 := far_sS h h1
            have a2 := (far_sC h (by decide) h2).1
            have a3 := far_sS h h3
            have a4 : far Ws (k + 3) (k + 3 + 1) 1 := by rcases h4 with q | q; exact (far_sC h (by decide) q).1; exact (far_sC h (by decide) q).1
            have a5 := far_sS h h5
            exact far_le (far_trans a1 (far_trans a2 (far_trans a3 (far_trans a4 a5)))) (by omega)
          · cases hs
        · cases hs
      · cases hs
    · cases hs
  · cases hs
    obtain ⟨x, hx⟩ := hk
    exact far_refl hx
theorem far_sTN {T : List Nat} {Ws : List Wd} (h : WS T Ws) : ∀ (n k k' : Nat), sTN T Ws n k = some k' → far Ws k k' 1 := by
  intro n
  induction n with
  | zero => intro k k' hs; cases hs
  | succ n ih =>
    intro k k' hs
    rw [sTN] at hs
    split at hs
    · next h1 =>
      have a1 := far_sK h (Or.inl h1)
      split at hs
      · next h2 => exact far_le (far_trans a1 (far_trans (far_sS h h2) (ih _ _ hs))) (by omega)
      · cases hs; exact a1
    · cases hs
theorem far_sTy {T : List Nat} {Ws : List Wd} {k k' : Nat} (h : WS T Ws) (hs : sTy T Ws k = some k') : far Ws k k' 1 := by
  unfold sTy at hs
  split at hs
  · next h1 => exact far_le (far_trans (far_sS h h1) (far_sTN h _ _ _ hs)) (by omega)
  · split at hs
    · cases hs
    · exact far_sTN h _ _ _ hs
theorem far_sFe {T : List Nat} {Ws : List Wd} {m o : Option Nat} {t w k k' : Nat} {r : Bool} {d : Dc} (h : WS T Ws) (hs : sFe T Ws m o t w r k = some (k', d)) : far Ws k k' 4 ∧ dK d = 2 ∧ dS d = m ∧ dO d = o := by
  unfold sFe at hs
  cases e : Ws[k]? with
  | none => rw [e] at hs; cases hs
  | some x =>
    rw [e] at hs
    simp only at hs
    split at hs
    · next h1 =>
      split at hs
      · next h2 =>
        cases e3 : sNu T Ws false (k + 2) with
        | none => rw [e3] at hs; cases hs
        | some kv =>
          obtain ⟨k4, v⟩ := kv
          rw [e3] at hs
          simp only at hs
          have a3 := far_sNu h e3
          cases e4 : sPk T Ws k4 with
          | none => rw [e4] at hs; cases hs
          | some kp =>
            obtain ⟨k5, pk⟩ := kp
            rw [e4] at hs
            simp only at hs
            split at hs
            · next h5 =>
              cases hs
              have a1 := far_sK h (Or.inl (by rw [sK_some e]; exact h1))
              exact ⟨far_le (far_trans a1 (far_trans (far_sS h h2) (far_trans a3 (far_trans (far_sPk h a3.1 e4) (far_sS h h5))))) (by omega), rfl, rfl, rfl⟩
            · cases hs
      · cases hs
    · cases hs
theorem far_sFd {T : List Nat} {Ws : List Wd} {m o : Option Nat} {k k' : Nat} {d : Dc} (h : WS T Ws) (hs : sFd T Ws m o k = some (k', d)) : far Ws k k' 5 ∧ dK d = 2 ∧ dS d = m ∧ dO d = o := by
  have ft : ∀ (r : Bool) (k : Nat), sFt T Ws m o r k = some (k', d) → far Ws k k' 5 ∧ dK d = 2 ∧ dS d = m ∧ dO d = o := by
    intro r k hs
    unfold sFt at hs
    cases hp : sPl Ws k with
    | true =>
      rw [hp] at hs
      simp only [if_true] at hs
      have := far_sFe h hs
      have hpl := of_decide_eq_true hp
      obtain ⟨q, hq, e⟩ := sC_lt h.G k hpl.1
      exact ⟨far_le (far_trans (far_sC h (by omega) e).1 this.1) (by omega), this.2⟩
    | false =>
      rw [hp] at hs
      simp only [Bool.false_eq_true, if_false] at hs
      cases e : sTy T Ws k with
      | none => rw [e] at hs; cases hs
      | some k2 =>
        rw [e] at hs
        have := far_sFe h hs
        exact ⟨far_le (far_trans (far_sTy h e) this.1) (by omega), this.2⟩
  unfold sFd at hs
  split at hs
  · next hc =>
    have := ft true (k + 1) hs
    exact ⟨far_le (far_trans (far_sC h (by decide) hc.2).1 this.1) (by omega), this.2⟩
  · exact ft false k hs
theorem far_sVl {T : List Nat} {Ws : List Wd} {m e : Option Nat} {k k' : Nat} {d : Dc} (h : WS T Ws) (hs : sVl T Ws m e k = some (k', d)) : far Ws k k' 4 ∧ dK d = 3 ∧ dS d = m ∧ dO d = e := by
  unfold sVl at hs
  cases e1 : Ws[k]? with
  | none => rw [e1] at hs; cases hs
  | some x =>
    rw [e1] at hs
    simp only at hs
    split at hs
    · next h1 =>
      split at hs
      · next h2 =>
        cases e3 : sNu T Ws true (k + 2) with
        | none => rw [e3] at hs; cases hs
        | some kv =>
          obtain ⟨k4, v⟩ := kv
          rw [e3] at hs
          simp only at hs
          split at hs
          · next h5 =>
            cases hs
            have a1 := far_sK h (Or.inl (by rw [sK_some e1]; exact h1))
            exact ⟨far_le (far_trans a1 (far_trans (far_sS h h2) (far_trans (far_sNu h e3) (far_sS h h5)))) (by omega), rfl, rfl, rfl⟩
          · cases hs
      · cases hs
    · cases hs
theorem far_sBg {T : List Nat} {Ws : List Wd} {q : Nat} {s s' : Rs} {D D' : List Dc} (h : WS T Ws) (hs : sBg T Ws q s D = some (s', D')) : far Ws s.1 s'.1 2 ∧ ∃ d, D' = D ++ [d] ∧ dK d = q ∧ dS d = s.2.1 ∧ dO d = none ∧ s'.2.1 = (if q = 0 then some D.length else s.2.1) ∧ s'.2.2.1 = (if q = 4 then some D.length else s.2.2.1) ∧ s'.2.2.2.1 = (if q = 1 then some D.length else s.2.2.2.1) ∧ s'.2.2.2.2 = true := by
  unfold sBg at hs
  cases e1 : Ws[s.1]? with
  | none => rw [e1] at hs; cases hs
  | some x =>
    rw [e1] at hs
    simp only at hs
    split at hs
    · next h1 =>
      split at hs
      · next h2 =>
        cases hs
        have a1 := far_sK h (Or.inl (by rw [sK_some e1]; exact h1))
        exact ⟨far_trans a1 (far_sS h h2), _, rfl, rfl, rfl, rfl, rfl, rfl, rfl, rfl⟩
      · cases hs
    · cases hs
/-! ===== one step of the reading, and what stays true ===== -/
def KM (D : List Dc) (m : Nat) : Prop := ∃ d, D[m]? = some d ∧ dK d = 0
def KO (D : List Dc) (o q : Nat) (sc : Option Nat) : Prop := ∃ d, D[o]? = some d ∧ dK d = q ∧ dS d = sc
/-- a new declaration that fits behind D -/
def NW (D : List Dc) (d : Dc) : Prop := (∀ m, dS d = some m → KM D m) ∧ ((dK d = 0 ∧ dO d = none) ∨ (dK d = 1 ∧ dO d = none) ∨ (dK d = 4 ∧ dO d = none ∧ dS d ≠ none) ∨ (dK d = 2 ∧ dS d ≠ none ∧ ∀ o, dO d = some o → KO D o 4 (dS d)) ∨ (dK d = 3 ∧ ∃ e, dO d = some e ∧ KO D e 1 (dS d)))
def WF (D : List Dc) : Prop := ∀ (i : Nat) (d : Dc), D[i]? = some d → NW (D.take i) d
theorem WF_nil : WF [] := fun i d h => by simp at h
theorem WF_snoc {D : List Dc} {d : Dc} (h : WF D) (hd : NW D d) : WF (D ++ [d]) := by
  intro i x hx
  rcases Nat.lt_trichotomy i D.length with hi | hi | hi
  · rw [List.getElem?_append_left hi] at hx
    rw [List.take_append_of_le_length (Nat.le_of_lt hi)]
    exact h i x hx
  · subst hi
    rw [List.getElem?_append_right (Nat.le_refl _), Nat.sub_self] at hx
    cases hx
    rw [List.take_append_of_le_length (Nat.le_refl _), List.take_length]
    exact hd
  · rw [List.getElem?_eq_none (by rw [List.length_append]; simp; omega)] at hx
    cases hx
theorem get_snoc {D : List Dc} {m : Nat} {x d : Dc} (h : D[m]? = some x) : (D ++ [d])[m]? = some x := by
  rw [List.getElem?_append_left (by obtain ⟨q, _⟩ := List.getElem?_eq_some_iff.mp h; exact q)]; exact h
theorem get_snoc_last (D : List Dc) (d : Dc) : (D ++ [d])[D.length]? = some d := by
  rw [List.getElem?_append_right (Nat.le_refl _), Nat.sub_self]; try rfl
theorem KM_snoc {D : List Dc} {m : Nat} {d : Dc} (h : KM D m) : KM (D ++ [d]) m := by obtain ⟨x, a, b⟩ := h; exact ⟨x, get_snoc a, b⟩
theorem KO_snoc {D : List Dc} {o q : Nat} {sc : Option Nat} {d : Dc} (h : KO D o q sc) : KO (D ++ [d]) o q sc := by obtain ⟨x, a, b⟩ := h; exact ⟨x, get_snoc a, b⟩
theorem KM_lt {D : List Dc} {m : Nat} (h : KM D m) : m < D.length := by
  obtain ⟨x, a, _⟩ := h
  obtain ⟨q, _⟩ := List.getElem?_eq_some_iff.mp a
  exact q
theorem KM_take {D : List Dc} {m i : Nat} (h : KM (D.take i) m) : KM D m ∧ m < i := by
  have hl := KM_lt h
  rw [List.length_take] at hl
  obtain ⟨x, a, b⟩ := h
  rw [List.getElem?_take_of_lt (by omega)] at a
  exact ⟨⟨x, a, b⟩, by omega⟩
def sStep (T : List Nat) (Ws : List Wd) (s : Rs) (D : List Dc) : Option (Rs × List Dc) := if s.2.2.2.1 = none then (if s.2.2.1 = none then sMm T Ws s D else sOm T Ws s D) else sVm T Ws s D
def IV (Ws : List Wd) (s : Rs) (D : List Dc) : Prop := (∃ x, Ws[s.1]? = some x) ∧ 4 * D.length ≤ pos Ws s.1 ∧ WF D ∧ (∀ m, s.2.1 = some m → KM D m) ∧ (∀ o, s.2.2.1 = some o → KO D o 4 s.2.1) ∧ (∀ e, s.2.2.2.1 = some e → KO D e 1 s.2.1)
theorem WS.le {T : List Nat} {Ws : List Wd} (h : WS T Ws) : ∀ (k : Nat) (x : Wd), Ws[k]? = some x → k ≤ x.2.1 ∧ x.2.1 ≤ T.length := by
  intro k
  induction k with
  | zero =>
    intro x hx
    have h0 := h.2.2.1
    rw [hx] at h0
    cases h0
    exact ⟨Nat.zero_le _, (nw_start (Nat.zero_le _)).2⟩
  | succ k ih =>
    intro y hy
    cases e : Ws[k]? with
    | none =>
      have : Ws.length ≤ k := by simpa using e
      rw [List.getElem?_eq_none (by omega)] at hy
      cases hy
    | some x =>
      have hx := ih x e
      obtain ⟨a1, a2, a3⟩ := h.2.2.2 k x e
      by_cases h0 : x.1 = 0 ∨ x.1 = 5
      · rw [a3 h0] at hy; cases hy
      · have h0' : x.1 ≠ 0 := fun z => h0 (Or.inl z)
        have h5' : x.1 ≠ 5 := fun z => h0 (Or.inr z)
        obtain ⟨z, e1, e2, e3, e4⟩ := h.next e h0' h5'
        rw [hy] at e1
        cases e1
        omega
theorem WS.mono {T : List Nat} {Ws : List Wd} (h : WS T Ws) {k : Nat} {x : Wd} (hx : Ws[k]? = some x) : ∀ (j : Nat) (y : Wd), Ws[k + j]? = some y → x.2.1 + j ≤ y.2.1 := by
  intro j
  induction j with
  | zero => intro y hy; rw [Nat.add_zero, hx] at hy; cases hy; exact Nat.le_refl _
  | succ j ih =>
    intro z hz
    cases e : Ws[k + j]? with
    | none =>
      have : Ws.length ≤ k + j := by simpa using e
      rw [List.getElem?_eq_none (by omega)] at hz
      cases hz
    | some y =>
      have hy := ih y e
      obtain ⟨a1, a2, a3⟩ := h.2.2.2 (k + j) y e
      by_cases h0 : y.1 = 0 ∨ y.1 = 5
      · have := a3 h0
        rw [show k + j + 1 = k + (j + 1) by omega, hz] at this; cases this
      · have h0' : y.1 ≠ 0 := fun z => h0 (Or.inl z)
        have h5' : y.1 ≠ 5 := fun z => h0 (Or.inr z)
        obtain ⟨w, e1, e2, e3, e4⟩ := h.next e h0' h5'
        rw [show k + j + 1 = k + (j + 1) by omega, hz] at e1
        cases e1
        omega
/-- what lies further behind has a higher number -/
theorem far_lt {T : List Nat} {Ws : List Wd} {k k' n : Nat} (h : WS T Ws) (hk : ∃ x, Ws[k]? = some x) (hf : far Ws k k' (n + 1)) : k < k' := by
  obtain ⟨x, hx⟩ := hk
  obtain ⟨⟨y, hy⟩, hp⟩ := hf
  rw [pos_some hx, pos_some hy] at hp
  rcases Nat.lt_or_ge k k' with q | q
  · exact q
  · have := h.mono hy (k - k') x (by rw [show k' + (k - k') = k by omega]; exact hx)
    omega
theorem IV.len {T : List Nat} {Ws : List Wd} {s : Rs} {D : List Dc} (h : WS T Ws) (hI : IV Ws s D) : D.length < 180 ∧ s.1 < 780 ∧ pos Ws s.1 ≤ 700 := by
  obtain ⟨⟨x, hx⟩, h4, _⟩ := hI
  have := h.le _ x hx
  have := h.2.1
  rw [pos_some hx] at h4 ⊢
  omega
/-- a word and no declaration -/
theorem IV_word {Ws : List Wd} {s s' : Rs} {D : List Dc} (hI : IV Ws s D) (hf : far Ws s.1 s'.1 1) (hm : ∀ m, s'.2.1 = some m → KM D m) (ho : ∀ o, s'.2.2.1 = some o → KO D o 4 s'.2.1) (he : ∀ e, s'.2.2.2.1 = some e → KO D e 1 s'.2.1) : IV Ws s' D ∧ far Ws s.1 s'.1 1 :=
  ⟨⟨hf.1, by have := hf.2; have := hI.2.1; omega, hI.2.2.1, hm, ho, he⟩, hf⟩
theorem IV_new {Ws : List Wd} {s s' : Rs} {D : List Dc} {d : Dc} (hI : IV Ws s D) (hf : far Ws s.1 s'.1 4) (hd : NW D d) (hm : ∀ m, s'.2.1 = some m → KM (D ++ [d]) m) (ho : ∀ o, s'.2.2.1 = some o → KO (D ++ [d]) o 4 s'.2.1) (he : ∀ e, s'.2.2.2.1 = some e → KO (D ++ [d]) e 1 s'.2.1) : IV Ws s' (D ++ [d]) ∧ far Ws s.1 s'.1 1 :=
  ⟨⟨hf.1, by have := hf.2; have := hI.2.1; rw [List.length_append]; simp; omega, WF_snoc hI.2.2.1 hd, hm, ho, he⟩, far_le hf (by omega)⟩
theorem IV_adv {Ws : List Wd} {s s' : Rs} {D D' : List Dc} {b : Bool} {o : Option (Nat × Dc)} (hI : IV Ws s D) (h : adv (s.2.1, s.2.2.1, s.2.2.2.1, b) D o = some (s', D')) (ho : ∀ k' d, o = some (k', d) → far Ws s.1 k' 4 ∧ NW D d) : IV Ws s' D' ∧ far Ws s.1 s'.1 1 := by
  cases o with
  | none => cases h
  | some kd =>
    obtain ⟨k', d⟩ := kd
    cases h
    have := ho k' d rfl
    exact IV_new hI this.1 this.2 (fun m hm => KM_snoc (hI.2.2.2.1 m hm)) (fun o hm => KO_snoc (hI.2.2.2.2.1 o hm)) (fun o hm => KO_snoc (hI.2.2.2.2.2 o hm))
theorem sVm_IV {T : List Nat} {Ws : List Wd} {s s' : Rs} {D D' : List Dc} (hS : WS T Ws) (hI : IV Ws s D) (he : s.2.2.2.1 ≠ none) (h : sVm T Ws s D = some (s', D')) : IV Ws s' D' ∧ far Ws s.1 s'.1 1 := by
  unfold sVm at h
  split at h
  · next hc =>
    cases h
    exact IV_word hI (far_sS hS hc.2) hI.2.2.2.1 hI.2.2.2.2.1 (fun e h => by cases h)
  · split at h
    · cases h
    · refine IV_adv hI h (fun k' d hd => ?_)
      have := far_sVl hS hd
      refine ⟨this.1, fun m hm => hI.2.2.2.1 m (by rw [← this.2.2.1]; exact hm), Or.inr (Or.inr (Or.inr (Or.inr ⟨this.2.1, ?_⟩)))⟩
      cases q : s.2.2.2.1 with
      | none => exact absurd q he
      | some e =>
        refine ⟨e, by rw [this.2.2.2, q], ?_⟩
        rw [this.2.2.1]
        exact hI.2.2.2.2.2 e q
theorem sFd_NW {T : List Nat} {Ws : List Wd} {s : Rs} {D : List Dc} {k k' : Nat} {d : Dc} (hS : WS T Ws) (hI : IV Ws s D) (hm : s.2.1 ≠ none) (h : sFd T Ws s.2.1 s.2.2.1 k = some (k', d)) : far Ws k k' 4 ∧ NW D d := by
  have := far_sFd hS h
  refine ⟨far_le this.1 (by omega), fun m hm => hI.2.2.2.1 m (by rw [← this.2.2.1]; exact hm), Or.inr (Or.inr (Or.inr (Or.inl ⟨this.2.1, by rw [this.2.2.1]; exact hm, fun o ho => ?_⟩)))⟩
  rw [this.2.2.1]
  exact hI.2.2.2.2.1 o (by rw [← this.2.2.2]; exact ho)
theorem sOm_IV {T : List Nat} {Ws : List Wd} {s s' : Rs} {D D' : List Dc} (hS : WS T Ws) (hI : IV Ws s D) (he : s.2.2.1 ≠ none) (h : sOm T Ws s D = some (s', D')) : IV Ws s' D' ∧ far Ws s.1 s'.1 1 := by
  have hm : s.2.1 ≠ none := by
    cases q : s.2.2.1 with
    | none => exact absurd q he
    | some o =>
      obtain ⟨d, a1, a2, a3⟩ := hI.2.2.2.2.1 o q
      have := (hI.2.2.1 o d a1).2
      rw [← a3]
      rcases this with z | z | z | z | z
      · omega
      · omega
      · exact z.2.2
      · exact z.2.1
      · omega
  unfold sOm at h
  split at h
  · next hc =>
    cases h
    exact IV_word hI (far_sS hS hc.2) hI.2.2.2.1 (fun e h => by cases h) hI.2.2.2.2.2
  · split at h
    · cases h
    · exact IV_adv hI h (fun k' d hd => sFd_NW hS hI hm hd)
theorem sBg_IV {T : List Nat} {Ws : List Wd} {s s' : Rs} {D D' : List Dc} {q : Nat} (hS : WS T Ws) (hI : IV Ws s D) (hq : q = 0 ∨ q = 1 ∨ q = 4) (hn : s.2.2.1 = none ∧ s.2.2.2.1 = none) (h4 : q = 4 → s.2.1 ≠ none) (hf : far Ws s.1 (s.1 + 1) 2) (h : sBg T Ws q (s.1 + 1, s.2) D = some (s', D')) : IV Ws s' D' ∧ far Ws s.1 s'.1 1 := by
  obtain ⟨g1, d, e1, e2, e3, e4, e5, e6, e7, e8⟩ := far_sBg hS h
  subst e1
  have hd : NW D d := by
    refine ⟨fun m hm => hI.2.2.2.1 m (by rw [← hm, e3]), ?_⟩
    rcases hq with rfl | rfl | rfl
    · exact Or.inl ⟨e2, e4⟩
    · exact Or.inr (Or.inl ⟨e2, e4⟩)
    · exact Or.inr (Or.inr (Or.inl ⟨e2, e4, by rw [e3]; exact h4 rfl⟩))
  have last : ∀ r, dK d = r → KO (D ++ [d]) D.length r (dS d) := fun r hr => ⟨d, get_snoc_last D d, hr, rfl⟩
  refine IV_new hI (far_trans hf g1) hd ?_ ?_ ?_
  · intro m hm
    rw [e5] at hm
    by_cases z : q = 0
    · rw [if_pos z] at hm
      cases hm
      exact ⟨d, get_snoc_last D d, by rw [e2, z]⟩
    · rw [if_neg z] at hm
      exact KM_snoc (hI.2.2.2.1 m hm)
  · intro o ho
    rw [e6] at ho
    by_cases z : q = 4
    · rw [if_pos z] at ho
      cases ho
      rw [e5, if_neg (by omega)]
      have := last 4 (by rw [e2, z])
      rw [e3] at this
      exact this
    · rw [if_neg z] at ho
      have := hn.1.symm.trans ho
      cases this
  · intro o ho
    rw [e7] at ho
    by_cases z : q = 1
    · rw [if_pos z] at ho
      cases ho
      rw [e5, if_neg (by omega)]
      have := last 1 (by rw [e2, z])
      rw [e3] at this
      exact this
    · rw [if_neg z] at ho
      have := hn.2.symm.trans ho
      cases this
theorem sMm_IV {T : List Nat} {Ws : List Wd} {s s' : Rs} {D D' : List Dc} (hS : WS T Ws) (hI : IV Ws s D) (hn : s.2.2.1 = none ∧ s.2.2.2.1 = none) (h : sMm T Ws s D = some (s', D')) : IV Ws s' D' ∧ far Ws s.1 s'.1 1 := by
  unfold sMm at h
  split at h
  · cases h
  split at h
  · next hc => exact sBg_IV hS hI (Or.inl rfl) hn (fun z => by cases z) (far_le (far_kw (q := 0) hS (by decide) hc) (by decide)) h
  split at h
  · next hc => exact sBg_IV hS hI (Or.inr (Or.inl rfl)) hn (fun z => by cases z) (far_le (far_kw (q := 1) hS (by decide) hc) (by decide)) h
  split at h
  · cases h
  next hm =>
  split at h
  · next hc =>
    cases h
    exact IV_word hI (far_sS hS hc) hI.2.2.2.1 hI.2.2.2.2.1 hI.2.2.2.2.2
  split at h
  · next hc =>
    cases h
    refine IV_word hI (far_sS hS hc) ?_ (fun o ho => by have := hn.1.symm.trans ho; cases this) (fun o ho => by have := hn.2.symm.trans ho; cases this)
    intro m h1
    cases q : s.2.1 with
    | none => exact absurd q hm
    | some i =>
      obtain ⟨d, a1, a2⟩ := hI.2.2.2.1 i q
      have hsc : scp D s.2.1 = dS d := by rw [q]; unfold scp; simp only [a1]
      have h2 : dS d = some m := hsc.symm.trans h1
      exact (KM_take ((hI.2.2.1 i d a1).1 m h2)).1
  split at h
  · next hc => exact sBg_IV hS hI (Or.inr (Or.inr rfl)) hn (fun _ => hm) (far_le (far_kw (q := 2) hS (by decide) hc) (by decide)) h
  · exact IV_adv (b := s.2.2.2.2) hI h (fun k' d hd => sFd_NW hS hI hm hd)
theorem sStep_IV {T : List Nat} {Ws : List Wd} {s s' : Rs} {D D' : List Dc} (hS : WS T Ws) (hI : IV Ws s D) (h : sStep T Ws s D = some (s', D')) : IV Ws s' D' ∧ far Ws s.1 s'.1 1 := by
  unfold sStep at h
  split at h
  · next h1 =>
    split at h
    · next h2 => exact sMm_IV hS hI ⟨h2, h1⟩ h
    · next h2 => exact sOm_IV hS hI h2 h
  · next h1 => exact sVm_IV hS hI h1 h
/-! ===== the class reads a schema ===== -/
def atE (Ws : List Wd) (s : Rs) : Bool := decide (sK Ws s.1 = 0 ∧ s.2.1 = none ∧ s.2.2.1 = none ∧ s.2.2.2.1 = none)
def rd (T : List Nat) (Ws : List Wd) : Nat → Rs → List Dc → Option (List Dc)
  | 0, _, _ => none
  | n + 1, s, D => if atE Ws s then some D else match sStep T Ws s D with
    | none => none
    | some x => rd T Ws n x.1 x.2
theorem rd_WF {T : List Nat} {Ws : List Wd} (hS : WS T Ws) : ∀ (n : Nat) (s : Rs) (D D' : List Dc), IV Ws s D → rd T Ws n s D = some D' → WF D' ∧ D'.length < 180 := by
  intro n
  induction n with
  | zero => intro s D D' _ h; cases h
  | succ n ih =>
    intro s D D' hI h
    rw [rd] at h
    split at h
    · cases h; exact ⟨hI.2.2.1, (hI.len hS).1⟩
    · cases e : sStep T Ws s D with
      | none => rw [e] at h; cases h
      | some x =>
        obtain ⟨s1, D1⟩ := x
        rw [e] at h
        exact ih _ _ _ (sStep_IV hS hI e).1 h
/-- more fuel changes nothing -/
theorem rd_more {T : List Nat} {Ws : List Wd} (hS : WS T Ws) : ∀ (n m : Nat) (s : Rs) (D : List Dc), IV Ws s D → 701 ≤ n + pos Ws s.1 → 701 ≤ m + pos Ws s.1 → rd T Ws n s D = rd T Ws m s D := by
  intro n
  induction n with
  | zero => intro m s D hI h _; have := (hI.len hS).2.2; omega
  | succ n ih =>
    intro m s D hI hn hm
    cases m with
    | zero => have := (hI.len hS).2.2; omega
    | succ m =>
      rw [rd, rd]
      split
      · rfl
      · cases e : sStep T Ws s D with
        | none => rfl
        | some x =>
          obtain ⟨s1, D1⟩ := x
          have g := sStep_IV hS hI e
          exact ih m s1 D1 g.1 (by have := g.2.2; omega) (by have := g.2.2; omega)
theorem ad_none {c : Nat} {o : Option Nat} : ad c o = none ↔ o = none := by
  cases o with
  | none => exact ⟨fun _ => rfl, fun _ => rfl⟩
  | some i => exact ⟨fun z => (by cases z), fun z => (by cases z)⟩
theorem X5_isAtEnd {c : Nat} {σ : SG} {T : List Nat} {Ws : List Wd} {s : Rs} (hG : WG T Ws) (hW : WA σ (c + 186) Ws) (hR : RR σ c s) (hk : s.1 < 3000) :
    x_X5_isAtEnd (c + 191) σ = some (zI (atE Ws s)) := by
  unfold x_X5_isAtEnd atE
  rw [show c + 191 - 5 = c + 186 by omega, hR.1, U10_kindOf hW hk, b1_eq, hR.2.1, hR.2.2.1, hR.2.2.2.1]
  have h6 : sK Ws s.1 < 100 := by
    unfold sK
    cases e : Ws[s.1]? with
    | none => show 0 < 100; decide
    | some x => have := (hG.2 _ _ e).1; show x.1 < 100; omega
  by_cases h0 : sK Ws s.1 = 0
  · rw [if_pos (show nI (sK Ws s.1) = 0 by rw [h0]; rfl)]
    by_cases h1 : s.2.1 = none
    · rw [if_pos (ad_none.mpr h1)]
      by_cases h2 : s.2.2.1 = none
      · rw [if_pos (ad_none.mpr h2)]
        by_cases h3 : s.2.2.2.1 = none
        · rw [if_pos (ad_none.mpr h3), decide_eq_true ⟨h0, h1, h2, h3⟩]; try rfl
        · rw [if_neg (fun z => h3 (ad_none.mp z)), decide_eq_false (fun z => h3 z.2.2.2)]; try rfl
      · rw [if_neg (fun z => h2 (ad_none.mp z)), decide_eq_false (fun z => h2 z.2.2.1)]; try rfl
    · rw [if_neg (fun z => h1 (ad_none.mp z)), decide_eq_false (fun z => h1 z.2.1)]; try rfl
  · rw [if_neg (show ¬ nI (sK Ws s.1) = 0 from fun z => h0 ((nI_eq (b := 0) (by omega) (by decide)).mp z)), decide_eq_false (fun z => h0 z.1)]; try rfl
/-- what the class's reading comes to: D, or an error -/
def RD (c : Nat) (σ : SG) (o : Option (List Dc)) (x : Option (Int32 × SG)) : Prop := ∃ v τ, x = some (v, τ) ∧ fR c σ τ ∧ (v = 0 ↔ o ≠ none) ∧ ∀ D', o = some D' → ITs τ c D'
theorem RD_from {c : Nat} {σ τ : SG} {o : Option (List Dc)} {x : Option (Int32 × SG)} (hf : fR c σ τ) (h : RD c τ o x) : RD c σ o x := by
  obtain ⟨v, υ, g1, g2, g3⟩ := h
  exact ⟨v, υ, g1, fR_trans hf g2, g3⟩
theorem RD_fail {c : Nat} {σ τ : SG} {v : Int32} (hf : fR c σ τ) (hv : ¬ v = 0) : RD c σ none (some (v, τ)) := ⟨v, τ, rfl, hf, ⟨fun z => absurd z hv, fun z => absurd rfl z⟩, fun D' h => by cases h⟩
theorem h6_fR {c : Nat} {σ τ : SG} {n : Nat} (h : sI σ (c + 186) 6 = nI n) (hf : fR c σ τ) : sI τ (c + 186) 6 = nI n := ((hf (c + 186) (by omega) (by omega) (by omega) 6).1).trans h
theorem X5_read_L {c : Nat} {T : List Nat} {Ws : List Wd} {U : Nat} (hU : 4000 < U) (hcb : cb c) (hS : WS T Ws) : ∀ (n U1 i : Nat) (s : Rs) (D : List Dc) (σ : SG), n < U1 → 701 ≤ n + pos Ws s.1 → i ≤ s.1 → IV Ws s D → sI σ (c + 186) 6 = nI T.length → WA σ (c + 186) Ws → RR σ c s → ITs σ c D → ¬ sI σ (c + 191) 7 = 0 →
    RD c σ (rd T Ws n s D) (x_X5_read_L32 U (c + 191) (fun w27 σ28 => x_X5_read_93 U (c + 191) w27 σ28) U1 1 (nI i) σ) := by
  intro n
  induction n with
  | zero => intro U1 i s D σ _ h _ hI; have := (hI.len hS).2.2; omega
  | succ n ih =>
    intro U1 i s D σ hu hp hi hI h6 hW hR hT h7
    have hG := hS.G
    have hlen := hI.len hS
    cases U1 with
    | zero => omega
    | succ U1 =>
    rw [x_X5_read_L32, rd]
    have hc : x_X10_count (c + 191 - 5) σ = some (nI Ws.length) := by
      unfold x_X10_count
      rw [show c + 191 - 5 = c + 186 by omega, hW.1]
    have hkl : s.1 < Ws.length := by
      obtain ⟨x, hx⟩ := hI.1
      obtain ⟨q, _⟩ := List.getElem?_eq_some_iff.mp hx
      exact q
    have hwl := hW.2.1
    rw [hc, b1_eq, if_pos ((ltI (by omega) (by omega)).mpr (by omega)), if_neg (show ¬ (1 : Int32) = 0 by decide), X5_isAtEnd hG hW hR (by omega), b1_eq, ifz]
    cases ha : atE Ws s with
    | true =>
      simp only [if_true]
      unfold x_X5_read_93
      rw [if_neg (show ¬ (1 : Int32) = 0 by decide), X5_isAtEnd hG hW hR (by omega), b1_eq, ifz, ha]
      simp only [if_true]
      exact ⟨0, σ, rfl, fR_refl c σ, ⟨fun _ z => (by cases z), fun _ => rfl⟩, fun D' h => by cases h; exact hT⟩
    | false =>
      simp only [Bool.false_eq_true, if_false]
      -- the step and what follows it
      have go : ∀ (x : Option (Int32 × SG)), RP c σ (sStep T Ws s D) x → RD c σ (match sStep T Ws s D with | none => none | some x => rd T Ws n x.1 x.2) (b2 x fun v19 σ20 => x_X5_read_86 U (c + 191) (x_X5_read_L32 U (c + 191) (fun w27 σ28 => x_X5_read_93 U (c + 191) w27 σ28) U1) (fun w27 σ28 => x_X5_read_93 U (c + 191) w27 σ28) (nI i) v19 σ20) := by
        intro x hx
        obtain ⟨τ, e1, e2, e3, e4⟩ := hx
        rw [e1, b2_eq]
        unfold x_X5_read_86
        rw [nI_1]
        cases e : sStep T Ws s D with
        | none =>
          simp only [Option.isSome_none]
          cases U1 with
          | zero => omega
          | succ U2 =>
            rw [x_X5_read_L32]
            have hc' : x_X10_count (c + 191 - 5) τ = some (nI Ws.length) := by
              unfold x_X10_count
              rw [show c + 191 - 5 = c + 186 by omega, (hW.fR e2).1]
            have hk : x_X5_read_93 U (c + 191) (zI false) τ = some (sI τ (c + 191) 7, τ) := by
              unfold x_X5_read_93
              rw [if_pos (show zI false = 0 from rfl)]
            rw [hc', b1_eq, if_pos (show zI false = 0 from rfl), hk]
            split
            · exact RD_fail e2 e3
            · exact RD_fail e2 e3
        | some y =>
          obtain ⟨s', D'⟩ := y
          have g := sStep_IV hS hI e
          have hr := e4 s' D' e
          have key := ih U1 (i + 1) s' D' τ (by omega) (by have := g.2.2; omega) (by have := far_lt hS hI.1 g.2; omega) g.1 (h6_fR h6 e2) (hW.fR e2) hr.1 hr.2 e3
          exact RD_from e2 key
      rw [hR.2.2.2.1]
      by_cases q1 : s.2.2.2.1 = none
      · rw [if_pos (ad_none.mpr q1), hR.2.2.1]
        by_cases q2 : s.2.2.1 = none
        · rw [if_pos (ad_none.mpr q2)]
          refine go _ ?_
          unfold sStep
          rw [if_pos q1, if_pos q2]
          exact X5_readMember hU hcb hS h6 hW hR hT hlen.1 hlen.2.1 h7 (fun m hm => KM_lt (hI.2.2.2.1 m hm))
        · rw [if_neg (fun z => q2 (ad_none.mp z))]
          refine go _ ?_
          unfold sStep
          rw [if_pos q1, if_neg q2]
          exact X5_readChoice hU hcb hS h6 hW hR hT hlen.1 hlen.2.1 h7
      · rw [if_neg (fun z => q1 (ad_none.mp z))]
        refine go _ ?_
        unfold sStep
        rw [if_neg q1]
        exact X5_readValue hcb hS hW hR hT hlen.1 (by omega) h7
/-- the whole reading, from the first word -/
def rdS (T : List Nat) (Ws : List Wd) : Option (List Dc) := if sSy T Ws then rd T Ws 701 (4, none, none, none, false) [] else none
theorem sSy_far {T : List Nat} {Ws : List Wd} (hS : WS T Ws) (h : sSy T Ws = true) : ∃ y, Ws[4]? = some y := by
  unfold sSy at h
  have h59 : sS T Ws 59 3 = true := by
    cases q : sS T Ws 59 3 with
    | true => rfl
    | false => rw [q] at h; simp at h
  exact (far_sS hS h59).1
/-- bare says nothing where nothing is open -/
theorem rd_bare {T : List Nat} {Ws : List Wd} {k n : Nat} {b b' : Bool} : rd T Ws n (k, none, none, none, b) [] = rd T Ws n (k, none, none, none, b') [] := by
  cases n with
  | zero => rfl
  | succ n =>
    rw [rd, rd]
    have h1 : atE Ws (k, none, none, none, b) = atE Ws (k, none, none, none, b') := rfl
    have h2 : sStep T Ws (k, none, none, none, b) [] = sStep T Ws (k, none, none, none, b') [] := by
      unfold sStep
      rw [if_pos rfl, if_pos rfl, if_pos rfl, if_pos rfl]
      unfold sMm sBg
      try rfl
    rw [h1, h2]
theorem X5_read {c : Nat} {σ : SG} {T : List Nat} {Ws : List Wd} {U : Nat} (hU : 4000 < U) (hcb : cb c) (hS : WS T Ws) (h6 : sI σ (c + 186) 6 = nI T.length) (hW : WA σ (c + 186) Ws) (hT : ITs σ c []) :
    RD c σ (rdS T Ws) (x_X5_read U (c + 191) σ) := by
  unfold x_X5_read
  obtain ⟨b, hb⟩ : ∃ b, vN (sI σ (c + 191) 5) = b := ⟨_, rfl⟩
  rw [sb_eq, sb_eq, sb_eq, sb_eq, sb_eq]
  have f5 : ∀ d, d ≠ c + 191 → sm σ (uI (uI (uP (uP (uP σ (c + 191) 2 none) (c + 191) 3 none) (c + 191) 4 none) (c + 191) 6 0) (c + 191) 7 1) d := fun d hd => sm_trans (sm_trans (sm_trans (sm_trans (sm_uP hd) (sm_uP hd)) (sm_uP hd)) (sm_uI hd)) (sm_uI hd)
  have R5 : RR (uI (uI (uP (uP (uP σ (c + 191) 2 none) (c + 191) 3 none) (c + 191) 4 none) (c + 191) 6 0) (c + 191) 7 1) c (0, none, none, none, b) := by
    refine ⟨?_, ?_, ?_, ?_, ?_⟩
    · rw [sI_o (Or.inr (by decide)), sI_s]; try rfl
    · rw [sP_uI, sP_uI, sP_o (Or.inr (by decide)), sP_o (Or.inr (by decide)), sP_s]; try rfl
    · rw [sP_uI, sP_uI, sP_o (Or.inr (by decide)), sP_s]; try rfl
    · rw [sP_uI, sP_uI, sP_s]; try rfl
    · rw [sI_o (Or.inr (by decide)), sI_o (Or.inr (by decide)), sI_uP, sI_uP, sI_uP]; exact hb
  have s5 : sI (uI (uI (uP (uP (uP σ (c + 191) 2 none) (c + 191) 3 none) (c + 191) 4 none) (c + 191) 6 0) (c + 191) 7 1) (c + 191) 7 = 1 := sI_s _ _ _ _
  generalize (uI (uI (uP (uP (uP σ (c + 191) 2 none) (c + 191) 3 none) (c + 191) 4 none) (c + 191) 6 0) (c + 191) 7 1) = σ5 at *
  refine RD_from (fR_r f5) ?_
  have W5 := hW.fR (fR_r f5)
  obtain ⟨τ, e1, e2, e3⟩ := X5_readSyntax hS.G W5 R5
  rw [e1, b2_eq]
  refine RD_from (fR_r e2.1) ?_
  have s7 : ¬ sI τ (c + 191) 7 = 0 := by rw [e2.2, s5]; decide
  unfold rdS
  cases q : sSy T Ws with
  | false =>
    simp only [Bool.false_eq_true, if_false]
    cases U with
    | zero => omega
    | succ U1 =>
      rw [x_X5_read_L32]
      have hc' : x_X10_count (c + 191 - 5) τ = some (nI Ws.length) := by
        unfold x_X10_count
        rw [show c + 191 - 5 = c + 186 by omega, (W5.fR (fR_r e2.1)).1]
      have hk : x_X5_read_93 (U1 + 1) (c + 191) (zI false) τ = some (sI τ (c + 191) 7, τ) := by
        unfold x_X5_read_93
        rw [if_pos (show zI false = 0 from rfl)]
      rw [hc', b1_eq, if_pos (show zI false = 0 from rfl), hk]
      split
      · exact RD_fail (fR_refl c τ) s7
      · exact RD_fail (fR_refl c τ) s7
  | true =>
    simp only [if_true]
    have I0 : IV Ws (4, none, none, none, b) [] := ⟨sSy_far hS q, Nat.zero_le _, WF_nil, fun m h => (by cases h), fun m h => (by cases h), fun m h => (by cases h)⟩
    rw [rd_bare (b' := b)]
    exact X5_read_L hU hcb hS 701 U 0 (4, none, none, none, b) [] τ (by omega) (by omega) (Nat.zero_le _) I0 (h6_fR (h6_fR h6 (fR_r f5)) (fR_r e2.1)) (W5.fR (fR_r e2.1)) (e3 q) ((hT.r (by decide) f5).r (by decide) e2.1) s7
/-! ===== the class's compile, up to the reading ===== -/
theorem X6_clear_L {c U : Nat} : ∀ (j v U1 : Nat) (σ : SG), v + j = 5 → j < U1 → (∀ k, k < v → sI σ (c + 185) k = 0) →
    ∃ τ, x_X6_clear_L19 U (c + 1) U1 (nI v) σ = some τ ∧ (∀ k, k < 5 → sI τ (c + 185) k = 0) ∧ ∀ b, b ≠ c + 185 → sm σ τ b := by
  intro j
  induction j with
  | zero =>
    intro v U1 σ hv hu h
    cases U1 with
    | zero => omega
    | succ U1 =>
      rw [x_X6_clear_L19, show (5 : Int32) = nI 5 from rfl, if_neg (fun z => by have := (ltI (by omega) (by decide)).mp z; omega)]
      exact ⟨σ, rfl, fun k hk => h k (by omega), fun b _ => sm_refl σ b⟩
  | succ j ih =>
    intro v U1 σ hv hu h
    cases U1 with
    | zero => omega
    | succ U1 =>
      rw [x_X6_clear_L19, show (5 : Int32) = nI 5 from rfl, if_pos ((ltI (by omega) (by decide)).mpr (by omega)), ix_in (by omega) (by decide), sb_eq, nI_1, show c + 1 + 184 = c + 185 by omega]
      obtain ⟨τ, e1, e2, e3⟩ := ih (v + 1) U1 (uI σ (c + 185) v 0) (by omega) (by omega) (fun k hk => by
        by_cases q : k = v
        · rw [q]; exact sI_s _ _ _ _
        · rw [sI_o (Or.inr q)]; exact h k (by omega))
      exact ⟨τ, e1, e2, fun b hb => sm_trans (sm_uI hb) (e3 b hb)⟩
theorem X6_clear {c U : Nat} {σ : SG} (hU : 4000 < U) : ∃ τ, x_X6_clear U (c + 1) σ = some τ ∧ RB τ (c + 2) [] 0 ∧ ITs τ c [] ∧ ∀ b, b ≠ c + 1 → b ≠ c + 2 → b ≠ c + 185 → sm σ τ b := by
  unfold x_X6_clear
  obtain ⟨σ2, a1, a2, a3⟩ := X0_clear (σ := σ) (a := c + 1 + 1)
  rw [a1, b1_eq, sb_eq, sb_eq]
  obtain ⟨τ, e1, e2, e3⟩ := X6_clear_L (c := c) (U := U) 5 0 U (uI (uI σ2 (c + 1) 3 0) (c + 1) 4 0) (by omega) (by omega) (fun k hk => by omega)
  have hz : x_X6_clear_L19 U (c + 1) U 0 (uI (uI σ2 (c + 1) 3 0) (c + 1) 4 0) = some τ := e1
  refine ⟨τ, hz, ?_, ⟨?_, ?_, ?_, ?_⟩, ?_⟩
  · refine RB.sm a2 (sm_trans (sm_trans (sm_uI (by omega)) (sm_uI (by omega))) (e3 _ (by omega))) (sm_trans (sm_trans (sm_uI (by omega)) (sm_uI (by omega))) (e3 _ (by omega)))
  · rw [(e3 (c + 1) (by omega) 3).1, sI_o (Or.inr (by decide)), sI_s]; try rfl
  · rw [(e3 (c + 1) (by omega) 4).1, sI_s]; try rfl
  · intro k hk; rw [e2 k hk]; try rfl
  · intro i d h; simp at h
  · intro b h1 h2 h3
    exact sm_trans (a3 b (by omega)) (sm_trans (sm_trans (sm_uI h1) (sm_uI h1)) (e3 b h3))
/-- only the compiler at c is touched -/
def fC (c : Nat) (σ τ : SG) : Prop := ∀ b, (b < c ∨ c + 191 < b) → sm σ τ b
theorem fC_trans {c : Nat} {σ τ υ : SG} (h : fC c σ τ) (h' : fC c τ υ) : fC c σ υ := fun b hb => sm_trans (h b hb) (h' b hb)
theorem fC_R {c : Nat} {σ τ : SG} (h : fR c σ τ) : fC c σ τ := fun b hb => h b (by omega) (by omega) (by omega)
theorem cb_ln {c : Nat} (h : cb c) : ln (c + 3) = 700 := by rcases h with rfl | rfl <;> decide
theorem X10_startOf_any {w : Nat} {σ : SG} (v : Int32) : ∃ p, x_X10_startOf w v σ = some p := by
  unfold x_X10_startOf
  split
  · exact ⟨_, rfl⟩
  · next h0 =>
    split
    · split
      · next h7 =>
        unfold ix
        rw [if_neg (by
          intro z
          rcases z with z | z
          · exact h0 z
          · have e7 := Int32.lt_iff_toInt_lt.mp h7
            have e : (701 : Int32).toInt = 701 := by decide
            unfold Int32.toNatClampNeg at z
            omega)]
        exact ⟨_, rfl⟩
      · exact ⟨_, rfl⟩
    · exact ⟨_, rfl⟩
/-- the declarations of a text -/
def dcl (T : List Nat) : Option (List Dc) := rdS T (wl T 701 0)
theorem X2_pre {c U : Nat} {σ : SG} {T : List Nat} (hU : 4000 < U) (hcb : cb c) (hT : RB σ 1 T 0) :
    ∃ σ16, fC c σ σ16 ∧ RB σ16 (c + 2) T 0 ∧ WS T (wl T 701 0) ∧ WA σ16 (c + 186) (wl T 701 0) ∧ sI σ16 (c + 186) 6 = nI T.length ∧ ITs σ16 c [] ∧ RB σ16 1 T 0 ∧
      x_X2_run U c (some 1) σ = b2 (x_X5_read U (c + 191) σ16) fun v18 σ19 => sb (uI σ19 c 3 v18) fun σ20 => if sI σ20 c 3 = 0 then (x_X2_run_60 U c (some 1) (-1) σ20) else (b1 (x_X5_endPlace (c + 191) σ20) fun v47 => x_X2_run_60 U c (some 1) v47 σ20) := by
  have hc : c = 5 ∨ c = 197 := hcb
  have hl : T.length ≤ 700 := hT.2.2.1
  unfold x_X2_run
  obtain ⟨σ2, a1, a2, a3, a4⟩ := X6_clear (c := c) (σ := σ) hU
  have T2 : RB σ2 1 T 0 := hT.sm (a4 1 (by omega) (by omega) (by omega)) (a4 2 (by omega) (by omega) (by omega))
  have ht : x_X6_text (c + 1) σ2 = some (some (c + 2)) := rfl
  rw [a1, b1_eq, ht, b1_eq, ck_eq (show sh 1 = 0 by decide), X0_size T2, b1_eq, ck_eq (cb_sh hcb).2.2.2.1]
  obtain ⟨σ14, b1', b2', b3⟩ := X0_addAll (a := c + 2) (b := 1) (k := 0) (to := T.length) (w := ([], 0)) (by decide) (by unfold apt; omega) (Nat.zero_le _) (Nat.le_refl _) hU a2 T2
  have e14 : x_X0_addAll U (c + 2) (some 1) 0 (nI T.length) σ2 = some σ14 := b1'
  have h14 : RB σ14 (c + 2) T 0 := by
    rw [List.drop_zero, Nat.sub_zero, List.take_length, wrL_fit T ([], 0) (by rw [show c + 2 + 1 = c + 3 by omega, cb_ln hcb]; simp; exact hl)] at b2'
    exact b2'
  obtain ⟨σ16, c1, c2, c3, c4⟩ := X10_split (w := c + 186) hU (cb_sh hcb).2.1 (by rw [show c + 186 - 184 = c + 2 by omega]; exact h14) hl
  rw [e14, b1_eq, c1, b1_eq]
  have g : ∀ b, b ≠ c + 2 → b ≠ c + 3 → (b < c + 186 ∨ c + 190 < b) → sm σ2 σ16 b := fun b h1 h2 h3 => sm_trans (b3 b h1 h2) (c4.1 b (by omega))
  refine ⟨σ16, fun b hb => sm_trans (a4 b (by omega) (by omega) (by omega)) (g b (by omega) (by omega) (by omega)), h14.sm (c4.1 _ (by omega)) (c4.1 _ (by omega)), WS_wl hT.2.2.2.2 hl, c3, c2.2.2.1, ?_, T2.sm (g 1 (by omega) (by omega) (by omega)) (g 2 (by omega) (by omega) (by omega)), rfl⟩
  refine ⟨(g (c + 1) (by omega) (by omega) (by omega) 3).1.trans a3.1, (g (c + 1) (by omega) (by omega) (by omega) 4).1.trans a3.2.1, fun k hk => (g (c + 185) (by omega) (by omega) (by omega) k).1.trans (a3.2.2.1 k hk), fun i d h => by simp at h⟩
/-! ===== the reference's reader: its current word is the k-th ===== -/
def QX (σ : SG) (T : List Nat) (Ws : List Wd) (k : Nat) : Prop := LR σ T ∧ ∃ x, Ws[k]? = some x ∧ CW σ x
def KF : List Nat := [70, 71, 72, 74, 75, 76]
theorem CW.fq {σ τ : SG} {x : Wd} {K : List Nat} (h : CW σ x) (h0 : sm σ τ 1101) : CW τ x := by
  obtain ⟨a, b, c, d⟩ := h
  refine ⟨(h0 70).1.trans a, (h0 71).1.trans b, fun p q => ⟨(h0 72).1.trans (c p q).1, (h0 76).1.trans (c p q).2⟩, fun p => ?_⟩
  obtain ⟨v, n, g⟩ := d p
  exact ⟨v, n, (h0 77).2.1.trans g.1, g.2⟩
/-- cells of the reference that the current word doesn't lie in -/
theorem CW.u {σ : SG} {x : Wd} {k : Nat} {v : Int32} (h : CW σ x) (hk : k ∉ [70, 71, 72, 76]) : CW (uI σ 1101 k v) x := by
  have o : ∀ j, j ∈ [70, 71, 72, 76] → sI (uI σ 1101 k v) 1101 j = sI σ 1101 j := fun j hj => sI_o (Or.inr (fun z => hk (z ▸ hj)))
  obtain ⟨a, b, c, d⟩ := h
  exact ⟨(o 70 (by decide)).trans a, (o 71 (by decide)).trans b, fun p q => ⟨(o 72 (by decide)).trans (c p q).1, (o 76 (by decide)).trans (c p q).2⟩, d⟩
theorem CW.o {σ : SG} {x : Wd} {b k : Nat} {v : Int32} (h : CW σ x) (hb : b ≠ 1101) : CW (uI σ b k v) x := CW.fq (K := []) h (sm_uI (fun z => hb z.symm))
theorem CW.oL {σ : SG} {x : Wd} {b k : Nat} {v : Int64} (h : CW σ x) (hb : b ≠ 1101) : CW (uL σ b k v) x := CW.fq (K := []) h (sm_uL (fun z => hb z.symm))
theorem LR.u {σ : SG} {T : List Nat} {k : Nat} {v : Int32} (h : LR σ T) (hk : k ≠ 73) : LR (uI σ 1101 k v) T := ⟨(sI_o (Or.inr (fun z => hk z.symm))).trans h.1, h.2.1.sm (sm_uI (by decide)), h.2.2⟩
theorem LR.o {σ : SG} {T : List Nat} {b k : Nat} {v : Int32} (h : LR σ T) (hb : b ≠ 1101) (hb2 : b ≠ 1102) : LR (uI σ b k v) T := ⟨(sI_o (Or.inl (fun z => hb z.symm))).trans h.1, h.2.1.sm (sm_uI (fun z => hb2 z.symm)), h.2.2⟩
theorem LR.oL {σ : SG} {T : List Nat} {b k : Nat} {v : Int64} (h : LR σ T) (hb2 : b ≠ 1102) : LR (uL σ b k v) T := ⟨h.1, h.2.1.sm (sm_uL (fun z => hb2 z.symm)), h.2.2⟩
theorem N_next {U k : Nat} {σ : SG} {T : List Nat} {Ws : List Wd} (hU : 4000 < U) (hS : WS T Ws) (h : QX σ T Ws k) (h0 : sK Ws k ≠ 0) (h5 : sK Ws k ≠ 5) : ∃ τ, x_X12_next U 1101 σ = some τ ∧ QX τ T Ws (k + 1) ∧ fq [70, 71, 72, 76] σ τ := by
  obtain ⟨hL, x, hx, hc⟩ := h
  rw [sK_some hx] at h0 h5
  obtain ⟨g1, g2, _⟩ := hS.2.2.2 k x hx
  have g3 := g1.2.2.1 h0 h5
  have c3 := hc.2.2.1 h0 h5
  unfold x_X12_next
  rw [c3.1]
  obtain ⟨τ, e1, e2, e3⟩ := X12_look hU hL g3.2 c3.2
  rw [e1, b1_eq]
  exact ⟨τ, rfl, ⟨hL.fq e3 (by decide), _, g2 h0 h5, e2⟩, e3⟩
theorem N_fail {σ : SG} {v w : Int32} (hv : ¬ v = 0) : ∃ τ, x_X12_fail 1101 v w σ = some τ ∧ ¬ sI τ 1101 74 = 0 ∧ fq [74, 75] σ τ := by
  unfold x_X12_fail
  by_cases h : sI σ 1101 74 = 0
  · rw [if_pos h, sb_eq, sb_eq]
    exact ⟨_, rfl, by rw [sI_o (Or.inr (by decide)), sI_s]; exact hv, fq_trans (fq_u (by decide)) (fq_u (by decide))⟩
  · rw [if_neg h]
    exact ⟨σ, rfl, h, fq_refl _ σ⟩
/-- an outcome: the word that is read next, or an error -/
def NO (K : List Nat) (σ : SG) (T : List Nat) (Ws : List Wd) (o : Option Nat) (x : Option SG) : Prop := ∃ τ, x = some τ ∧ fq K σ τ ∧ (∀ k', o = some k' → sI τ 1101 74 = 0 ∧ QX τ T Ws k') ∧ (o = none → ¬ sI τ 1101 74 = 0)
theorem N_takeSign {U k q : Nat} {σ : SG} {T : List Nat} {Ws : List Wd} (hU : 4000 < U) (hS : WS T Ws) (h : QX σ T Ws k) (h74 : sI σ 1101 74 = 0) (hq : q < 256) : NO KF σ T Ws (if sS T Ws q k then some (k + 1) else none) (x_X12_takeSign U 1101 (nI q) σ) := by
  obtain ⟨hL, x, hx, hc⟩ := h
  unfold x_X12_takeSign
  rw [if_pos h74, X12_isSign hL (hS.G.2 _ _ hx) hc hq, b1_eq, ifz, sS_some hx]
  cases e : sgX T x q with
  | true =>
    simp only [if_true]
    obtain ⟨τ, e1, e2, e3⟩ := N_next hU hS ⟨hL, x, hx, hc⟩ (by rw [sK_some hx, sg_4 e]; decide) (by rw [sK_some hx, sg_4 e]; decide)
    rw [e1, b1_eq]
    exact ⟨τ, rfl, fq_mono e3 (by decide), fun k' z => (by cases z; exact ⟨(e3.2.1 74 (by decide)).trans h74, e2⟩), fun z => (by cases z)⟩
  | false =>
    simp only [Bool.false_eq_true, if_false]
    obtain ⟨τ, e1, e2, e3⟩ := N_fail (σ := σ) (v := 1) (w := sI σ 1101 71) (by decide)
    rw [e1, b1_eq]
    exact ⟨τ, rfl, fq_mono e3 (by decide), fun k' z => (by cases z), fun _ => e2⟩
theorem N_takeSign_e {U : Nat} {v : Int32} {σ : SG} (h74 : ¬ sI σ 1101 74 = 0) : x_X12_takeSign U 1101 v σ = some σ := by
  unfold x_X12_takeSign; rw [if_neg h74]
theorem N_takeWord_e {U : Nat} {v : Int64} {σ : SG} (h74 : ¬ sI σ 1101 74 = 0) : x_X12_takeWord U 1101 v σ = some σ := by
  unfold x_X12_takeWord; rw [if_neg h74]
theorem N_declare_e {U : Nat} {v : Int32} {σ : SG} (h74 : ¬ sI σ 1101 74 = 0) : x_X12_declare U 1101 v σ = some σ := by
  unfold x_X12_declare; rw [if_neg h74]
theorem N_takeType_e {U : Nat} {v : Int32} {σ : SG} (h74 : ¬ sI σ 1101 74 = 0) : x_X12_takeType U 1101 v σ = some σ := by
  unfold x_X12_takeType; rw [if_neg h74]
theorem N_takeWord {U k q : Nat} {w : Int64} {σ : SG} {T : List Nat} {Ws : List Wd} (hU : 4000 < U) (hS : WS T Ws) (h : QX σ T Ws k) (h74 : sI σ 1101 74 = 0) (hq : q < 9) (hw : kwW[q]? = some (bw w)) : NO KF σ T Ws (if sC Ws k = nI (20 + q) then some (k + 1) else none) (x_X12_takeWord U 1101 w σ) := by
  obtain ⟨hL, x, hx, hc⟩ := h
  have hg := hS.G.2 _ _ hx
  unfold x_X12_takeWord
  rw [if_pos h74, X12_isWord hU hL hg hc, isW_kw (k := q) hg hq hw, b1_eq, ifz]
  have hs : sC Ws k = cdX x := by unfold sC; rw [hx]
  rw [hs]
  by_cases e : cdX x = nI (20 + q)
  · rw [if_pos e, decide_eq_true e]
    simp only [if_true]
    have h1 := cd_1 (by omega) e
    obtain ⟨τ, e1, e2, e3⟩ := N_next hU hS ⟨hL, x, hx, hc⟩ (by rw [sK_some hx, h1]; decide) (by rw [sK_some hx, h1]; decide)
    rw [e1, b1_eq]
    exact ⟨τ, rfl, fq_mono e3 (by decide), fun k' z => (by cases z; exact ⟨(e3.2.1 74 (by decide)).trans h74, e2⟩), fun z => (by cases z)⟩
  · rw [if_neg e, decide_eq_false e]
    simp only [Bool.false_eq_true, if_false]
    obtain ⟨τ, e1, e2, e3⟩ := N_fail (σ := σ) (v := 1) (w := sI σ 1101 71) (by decide)
    rw [e1, b1_eq]
    exact ⟨τ, rfl, fq_mono e3 (by decide), fun k' z => (by cases z), fun _ => e2⟩
/-! ===== the reference's reader: what lies below the counts stays ===== -/
def fP (P : Nat → Nat → Prop) (σ τ : SG) : Prop := ∀ b k, ¬ P b k → sI τ b k = sI σ b k ∧ sL τ b k = sL σ b k ∧ sP τ b k = sP σ b k
theorem fP_refl (P : Nat → Nat → Prop) (σ : SG) : fP P σ σ := fun _ _ _ => ⟨rfl, rfl, rfl⟩
theorem fP_trans {P : Nat → Nat → Prop} {σ τ υ : SG} (h : fP P σ τ) (h' : fP P τ υ) : fP P σ υ := fun b k hk => ⟨(h' b k hk).1.trans (h b k hk).1, (h' b k hk).2.1.trans (h b k hk).2.1, (h' b k hk).2.2.trans (h b k hk).2.2⟩
theorem fP_mono {P Q : Nat → Nat → Prop} {σ τ : SG} (h : fP P σ τ) (hPQ : ∀ b k, P b k → Q b k) : fP Q σ τ := fun b k hk => h b k (fun z => hk (hPQ b k z))
theorem fP_u {P : Nat → Nat → Prop} {σ : SG} {a j : Nat} {v : Int32} (h : P a j) : fP P σ (uI σ a j v) := fun b k hk => ⟨by
  rw [sI_uI, if_neg (fun z => hk (by rw [z.1, z.2]; exact h))], rfl, rfl⟩
theorem fP_L {P : Nat → Nat → Prop} {σ : SG} {a j : Nat} {v : Int64} (h : P a j) : fP P σ (uL σ a j v) := fun b k hk => ⟨rfl, by
  rw [sL_uL, if_neg (fun z => hk (by rw [z.1, z.2]; exact h))], rfl⟩
theorem fP_q {P : Nat → Nat → Prop} {σ τ : SG} {K : List Nat} (h : fq K σ τ) (hK : ∀ j, j ∈ K → P 1101 j) (h77 : P 1101 77) : fP P σ τ := by
  intro b k hk
  by_cases hb : b = 1101
  · subst hb
    exact ⟨h.2.1 k (fun z => hk (hK k z)), h.2.2.1 k (fun z => hk (z ▸ h77)), h.2.2.2 k⟩
  · exact h.1 b hb k
/-- the counts: messages, enums, fields, values, parts, names -/
abbrev CT := Nat × Nat × Nat × Nat × Nat × Nat
def tM (c : CT) : Nat := c.1
def tE (c : CT) : Nat := c.2.1
def tF (c : CT) : Nat := c.2.2.1
def tV (c : CT) : Nat := c.2.2.2.1
def tP (c : CT) : Nat := c.2.2.2.2.1
def tN (c : CT) : Nat := c.2.2.2.2.2
def KR : List Nat := [32, 33, 34, 35, 36, 37, 38, 70, 71, 72, 74, 75, 76, 77]
def PX (c : CT) (b k : Nat) : Prop := (b = 1101 ∧ k ∈ KR) ∨ (1128 ≤ b ∧ b ≤ 1130 ∧ tM c ≤ k) ∨ (1131 ≤ b ∧ b ≤ 1133 ∧ tE c ≤ k) ∨ (1134 ≤ b ∧ b ≤ 1148 ∧ tF c ≤ k) ∨ (1149 ≤ b ∧ b ≤ 1153 ∧ tV c ≤ k) ∨ (1154 ≤ b ∧ b ≤ 1155 ∧ tP c ≤ k) ∨ (1156 ≤ b ∧ b ≤ 1158 ∧ tN c ≤ k)
def ctl (c d : CT) : Prop := tM c ≤ tM d ∧ tE c ≤ tE d ∧ tF c ≤ tF d ∧ tV c ≤ tV d ∧ tP c ≤ tP d ∧ tN c ≤ tN d
theorem PX_le {c d : CT} (h : ctl c d) {b k : Nat} (hp : PX d b k) : PX c b k := by
  obtain ⟨h1, h2, h3, h4, h5, h6⟩ := h
  rcases hp with z | z | z | z | z | z | z
  · exact Or.inl z
  · exact Or.inr (Or.inl ⟨z.1, z.2.1, by omega⟩)
  · exact Or.inr (Or.inr (Or.inl ⟨z.1, z.2.1, by omega⟩))
  · exact Or.inr (Or.inr (Or.inr (Or.inl ⟨z.1, z.2.1, by omega⟩)))
  · exact Or.inr (Or.inr (Or.inr (Or.inr (Or.inl ⟨z.1, z.2.1, by omega⟩))))
  · exact Or.inr (Or.inr (Or.inr (Or.inr (Or.inr (Or.inl ⟨z.1, z.2.1, by omega⟩)))))
  · exact Or.inr (Or.inr (Or.inr (Or.inr (Or.inr (Or.inr ⟨z.1, z.2.1, by omega⟩)))))
theorem PX_n {c : CT} {b k : Nat} (h1 : 1156 ≤ b) (h2 : b ≤ 1158) (h : tN c ≤ k) : PX c b k := Or.inr (Or.inr (Or.inr (Or.inr (Or.inr (Or.inr ⟨h1, h2, h⟩)))))
theorem PX_p {c : CT} {b k : Nat} (h1 : 1154 ≤ b) (h2 : b ≤ 1155) (h : tP c ≤ k) : PX c b k := Or.inr (Or.inr (Or.inr (Or.inr (Or.inr (Or.inl ⟨h1, h2, h⟩)))))
theorem PX_v {c : CT} {b k : Nat} (h1 : 1149 ≤ b) (h2 : b ≤ 1153) (h : tV c ≤ k) : PX c b k := Or.inr (Or.inr (Or.inr (Or.inr (Or.inl ⟨h1, h2, h⟩))))
theorem PX_f {c : CT} {b k : Nat} (h1 : 1134 ≤ b) (h2 : b ≤ 1148) (h : tF c ≤ k) : PX c b k := Or.inr (Or.inr (Or.inr (Or.inl ⟨h1, h2, h⟩)))
theorem PX_e {c : CT} {b k : Nat} (h1 : 1131 ≤ b) (h2 : b ≤ 1133) (h : tE c ≤ k) : PX c b k := Or.inr (Or.inr (Or.inl ⟨h1, h2, h⟩))
theorem PX_m {c : CT} {b k : Nat} (h1 : 1128 ≤ b) (h2 : b ≤ 1130) (h : tM c ≤ k) : PX c b k := Or.inr (Or.inl ⟨h1, h2, h⟩)
theorem PX_0 {c : CT} {k : Nat} (h : k ∈ KR) : PX c 1101 k := Or.inl ⟨rfl, h⟩
theorem fX_q {c : CT} {σ τ : SG} {K : List Nat} (h : fq K σ τ) (hK : ∀ j, j ∈ K → j ∈ KR) : fP (PX c) σ τ := fP_q h (fun j hj => PX_0 (hK j hj)) (PX_0 (by decide))
/-- a name is declared, or an error -/
theorem N_declare {U k n : Nat} {v : Int32} {σ : SG} {T : List Nat} {Ws : List Wd} {x : Wd} {c : CT} (hU : 4000 < U) (hS : WS T Ws) (h : QX σ T Ws k) (hx : Ws[k]? = some x) (h74 : sI σ 1101 74 = 0) (hn : sI σ 1101 38 = nI n) (hn4 : n < 400) (hc : tN c = n) :
    ∃ τ, x_X12_declare U 1101 v σ = some τ ∧ fP (PX c) σ τ ∧ (x.1 ≠ 1 → ¬ sI τ 1101 74 = 0 ∧ fq KF σ τ) ∧ (x.1 = 1 → sI τ 1101 74 = 0 ∧ QX τ T Ws (k + 1) ∧ sI τ 1101 38 = nI (n + 1) ∧ sI τ 1156 n = v ∧ sI τ 1157 n = nI x.2.1 ∧ sI τ 1158 n = nI (x.2.2.1 - x.2.1) ∧ ∀ j, j ∉ [38, 70, 71, 72, 76] → sI τ 1101 j = sI σ 1101 j) := by
  obtain ⟨hL, x', hx', hC⟩ := h
  rw [hx] at hx'
  cases hx'
  have hg := hS.G.2 _ _ hx
  have h6 := hg.1
  unfold x_X12_declare
  rw [if_pos h74, hC.1]
  by_cases q : x.1 = 1
  · rw [if_pos (show nI x.1 = 1 by rw [q]; rfl), hn, ix_in hn4 (by decide), sb_eq]
    have n1 : sI (uI σ 1156 n v) 1101 38 = nI n := by rw [sI_o (Or.inl (by decide))]; exact hn
    rw [n1, ix_in hn4 (by decide), sb_eq]
    have e1 : sI (uI σ 1156 n v) 1101 71 = nI x.2.1 := by rw [sI_o (Or.inl (by decide))]; exact hC.2.1
    rw [e1]
    have n2 : sI (uI (uI σ 1156 n v) 1157 n (nI x.2.1)) 1101 38 = nI n := by rw [sI_o (Or.inl (by decide))]; exact n1
    have b := hg.2.2.1 (by omega) (by omega)
    have e2 : sI (uI (uI σ 1156 n v) 1157 n (nI x.2.1)) 1101 72 - sI (uI (uI σ 1156 n v) 1157 n (nI x.2.1)) 1101 71 = nI (x.2.2.1 - x.2.1) := by
      rw [sI_o (Or.inl (by decide)), sI_o (Or.inl (by decide)), sI_o (Or.inl (by decide)), sI_o (Or.inl (by decide)), hC.2.1, (hC.2.2.1 (by omega) (by omega)).1, nI_sub (by omega)]
    rw [n2, ix_in hn4 (by decide), sb_eq, e2, sb_eq]
    have n3 : sI (uI (uI (uI σ 1156 n v) 1157 n (nI x.2.1)) 1158 n (nI (x.2.2.1 - x.2.1))) 1101 38 = nI n := by rw [sI_o (Or.inl (by decide))]; exact n2
    rw [n3, nI_1]
    have Q : QX (uI (uI (uI (uI σ 1156 n v) 1157 n (nI x.2.1)) 1158 n (nI (x.2.2.1 - x.2.1))) 1101 38 (nI (n + 1))) T Ws k :=
      ⟨(((hL.o (by decide) (by decide)).o (by decide) (by decide)).o (by decide) (by decide)).u (by decide), x, hx, (((hC.o (by decide)).o (by decide)).o (by decide)).u (by decide)⟩
    obtain ⟨τ, g1, g2, g3⟩ := N_next hU hS Q (by rw [sK_some hx]; omega) (by rw [sK_some hx]; omega)
    rw [g1, b1_eq]
    have fr0 : fP (PX c) σ (uI (uI (uI (uI σ 1156 n v) 1157 n (nI x.2.1)) 1158 n (nI (x.2.2.1 - x.2.1))) 1101 38 (nI (n + 1))) :=
      fP_trans (fP_trans (fP_trans (fP_u (PX_n (by decide) (by decide) (by omega))) (fP_u (PX_n (by decide) (by decide) (by omega)))) (fP_u (PX_n (by decide) (by decide) (by omega)))) (fP_u (PX_0 (by decide)))
    have o1 : ∀ j, j ≠ 38 → sI (uI (uI (uI (uI σ 1156 n v) 1157 n (nI x.2.1)) 1158 n (nI (x.2.2.1 - x.2.1))) 1101 38 (nI (n + 1))) 1101 j = sI σ 1101 j := fun j hj => by
      rw [sI_o (Or.inr hj), sI_o (Or.inl (by decide)), sI_o (Or.inl (by decide)), sI_o (Or.inl (by decide))]
    refine ⟨τ, rfl, fP_trans fr0 (fX_q g3 (by decide)), fun z => absurd q z, fun _ => ⟨?_, g2, ?_, ?_, ?_, ?_, ?_⟩⟩
    · rw [g3.2.1 74 (by decide), o1 74 (by decide)]; exact h74
    · rw [g3.2.1 38 (by decide), sI_s]
    · rw [(g3.1 1156 (by decide) n).1, sI_o (Or.inl (by decide)), sI_o (Or.inl (by decide)), sI_o (Or.inl (by decide)), sI_s]
    · rw [(g3.1 1157 (by decide) n).1, sI_o (Or.inl (by decide)), sI_o (Or.inl (by decide)), sI_s]
    · rw [(g3.1 1158 (by decide) n).1, sI_o (Or.inl (by decide)), sI_s]
    · intro j hj
      rw [g3.2.1 j (fun z => hj (List.mem_cons_of_mem _ z)), o1 j (fun z => hj (by rw [z]; decide))]
  · rw [if_neg (show ¬ nI x.1 = 1 from fun z => q ((nI_eq (b := 1) (by omega) (by decide)).mp z))]
    obtain ⟨τ, e1, e2, e3⟩ := N_fail (σ := σ) (v := 1) (w := sI σ 1101 71) (by decide)
    rw [e1, b1_eq]
    exact ⟨τ, rfl, fX_q e3 (by decide), fun _ => ⟨e2, fq_mono e3 (by decide)⟩, fun z => absurd z q⟩
/-! ===== the reference's reader: packed ===== -/
theorem QX.o {σ : SG} {T : List Nat} {Ws : List Wd} {k b j : Nat} {v : Int32} (h : QX σ T Ws k) (hb : b ≠ 1101) (hb2 : b ≠ 1102) : QX (uI σ b j v) T Ws k := by
  obtain ⟨hL, x, hx, hC⟩ := h
  exact ⟨hL.o hb hb2, x, hx, hC.o hb⟩
theorem QX.oL {σ : SG} {T : List Nat} {Ws : List Wd} {k b j : Nat} {v : Int64} (h : QX σ T Ws k) (hb : b ≠ 1101) (hb2 : b ≠ 1102) : QX (uL σ b j v) T Ws k := by
  obtain ⟨hL, x, hx, hC⟩ := h
  exact ⟨hL.oL hb2, x, hx, hC.oL hb⟩
theorem QX.u {σ : SG} {T : List Nat} {Ws : List Wd} {k j : Nat} {v : Int32} (h : QX σ T Ws k) (hj : j ∉ [70, 71, 72, 73, 76]) : QX (uI σ 1101 j v) T Ws k := by
  obtain ⟨hL, x, hx, hC⟩ := h
  exact ⟨hL.u (fun z => hj (by rw [z]; decide)), x, hx, hC.u (fun z => hj (by
    simp only [List.mem_cons, List.not_mem_nil, or_false] at z ⊢
    omega))⟩
theorem N_isSign {k q : Nat} {σ : SG} {T : List Nat} {Ws : List Wd} (hS : WS T Ws) (h : QX σ T Ws k) (hq : q < 256) : x_X12_isSign 1101 (nI q) σ = some (zI (sS T Ws q k)) := by
  obtain ⟨hL, x, hx, hC⟩ := h
  rw [X12_isSign hL (hS.G.2 _ _ hx) hC hq, sS_some hx]
theorem N_isKw {U k q : Nat} {w : Int64} {σ : SG} {T : List Nat} {Ws : List Wd} (hU : 4000 < U) (hS : WS T Ws) (h : QX σ T Ws k) (hq : q < 9) (hw : kwW[q]? = some (bw w)) : x_X12_isWord U 1101 w σ = some (zI (decide (sC Ws k = nI (20 + q)))) := by
  obtain ⟨hL, x, hx, hC⟩ := h
  have hg := hS.G.2 _ _ hx
  rw [X12_isWord hU hL hg hC, isW_kw (k := q) hg hq hw]
  have hs : sC Ws k = cdX x := by unfold sC; rw [hx]
  rw [hs]
theorem N_isForeign {U k : Nat} {σ : SG} {T : List Nat} {Ws : List Wd} (hU : 4000 < U) (hS : WS T Ws) (h : QX σ T Ws k) : x_X12_isForeign U 1101 σ = some (zI (decide (sC Ws k = 40))) := by
  obtain ⟨hL, x, hx, hC⟩ := h
  rw [X12_isForeign hU hL (hS.G.2 _ _ hx) hC]
  have hs : sC Ws k = cdX x := by unfold sC; rw [hx]
  rw [hs]
theorem N_kind {k : Nat} {σ : SG} {T : List Nat} {Ws : List Wd} (h : QX σ T Ws k) : sI σ 1101 70 = nI (sK Ws k) := by
  obtain ⟨hL, x, hx, hC⟩ := h
  rw [sK_some hx]; exact hC.1
/-- the cells that reading 'packed' touches -/
def PP (j : Nat) (b k : Nat) : Prop := (b = 1101 ∧ k ∈ [70, 71, 72, 74, 75, 76, 77]) ∨ ((b = 1146 ∨ b = 1147) ∧ k = j)
theorem PP_q {j : Nat} {K : List Nat} {σ τ : SG} (h : fq K σ τ) (hK : ∀ i, i ∈ K → i ∈ [70, 71, 72, 74, 75, 76, 77]) : fP (PP j) σ τ := fP_q h (fun i hi => Or.inl ⟨rfl, hK i hi⟩) (Or.inl ⟨rfl, by decide⟩)
theorem KF_in : ∀ i, i ∈ KF → i ∈ [70, 71, 72, 74, 75, 76, 77] := by decide
theorem N_takePacked {U k j : Nat} {σ : SG} {T : List Nat} {Ws : List Wd} (hU : 4000 < U) (hS : WS T Ws) (h : QX σ T Ws k) (h74 : sI σ 1101 74 = 0) (hj : j < 200) :
    ∃ τ, x_X12_takePacked U 1101 (nI j) σ = some τ ∧ fP (PP j) σ τ ∧ (∀ k' p, sPk T Ws k = some (k', p) → sI τ 1101 74 = 0 ∧ QX τ T Ws k' ∧ sI τ 1146 j = nI p) ∧ (sPk T Ws k = none → ¬ sI τ 1101 74 = 0) := by
  unfold x_X12_takePacked sPk
  rw [ix_in hj (by decide), sb_eq]
  have Q5 := h.o (b := 1146) (j := j) (v := 0) (by decide) (by decide)
  have z5 : sI (uI σ 1146 j 0) 1101 74 = 0 := by rw [sI_o (Or.inl (by decide))]; exact h74
  have v5 : sI (uI σ 1146 j 0) 1146 j = 0 := sI_s _ _ _ _
  have f5 : fP (PP j) σ (uI σ 1146 j 0) := fP_u (Or.inr ⟨Or.inl rfl, rfl⟩)
  generalize uI σ 1146 j 0 = σ5 at *
  have i91 : x_X12_isSign 1101 91 σ5 = some (zI (sS T Ws 91 k)) := N_isSign (q := 91) hS Q5 (by decide)
  rw [if_pos z5, i91, b1_eq, ifz]
  cases q1 : sS T Ws 91 k with
  | false =>
    simp only [Bool.false_eq_true, if_false]
    exact ⟨σ5, rfl, f5, fun k' p z => (by cases z; exact ⟨z5, Q5, v5⟩), fun z => (by cases z)⟩
  | true =>
    simp only [if_true]
    have hk4 : sK Ws k = 4 := by
      unfold sS at q1
      cases e : Ws[k]? with
      | none => rw [e] at q1; cases q1
      | some x => rw [e] at q1; rw [sK_some e]; exact sg_4 q1
    obtain ⟨σ11, a1, a2, a3⟩ := N_next hU hS Q5 (by rw [hk4]; decide) (by rw [hk4]; decide)
    rw [a1, b1_eq, ix_in hj (by decide), sb_eq]
    have f11 : fP (PP j) σ σ11 := fP_trans f5 (PP_q a3 (by decide))
    have z11 : sI σ11 1101 74 = 0 := (a3.2.1 74 (by decide)).trans z5
    have Q16 := a2.o (b := 1147) (j := j) (v := sI σ11 1101 71) (by decide) (by decide)
    have z16 : sI (uI σ11 1147 j (sI σ11 1101 71)) 1101 74 = 0 := by rw [sI_o (Or.inl (by decide))]; exact z11
    have f16 : fP (PP j) σ (uI σ11 1147 j (sI σ11 1101 71)) := fP_trans f11 (fP_u (Or.inr ⟨Or.inr rfl, rfl⟩))
    generalize uI σ11 1147 j (sI σ11 1101 71) = σ16 at *
    obtain ⟨σ18, b1', b2', b3, b4⟩ := N_takeWord (q := 5) (w := 123563582121316) hU hS Q16 z16 (by decide) (by decide +kernel)
    rw [b1', b1_eq]
    have f18 : fP (PP j) σ σ18 := fP_trans f16 (PP_q b2' KF_in)
    by_cases q2 : sC Ws (k + 1) = nI 25
    · rw [if_pos q2]
      have r18 := b3 (k + 1 + 1) (if_pos q2)
      obtain ⟨σ20, c1, c2, c3, c4⟩ := N_takeSign (q := 61) hU hS r18.2 r18.1 (by decide)
      have e20 : x_X12_takeSign U 1101 61 σ18 = some σ20 := c1
      rw [e20, b1_eq]
      have f20 : fP (PP j) σ σ20 := fP_trans f18 (PP_q c2 KF_in)
      cases q3 : sS T Ws 61 (k + 2) with
      | false =>
        have z20 := c4 (by rw [show k + 1 + 1 = k + 2 by omega, q3]; rfl)
        rw [if_neg z20]
        simp only [Bool.false_eq_true, if_false]
        exact ⟨σ20, rfl, f20, fun k' p z => (by cases z), fun _ => z20⟩
      | true =>
        have r20 := c3 (k + 3) (by rw [show k + 1 + 1 = k + 2 by omega, q3]; rfl)
        rw [if_pos r20.1]
        simp only [if_true]
        have w6 : ∀ (υ : SG), QX υ T Ws (k + 3) → x_X12_isWord U 1101 1953658213 υ = some (zI (decide (sC Ws (k + 3) = nI 26))) := fun υ hυ => N_isKw (q := 6) hU hS hυ (by decide) (by decide +kernel)
        have w7 : x_X12_isWord U 1101 439721161573 σ20 = some (zI (decide (sC Ws (k + 3) = nI 27))) := N_isKw (q := 7) hU hS r20.2 (by decide) (by decide +kernel)
        -- the rest, where the value stands
        have rest : ∀ (p : Nat), (sC Ws (k + 3) = nI 26 ∨ sC Ws (k + 3) = nI 27) → ∃ τ, x_X12_takePacked_109 U 1101 (nI p) (nI j) σ20 = some τ ∧ fP (PP j) σ τ ∧ (∀ k' p', (if sS T Ws 93 (k + 4) then some (k + 5, p) else none) = some (k', p') → sI τ 1101 74 = 0 ∧ QX τ T Ws k' ∧ sI τ 1146 j = nI p') ∧ ((if sS T Ws 93 (k + 4) then some (k + 5, p) else none) = none → ¬ sI τ 1101 74 = 0) := by
          intro p hp
          unfold x_X12_takePacked_109
          rw [ix_in hj (by decide), sb_eq]
          have Q37 := r20.2.o (b := 1146) (j := j) (v := nI p) (by decide) (by decide)
          have h1 : sK Ws (k + 3) = 1 := by
            rcases hp with z | z
            · exact (far_sC hS (by decide) z).2
            · exact (far_sC hS (by decide) z).2
          obtain ⟨σ39, d1, d2, d3⟩ := N_next hU hS Q37 (by rw [h1]; decide) (by rw [h1]; decide)
          rw [d1, b1_eq]
          have z39 : sI σ39 1101 74 = 0 := by rw [d3.2.1 74 (by decide), sI_o (Or.inl (by decide))]; exact r20.1
          have v39 : sI σ39 1146 j = nI p := by rw [(d3.1 1146 (by decide) j).1, sI_s]
          have f39 : fP (PP j) σ σ39 := fP_trans f20 (fP_trans (fP_u (Or.inr ⟨Or.inl rfl, rfl⟩)) (PP_q d3 (by decide)))
          obtain ⟨τ, e1, e2, e3, e4⟩ := N_takeSign (q := 93) hU hS d2 z39 (by decide)
          have e1' : x_X12_takeSign U 1101 93 σ39 = some τ := e1
          rw [e1', b1_eq]
          refine ⟨τ, rfl, fP_trans f39 (PP_q e2 KF_in), ?_, ?_⟩
          · intro k' p' hz
            cases q5 : sS T Ws 93 (k + 4) with
            | false => rw [q5] at hz; cases hz
            | true =>
              rw [q5] at hz
              cases hz
              have r := e3 (k + 5) (by rw [show k + 3 + 1 = k + 4 by omega, q5]; rfl)
              exact ⟨r.1, r.2, by rw [(e2.1 1146 (by decide) j).1]; exact v39⟩
          · intro hz
            cases q5 : sS T Ws 93 (k + 4) with
            | false => exact e4 (by rw [show k + 3 + 1 = k + 4 by omega, q5]; rfl)
            | true => rw [q5] at hz; cases hz
        have r89 : (sC Ws (k + 3) = nI 26 ∨ sC Ws (k + 3) = nI 27) → ∃ τ, x_X12_takePacked_89 U 1101 (nI j) σ20 = some τ ∧ fP (PP j) σ τ ∧ (∀ k' p', (if sS T Ws 93 (k + 4) then some (k + 5, if sC Ws (k + 3) = nI 27 then 2 else 1) else none) = some (k', p') → sI τ 1101 74 = 0 ∧ QX τ T Ws k' ∧ sI τ 1146 j = nI p') ∧ ((if sS T Ws 93 (k + 4) then some (k + 5, if sC Ws (k + 3) = nI 27 then 2 else 1) else none) = none → ¬ sI τ 1101 74 = 0) := by
          intro hp
          unfold x_X12_takePacked_89
          rw [w6 σ20 r20.2, b1_eq, ifz]
          by_cases z : sC Ws (k + 3) = nI 26
          · rw [decide_eq_true z, if_neg (show ¬ sC Ws (k + 3) = nI 27 by rw [z]; decide)]
            simp only [if_true]
            exact rest 1 hp
          · rw [decide_eq_false z]
            rcases hp with y | y
            · exact absurd y z
            · rw [if_pos y]
              simp only [Bool.false_eq_true, if_false]
              exact rest 2 (Or.inr y)
        rw [w6 σ20 r20.2, b1_eq, ifz]
        by_cases y6 : sC Ws (k + 3) = nI 26
        · rw [decide_eq_true y6, if_pos (Or.inl y6)]
          simp only [if_true]
          exact r89 (Or.inl y6)
        · rw [decide_eq_false y6, w7, b1_eq, ifz]
          simp only [Bool.false_eq_true, if_false]
          by_cases y7 : sC Ws (k + 3) = nI 27
          · rw [decide_eq_true y7, if_pos (Or.inr y7)]
            simp only [if_true]
            exact r89 (Or.inr y7)
          · rw [decide_eq_false y7, if_neg (show ¬ (sC Ws (k + 3) = nI 26 ∨ sC Ws (k + 3) = nI 27) from fun z => z.elim y6 y7)]
            simp only [Bool.false_eq_true, if_false]
            obtain ⟨τ, e1, e2, e3⟩ := N_fail (σ := σ20) (v := 1) (w := sI σ20 1101 71) (by decide)
            rw [e1, b1_eq]
            exact ⟨τ, rfl, fP_trans f20 (PP_q e3 (by decide)), fun k' p z => (by cases z), fun _ => e2⟩
    · rw [if_neg q2]
      have z18 := b4 (if_neg q2)
      have e20 : x_X12_takeSign U 1101 61 σ18 = some σ18 := N_takeSign_e z18
      rw [e20, b1_eq, if_neg z18]
      exact ⟨σ18, rfl, f18, fun k' p z => (by cases z), fun _ => z18⟩
/-! ===== the reference's reader: the parts of a type's name ===== -/
/-- the parts from f on are the words k, k + 2, .. -/
def PTs (σ : SG) (Ws : List Wd) (f k m : Nat) : Prop := ∀ t, t < m → ∃ x, Ws[k + 2 * t]? = some x ∧ sI σ 1154 (f + t) = nI x.2.1 ∧ sI σ 1155 (f + t) = nI (x.2.2.1 - x.2.1)
def PQ (j p : Nat) (b k : Nat) : Prop := (b = 1101 ∧ k ∈ [37, 70, 71, 72, 74, 75, 76, 77]) ∨ (1154 ≤ b ∧ b ≤ 1155 ∧ p ≤ k) ∨ (b = 1144 ∧ k = j)
theorem PQ_q {j p : Nat} {K : List Nat} {σ τ : SG} (h : fq K σ τ) (hK : ∀ i, i ∈ K → i ∈ [37, 70, 71, 72, 74, 75, 76, 77]) : fP (PQ j p) σ τ := fP_q h (fun i hi => Or.inl ⟨rfl, hK i hi⟩) (Or.inl ⟨rfl, by decide⟩)
theorem PQ_le {j p q : Nat} (h : p ≤ q) {b k : Nat} (hp : PQ j q b k) : PQ j p b k := by
  rcases hp with z | z | z
  · exact Or.inl z
  · exact Or.inr (Or.inl ⟨z.1, z.2.1, by omega⟩)
  · exact Or.inr (Or.inr z)
theorem N_parts_L {U j : Nat} {T : List Nat} {Ws : List Wd} {K : SG → Option SG} (hU : 4000 < U) (hS : WS T Ws) (hj : j < 200) (hK : ∀ υ, K υ = b1 (x_X12_fail 1101 1 (sI υ 1101 71) υ) fun σ33 => some σ33) : ∀ (n U1 k p m0 : Nat) (v : Int32) (σ : SG), n + 1 < U1 → Ws.length ≤ n + k → ¬ v = 0 → QX σ T Ws k → sI σ 1101 74 = 0 → sI σ 1101 37 = nI p → 2 * p ≤ pos Ws k → sI σ 1144 j = nI m0 →
    ∃ τ, x_X12_takeParts_L2 U 1101 K (nI j) U1 v σ = some τ ∧ fP (PQ j p) σ τ ∧ (∀ k', sTN T Ws n k = some k' → sI τ 1101 74 = 0 ∧ QX τ T Ws k' ∧ ∃ m, k' + 1 = k + 2 * m ∧ 1 ≤ m ∧ sI τ 1101 37 = nI (p + m) ∧ sI τ 1144 j = nI (m0 + m) ∧ PTs τ Ws p k m) ∧ (sTN T Ws n k = none → ¬ sI τ 1101 74 = 0) := by
  intro n
  induction n with
  | zero =>
    intro U1 k p m0 v σ _ hl _ hQ
    obtain ⟨_, x, hx, _⟩ := hQ
    obtain ⟨q, _⟩ := List.getElem?_eq_some_iff.mp hx
    omega
  | succ n ih =>
    intro U1 k p m0 v σ hu hl hv hQ z0 h37 hp h44
    cases U1 with
    | zero => omega
    | succ U1 =>
    obtain ⟨hL, x, hx, hC⟩ := hQ
    have hQ : QX σ T Ws k := ⟨hL, x, hx, hC⟩
    have hg := hS.G.2 _ _ hx
    have h6 := hg.1
    have hle := hS.le _ x hx
    have hT := hS.2.1
    have hp' := hp
    rw [pos_some hx] at hp'
    have hp4 : p < 400 := by omega
    rw [x_X12_takeParts_L2, if_neg hv, if_pos z0, N_kind hQ, sTN, sK_some hx]
    by_cases q1 : x.1 = 1
    · rw [if_pos (show nI x.1 = 1 by rw [q1]; rfl), if_pos q1, h37, ix_in hp4 (by decide), sb_eq, hC.2.1]
      have n1 : sI (uI σ 1154 p (nI x.2.1)) 1101 37 = nI p := by rw [sI_o (Or.inl (by decide))]; exact h37
      have b := hg.2.2.1 (by omega) (by omega)
      have e2 : sI (uI σ 1154 p (nI x.2.1)) 1101 72 - sI (uI σ 1154 p (nI x.2.1)) 1101 71 = nI (x.2.2.1 - x.2.1) := by
        rw [sI_o (Or.inl (by decide)), sI_o (Or.inl (by decide)), hC.2.1, (hC.2.2.1 (by omega) (by omega)).1, nI_sub (by omega)]
      rw [n1, ix_in hp4 (by decide), sb_eq, e2, sb_eq]
      have n2 : sI (uI (uI σ 1154 p (nI x.2.1)) 1155 p (nI (x.2.2.1 - x.2.1))) 1101 37 = nI p := by rw [sI_o (Or.inl (by decide))]; exact n1
      rw [n2, nI_1, ix_in hj (by decide), ix_in hj (by decide), sb_eq]
      have e44 : sI (uI (uI (uI σ 1154 p (nI x.2.1)) 1155 p (nI (x.2.2.1 - x.2.1))) 1101 37 (nI (p + 1))) 1144 j = nI m0 := by
        rw [sI_o (Or.inl (by decide)), sI_o (Or.inl (by decide)), sI_o (Or.inl (by decide))]; exact h44
      rw [e44, nI_1]
      have Q23 : QX (uI (uI (uI (uI σ 1154 p (nI x.2.1)) 1155 p (nI (x.2.2.1 - x.2.1))) 1101 37 (nI (p + 1))) 1144 j (nI (m0 + 1))) T Ws k :=
        (((hQ.o (by decide) (by decide)).o (by decide) (by decide)).u (by decide)).o (by decide) (by decide)
      have f23 : fP (PQ j p) σ (uI (uI (uI (uI σ 1154 p (nI x.2.1)) 1155 p (nI (x.2.2.1 - x.2.1))) 1101 37 (nI (p + 1))) 1144 j (nI (m0 + 1))) :=
        fP_trans (fP_trans (fP_trans (fP_u (Or.inr (Or.inl ⟨by decide, by decide, Nat.le_refl _⟩))) (fP_u (Or.inr (Or.inl ⟨by decide, by decide, Nat.le_refl _⟩)))) (fP_u (Or.inl ⟨rfl, by decide⟩))) (fP_u (Or.inr (Or.inr ⟨rfl, rfl⟩)))
      have z23 : sI (uI (uI (uI (uI σ 1154 p (nI x.2.1)) 1155 p (nI (x.2.2.1 - x.2.1))) 1101 37 (nI (p + 1))) 1144 j (nI (m0 + 1))) 1101 74 = 0 := by
        rw [sI_o (Or.inl (by decide)), sI_o (Or.inr (by decide)), sI_o (Or.inl (by decide)), sI_o (Or.inl (by decide))]; exact z0
      have c23 : sI (uI (uI (uI (uI σ 1154 p (nI x.2.1)) 1155 p (nI (x.2.2.1 - x.2.1))) 1101 37 (nI (p + 1))) 1144 j (nI (m0 + 1))) 1101 37 = nI (p + 1) := by
        rw [sI_o (Or.inl (by decide)), sI_s]
      have m23 : sI (uI (uI (uI (uI σ 1154 p (nI x.2.1)) 1155 p (nI (x.2.2.1 - x.2.1))) 1101 37 (nI (p + 1))) 1144 j (nI (m0 + 1))) 1144 j = nI (m0 + 1) := sI_s _ _ _ _
      have r1 : sI (uI (uI (uI (uI σ 1154 p (nI x.2.1)) 1155 p (nI (x.2.2.1 - x.2.1))) 1101 37 (nI (p + 1))) 1144 j (nI (m0 + 1))) 1154 p = nI x.2.1 := by
        rw [sI_o (Or.inl (by decide)), sI_o (Or.inl (by decide)), sI_o (Or.inl (by decide)), sI_s]
      have r2 : sI (uI (uI (uI (uI σ 1154 p (nI x.2.1)) 1155 p (nI (x.2.2.1 - x.2.1))) 1101 37 (nI (p + 1))) 1144 j (nI (m0 + 1))) 1155 p = nI (x.2.2.1 - x.2.1) := by
        rw [sI_o (Or.inl (by decide)), sI_o (Or.inl (by decide)), sI_s]
      generalize (uI (uI (uI (uI σ 1154 p (nI x.2.1)) 1155 p (nI (x.2.2.1 - x.2.1))) 1101 37 (nI (p + 1))) 1144 j (nI (m0 + 1))) = σ23 at *
      obtain ⟨σ25, a1, a2, a3⟩ := N_next hU hS Q23 (by rw [sK_some hx]; omega) (by rw [sK_some hx]; omega)
      have i46 : x_X12_isSign 1101 46 σ25 = some (zI (sS T Ws 46 (k + 1))) := N_isSign (q := 46) hS a2 (by decide)
      rw [a1, b1_eq, i46, b1_eq, ifz]
      have f25 : fP (PQ j p) σ σ25 := fP_trans f23 (PQ_q a3 (by decide))
      have z25 : sI σ25 1101 74 = 0 := (a3.2.1 74 (by decide)).trans z23
      have c25 : sI σ25 1101 37 = nI (p + 1) := (a3.2.1 37 (by decide)).trans c23
      have m25 : sI σ25 1144 j = nI (m0 + 1) := ((a3.1 1144 (by decide) j).1).trans m23
      have r1' : sI σ25 1154 p = nI x.2.1 := ((a3.1 1154 (by decide) p).1).trans r1
      have r2' : sI σ25 1155 p = nI (x.2.2.1 - x.2.1) := ((a3.1 1155 (by decide) p).1).trans r2
      cases q2 : sS T Ws 46 (k + 1) with
      | false =>
        simp only [Bool.false_eq_true, if_false]
        cases U1 with
        | zero => omega
        | succ U2 =>
          rw [x_X12_takeParts_L2, if_pos (show zI false = 0 from rfl)]
          refine ⟨σ25, rfl, f25, fun k' z => ?_, fun z => (by cases z)⟩
          cases z
          refine ⟨z25, a2, 1, by omega, by omega, c25, m25, fun t ht => ?_⟩
          have t0 : t = 0 := by omega
          subst t0
          exact ⟨x, hx, r1', r2'⟩
      | true =>
        simp only [if_true]
        have hf1 := far_sK hS (k := k) (Or.inl (by rw [sK_some hx]; exact q1))
        have hf2 := far_sS hS q2
        have hk4 : sK Ws (k + 1) = 4 := by
          unfold sS at q2
          cases e : Ws[k + 1]? with
          | none => rw [e] at q2; cases q2
          | some y => rw [e] at q2; rw [sK_some e]; exact sg_4 q2
        obtain ⟨σ30, b1', b2', b3⟩ := N_next hU hS a2 (by rw [hk4]; decide) (by rw [hk4]; decide)
        rw [b1', b1_eq]
        obtain ⟨τ, g1, g2, g3, g4⟩ := ih U1 (k + 2) (p + 1) (m0 + 1) (zI true) σ30 (by omega) (by omega) (by decide) b2' ((b3.2.1 74 (by decide)).trans z25) ((b3.2.1 37 (by decide)).trans c25) (by have := hf1.2; have := hf2.2; rw [show k + 2 = k + 1 + 1 by omega]; omega) (((b3.1 1144 (by decide) j).1).trans m25)
        refine ⟨τ, g1, fP_trans f25 (fP_trans (PQ_q b3 (by decide)) (fP_mono g2 (fun b k => PQ_le (by omega)))), fun k' z => ?_, g4⟩
        obtain ⟨w1, w2, m, w3, w4, w5, w6, w7⟩ := g3 k' z
        refine ⟨w1, w2, m + 1, by omega, by omega, by rw [w5]; congr 1; omega, by rw [w6]; congr 1; omega, fun t ht => ?_⟩
        cases t with
        | zero =>
          refine ⟨x, hx, ?_, ?_⟩
          · have o1 := (g2 1154 p (fun z => by rcases z with z | z | z <;> omega)).1
            have o2 := (b3.1 1154 (by decide) p).1
            exact o1.trans (o2.trans r1')
          · have o1 := (g2 1155 p (fun z => by rcases z with z | z | z <;> omega)).1
            have o2 := (b3.1 1155 (by decide) p).1
            exact o1.trans (o2.trans r2')
        | succ t =>
          obtain ⟨y, y1, y2, y3⟩ := w7 t (by omega)
          exact ⟨y, by rw [show k + 2 * (t + 1) = k + 2 + 2 * t by omega]; exact y1, by rw [show p + (t + 1) = p + 1 + t by omega]; exact y2, by rw [show p + (t + 1) = p + 1 + t by omega]; exact y3⟩
    · rw [if_neg (show ¬ nI x.1 = 1 from fun z => q1 ((nI_eq (b := 1) (by omega) (by decide)).mp z)), if_neg q1, hK]
      obtain ⟨τ, e1, e2, e3⟩ := N_fail (σ := σ) (v := 1) (w := sI σ 1101 71) (by decide)
      rw [e1, b1_eq]
      exact ⟨τ, rfl, PQ_q e3 (by decide), fun k' z => (by cases z), fun _ => e2⟩
/-! ===== the reference's reader: what it asks of a type ===== -/
theorem N_takeParts {U j k p : Nat} {σ : SG} {T : List Nat} {Ws : List Wd} (hU : 4000 < U) (hS : WS T Ws) (hl : Ws.length ≤ 701) (hj : j < 200) (h : QX σ T Ws k) (h74 : sI σ 1101 74 = 0) (h37 : sI σ 1101 37 = nI p) (hp : 2 * p ≤ pos Ws k) (h44 : sI σ 1144 j = nI 0) :
    ∃ τ, x_X12_takeParts U 1101 (nI j) σ = some τ ∧ fP (PQ j p) σ τ ∧ (∀ k', sTN T Ws Ws.length k = some k' → sI τ 1101 74 = 0 ∧ QX τ T Ws k' ∧ ∃ m, k' + 1 = k + 2 * m ∧ 1 ≤ m ∧ sI τ 1101 37 = nI (p + m) ∧ sI τ 1144 j = nI m ∧ PTs τ Ws p k m) ∧ (sTN T Ws Ws.length k = none → ¬ sI τ 1101 74 = 0) := by
  unfold x_X12_takeParts
  obtain ⟨τ, e1, e2, e3, e4⟩ := N_parts_L (K := fun σ31 => b1 (x_X12_fail 1101 1 (sI σ31 1101 71) σ31) fun σ33 => some σ33) hU hS hj (fun υ => rfl) Ws.length U k p 0 1 σ (by omega) (by omega) (by decide) h h74 h37 hp h44
  refine ⟨τ, e1, e2, fun k' z => ?_, e4⟩
  obtain ⟨w1, w2, m, w3, w4, w5, w6, w7⟩ := e3 k' z
  exact ⟨w1, w2, m, w3, w4, w5, by rw [w6]; congr 1; omega, w7⟩
theorem nty_sPl {Ws : List Wd} {k : Nat} {x : Wd} (hx : Ws[k]? = some x) : nty x = if sPl Ws k then sC Ws k else -1 := by
  have hs : sC Ws k = cdX x := by unfold sC; rw [hx]
  unfold nty sPl
  rw [hs]
  by_cases h : 0 ≤ cdX x ∧ cdX x < 13
  · have h1 := Int32.le_iff_toInt_le.mp h.1
    have h2 := Int32.lt_iff_toInt_lt.mp h.2
    have e0 : (0 : Int32).toInt = 0 := by decide
    have e12 : (12 : Int32).toInt = 12 := by decide
    have e13 : (13 : Int32).toInt = 13 := by decide
    rw [if_pos h, decide_eq_true (⟨fun z => by have := Int32.lt_iff_toInt_lt.mp z; omega, fun z => by have := Int32.lt_iff_toInt_lt.mp z; omega⟩ : ¬ cdX x < 0 ∧ ¬ 12 < cdX x), if_pos rfl]
  · rw [if_neg h, decide_eq_false (fun z => h ?_), if_neg (by decide)]
    have e0 : (0 : Int32).toInt = 0 := by decide
    have e12 : (12 : Int32).toInt = 12 := by decide
    have e13 : (13 : Int32).toInt = 13 := by decide
    have z1 : ¬ (cdX x).toInt < (0 : Int32).toInt := fun y => z.1 (Int32.lt_iff_toInt_lt.mpr y)
    have z2 : ¬ (12 : Int32).toInt < (cdX x).toInt := fun y => z.2 (Int32.lt_iff_toInt_lt.mpr y)
    exact ⟨Int32.le_iff_toInt_le.mpr (by omega), Int32.lt_iff_toInt_lt.mpr (by omega)⟩
theorem rsv_iff {T : List Nat} {Ws : List Wd} {k : Nat} {x : Wd} (hG : WG T Ws) (hx : Ws[k]? = some x) : rsv x = decide (¬ sC Ws k < 20 ∧ ¬ 23 < sC Ws k) := by
  have hs : sC Ws k = cdX x := by unfold sC; rw [hx]
  by_cases h : sC Ws k < 0
  · have e0 : (0 : Int32).toInt = 0 := by decide
    have e20 : (20 : Int32).toInt = 20 := by decide
    have hi := Int32.lt_iff_toInt_lt.mp h
    rw [decide_eq_false (fun z => z.1 (Int32.lt_iff_toInt_lt.mpr (by omega)))]
    have no : ∀ q, q < 41 → ¬ cdX x = nI q := fun q hq z => by
      rw [hs, z] at h
      exact (by decide +kernel : ∀ q, q < 41 → ¬ nI q < 0) q hq h
    unfold rsv
    rw [decide_eq_false (no 20 (by decide)), decide_eq_false (no 21 (by decide)), decide_eq_false (no 22 (by decide)), decide_eq_false (no 23 (by decide))]
    try rfl
  · obtain ⟨q, hq, e⟩ := sC_lt hG k h
    have e' : cdX x = nI q := hs.symm.trans e
    unfold rsv
    rw [e, e']
    exact (by decide +kernel : ∀ q, q < 41 → (decide (nI q = nI 20) || decide (nI q = nI 21) || decide (nI q = nI 22) || decide (nI q = nI 23)) = decide (¬ nI q < 20 ∧ ¬ 23 < nI q)) q hq
