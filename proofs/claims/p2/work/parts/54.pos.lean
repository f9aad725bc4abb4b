/-! ===== how far a step goes ===== -/
/-- word k' stands, n bytes or more behind word k -/
def far (Ws : List Wd) (k k' n : Nat) : Prop := (∃ y, Ws[k']? = some y) ∧ pos Ws k + n ≤ pos Ws k'
theorem far_trans {Ws : List Wd} {k k' k'' n n' : Nat} (h : far Ws k k' n) (h' : far Ws k' k'' n') : far Ws k k'' (n + n') := ⟨h'.1, by have := h.2; have := h'.2; omega⟩
theorem far_le {Ws : List Wd} {k k' n n' : Nat} (h : far Ws k k' n) (hn : n' ≤ n) : far Ws k k' n' := ⟨h.1, by have := h.2; omega⟩
theorem far_refl {Ws : List Wd} {k : Nat} {x : Wd} (h : Ws[k]? = some x) : far Ws k k 0 := ⟨⟨x, h⟩, Nat.le_refl _⟩
theorem WS.far {T : List Nat} {Ws : List Wd} {k : Nat} {x : Wd} (h : WS T Ws) (hk : Ws[k]? = some x) (h0 : x.1 ≠ 0) (h5 : x.1 ≠ 5) : far Ws k (k + 1) (x.2.2.1 - x.2.1) ∧ 1 ≤ x.2.2.1 - x.2.1 := by
  obtain ⟨y, e1, e2, e3, e4⟩ := h.next hk h0 h5
  exact ⟨⟨⟨y, e1⟩, by rw [pos_some hk, pos_some e1]; omega⟩, by omega⟩
theorem far_sS {T : List Nat} {Ws : List Wd} {c k : Nat} (h : WS T Ws) (hs : sS T Ws c k = true) : far Ws k (k + 1) 1 := by
  unfold sS at hs
  cases e : Ws[k]? with
  | none => rw [e] at hs; cases hs
  | some x =>
    rw [e] at hs
    have := h.far e (by rw [sg_4 hs]; decide) (by rw [sg_4 hs]; decide)
    exact far_le this.1 this.2
theorem far_sK {T : List Nat} {Ws : List Wd} {k : Nat} (h : WS T Ws) (hs : sK Ws k = 1 ∨ sK Ws k = 2) : far Ws k (k + 1) 1 := by
  unfold sK at hs
  cases e : Ws[k]? with
  | none => rw [e] at hs; simp at hs
  | some x =>
    rw [e] at hs
    simp only at hs
    have := h.far e (by omega) (by omega)
    exact far_le this.1 this.2
theorem far_sC {T : List Nat} {Ws : List Wd} {q k : Nat} (h : WS T Ws) (hq : q < 256) (hs : sC Ws k = nI q) : far Ws k (k + 1) 1 ∧ sK Ws k = 1 := by
  unfold sC at hs
  cases e : Ws[k]? with
  | none => rw [e] at hs; exact absurd hs ((by decide +kernel : ∀ c, c < 256 → ¬ (-1 : Int32) = nI c) q hq)
  | some x =>
    rw [e] at hs
    have h1 := cd_1 hq hs
    have hk : sK Ws k = 1 := by rw [sK_some e]; exact h1
    exact ⟨far_sK h (Or.inl hk), hk⟩
theorem far_kw {T : List Nat} {Ws : List Wd} {q k : Nat} (h : WS T Ws) (hq : q < 9) (hs : sC Ws k = nI (20 + q)) : far Ws k (k + 1) (kwW.getD q []).length := by
  unfold sC at hs
  cases e : Ws[k]? with
  | none => rw [e] at hs; exact absurd hs ((by decide +kernel : ∀ c, c < 256 → ¬ (-1 : Int32) = nI c) (20 + q) (by omega))
  | some x =>
    rw [e] at hs
    have h1 := cd_1 (by omega) hs
    have hl := kw_len (h.G.2 _ _ e) hq hs
    have := h.far e (by omega) (by omega)
    rw [hl] at this
    exact this.1
theorem far_sNu {T : List Nat} {Ws : List Wd} {b : Bool} {k k' : Nat} {v : Bool × Nat} (h : WS T Ws) (hs : sNu T Ws b k = some (k', v)) : far Ws k k' 1 := by
  unfold sNu at hs
  cases e : Ws[k]? with
  | none => rw [e] at hs; cases hs
  | some x =>
    rw [e] at hs
    simp only at hs
    split at hs
    · next hc =>
      have f1 := far_sS (T := T) (c := 45) (k := k) h (by unfold sS; rw [e]; exact hc.2)
      cases e2 : Ws[k + 1]? with
      | none => rw [e2] at hs; cases hs
      | some y =>
        rw [e2] at hs
        simp only at hs
        split at hs
        · next h2 => cases hs; exact far_le (far_trans f1 (far_sK h (Or.inr (by rw [sK_some e2]; exact h2)))) (by omega)
        · cases hs
    · split at hs
      · next h2 => cases hs; exact far_sK h (Or.inr (by rw [sK_some e]; exact h2))
      · cases hs
theorem far_sPk {T : List Nat} {Ws : List Wd} {k k' v : Nat} (h : WS T Ws) (hk : ∃ x, Ws[k]? = some x) (hs : sPk T Ws k = some (k', v)) : far Ws k k' 0 := by
  unfold sPk at hs
  split at hs
  · next h1 =>
    split at hs
    · next h2 =>
      split at hs
      · next h3 =>
        split at hs
        · next h4 =>
          split at hs
          · next h5 =>
            cases hs
            have a1 := far_sS h h1
            have a2 := (far_sC h (by decide) h2).1
            have a3 := far_sS h h3
            have a4 : far Ws (k + 3) (k + 3 + 1) 1 := by rcases h4 with q | q; exact (far_sC h (by decide) q).1; exact (far_sC h (by decide) q).1
            have a5 := far_sS h h5
            exact far_le (far_trans a1 (far_trans a2 (far_trans a3 (far_trans a4 a5)))) (by omega)
          · cases hs
        · cases hs
      · cases hs
    · cases hs
  · cases hs
    obtain ⟨x, hx⟩ := hk
    exact far_refl hx
theorem far_sTN {T : List Nat} {Ws : List Wd} (h : WS T Ws) : ∀ (n k k' : Nat), sTN T Ws n k = some k' → far Ws k k' 1 := by
  intro n
  induction n with
  | zero => intro k k' hs; cases hs
  | succ n ih =>
    intro k k' hs
    rw [sTN] at hs
    split at hs
    · next h1 =>
      have a1 := far_sK h (Or.inl h1)
      split at hs
      · next h2 => exact far_le (far_trans a1 (far_trans (far_sS h h2) (ih _ _ hs))) (by omega)
      · cases hs; exact a1
    · cases hs
theorem far_sTy {T : List Nat} {Ws : List Wd} {k k' : Nat} (h : WS T Ws) (hs : sTy T Ws k = some k') : far Ws k k' 1 := by
  unfold sTy at hs
  split at hs
  · next h1 => exact far_le (far_trans (far_sS h h1) (far_sTN h _ _ _ hs)) (by omega)
  · split at hs
    · cases hs
    · exact far_sTN h _ _ _ hs
theorem far_sFe {T : List Nat} {Ws : List Wd} {m o : Option Nat} {t w k k' : Nat} {r : Bool} {d : Dc} (h : WS T Ws) (hs : sFe T Ws m o t w r k = some (k', d)) : far Ws k k' 4 ∧ dK d = 2 ∧ dS d = m ∧ dO d = o := by
  unfold sFe at hs
  cases e : Ws[k]? with
  | none => rw [e] at hs; cases hs
  | some x =>
    rw [e] at hs
    simp only at hs
    split at hs
    · next h1 =>
      split at hs
      · next h2 =>
        cases e3 : sNu T Ws false (k + 2) with
        | none => rw [e3] at hs; cases hs
        | some kv =>
          obtain ⟨k4, v⟩ := kv
          rw [e3] at hs
          simp only at hs
          have a3 := far_sNu h e3
          cases e4 : sPk T Ws k4 with
          | none => rw [e4] at hs; cases hs
          | some kp =>
            obtain ⟨k5, pk⟩ := kp
            rw [e4] at hs
            simp only at hs
            split at hs
            · next h5 =>
              cases hs
              have a1 := far_sK h (Or.inl (by rw [sK_some e]; exact h1))
              exact ⟨far_le (far_trans a1 (far_trans (far_sS h h2) (far_trans a3 (far_trans (far_sPk h a3.1 e4) (far_sS h h5))))) (by omega), rfl, rfl, rfl⟩
            · cases hs
      · cases hs
    · cases hs
theorem far_sFd {T : List Nat} {Ws : List Wd} {m o : Option Nat} {k k' : Nat} {d : Dc} (h : WS T Ws) (hs : sFd T Ws m o k = some (k', d)) : far Ws k k' 5 ∧ dK d = 2 ∧ dS d = m ∧ dO d = o := by
  have ft : ∀ (r : Bool) (k : Nat), sFt T Ws m o r k = some (k', d) → far Ws k k' 5 ∧ dK d = 2 ∧ dS d = m ∧ dO d = o := by
    intro r k hs
    unfold sFt at hs
    cases hp : sPl Ws k with
    | true =>
      rw [hp] at hs
      simp only [if_true] at hs
      have := far_sFe h hs
      have hpl := of_decide_eq_true hp
      obtain ⟨q, hq, e⟩ := sC_lt h.G k hpl.1
      exact ⟨far_le (far_trans (far_sC h (by omega) e).1 this.1) (by omega), this.2⟩
    | false =>
      rw [hp] at hs
      simp only [Bool.false_eq_true, if_false] at hs
      cases e : sTy T Ws k with
      | none => rw [e] at hs; cases hs
      | some k2 =>
        rw [e] at hs
        have := far_sFe h hs
        exact ⟨far_le (far_trans (far_sTy h e) this.1) (by omega), this.2⟩
  unfold sFd at hs
  split at hs
  · next hc =>
    have := ft true (k + 1) hs
    exact ⟨far_le (far_trans (far_sC h (by decide) hc.2).1 this.1) (by omega), this.2⟩
  · exact ft false k hs
theorem far_sVl {T : List Nat} {Ws : List Wd} {m e : Option Nat} {k k' : Nat} {d : Dc} (h : WS T Ws) (hs : sVl T Ws m e k = some (k', d)) : far Ws k k' 4 ∧ dK d = 3 ∧ dS d = m ∧ dO d = e := by
  unfold sVl at hs
  cases e1 : Ws[k]? with
  | none => rw [e1] at hs; cases hs
  | some x =>
    rw [e1] at hs
    simp only at hs
    split at hs
    · next h1 =>
      split at hs
      · next h2 =>
        cases e3 : sNu T Ws true (k + 2) with
        | none => rw [e3] at hs; cases hs
        | some kv =>
          obtain ⟨k4, v⟩ := kv
          rw [e3] at hs
          simp only at hs
          split at hs
          · next h5 =>
            cases hs
            have a1 := far_sK h (Or.inl (by rw [sK_some e1]; exact h1))
            exact ⟨far_le (far_trans a1 (far_trans (far_sS h h2) (far_trans (far_sNu h e3) (far_sS h h5)))) (by omega), rfl, rfl, rfl⟩
          · cases hs
      · cases hs
    · cases hs
theorem far_sBg {T : List Nat} {Ws : List Wd} {q : Nat} {s s' : Rs} {D D' : List Dc} (h : WS T Ws) (hs : sBg T Ws q s D = some (s', D')) : far Ws s.1 s'.1 2 ∧ ∃ d, D' = D ++ [d] ∧ dK d = q ∧ dS d = s.2.1 ∧ dO d = none ∧ s'.2.1 = (if q = 0 then some D.length else s.2.1) ∧ s'.2.2.1 = (if q = 4 then some D.length else s.2.2.1) ∧ s'.2.2.2.1 = (if q = 1 then some D.length else s.2.2.2.1) ∧ s'.2.2.2.2 = true := by
  unfold sBg at hs
  cases e1 : Ws[s.1]? with
  | none => rw [e1] at hs; cases hs
  | some x =>
    rw [e1] at hs
    simp only at hs
    split at hs
    · next h1 =>
      split at hs
      · next h2 =>
        cases hs
        have a1 := far_sK h (Or.inl (by rw [sK_some e1]; exact h1))
        exact ⟨far_trans a1 (far_sS h h2), _, rfl, rfl, rfl, rfl, rfl, rfl, rfl, rfl⟩
      · cases hs
    · cases hs
