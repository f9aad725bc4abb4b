/-! ===== the class's reader: packed, types, fields ===== -/
def sS (T : List Nat) (Ws : List Wd) (c k : Nat) : Bool := match Ws[k]? with
  | some x => sgX T x c
  | none => false
def sC (Ws : List Wd) (k : Nat) : Int32 := match Ws[k]? with
  | some x => cdX x
  | none => -1
def sK (Ws : List Wd) (k : Nat) : Nat := match Ws[k]? with
  | some x => x.1
  | none => 0
theorem sS_some {T : List Nat} {Ws : List Wd} {c k : Nat} {x : Wd} (h : Ws[k]? = some x) : sS T Ws c k = sgX T x c := by unfold sS; rw [h]
theorem sC_some {Ws : List Wd} {k : Nat} {x : Wd} (h : Ws[k]? = some x) : sC Ws k = cdX x := by unfold sC; rw [h]
theorem sK_some {Ws : List Wd} {k : Nat} {x : Wd} (h : Ws[k]? = some x) : sK Ws k = x.1 := by unfold sK; rw [h]
theorem U10_isSign {w k c : Nat} {σ : SG} {T : List Nat} {Ws : List Wd} (h : WA σ w Ws) (hG : WG T Ws) (hk : k < 3000) (hc8 : c < 256) : x_X10_isSign w (nI k) (nI c) σ = some (zI (sS T Ws c k)) := by
  cases e : Ws[k]? with
  | some x => rw [sS_some e]; exact X10_isSign h e (hG.2 _ _ e) hG.1 hc8
  | none =>
    have h1 := List.getElem?_eq_none_iff.mp e
    have h2 := h.2.1
    unfold x_X10_isSign sS
    rw [if_neg (nI_neg (by omega)), h.1, if_neg (fun z => by have := (ltI (by omega) (by omega)).mp z; omega), e]; rfl
theorem U10_codeOf {w k : Nat} {σ : SG} {T : List Nat} {Ws : List Wd} (h : WA σ w Ws) (hG : WG T Ws) (hk : k < 3000) : x_X10_codeOf w (nI k) σ = some (sC Ws k) := by
  cases e : Ws[k]? with
  | some x => rw [sC_some e]; exact X10_codeOf h e (hG.2 _ _ e).1
  | none =>
    have h1 := List.getElem?_eq_none_iff.mp e
    have h2 := h.2.1
    unfold x_X10_codeOf x_X10_codeOf_44 x_X10_codeOf_45 sC
    rw [if_neg (nI_neg (by omega)), h.1, if_neg (fun z => by have := (ltI (by omega) (by omega)).mp z; omega), e, if_pos rfl]
theorem U10_kindOf {w k : Nat} {σ : SG} {Ws : List Wd} (h : WA σ w Ws) (hk : k < 3000) : x_X10_kindOf w (nI k) σ = some (nI (sK Ws k)) := by
  cases e : Ws[k]? with
  | some x => rw [sK_some e]; exact X10_kindOf h e
  | none =>
    have h1 := List.getElem?_eq_none_iff.mp e
    have h2 := h.2.1
    unfold x_X10_kindOf sK
    rw [if_neg (nI_neg (by omega)), h.1, if_neg (fun z => by have := (ltI (by omega) (by omega)).mp z; omega), e]; rfl
theorem U10_startOf {w k : Nat} {σ : SG} {T : List Nat} {Ws : List Wd} (h : WA σ w Ws) (hG : WG T Ws) (hl : sI σ w 6 = nI T.length) (hT : T.length ≤ 700) (hk : k < 3000) : ∃ p, x_X10_startOf w (nI k) σ = some (nI p) ∧ p ≤ 700 := by
  cases e : Ws[k]? with
  | some x => exact ⟨_, X10_startOf h e, by have := (hG.2 _ _ e).2.1; omega⟩
  | none =>
    have h1 := List.getElem?_eq_none_iff.mp e
    have h2 := h.2.1
    refine ⟨T.length, ?_, hT⟩
    unfold x_X10_startOf
    rw [if_neg (nI_neg (by omega)), h.1, if_neg (fun z => by have := (ltI (by omega) (by omega)).mp z; omega), hl]
theorem U5_takes {c : Nat} {σ : SG} {T : List Nat} {Ws : List Wd} {s : Rs} {q : Nat} (hG : WG T Ws) (hW : WA σ (c + 186) Ws) (hR : RR σ c s) (hk : s.1 < 3000) (hq : q < 256) :
    ∃ τ, x_X5_takes (c + 191) (nI q) σ = some (zI (sS T Ws q s.1), τ) ∧ RR τ c (if sS T Ws q s.1 then (s.1 + 1, s.2) else s) ∧ (∀ b, b ≠ c + 191 → sm σ τ b) ∧ sI τ (c + 191) 7 = sI σ (c + 191) 7 := by
  unfold x_X5_takes
  rw [show c + 191 - 5 = c + 186 by omega, hR.1, U10_isSign hW hG hk hq, b1_eq, ifz]
  cases sS T Ws q s.1 with
  | false => exact ⟨σ, rfl, hR, fun b _ => sm_refl σ b, rfl⟩
  | true =>
    rw [if_pos rfl, sb_eq, nI_1]
    exact ⟨_, rfl, hR.at, fun b hb => sm_uI hb, sI_o (Or.inr (by decide))⟩
theorem U5_takesWord {c : Nat} {σ : SG} {T : List Nat} {Ws : List Wd} {s : Rs} {q : Nat} (hG : WG T Ws) (hW : WA σ (c + 186) Ws) (hR : RR σ c s) (hk : s.1 < 3000) :
    ∃ τ, x_X5_takesWord (c + 191) (nI q) σ = some (zI (decide (sC Ws s.1 = nI q)), τ) ∧ RR τ c (if sC Ws s.1 = nI q then (s.1 + 1, s.2) else s) ∧ (∀ b, b ≠ c + 191 → sm σ τ b) ∧ sI τ (c + 191) 7 = sI σ (c + 191) 7 := by
  unfold x_X5_takesWord
  rw [show c + 191 - 5 = c + 186 by omega, hR.1, U10_codeOf hW hG hk, b1_eq]
  by_cases q1 : sC Ws s.1 = nI q
  · rw [if_pos q1, if_pos q1, decide_eq_true q1, sb_eq, nI_1]
    exact ⟨_, rfl, hR.at, fun b hb => sm_uI hb, sI_o (Or.inr (by decide))⟩
  · rw [if_neg q1, if_neg q1, decide_eq_false q1]
    exact ⟨σ, rfl, hR, fun b _ => sm_refl σ b, rfl⟩
/-- the type's names, with points between, from word k on -/
def sTN (T : List Nat) (Ws : List Wd) : Nat → Nat → Option Nat
  | 0, _ => none
  | n + 1, k => if sK Ws k = 1 then (if sS T Ws 46 (k + 1) then sTN T Ws n (k + 2) else some (k + 1)) else none
def sTy (T : List Nat) (Ws : List Wd) (k : Nat) : Option Nat := if sS T Ws 46 k then sTN T Ws Ws.length (k + 1) else if ¬ sC Ws k < 20 ∧ ¬ 23 < sC Ws k then none else sTN T Ws Ws.length k
theorem sTN_le {T : List Nat} {Ws : List Wd} : ∀ (n k k' : Nat), sTN T Ws n k = some k' → k + 1 ≤ k' ∧ k' ≤ k + 2 * n := by
  intro n
  induction n with
  | zero => intro k k' h; cases h
  | succ n ih =>
    intro k k' h
    rw [sTN] at h
    split at h
    · split at h
      · have := ih _ _ h; omega
      · cases h; omega
    · cases h
theorem X5_types_L {U c : Nat} {T : List Nat} {Ws : List Wd} (hG : WG T Ws) : ∀ (n t U1 : Nat) (σ : SG) (s : Rs), t + n = Ws.length → n < U1 → WA σ (c + 186) Ws → RR σ c s → s.1 + 2 * n < 2900 →
    ∃ τ, x_X5_readTypeName_L37 U (c + 191) U1 (nI t) σ = some (zI (sTN T Ws n s.1).isSome, τ) ∧ (∀ b, b ≠ c + 191 → sm σ τ b) ∧ sI τ (c + 191) 7 = sI σ (c + 191) 7 ∧ ∀ k', sTN T Ws n s.1 = some k' → RR τ c (k', s.2) := by
  intro n
  induction n with
  | zero =>
    intro t U1 σ s ht hU hW hR hk
    have h2 := hW.2.1
    obtain ⟨V, rfl⟩ : ∃ V, U1 = V + 1 := ⟨U1 - 1, by omega⟩
    refine ⟨σ, ?_, fun b _ => sm_refl σ b, rfl, fun k' h => by cases h⟩
    rw [x_X5_readTypeName_L37]
    unfold x_X10_count
    rw [show c + 191 - 5 = c + 186 by omega, b1_eq, hW.1, if_neg (fun z => by have := (ltI (by omega) (by omega)).mp z; omega)]; rfl
  | succ n ih =>
    intro t U1 σ s ht hU hW hR hk
    have h2 := hW.2.1
    obtain ⟨V, rfl⟩ : ∃ V, U1 = V + 1 := ⟨U1 - 1, by omega⟩
    rw [x_X5_readTypeName_L37, sTN]
    unfold x_X10_count
    have h6 : sK Ws s.1 < 6 := by
      unfold sK
      cases e : Ws[s.1]? with
      | none => decide
      | some x => exact (hG.2 _ _ e).1
    rw [show c + 191 - 5 = c + 186 by omega, b1_eq, hW.1, if_pos ((ltI (by omega) (by omega)).mpr (by omega)), hR.1, U10_kindOf hW (by omega), b1_eq]
    by_cases q : sK Ws s.1 = 1
    · rw [if_pos (show nI (sK Ws s.1) = 1 by rw [q]; rfl), if_pos q, sb_eq, nI_1]
      have f1 : ∀ b, b ≠ c + 191 → sm σ (uI σ (c + 191) 6 (nI (s.1 + 1))) b := fun b hb => sm_uI hb
      have hW1 := hW.fR (fR_r f1)
      obtain ⟨τ, t1, t2, t3, t4⟩ := U5_takes (s := (s.1 + 1, s.2)) (q := 46) hG hW1 hR.at (by show s.1 + 1 < 3000; omega) (by decide)
      have t1' : x_X5_takes (c + 191) 46 (uI σ (c + 191) 6 (nI (s.1 + 1))) = some (zI (sS T Ws 46 (s.1 + 1)), τ) := t1
      rw [t1', b2_eq, ifz]
      have f2 : ∀ b, b ≠ c + 191 → sm σ τ b := fun b hb => sm_trans (f1 b hb) (t3 b hb)
      have h7 : sI τ (c + 191) 7 = sI σ (c + 191) 7 := t4.trans (sI_o (Or.inr (by decide)))
      cases hs : sS T Ws 46 (s.1 + 1) with
      | true =>
        have t2' : RR τ c (s.1 + 1 + 1, s.2) := by
          have := t2
          simp only [hs, if_true] at this
          exact this
        rw [if_pos rfl, if_pos rfl, nI_1]
        obtain ⟨υ, g1, g2, g3, g4⟩ := ih (t + 1) V τ (s.1 + 1 + 1, s.2) (by omega) (by omega) (hW1.fR (fR_r t3)) t2' (by show s.1 + 1 + 1 + 2 * n < 2900; omega)
        exact ⟨υ, g1, fun b hb => sm_trans (f2 b hb) (g2 b hb), g3.trans h7, fun k' hk' => g4 k' hk'⟩
      | false =>
        have t2' : RR τ c (s.1 + 1, s.2) := by
          have := t2
          simp only [hs, Bool.false_eq_true, if_false] at this
          exact this
        rw [if_neg (by decide), if_neg (by decide)]
        exact ⟨τ, rfl, f2, h7, fun k' hk' => by cases hk'; exact t2'⟩
    · rw [if_neg (show ¬ nI (sK Ws s.1) = 1 from fun z => q ((nI_eq (b := 1) (by omega) (by decide)).mp z)), if_neg q]
      exact ⟨σ, rfl, fun b _ => sm_refl σ b, rfl, fun k' h => by cases h⟩
theorem X5_readTypeName {U c : Nat} {σ : SG} {T : List Nat} {Ws : List Wd} {s : Rs} (hU : 4000 < U) (hG : WG T Ws) (hW : WA σ (c + 186) Ws) (hR : RR σ c s) (hk : s.1 < 800) :
    ∃ τ, x_X5_readTypeName U (c + 191) σ = some (zI (sTy T Ws s.1).isSome, τ) ∧ (∀ b, b ≠ c + 191 → sm σ τ b) ∧ sI τ (c + 191) 7 = sI σ (c + 191) 7 ∧ ∀ k', sTy T Ws s.1 = some k' → RR τ c (k', s.2) := by
  have h2 := hW.2.1
  unfold x_X5_readTypeName x_X5_readTypeName_35 sTy
  rw [show c + 191 - 5 = c + 186 by omega, hR.1, U10_codeOf hW hG (by omega), b1_eq]
  obtain ⟨τ, t1, t2, t3, t4⟩ := U5_takes (q := 46) hG hW hR (by omega) (by decide)
  have t1' : x_X5_takes (c + 191) 46 σ = some (zI (sS T Ws 46 s.1), τ) := t1
  rw [t1', b2_eq, ifz]
  have hWτ := hW.fR (fR_r t3)
  cases hs : sS T Ws 46 s.1 with
  | true =>
    rw [hs, if_pos rfl] at t2
    rw [if_pos rfl, if_pos rfl]
    obtain ⟨υ, g1, g2, g3, g4⟩ := X5_types_L (U := U) hG Ws.length 0 U τ _ (by omega) (by omega) hWτ t2 (by show s.1 + 1 + 2 * Ws.length < 2900; omega)
    exact ⟨υ, g1, fun b hb => sm_trans (t3 b hb) (g2 b hb), g3.trans t4, fun k' hk' => g4 k' hk'⟩
  | false =>
    rw [hs, if_neg (by decide)] at t2
    simp only [Bool.false_eq_true, if_false]
    obtain ⟨υ, g1, g2, g3, g4⟩ := X5_types_L (U := U) hG Ws.length 0 U τ s (by omega) (by omega) hWτ t2 (by omega)
    by_cases q1 : sC Ws s.1 < 20
    · rw [if_pos q1, if_neg (fun z => z.1 q1)]
      exact ⟨υ, g1, fun b hb => sm_trans (t3 b hb) (g2 b hb), g3.trans t4, g4⟩
    · rw [if_neg q1]
      by_cases q2 : 23 < sC Ws s.1
      · rw [if_pos q2, if_neg (fun z => z.2 q2)]
        exact ⟨υ, g1, fun b hb => sm_trans (t3 b hb) (g2 b hb), g3.trans t4, g4⟩
      · rw [if_neg q2, if_pos ⟨q1, q2⟩]
        exact ⟨τ, rfl, t3, t4, fun k' h => by cases h⟩
