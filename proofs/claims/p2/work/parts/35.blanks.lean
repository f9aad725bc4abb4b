/-! ===== behind blanks and comments ===== -/
def bb (T : List Nat) : Nat → Nat → Bool → Nat × Bool
  | 0, p, u => (p, u)
  | n + 1, p, u => match T[p]? with
    | none => (p, u)
    | some c => if pB c then bb T n (p + 1) u else if c = 47 ∧ T[p + 1]? = some 47 then bb T n (p + 2 + rn pN T (p + 2)) u else if c = 47 ∧ T[p + 1]? = some 42 then (match ce T (T.length - (p + 2)) (p + 2) with | some q => bb T n (q + 2) u | none => (T.length, true)) else (p, u)
theorem bb_fuel {T : List Nat} : ∀ (n m p : Nat) (u : Bool), T.length < p + n → T.length < p + m → bb T n p u = bb T m p u := by
  intro n
  induction n with
  | zero =>
    intro m p u h _
    cases m with
    | zero => rfl
    | succ m => rw [bb, bb, List.getElem?_eq_none (by omega)]
  | succ n ih =>
    intro m p u h h'
    cases m with
    | zero => rw [bb, bb, List.getElem?_eq_none (by omega)]
    | succ m =>
      rw [bb, bb]
      cases hp : T[p]? with
      | none => rfl
      | some c =>
        simp only
        rw [ih m (p + 1) u (by omega) (by omega), ih m (p + 2 + rn pN T (p + 2)) u (by omega) (by omega)]
        cases hc : ce T (T.length - (p + 2)) (p + 2) with
        | none => rfl
        | some q =>
          have := (ce_at _ _ _ hc).2.2
          simp only
          rw [ih m (q + 2) u (by omega) (by omega)]
def bbS (T : List Nat) (p : Nat) (u : Bool) : Nat × Bool := bb T (T.length + 1) p u
theorem bbS_eq (T : List Nat) (p : Nat) (u : Bool) : bbS T p u = (match T[p]? with
    | none => (p, u)
    | some c => if pB c then bbS T (p + 1) u else if c = 47 ∧ T[p + 1]? = some 47 then bbS T (p + 2 + rn pN T (p + 2)) u else if c = 47 ∧ T[p + 1]? = some 42 then (match ce T (T.length - (p + 2)) (p + 2) with | some q => bbS T (q + 2) u | none => (T.length, true)) else (p, u)) := by
  unfold bbS
  rw [bb]
  cases hp : T[p]? with
  | none => rfl
  | some c =>
    have hpl := (List.getElem?_eq_some_iff.mp hp).1
    simp only
    rw [bb_fuel T.length (T.length + 1) (p + 1) u (by omega) (by omega), bb_fuel T.length (T.length + 1) (p + 2 + rn pN T (p + 2)) u (by omega) (by omega)]
    cases hc : ce T (T.length - (p + 2)) (p + 2) with
    | none => rfl
    | some q =>
      have := (ce_at _ _ _ hc).2.2
      simp only
      rw [bb_fuel T.length (T.length + 1) (q + 2) u (by omega) (by omega)]
theorem bbS_none {T : List Nat} {p : Nat} {u : Bool} (h : T[p]? = none) : bbS T p u = (p, u) := by rw [bbS_eq, h]
theorem bbS_blank {T : List Nat} {p : Nat} {u : Bool} (h : bP pB T p = true) : bbS T p u = bbS T (p + 1) u := by
  unfold bP at h
  rw [bbS_eq]
  cases hp : T[p]? with
  | none => rw [hp] at h; cases h
  | some c => rw [hp] at h; simp only at h ⊢; rw [if_pos h]
theorem bbS_line {T : List Nat} {p : Nat} {u : Bool} (h1 : T[p]? = some 47) (h2 : T[p + 1]? = some 47) : bbS T p u = bbS T (p + 2 + rn pN T (p + 2)) u := by
  rw [bbS_eq, h1]; simp only; rw [if_neg (by decide), if_pos ⟨trivial, h2⟩]
theorem bbS_star {T : List Nat} {p : Nat} {u : Bool} (h1 : T[p]? = some 47) (h2 : T[p + 1]? = some 42) : bbS T p u = (match ce T (T.length - (p + 2)) (p + 2) with | some q => bbS T (q + 2) u | none => (T.length, true)) := by
  rw [bbS_eq, h1]; simp only; rw [if_neg (by decide), if_neg (fun q => by rw [h2] at q; cases q.2), if_pos ⟨trivial, h2⟩]
theorem bbS_stop {T : List Nat} {p : Nat} {u : Bool} (h : bP pB T p = false) (h' : T[p]? = some 47 → T[p + 1]? ≠ some 47 ∧ T[p + 1]? ≠ some 42) : bbS T p u = (p, u) := by
  unfold bP at h
  rw [bbS_eq]
  cases hp : T[p]? with
  | none => rfl
  | some c =>
    rw [hp] at h; simp only at h ⊢
    rw [if_neg (by rw [h]; decide), if_neg (fun q => (h' (by rw [hp, q.1])).1 q.2), if_neg (fun q => (h' (by rw [hp, q.1])).2 q.2)]
theorem bbS_le {T : List Nat} : ∀ (n p : Nat) (u : Bool), T.length < p + n → p ≤ T.length → (bbS T p u).1 ≤ T.length ∧ p ≤ (bbS T p u).1 := by
  intro n
  induction n with
  | zero => intro p u h h'; omega
  | succ n ih =>
    intro p u h h'
    rw [bbS_eq]
    cases hp : T[p]? with
    | none => exact ⟨h', Nat.le_refl _⟩
    | some c =>
      have hpl := (List.getElem?_eq_some_iff.mp hp).1
      simp only
      split
      · have := ih (p + 1) u (by omega) (by omega); omega
      · split
        · next hc =>
          have h2 := (List.getElem?_eq_some_iff.mp hc.2).1
          have h3 := rn_le' (f := pN) (T := T) (p := p + 2) (by omega)
          have := ih (p + 2 + rn pN T (p + 2)) u (by omega) h3; omega
        · split
          · next hc =>
            have h2 := (List.getElem?_eq_some_iff.mp hc.2).1
            cases hq : ce T (T.length - (p + 2)) (p + 2) with
            | none => exact ⟨Nat.le_refl _, by simp only; omega⟩
            | some q =>
              obtain ⟨e1, e2, e3⟩ := ce_at _ _ _ hq
              have h4 := (List.getElem?_eq_some_iff.mp e2).1
              have := ih (q + 2) u (by omega) (by omega)
              simp only; omega
          · exact ⟨by simp only; omega, Nat.le_refl _⟩
/-- one place of an object alone is touched -/
def f1 (w : Nat) (K : List Nat) (σ τ : SG) : Prop := (∀ b, b ≠ w → sm σ τ b) ∧ (∀ k, k ∉ K → sI τ w k = sI σ w k) ∧ (∀ k, sL τ w k = sL σ w k) ∧ ∀ k, sP τ w k = sP σ w k
theorem f1_refl (w : Nat) (K : List Nat) (σ : SG) : f1 w K σ σ := ⟨fun b _ => sm_refl σ b, fun _ _ => rfl, fun _ => rfl, fun _ => rfl⟩
theorem f1_trans {w : Nat} {K : List Nat} {σ τ υ : SG} (h : f1 w K σ τ) (h' : f1 w K τ υ) : f1 w K σ υ := ⟨fun b hb => sm_trans (h.1 b hb) (h'.1 b hb), fun k hk => (h'.2.1 k hk).trans (h.2.1 k hk), fun k => (h'.2.2.1 k).trans (h.2.2.1 k), fun k => (h'.2.2.2 k).trans (h.2.2.2 k)⟩
theorem f1_u {w k : Nat} {K : List Nat} {σ : SG} {v : Int32} (hk : k ∈ K) : f1 w K σ (uI σ w k v) := ⟨fun b hb => sm_uI hb, fun j hj => sI_o (Or.inr (fun q => hj (q ▸ hk))), fun _ => rfl, fun _ => rfl⟩
theorem LX.w {σ : SG} {w : Nat} {T : List Nat} (h : LX σ w T) : w = 191 ∨ w = 383 := shX10 h.1
theorem LX.f1 {σ τ : SG} {w : Nat} {T : List Nat} {K : List Nat} (h : LX σ w T) (hf : f1 w K σ τ) (h6 : 6 ∉ K) : LX τ w T := by
  have := h.w
  exact ⟨h.1, h.2.1.sm (hf.1 _ (by omega)) (hf.1 _ (by omega)), (hf.2.1 6 h6).trans h.2.2.1, h.2.2.2⟩
theorem X10_behindBlanks_L {U w : Nat} {T : List Nat} (hU : 4000 < U) : ∀ (n p U1 : Nat) (σ : SG) (u : Bool), T.length + 1 ≤ p + n → n < U1 → p ≤ T.length + 1 → LX σ w T → sI σ w 7 = zI u →
    ∃ τ, x_X10_behindBlanks_L2 U w U1 (nI p) σ = some (nI (if p ≤ T.length then (bbS T p u).1 else T.length), τ) ∧ sI τ w 7 = zI (if p ≤ T.length then (bbS T p u).2 else u) ∧ f1 w [7] σ τ := by
  intro n
  induction n with
  | zero =>
    intro p U1 σ u hn hU1 hp h hu
    have hl := h.2.2.2
    obtain ⟨V, rfl⟩ : ∃ V, U1 = V + 1 := ⟨U1 - 1, by omega⟩
    refine ⟨σ, ?_, ?_, f1_refl _ _ _⟩
    · rw [x_X10_behindBlanks_L2, h.2.2.1, if_neg (fun q => by have := (ltI (by omega) (by omega)).mp q; omega), if_neg (by omega)]
    · rw [if_neg (by omega)]; exact hu
  | succ n ih =>
    intro p U1 σ u hn hU1 hp h hu
    have hl := h.2.2.2
    obtain ⟨V, rfl⟩ : ∃ V, U1 = V + 1 := ⟨U1 - 1, by omega⟩
    rw [x_X10_behindBlanks_L2, h.2.2.1]
    rcases (Nat.lt_or_ge p T.length).symm with hpl | hpl
    · refine ⟨σ, ?_, ?_, f1_refl _ _ _⟩
      · rw [if_neg (fun q => by have := (ltI (by omega) (by omega)).mp q; omega)]
        by_cases e : p ≤ T.length
        · rw [if_pos e, bbS_none (List.getElem?_eq_none hpl)]; congr 2; congr 1; simp only; omega
        · rw [if_neg e]
      · by_cases e : p ≤ T.length
        · rw [if_pos e, bbS_none (List.getElem?_eq_none hpl)]; exact hu
        · rw [if_neg e]; exact hu
    rw [if_pos ((ltI (by omega) (by omega)).mpr hpl), h.at (by omega), b1_eq, l47, ifA h.ok8 (by decide), nI_1, h.at (by omega), b1_eq, if_pos (Nat.le_of_lt hpl), if_pos (Nat.le_of_lt hpl)]
    -- a blank or a word here
    have plain : ∀ s0, (¬ s0 = nI 47) → (¬ s0 = nI 42) → (T[p]? = some 47 → T[p + 1]? ≠ some 47 ∧ T[p + 1]? ≠ some 42) → ∃ τ, x_X10_behindBlanks_39 U w (x_X10_behindBlanks_L2 U w V) (nI p) (bA T p) s0 σ = some (nI (bbS T p u).1, τ) ∧ sI τ w 7 = zI (bbS T p u).2 ∧ f1 w [7] σ τ := by
      intro s0 h1 h2 h3
      unfold x_X10_behindBlanks_39
      rw [l47, if_neg h1, l42, if_neg h2, W_isBlank h.ok8, b1_eq, ifz]
      cases hb : bP pB T p with
      | false => rw [bbS_stop hb h3]; exact ⟨σ, rfl, hu, f1_refl _ _ _⟩
      | true =>
        unfold x_X10_behindBlanks_86
        rw [nI_1, bbS_blank hb]
        obtain ⟨τ, g1, g2, g3⟩ := ih (p + 1) V σ u (by omega) (by omega) (by omega) h hu
        rw [if_pos (by omega)] at g1 g2
        exact ⟨τ, g1, g2, g3⟩
    by_cases h47 : T[p]? = some 47
    · rw [if_pos h47]
      by_cases hs : T[p + 1]? = some 47
      · -- to the line's end
        have h2l := (List.getElem?_eq_some_iff.mp hs).1
        have h3 := rn_le' (f := pN) (T := T) (p := p + 2) (by omega)
        unfold x_X10_behindBlanks_39 x_X10_behindBlanks_86
        have e2 : nI p + 2 = nI (p + 2) := nI_add p 2
        rw [bA_some hs, l47, if_pos rfl, e2, X10_lineEnd hU h (by omega), b1_eq, nI_1, bbS_line h47 hs]
        obtain ⟨τ, g1, g2, g3⟩ := ih (p + 2 + rn pN T (p + 2) + 1) V σ u (by omega) (by omega) (by omega) h hu
        refine ⟨τ, ?_, ?_, g3⟩
        · rw [g1]; congr 2; congr 1
          by_cases e : p + 2 + rn pN T (p + 2) + 1 ≤ T.length
          · rw [if_pos e, bbS_blank (p := p + 2 + rn pN T (p + 2))]
            have := rn_end (f := pN) (T := T) (T.length - (p + 2)) (p + 2) (by omega)
            have h10 := (bP_pN (by omega)).mpr this
            unfold bP; rw [h10]; rfl
          · rw [if_neg e, bbS_none (List.getElem?_eq_none (by omega))]; simp only; omega
        · rw [g2]; congr 1
          by_cases e : p + 2 + rn pN T (p + 2) + 1 ≤ T.length
          · rw [if_pos e, bbS_blank (p := p + 2 + rn pN T (p + 2))]
            have := rn_end (f := pN) (T := T) (T.length - (p + 2)) (p + 2) (by omega)
            have h10 := (bP_pN (by omega)).mpr this
            unfold bP; rw [h10]; rfl
          · rw [if_neg e, bbS_none (List.getElem?_eq_none (by omega))]
      · by_cases ht : T[p + 1]? = some 42
        · have h2l := (List.getElem?_eq_some_iff.mp ht).1
          unfold x_X10_behindBlanks_39 x_X10_behindBlanks_86
          have e2 : nI p + 2 = nI (p + 2) := nI_add p 2
          rw [bA_some ht, l47, if_neg (by decide), l42, if_pos rfl, e2, X10_commentEnd hU h (by omega), bbS_star h47 ht]
          cases hq : ce T (T.length - (p + 2)) (p + 2) with
          | some q =>
            obtain ⟨e1, e3, e4⟩ := ce_at _ _ _ hq
            have h4 := (List.getElem?_eq_some_iff.mp e3).1
            simp only
            rw [b2_eq, nI_1]
            obtain ⟨τ, g1, g2, g3⟩ := ih (q + 1 + 1) V σ u (by omega) (by omega) (by omega) h hu
            rw [if_pos (by omega)] at g1 g2
            exact ⟨τ, g1, g2, g3⟩
          | none =>
            simp only
            rw [b2_eq, nI_1]
            obtain ⟨τ, g1, g2, g3⟩ := ih (T.length + 1) V (uI σ w 7 1) true (by omega) (by omega) (by omega) (h.f1 (f1_u (K := [7]) (by decide)) (by decide)) (sI_s _ _ _ _)
            rw [if_neg (by omega)] at g1 g2
            exact ⟨τ, g1, g2, f1_trans (f1_u (by decide)) g3⟩
        · exact plain _ (fun q => hs ((bA_is h.ok8 (by decide)).mp q)) (fun q => ht ((bA_is h.ok8 (by decide)).mp q)) (fun _ => ⟨hs, ht⟩)
    · rw [if_neg h47]
      exact plain _ (by decide) (by decide) (fun q => absurd q h47)
theorem X10_behindBlanks {U w p : Nat} {σ : SG} {T : List Nat} {u : Bool} (hU : 4000 < U) (h : LX σ w T) (hp : p ≤ T.length) (hu : sI σ w 7 = zI u) : ∃ τ, x_X10_behindBlanks U w (nI p) σ = some (nI (bbS T p u).1, τ) ∧ sI τ w 7 = zI (bbS T p u).2 ∧ f1 w [7] σ τ := by
  have hl := h.2.2.2
  obtain ⟨τ, g1, g2, g3⟩ := X10_behindBlanks_L hU (T.length + 1 - p) p U σ u (by omega) (by omega) (by omega) h hu
  rw [if_pos hp] at g1 g2
  exact ⟨τ, g1, g2, g3⟩
/-! the reference -/
def LR (σ : SG) (T : List Nat) : Prop := sI σ 1101 73 = nI T.length ∧ RI σ 1102 T ∧ T.length ≤ 700 ∧ ok8 T
theorem LR.at {σ : SG} {p : Nat} {T : List Nat} (h : LR σ T) (hp : p < 2 ^ 31) : x_X12_byteAt 1101 (nI p) σ = some (bA T p) := X12_byteAt h.1 h.2.1 h.2.2.1 hp
theorem LR.f1 {σ τ : SG} {T : List Nat} {K : List Nat} (h : LR σ T) (hf : f1 1101 K σ τ) (h6 : 73 ∉ K) : LR τ T := ⟨(hf.2.1 73 h6).trans h.1, h.2.1.sm (hf.1 _ (by decide)), h.2.2⟩
theorem X12_line_L {U : Nat} {σ : SG} {T : List Nat} (h : LR σ T) : ∀ (j p U1 : Nat), p + j = T.length → j < U1 → x_X12_behindComment_L28 U 1101 σ U1 (nI p) = some (nI (p + rn pN T p), σ) := by
  have hl := h.2.2.1
  intro j
  induction j with
  | zero =>
    intro p U1 hp hU
    obtain ⟨V, rfl⟩ : ∃ V, U1 = V + 1 := ⟨U1 - 1, by omega⟩
    rw [x_X12_behindComment_L28, h.1, if_neg (fun q => by have := (ltI (by omega) (by omega)).mp q; omega), rn_ge (by omega)]; rfl
  | succ j ih =>
    intro p U1 hp hU
    obtain ⟨V, rfl⟩ : ∃ V, U1 = V + 1 := ⟨U1 - 1, by omega⟩
    have hpl : p < T.length := by omega
    rw [x_X12_behindComment_L28, h.1, if_pos ((ltI (by omega) (by omega)).mpr (by omega)), h.at (by omega), b1_eq, l10, ifA h.2.2.2 (by decide)]
    cases hb : bP pN T p with
    | false => rw [rn_no hb, if_pos ((bP_pN hpl).mpr hb)]; rfl
    | true =>
      rw [(rn_yes hb).2, if_neg (fun q => by rw [(bP_pN hpl).mp q] at hb; cases hb), nI_1, ih (p + 1) V (by omega) (by omega)]
      congr 3; omega
theorem X12_star_L {U : Nat} {σ : SG} {T : List Nat} {k : Int32 → Option (Int32 × SG)} (h : LR σ T) : ∀ (j p U1 : Nat), p + j = T.length → j < U1 → 1 ≤ T.length → ∃ e, x_X12_behindComment_L68 U 1101 k σ U1 (nI p) = k (nI e) ∧ (match ce T j p with | some q => e = q | none => T.length ≤ e + 1 ∧ (e ≤ T.length)) := by
  have hl := h.2.2.1
  intro j
  induction j with
  | zero =>
    intro p U1 hp hU h1
    obtain ⟨V, rfl⟩ : ∃ V, U1 = V + 1 := ⟨U1 - 1, by omega⟩
    refine ⟨p, ?_, ?_⟩
    · rw [x_X12_behindComment_L68, h.1, nI_1, if_neg (fun q => by have := (ltI (by omega) (by omega)).mp q; omega)]
    · show _ ∧ _; omega
  | succ j ih =>
    intro p U1 hp hU h1
    obtain ⟨V, rfl⟩ : ∃ V, U1 = V + 1 := ⟨U1 - 1, by omega⟩
    rw [x_X12_behindComment_L68, h.1, nI_1, ce]
    by_cases hlast : p + 1 < T.length
    · rw [if_pos ((ltI (by omega) (by omega)).mpr hlast), h.at (by omega), b1_eq, l42, ifA h.2.2.2 (by decide), h.at (by omega), b1_eq, l47, ifA h.2.2.2 (by decide)]
      unfold x_X12_behindComment_100
      rw [nI_1]
      obtain ⟨e, g1, g2⟩ := ih (p + 1) V (by omega) (by omega) h1
      by_cases c1 : T[p]? = some 42
      · rw [if_pos c1]
        by_cases c2 : T[p + 1]? = some 47
        · rw [if_pos c2, if_pos ⟨c1, c2⟩]; exact ⟨p, rfl, rfl⟩
        · rw [if_neg c2, if_neg (fun q => c2 q.2)]; exact ⟨e, g1, g2⟩
      · rw [if_neg c1, if_neg (fun q => c1 q.1)]; exact ⟨e, g1, g2⟩
    · rw [if_neg (fun q => hlast ((ltI (by omega) (by omega)).mp q)), if_neg (fun q => by have := (List.getElem?_eq_some_iff.mp q.2).1; omega)]
      have : j = 0 := by omega
      subst this
      exact ⟨p, rfl, by show _ ∧ _; omega⟩
theorem X12_behindComment {U p : Nat} {σ : SG} {T : List Nat} {u : Bool} (hU : 4000 < U) (h : LR σ T) (hp : p ≤ T.length) (hu : sI σ 1101 76 = zI u) : ∃ q u' τ, x_X12_behindComment U 1101 (nI p) σ = some (nI q, τ) ∧ sI τ 1101 76 = zI u' ∧ f1 1101 [76] σ τ ∧ p ≤ q ∧ q ≤ T.length ∧ (bP pB T p = false → (if q = p then bbS T p u = (p, u) ∧ u' = u else bbS T p u = bbS T q u')) := by
  have hl := h.2.2.1
  have hok := h.2.2.2
  unfold x_X12_behindComment
  rw [h.at (by omega), b1_eq, l47, ifA hok (by decide), nI_1, h.at (by omega), b1_eq, ifA hok (by decide), b1_eq, l42, ifA hok (by decide)]
  have stop : (T[p]? = some 47 → T[p + 1]? ≠ some 47 ∧ T[p + 1]? ≠ some 42) → ∃ q u' τ, (some (nI p, σ) : Option (Int32 × SG)) = some (nI q, τ) ∧ sI τ 1101 76 = zI u' ∧ f1 1101 [76] σ τ ∧ p ≤ q ∧ q ≤ T.length ∧ (bP pB T p = false → (if q = p then bbS T p u = (p, u) ∧ u' = u else bbS T p u = bbS T q u')) :=
    fun hs => ⟨p, u, σ, rfl, hu, f1_refl _ _ _, Nat.le_refl _, hp, fun hb => by rw [if_pos rfl]; exact ⟨bbS_stop hb hs, rfl⟩⟩
  by_cases h47 : T[p]? = some 47
  · rw [if_pos h47]
    have e2 : nI p + 2 = nI (p + 2) := nI_add p 2
    by_cases hs : T[p + 1]? = some 47
    · have h2l := (List.getElem?_eq_some_iff.mp hs).1
      have h3 := rn_le' (f := pN) (T := T) (p := p + 2) (by omega)
      rw [if_pos hs, e2, X12_line_L h (T.length - (p + 2)) (p + 2) U (by omega) (by omega)]
      exact ⟨_, u, σ, rfl, hu, f1_refl _ _ _, by omega, h3, fun _ => by rw [if_neg (by omega)]; exact bbS_line h47 hs⟩
    · rw [if_neg hs]
      by_cases ht : T[p + 1]? = some 42
      · have h2l := (List.getElem?_eq_some_iff.mp ht).1
        rw [if_pos ht, e2]
        obtain ⟨e, g1, g2⟩ := X12_star_L (U := U) (k := fun w21 => x_X12_behindComment_106 U 1101 w21 σ) h (T.length - (p + 2)) (p + 2) U (by omega) (by omega) (by omega)
        rw [g1]
        unfold x_X12_behindComment_106 x_X12_behindComment_121
        cases hq : ce T (T.length - (p + 2)) (p + 2) with
        | some q =>
          rw [hq] at g2
          simp only at g2
          subst g2
          obtain ⟨c1, c2, c3⟩ := ce_at _ _ _ hq
          have h4 := (List.getElem?_eq_some_iff.mp c2).1
          rw [nI_1, h.1, if_pos ((ltI (by omega) (by omega)).mpr h4), if_pos ((ltI (by omega) (by omega)).mpr h4)]
          have e3 : nI e + 2 = nI (e + 2) := nI_add e 2
          rw [e3]
          exact ⟨_, u, σ, rfl, hu, f1_refl _ _ _, by omega, by omega, fun _ => by rw [if_neg (by omega), bbS_star h47 ht, hq]⟩
        | none =>
          rw [hq] at g2
          simp only at g2
          rw [nI_1, h.1, if_neg (fun q => by have := (ltI (by omega) (by omega)).mp q; omega), sb_eq, sI_o (by decide), h.1, if_neg (fun q => by have := (ltI (by omega) (by omega)).mp q; omega)]
          exact ⟨T.length, true, _, rfl, sI_s _ _ _ _, f1_u (by decide), by omega, Nat.le_refl _, fun _ => by rw [if_neg (by omega), bbS_star h47 ht, hq, bbS_none (List.getElem?_eq_none (Nat.le_refl _))]⟩
      · rw [if_neg ht]; exact stop (fun _ => ⟨hs, ht⟩)
  · rw [if_neg h47]; exact stop (fun q => absurd q h47)
theorem X12_behindBlanks_L {U : Nat} {T : List Nat} (hU : 4000 < U) : ∀ (n p U1 : Nat) (σ : SG) (u : Bool), T.length ≤ p + n → n + 1 < U1 → p ≤ T.length → LR σ T → sI σ 1101 76 = zI u →
    ∃ τ, x_X12_behindBlanks_L4 U 1101 U1 (nI p) 1 σ = some (nI (bbS T p u).1, τ) ∧ sI τ 1101 76 = zI (bbS T p u).2 ∧ f1 1101 [76] σ τ := by
  intro n
  induction n with
  | zero =>
    intro p U1 σ u hn hU1 hp h hu
    have hl := h.2.2.1
    obtain ⟨V, rfl⟩ : ∃ V, U1 = V + 1 + 1 := ⟨U1 - 2, by omega⟩
    have hnone : T[p]? = none := List.getElem?_eq_none (by omega)
    have hb : bP pB T p = false := by unfold bP; rw [hnone]
    obtain ⟨q, u', τ, g1, g2, g3, g4, g5, g6⟩ := X12_behindComment hU h hp hu
    have hq : q = p := by omega
    have g7 := g6 hb
    rw [if_pos hq] at g7
    refine ⟨τ, ?_, ?_, g3⟩
    · rw [x_X12_behindBlanks_L4, if_neg (by decide), h.at (by omega), b1_eq, V_isBlank h.2.2.2, b1_eq, ifz, hb, if_neg (by decide), g1, b2_eq]
      unfold x_X12_behindBlanks_30 x_X12_behindBlanks_43
      rw [if_neg (fun z => by have := (ltI (by omega) (by omega)).mp z; omega), x_X12_behindBlanks_L4, if_pos rfl, g7.1, hq]
    · rw [g7.1, g2, g7.2]
  | succ n ih =>
    intro p U1 σ u hn hU1 hp h hu
    have hl := h.2.2.1
    obtain ⟨V, rfl⟩ : ∃ V, U1 = V + 1 + 1 := ⟨U1 - 2, by omega⟩
    rw [x_X12_behindBlanks_L4, if_neg (by decide), h.at (by omega), b1_eq, V_isBlank h.2.2.2, b1_eq, ifz]
    cases hb : bP pB T p with
    | true =>
      have hpl := (rn_yes hb).1
      rw [if_pos rfl]
      unfold x_X12_behindBlanks_30 x_X12_behindBlanks_43
      rw [nI_1, if_pos ((ltI (by omega) (by omega)).mpr (by omega)), bbS_blank hb]
      exact ih (p + 1) (V + 1) σ u (by omega) (by omega) (by omega) h hu
    | false =>
      obtain ⟨q, u', τ, g1, g2, g3, g4, g5, g6⟩ := X12_behindComment hU h hp hu
      have g7 := g6 hb
      rw [if_neg (by decide), g1, b2_eq]
      unfold x_X12_behindBlanks_30 x_X12_behindBlanks_43
      by_cases hq : q = p
      · rw [if_pos hq] at g7
        refine ⟨τ, ?_, ?_, g3⟩
        · rw [if_neg (fun z => by have := (ltI (by omega) (by omega)).mp z; omega), x_X12_behindBlanks_L4, if_pos rfl, g7.1, hq]
        · rw [g7.1, g2, g7.2]
      · rw [if_neg hq] at g7
        rw [if_pos ((ltI (by omega) (by omega)).mpr (by omega)), g7]
        obtain ⟨υ, k1, k2, k3⟩ := ih q (V + 1) τ u' (by omega) (by omega) g5 (h.f1 g3 (by decide)) g2
        exact ⟨υ, k1, k2, f1_trans g3 k3⟩
theorem X12_behindBlanks {U p : Nat} {σ : SG} {T : List Nat} {u : Bool} (hU : 4000 < U) (h : LR σ T) (hp : p ≤ T.length) (hu : sI σ 1101 76 = zI u) : ∃ τ, x_X12_behindBlanks U 1101 (nI p) σ = some (nI (bbS T p u).1, τ) ∧ sI τ 1101 76 = zI (bbS T p u).2 ∧ f1 1101 [76] σ τ := by
  have hl := h.2.2.1
  exact X12_behindBlanks_L hU (T.length - p) p U σ u (by omega) (by omega) hp h hu
