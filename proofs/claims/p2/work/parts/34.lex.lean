/-! ===== bytes and words: the spec, and how the class scans ===== -/
def zI (b : Bool) : Int32 := if b then 1 else 0
def pB (c : Nat) : Bool := c == 9 || c == 10 || c == 13 || c == 32
def pL (c : Nat) : Bool := (97 ≤ c && c ≤ 122) || (65 ≤ c && c ≤ 90)
def pD (c : Nat) : Bool := 48 ≤ c && c ≤ 57
def pW (c : Nat) : Bool := pL c || pD c || c == 95
def pH (c : Nat) : Bool := pD c || (97 ≤ c && c ≤ 102) || (65 ≤ c && c ≤ 70)
def hexV (c : Nat) : Nat := if pD c then c - 48 else if 97 ≤ c then c - 87 else c - 55
def pT (c : Nat) : Bool := 32 ≤ c && c ≤ 126 && c != 34 && c != 92
def pN (c : Nat) : Bool := c != 10
def bP (f : Nat → Bool) (T : List Nat) (p : Nat) : Bool := match T[p]? with
  | some c => f c
  | none => false
def σ0 : SG := (fun _ _ => 0, fun _ _ => 0, fun _ _ => none)
def ok8 (T : List Nat) : Prop := ∀ c ∈ T, c < 256
theorem zI0 : zI false = 0 := rfl
theorem zI1 : zI true = 1 := rfl
theorem ifz {α : Type} (b : Bool) (A B : α) : (if zI b = 0 then A else B) = if b then B else A := by cases b <;> rfl
theorem bA_some {T : List Nat} {p c : Nat} (h : T[p]? = some c) : bA T p = nI c := by unfold bA; rw [h]
theorem bA_none {T : List Nat} {p : Nat} (h : T[p]? = none) : bA T p = -1 := by unfold bA; rw [h]
theorem bA_is {T : List Nat} {p c : Nat} (hT : ok8 T) (hc : c < 256) : bA T p = nI c ↔ T[p]? = some c := by
  cases h : T[p]? with
  | none => rw [bA_none h]; exact ⟨fun q => absurd q ((by decide +kernel : ∀ c, c < 256 → ¬ (-1 : Int32) = nI c) c hc), fun q => by cases q⟩
  | some d =>
    have hd := hT d (List.mem_of_getElem? h)
    rw [bA_some h, nI_eq (by omega) (by omega)]
    exact ⟨fun q => by rw [q], fun q => Option.some.inj q⟩
theorem ifA {α : Type} {T : List Nat} {p c : Nat} (hT : ok8 T) (hc : c < 256) (A B : α) : (if bA T p = nI c then A else B) = if T[p]? = some c then A else B := by
  by_cases h : T[p]? = some c
  · rw [if_pos ((bA_is hT hc).mpr h), if_pos h]
  · rw [if_neg (fun q => h ((bA_is hT hc).mp q)), if_neg h]
theorem bA_neg {T : List Nat} {p : Nat} (hT : ok8 T) : bA T p < 0 ↔ T[p]? = none := by
  cases h : T[p]? with
  | none => rw [bA_none h]; exact ⟨fun _ => rfl, fun _ => by decide⟩
  | some d =>
    have hd := hT d (List.mem_of_getElem? h)
    rw [bA_some h]; exact ⟨fun q => absurd q (nI_neg (by omega)), fun q => by cases q⟩
theorem bA_lift {g : Int32 → Option Int32} {f : Nat → Bool} (h : ∀ c, c < 256 → g (nI c) = some (zI (f c))) (h1 : g (-1) = some 0) {T : List Nat} (hT : ok8 T) (p : Nat) : g (bA T p) = some (zI (bP f T p)) := by
  unfold bP
  cases e : T[p]? with
  | none => rw [bA_none e]; exact h1
  | some c => rw [bA_some e]; exact h c (hT c (List.mem_of_getElem? e))
theorem W_isBlank {T : List Nat} (hT : ok8 T) (p : Nat) : x_X11_isBlank (bA T p) = some (zI (bP pB T p)) := bA_lift (by decide +kernel) (by decide +kernel) hT p
theorem W_isLetter {T : List Nat} (hT : ok8 T) (p : Nat) (σ : SG) : x_X11_isLetter (bA T p) σ = some (zI (bP pL T p)) := bA_lift (g := fun v => x_X11_isLetter v σ) (by show ∀ c, c < 256 → x_X11_isLetter (nI c) σ0 = _; decide +kernel) (by show x_X11_isLetter (-1) σ0 = _; decide +kernel) hT p
theorem W_isWordByte {T : List Nat} (hT : ok8 T) (p : Nat) (σ : SG) : x_X11_isWordByte (bA T p) σ = some (zI (bP pW T p)) := bA_lift (g := fun v => x_X11_isWordByte v σ) (by show ∀ c, c < 256 → x_X11_isWordByte (nI c) σ0 = _; decide +kernel) (by show x_X11_isWordByte (-1) σ0 = _; decide +kernel) hT p
theorem V_isBlank {T : List Nat} (hT : ok8 T) (p : Nat) : x_X12_isBlank (bA T p) = some (zI (bP pB T p)) := bA_lift (by decide +kernel) (by decide +kernel) hT p
theorem V_isDigit {T : List Nat} (hT : ok8 T) (p : Nat) : x_X12_isDigit (bA T p) = some (zI (bP pD T p)) := bA_lift (by decide +kernel) (by decide +kernel) hT p
theorem V_isLetter {T : List Nat} (hT : ok8 T) (p : Nat) (σ : SG) : x_X12_isLetter (bA T p) σ = some (zI (bP pL T p)) := bA_lift (g := fun v => x_X12_isLetter v σ) (by show ∀ c, c < 256 → x_X12_isLetter (nI c) σ0 = _; decide +kernel) (by show x_X12_isLetter (-1) σ0 = _; decide +kernel) hT p
theorem V_isPart {T : List Nat} (hT : ok8 T) (p : Nat) (σ : SG) : x_X12_isPart (bA T p) σ = some (zI (bP pW T p)) := bA_lift (g := fun v => x_X12_isPart v σ) (by show ∀ c, c < 256 → x_X12_isPart (nI c) σ0 = _; decide +kernel) (by show x_X12_isPart (-1) σ0 = _; decide +kernel) hT p
/-- how many bytes of a kind stand from a place on -/
def rn (f : Nat → Bool) (T : List Nat) (p : Nat) : Nat := ((T.drop p).takeWhile f).length
theorem rn_ge {f : Nat → Bool} {T : List Nat} {p : Nat} (h : T.length ≤ p) : rn f T p = 0 := by
  unfold rn; rw [List.drop_eq_nil_of_le h]; rfl
theorem rn_lt {f : Nat → Bool} {T : List Nat} {p : Nat} (h : p < T.length) : rn f T p = if f T[p] then rn f T (p + 1) + 1 else 0 := by
  unfold rn
  rw [List.drop_eq_getElem_cons h, List.takeWhile_cons]
  split <;> simp
theorem rn_no {f : Nat → Bool} {T : List Nat} {p : Nat} (h : bP f T p = false) : rn f T p = 0 := by
  rcases Nat.lt_or_ge p T.length with q | q
  · rw [rn_lt q, if_neg]
    unfold bP at h; rw [List.getElem?_eq_getElem q] at h; simpa using h
  · exact rn_ge q
theorem rn_yes {f : Nat → Bool} {T : List Nat} {p : Nat} (h : bP f T p = true) : p < T.length ∧ rn f T p = rn f T (p + 1) + 1 := by
  rcases Nat.lt_or_ge p T.length with q | q
  · refine ⟨q, ?_⟩
    rw [rn_lt q, if_pos]
    unfold bP at h; rw [List.getElem?_eq_getElem q] at h; exact h
  · unfold bP at h; rw [List.getElem?_eq_none q] at h; cases h
theorem rn_le {f : Nat → Bool} {T : List Nat} : ∀ (j p : Nat), p + j = T.length → p + rn f T p ≤ T.length := by
  intro j
  induction j with
  | zero => intro p h; rw [rn_ge (by omega)]; omega
  | succ j ih =>
    intro p h
    rw [rn_lt (by omega)]
    have := ih (p + 1) (by omega)
    split <;> omega
theorem rn_le' {f : Nat → Bool} {T : List Nat} {p : Nat} (h : p ≤ T.length) : p + rn f T p ≤ T.length := rn_le (T.length - p) p (by omega)
/-- the byte behind such bytes is none of them -/
theorem rn_end {f : Nat → Bool} {T : List Nat} : ∀ (j p : Nat), p + j = T.length → bP f T (p + rn f T p) = false := by
  intro j
  induction j with
  | zero => intro p h; rw [rn_ge (by omega)]; unfold bP; rw [List.getElem?_eq_none (by omega)]
  | succ j ih =>
    intro p h
    cases hb : bP f T p with
    | false => rw [rn_no hb]; exact hb
    | true =>
      rw [(rn_yes hb).2, show p + (rn f T (p + 1) + 1) = p + 1 + rn f T (p + 1) by omega]
      exact ih (p + 1) (by omega)
/-- the class's words over a text -/
def LX (σ : SG) (w : Nat) (T : List Nat) : Prop := sh w = 10 ∧ RB σ (w - 184) T 0 ∧ sI σ w 6 = nI T.length ∧ T.length ≤ 700
theorem LX.ok8 {σ : SG} {w : Nat} {T : List Nat} (h : LX σ w T) : ok8 T := h.2.1.2.2.2.2
theorem LX.at {σ : SG} {w p : Nat} {T : List Nat} (h : LX σ w T) (hp : p < 2 ^ 31) : x_X0_at (w - 184) (nI p) σ = some (bA T p) := X0_at h.2.1 hp
theorem X10_nameEnd_L {U w : Nat} {σ : SG} {T : List Nat} (h : LX σ w T) : ∀ (j p U1 : Nat), p + j = T.length → j < U1 → x_X10_nameEnd_L2 U w σ U1 (nI p) = some (nI (p + rn pW T p)) := by
  have hl := h.2.2.2
  intro j
  induction j with
  | zero =>
    intro p U1 hp hU
    obtain ⟨V, rfl⟩ : ∃ V, U1 = V + 1 := ⟨U1 - 1, by omega⟩
    rw [x_X10_nameEnd_L2, h.2.2.1, if_neg (fun q => by have := (ltI (by omega) (by omega)).mp q; omega), rn_ge (by omega)]; rfl
  | succ j ih =>
    intro p U1 hp hU
    obtain ⟨V, rfl⟩ : ∃ V, U1 = V + 1 := ⟨U1 - 1, by omega⟩
    rw [x_X10_nameEnd_L2, h.2.2.1, if_pos ((ltI (by omega) (by omega)).mpr (by omega)), h.at (by omega), b1_eq, W_isWordByte h.ok8, b1_eq, ifz]
    cases hb : bP pW T p with
    | false => rw [rn_no hb]; rfl
    | true =>
      rw [(rn_yes hb).2]
      show x_X10_nameEnd_L2 U w σ V (nI p + 1) = _
      rw [nI_1, ih (p + 1) V (by omega) (by omega)]
      congr 2; omega
theorem X10_nameEnd {U w p : Nat} {σ : SG} {T : List Nat} (hU : 4000 < U) (h : LX σ w T) (hp : p ≤ T.length) : x_X10_nameEnd U w (nI p) σ = some (nI (p + rn pW T p)) := X10_nameEnd_L h (T.length - p) p U (by omega) (by have := h.2.2.2; omega)
theorem l10 : (10 : Int32) = nI 10 := rfl
theorem l47 : (47 : Int32) = nI 47 := rfl
theorem l42 : (42 : Int32) = nI 42 := rfl
theorem bP_pN {T : List Nat} {p : Nat} (h : p < T.length) : (T[p]? = some 10) ↔ bP pN T p = false := by
  unfold bP pN
  rw [List.getElem?_eq_getElem h]
  constructor
  · intro q; have := Option.some.inj q; simp [this]
  · intro q; simp at q; rw [q]
theorem X10_lineEnd_L {U w : Nat} {σ : SG} {T : List Nat} (h : LX σ w T) : ∀ (j p U1 : Nat), p + j = T.length → j < U1 → x_X10_lineEnd_L2 U w σ U1 (nI p) = some (nI (p + rn pN T p)) := by
  have hl := h.2.2.2
  intro j
  induction j with
  | zero =>
    intro p U1 hp hU
    obtain ⟨V, rfl⟩ : ∃ V, U1 = V + 1 := ⟨U1 - 1, by omega⟩
    rw [x_X10_lineEnd_L2, h.2.2.1, if_neg (fun q => by have := (ltI (by omega) (by omega)).mp q; omega), rn_ge (by omega)]; rfl
  | succ j ih =>
    intro p U1 hp hU
    obtain ⟨V, rfl⟩ : ∃ V, U1 = V + 1 := ⟨U1 - 1, by omega⟩
    have hpl : p < T.length := by omega
    rw [x_X10_lineEnd_L2, h.2.2.1, if_pos ((ltI (by omega) (by omega)).mpr (by omega)), h.at (by omega), b1_eq, l10, ifA h.ok8 (by decide)]
    cases hb : bP pN T p with
    | false => rw [rn_no hb, if_pos ((bP_pN hpl).mpr hb)]; rfl
    | true =>
      rw [(rn_yes hb).2, if_neg (fun q => by rw [(bP_pN hpl).mp q] at hb; cases hb), nI_1, ih (p + 1) V (by omega) (by omega)]
      congr 2; omega
theorem X10_lineEnd {U w p : Nat} {σ : SG} {T : List Nat} (hU : 4000 < U) (h : LX σ w T) (hp : p ≤ T.length) : x_X10_lineEnd U w (nI p) σ = some (nI (p + rn pN T p)) := X10_lineEnd_L h (T.length - p) p U (by omega) (by have := h.2.2.2; omega)
/-- the first * with a / behind it, from p on, among n places -/
def ce (T : List Nat) : Nat → Nat → Option Nat
  | 0, _ => none
  | n + 1, p => if T[p]? = some 42 ∧ T[p + 1]? = some 47 then some p else ce T n (p + 1)
theorem ce_at {T : List Nat} : ∀ (n p q : Nat), ce T n p = some q → T[q]? = some 42 ∧ T[q + 1]? = some 47 ∧ p ≤ q := by
  intro n
  induction n with
  | zero => intro p q h; cases h
  | succ n ih =>
    intro p q h
    rw [ce] at h
    by_cases hc : T[p]? = some 42 ∧ T[p + 1]? = some 47
    · rw [if_pos hc] at h; cases h; exact ⟨hc.1, hc.2, Nat.le_refl _⟩
    · rw [if_neg hc] at h; have := ih (p + 1) q h; exact ⟨this.1, this.2.1, by omega⟩
theorem X10_commentEnd_L {U w : Nat} {σ : SG} {T : List Nat} {k : Option (Int32 × SG)} (h : LX σ w T) : ∀ (j p U1 : Nat), p + j = T.length → j < U1 → x_X10_commentEnd_L2 U w k σ U1 (nI p) = (match ce T j p with | some q => some (nI (q + 1), σ) | none => k) := by
  have hl := h.2.2.2
  intro j
  induction j with
  | zero =>
    intro p U1 hp hU
    obtain ⟨V, rfl⟩ : ∃ V, U1 = V + 1 := ⟨U1 - 1, by omega⟩
    rw [x_X10_commentEnd_L2, h.2.2.1, if_neg (fun q => by have := (ltI (by omega) (by omega)).mp q; omega)]; rfl
  | succ j ih =>
    intro p U1 hp hU
    obtain ⟨V, rfl⟩ : ∃ V, U1 = V + 1 := ⟨U1 - 1, by omega⟩
    rw [x_X10_commentEnd_L2, h.2.2.1, if_pos ((ltI (by omega) (by omega)).mpr (by omega)), h.at (by omega), b1_eq, l42, ifA h.ok8 (by decide), nI_1, h.at (by omega), b1_eq, l47, ifA h.ok8 (by decide), ce]
    unfold x_X10_commentEnd_42
    rw [nI_1, ih (p + 1) V (by omega) (by omega)]
    by_cases h1 : T[p]? = some 42
    · rw [if_pos h1]
      by_cases h2 : T[p + 1]? = some 47
      · rw [if_pos h2, if_pos ⟨h1, h2⟩]
      · rw [if_neg h2, if_neg (fun q => h2 q.2)]
    · rw [if_neg h1, if_neg (fun q => h1 q.1)]
theorem X10_commentEnd {U w p : Nat} {σ : SG} {T : List Nat} (hU : 4000 < U) (h : LX σ w T) (hp : p ≤ T.length) : x_X10_commentEnd U w (nI p) σ = (match ce T (T.length - p) p with | some q => some (nI (q + 1), σ) | none => some (nI T.length, uI σ w 7 1)) := by
  unfold x_X10_commentEnd
  rw [X10_commentEnd_L h (T.length - p) p U (by omega) (by have := h.2.2.2; omega)]
  cases ce T (T.length - p) p with
  | some q => rfl
  | none => rw [sb_eq, sI_o (Or.inr (by decide)), h.2.2.1]
