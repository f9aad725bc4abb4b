/-! ===== reading numbers of the wire: the spec, and the class ===== -/
/-- one byte more of a number -/
def vrN (S : List Nat) (e : Nat) : Nat → Nat → Nat → Int64 → Option (Int64 × Nat)
  | 0, _, _, _ => none
  | j + 1, k, p, x => if p < e then (match S[p]? with
    | none => none
    | some b => if b < 128 then some (x ||| lshl9 (lN (b % 128)) (nI (7 * k)), p + 1) else vrN S e j (k + 1) (p + 1) (x ||| lshl9 (lN (b % 128)) (nI (7 * k)))) else none
def fxN (S : List Nat) (e : Nat) : Nat → Nat → Nat → Int64 → Option (Int64 × Nat)
  | 0, _, _, _ => none
  | j + 1, k, p, x => if p < e then (match S[p]? with
    | none => none
    | some b => if j = 0 then some (x ||| lshl9 (lN b) (nI (8 * k)), p + 1) else fxN S e j (k + 1) (p + 1) (x ||| lshl9 (lN b) (nI (8 * k)))) else none
def rdN (S : List Nat) (q p e : Nat) : Option (Int64 × Nat) := if q = 0 then vrN S e 10 0 p 0 else if q = 1 then fxN S e 8 0 p 0 else if q = 5 then fxN S e 4 0 p 0 else none
theorem vrN_lt {S : List Nat} {e : Nat} : ∀ (j k p : Nat) (x v : Int64) (p' : Nat), vrN S e j k p x = some (v, p') → p < p' ∧ p' ≤ e := by
  intro j
  induction j with
  | zero => intro k p x v p' h; cases h
  | succ j ih =>
    intro k p x v p' h
    rw [vrN] at h
    by_cases q : p < e
    · rw [if_pos q] at h
      cases hb : S[p]? with
      | none => rw [hb] at h; cases h
      | some b =>
        rw [hb] at h
        simp only at h
        by_cases w : b < 128
        · rw [if_pos w] at h; cases h; omega
        · rw [if_neg w] at h
          have := ih _ _ _ _ _ h
          omega
    · rw [if_neg q] at h; cases h
theorem fxN_lt {S : List Nat} {e : Nat} : ∀ (j k p : Nat) (x v : Int64) (p' : Nat), fxN S e j k p x = some (v, p') → p < p' ∧ p' ≤ e := by
  intro j
  induction j with
  | zero => intro k p x v p' h; cases h
  | succ j ih =>
    intro k p x v p' h
    rw [fxN] at h
    by_cases q : p < e
    · rw [if_pos q] at h
      cases hb : S[p]? with
      | none => rw [hb] at h; cases h
      | some b =>
        rw [hb] at h
        simp only at h
        by_cases w : j = 0
        · rw [if_pos w] at h; cases h; omega
        · rw [if_neg w] at h
          have := ih _ _ _ _ _ h
          omega
    · rw [if_neg q] at h; cases h
theorem rdN_lt {S : List Nat} {q p e : Nat} {v : Int64} {p' : Nat} (h : rdN S q p e = some (v, p')) : p < p' ∧ p' ≤ e := by
  unfold rdN at h
  split at h
  · exact vrN_lt _ _ _ _ _ _ h
  · split at h
    · exact fxN_lt _ _ _ _ _ _ h
    · split at h
      · exact fxN_lt _ _ _ _ _ _ h
      · cases h
/-- what reading a number touches -/
def fN (σ τ : SG) : Prop := (∀ b, b ≠ 1094 → sm σ τ b) ∧ sI τ 1094 5 = sI σ 1094 5
theorem fN_refl (σ : SG) : fN σ σ := ⟨fun b _ => sm_refl σ b, rfl⟩
theorem fN_trans {σ τ υ : SG} (h : fN σ τ) (h' : fN τ υ) : fN σ υ := ⟨fun b hb => sm_trans (h.1 b hb) (h'.1 b hb), h'.2.trans h.2⟩
theorem fX_N {σ τ : SG} (h : fN σ τ) : fX σ τ := ⟨fun b hb => h.1 b (by omega), fun k _ => h.1 389 (by decide) k, h.2, (h.1 1095 (by decide) 5).1, (h.1 1092 (by decide) 2).1⟩
theorem and127 : ∀ b, b < 256 → (Int32.toInt64 (nI b)) &&& 127 = lN (b % 128) := by decide +kernel
/-- the outcome of reading a number -/
def ON (σ : SG) (o : Option (Int64 × Nat)) (x : Option (Int32 × SG)) : Prop := ∃ τ, x = some (zI o.isSome, τ) ∧ fN σ τ ∧ ∀ v p, o = some (v, p) → sL τ 1094 4 = v ∧ sI τ 1094 3 = nI p
theorem X9_rn_step {U k e : Nat} {σ : SG} {x y : Int64} {v1 v3 v4 : Int32} {K : Int32 → SG → Option (Int32 × SG)} (v6 : Int64) : x_X9_readNumber_110 U 1094 K v1 (nI e) v3 v4 (nI k) v6 y x σ = if v1 = 0 then (if v6 < 128 then some (1, uL σ 1094 4 (x ||| lshl9 y (v3 * nI k))) else K (nI (k + 1)) (uL σ 1094 4 (x ||| lshl9 y (v3 * nI k)))) else (if nI k = v4 - 1 then some (1, uL σ 1094 4 (x ||| lshl9 y (v3 * nI k))) else K (nI (k + 1)) (uL σ 1094 4 (x ||| lshl9 y (v3 * nI k)))) := by
  unfold x_X9_readNumber_110 x_X9_readNumber_146
  rw [sb_eq, nI_1]
theorem X9_var_L {U e : Nat} {S : List Nat} (he : e ≤ S.length) (hS8 : ok8 S) (hSl : S.length ≤ 700) : ∀ (j k p U1 : Nat) (σ : SG) (x : Int64), j + k = 10 → j < U1 → p ≤ e → RB σ 1 S 0 → sI σ 1094 3 = nI p → sL σ 1094 4 = x →
    ON σ (vrN S e j k p x) (x_X9_readNumber_L51 U 1094 0 (nI e) 7 10 U1 (nI k) σ) := by
  intro j
  induction j with
  | zero =>
    intro k p U1 σ x hk hu hp hS h3 h4
    obtain ⟨V, rfl⟩ : ∃ V, U1 = V + 1 := ⟨U1 - 1, by omega⟩
    rw [x_X9_readNumber_L51, show (10 : Int32) = nI 10 from rfl, if_neg (fun z => by have := (ltI (by omega) (by decide)).mp z; omega)]
    exact ⟨σ, rfl, fN_refl σ, fun v p h => by cases h⟩
  | succ j ih =>
    intro k p U1 σ x hk hu hp hS h3 h4
    obtain ⟨V, rfl⟩ : ∃ V, U1 = V + 1 := ⟨U1 - 1, by omega⟩
    rw [x_X9_readNumber_L51, show (10 : Int32) = nI 10 from rfl, if_pos ((ltI (by omega) (by decide)).mpr (by omega)), h3, ifd (ltI (by omega) (by omega)), vrN]
    by_cases q : p < e
    · rw [if_pos q, if_pos q, X0_at hS (by omega), b1_eq, sb_eq, if_pos rfl, nI_1]
      have hpl : p < S.length := by omega
      have hb := List.getElem?_eq_getElem hpl
      have h256 := hS8 _ (List.getElem_mem hpl)
      rw [hb]
      simp only
      rw [bA_some hb, and127 _ h256, X9_rn_step, if_pos rfl, sL_uI, h4, show (7 : Int32) = nI 7 from rfl, pk_mul]
      have lt : Int32.toInt64 (nI S[p]) < 128 ↔ S[p] < 128 := by rw [nI_l (by omega)]; exact lN_lt (b := 128) (by omega) (by decide)
      rw [ifd lt]
      have fS : fN σ (uL (uI σ 1094 3 (nI (p + 1))) 1094 4 (x ||| lshl9 (lN (S[p] % 128)) (nI (7 * k)))) := ⟨fun b hb => sm_trans (sm_uI hb) (sm_uL hb), by rw [sI_uL, sI_o (Or.inr (by decide))]⟩
      by_cases w : S[p] < 128
      · rw [if_pos w, if_pos w]
        exact ⟨_, rfl, fS, fun v p' h => by cases h; exact ⟨sL_s _ _ _ _, by rw [sI_uL, sI_s]⟩⟩
      · rw [if_neg w, if_neg w]
        obtain ⟨τ, t1, t2, t3⟩ := ih (k + 1) (p + 1) V (uL (uI σ 1094 3 (nI (p + 1))) 1094 4 (x ||| lshl9 (lN (S[p] % 128)) (nI (7 * k)))) _ (by omega) (by omega) (by omega) (hS.sm (fS.1 _ (by decide)) (fS.1 _ (by decide))) (by rw [sI_uL, sI_s]) (sL_s _ _ _ _)
        exact ⟨τ, t1, fN_trans fS t2, t3⟩
    · rw [if_neg q, if_neg q]
      exact ⟨σ, rfl, fN_refl σ, fun v p h => by cases h⟩
theorem X9_fix_L {U e w q : Nat} {S : List Nat} (he : e ≤ S.length) (hS8 : ok8 S) (hSl : S.length ≤ 700) (hq : q = 1 ∨ q = 5) (hw : 0 < w) (hw9 : w < 10) : ∀ (j k p U1 : Nat) (σ : SG) (x : Int64), j + k = w → j < U1 → p ≤ e → RB σ 1 S 0 → sI σ 1094 3 = nI p → sL σ 1094 4 = x →
    ON σ (fxN S e j k p x) (x_X9_readNumber_L51 U 1094 (nI q) (nI e) 8 (nI w) U1 (nI k) σ) := by
  have q0 : ¬ nI q = 0 := by rcases hq with z | z <;> subst z <;> decide
  intro j
  induction j with
  | zero =>
    intro k p U1 σ x hk hu hp hS h3 h4
    obtain ⟨V, rfl⟩ : ∃ V, U1 = V + 1 := ⟨U1 - 1, by omega⟩
    rw [x_X9_readNumber_L51, if_neg (fun z => by have := (ltI (by omega) (by omega)).mp z; omega)]
    exact ⟨σ, rfl, fN_refl σ, fun v p h => by cases h⟩
  | succ j ih =>
    intro k p U1 σ x hk hu hp hS h3 h4
    obtain ⟨V, rfl⟩ : ∃ V, U1 = V + 1 := ⟨U1 - 1, by omega⟩
    rw [x_X9_readNumber_L51, if_pos ((ltI (by omega) (by omega)).mpr (by omega)), h3, ifd (ltI (by omega) (by omega)), fxN]
    by_cases q : p < e
    · rw [if_pos q, if_pos q, X0_at hS (by omega), b1_eq, sb_eq, if_neg q0, nI_1]
      have hpl : p < S.length := by omega
      have hb := List.getElem?_eq_getElem hpl
      have h256 := hS8 _ (List.getElem_mem hpl)
      rw [hb]
      simp only
      rw [bA_some hb, nI_l (by omega), X9_rn_step, if_neg q0, sL_uI, h4, show (8 : Int32) = nI 8 from rfl, pk_mul, show (1 : Int32) = nI 1 from rfl, nI_sub (by omega), ifd (nI_eq (by omega) (by omega))]
      have fS : fN σ (uL (uI σ 1094 3 (nI (p + 1))) 1094 4 (x ||| lshl9 (lN S[p]) (nI (8 * k)))) := ⟨fun b hb => sm_trans (sm_uI hb) (sm_uL hb), by rw [sI_uL, sI_o (Or.inr (by decide))]⟩
      by_cases z : j = 0
      · rw [if_pos (show k = w - 1 by omega), if_pos z]
        exact ⟨_, rfl, fS, fun v p' h => by cases h; exact ⟨sL_s _ _ _ _, by rw [sI_uL, sI_s]⟩⟩
      · rw [if_neg (show ¬ k = w - 1 by omega), if_neg z]
        obtain ⟨τ, t1, t2, t3⟩ := ih (k + 1) (p + 1) V (uL (uI σ 1094 3 (nI (p + 1))) 1094 4 (x ||| lshl9 (lN S[p]) (nI (8 * k)))) _ (by omega) (by omega) (by omega) (hS.sm (fS.1 _ (by decide)) (fS.1 _ (by decide))) (by rw [sI_uL, sI_s]) (sL_s _ _ _ _)
        exact ⟨τ, t1, fN_trans fS t2, t3⟩
    · rw [if_neg q, if_neg q]
      exact ⟨σ, rfl, fN_refl σ, fun v p h => by cases h⟩
theorem X9_readNumber {U p e q : Nat} {S : List Nat} {σ : SG} (hU : 4000 < U) (he : e ≤ S.length) (hq : q < 8) (hp : p ≤ e) (hS : RB σ 1 S 0) (h3 : sI σ 1094 3 = nI p) : ON σ (rdN S q p e) (x_X9_readNumber U 1094 (nI q) (nI e) σ) := by
  have hS8 : ok8 S := hS.2.2.2.2
  have hSl : S.length ≤ 700 := hS.2.2.1
  have f0 : fN σ (uL σ 1094 4 0) := ⟨fun b hb => sm_uL hb, rfl⟩
  have S0 := hS.sm (f0.1 1 (by decide)) (f0.1 2 (by decide))
  have tr : ∀ o x, ON (uL σ 1094 4 0) o x → ON σ o x := fun o x h => by obtain ⟨τ, a, b, c⟩ := h; exact ⟨τ, a, fN_trans f0 b, c⟩
  unfold x_X9_readNumber x_X9_readNumber_11 x_X9_readNumber_41 rdN
  by_cases q0 : q = 0
  · subst q0
    rw [if_pos (show nI 0 = 0 from rfl), if_pos (show nI 0 = 0 from rfl), if_pos rfl, sb_eq]
    exact tr _ _ (X9_var_L he hS8 hSl 10 0 p U _ 0 (by omega) (by omega) hp S0 h3 (sL_s _ _ _ _))
  rw [if_neg (show ¬ nI q = 0 from fun z => q0 ((nI_eq (b := 0) (by omega) (by decide)).mp z)), if_neg (show ¬ nI q = 0 from fun z => q0 ((nI_eq (b := 0) (by omega) (by decide)).mp z)), if_neg q0]
  by_cases q1 : q = 1
  · subst q1
    rw [if_pos (show nI 1 = 1 from rfl), if_pos rfl, sb_eq]
    exact tr _ _ (X9_fix_L (w := 8) (q := 1) he hS8 hSl (Or.inl rfl) (by decide) (by decide) 8 0 p U _ 0 (by omega) (by omega) hp S0 h3 (sL_s _ _ _ _))
  rw [if_neg (show ¬ nI q = 1 from fun z => q1 ((nI_eq (b := 1) (by omega) (by decide)).mp z)), if_neg q1]
  by_cases q5 : q = 5
  · subst q5
    rw [if_pos (show nI 5 = 5 from rfl), if_pos rfl, sb_eq]
    exact tr _ _ (X9_fix_L (w := 4) (q := 5) he hS8 hSl (Or.inr rfl) (by decide) (by decide) 4 0 p U _ 0 (by omega) (by omega) hp S0 h3 (sL_s _ _ _ _))
  rw [if_neg (show ¬ nI q = 5 from fun z => q5 ((nI_eq (b := 5) (by omega) (by decide)).mp z)), if_neg q5]
  obtain ⟨V, rfl⟩ : ∃ V, U = V + 1 := ⟨U - 1, by omega⟩
  rw [sb_eq, x_X9_readNumber_L51, if_neg (by decide)]
  exact ⟨_, rfl, f0, fun v p h => by cases h⟩
/-- a type's kind on the wire -/
def kdO (t : Nat) : Nat := if t = 6 ∨ t = 8 then 5 else if t = 7 ∨ t = 9 then 1 else if t = 11 ∨ t = 12 ∨ t = 13 then 2 else 0
theorem X9_kindOf {t : Nat} (h : t ≤ 14) : x_X9_kindOf (nI t) = some (nI (kdO t)) := (by decide +kernel : ∀ t, t < 15 → x_X9_kindOf (nI t) = some (nI (kdO t))) t (by omega)
theorem N_kindOf {t : Nat} (h : t ≤ 14) : x_X12_kindOf (nI t) = some (nI (kdO t)) := (by decide +kernel : ∀ t, t < 15 → x_X12_kindOf (nI t) = some (nI (kdO t))) t (by omega)
theorem kdO_nmr {t : Nat} (h : t ≤ 14) : (kdO t = 2 ↔ nmr t = false) ∧ kdO t < 8 := (by decide +kernel : ∀ t, t < 15 → (kdO t = 2 ↔ nmr t = false) ∧ kdO t < 8) t (by omega)
