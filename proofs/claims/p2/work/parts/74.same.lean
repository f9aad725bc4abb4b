/-! ===== names: what a declaration's words are; comparing texts ===== -/
/-- the first place whose thing has a property, from a place on -/
def ff {α : Type} (p : α → Bool) : List α → Nat → Option Nat
  | [], _ => none
  | d :: L, k => if p d then some k else ff p L (k + 1)
theorem ff_some {α : Type} {p : α → Bool} : ∀ (L : List α) (k i : Nat), ff p L k = some i → ∃ d, L[i - k]? = some d ∧ p d = true ∧ k ≤ i ∧ ∀ j x, j < i - k → L[j]? = some x → p x = false := by
  intro L
  induction L with
  | nil => intro k i h; cases h
  | cons d L ih =>
    intro k i h
    rw [ff] at h
    cases e : p d with
    | true =>
      rw [e, if_pos rfl] at h
      cases h
      exact ⟨d, by rw [Nat.sub_self]; rfl, e, Nat.le_refl _, fun j x hj => by omega⟩
    | false =>
      rw [e, if_neg (by decide)] at h
      obtain ⟨x, h1, h2, h3, h4⟩ := ih (k + 1) i h
      have hi : i - k = (i - (k + 1)) + 1 := by omega
      refine ⟨x, by rw [hi]; exact h1, h2, by omega, fun j y hj hy => ?_⟩
      cases j with
      | zero => simp at hy; rw [← hy]; exact e
      | succ j => exact h4 j y (by omega) hy
theorem ff_none {α : Type} {p : α → Bool} : ∀ (L : List α) (k : Nat), ff p L k = none → ∀ x ∈ L, p x = false := by
  intro L
  induction L with
  | nil => intro k _ x hx; cases hx
  | cons d L ih =>
    intro k h x hx
    rw [ff] at h
    cases e : p d with
    | true => rw [e, if_pos rfl] at h; cases h
    | false =>
      rw [e, if_neg (by decide)] at h
      rcases List.mem_cons.mp hx with q | q
      · rw [q]; exact e
      · exact ih (k + 1) h x q
theorem ff_here {α : Type} {p : α → Bool} : ∀ (L : List α) (k i : Nat) (d : α), L[i]? = some d → p d = true → (∀ j x, j < i → L[j]? = some x → p x = false) → ff p L k = some (k + i) := by
  intro L
  induction L with
  | nil => intro k i d h; simp at h
  | cons a L ih =>
    intro k i d h hp hb
    rw [ff]
    cases i with
    | zero => simp at h; rw [h, hp, if_pos rfl]; rfl
    | succ i =>
      rw [hb 0 a (by omega) rfl, if_neg (by decide), ih (k + 1) i d (by simpa using h) hp (fun j x hj hx => hb (j + 1) x (by omega) (by simpa using hx))]
      congr 1; omega
theorem ff_no {α : Type} {p : α → Bool} : ∀ (L : List α) (k : Nat), (∀ x ∈ L, p x = false) → ff p L k = none := by
  intro L
  induction L with
  | nil => intro k _; rfl
  | cons a L ih =>
    intro k h
    rw [ff, h a (List.mem_cons_self ..), if_neg (by decide)]
    exact ih _ (fun x hx => h x (List.mem_cons_of_mem _ hx))
theorem ff_drop {α : Type} {p : α → Bool} {L : List α} {k : Nat} {d : α} (h : L[k]? = some d) : ff p (L.drop k) k = if p d then some k else ff p (L.drop (k + 1)) (k + 1) := by
  obtain ⟨hk, he⟩ := List.getElem?_eq_some_iff.mp h
  rw [List.drop_eq_getElem_cons hk, ff, he]
theorem nB_inj {a b : Nat} (ha : a < 256) (hb : b < 256) : nB a = nB b ↔ a = b := by
  refine ⟨fun h => ?_, fun h => by rw [h]⟩
  have h1 := nB_and ha
  rw [h, nB_and hb, nI_eq (by omega) (by omega)] at h1
  exact h1.symm
theorem slc_cons {T : List Nat} {s e : Nat} (h : s < e) (hs : s < T.length) : slc T s e = T[s] :: slc T (s + 1) e := by
  unfold slc
  rw [List.drop_eq_getElem_cons hs, show e - s = (e - (s + 1)) + 1 by omega, List.take_succ_cons]
theorem slc_nil {T : List Nat} {s e : Nat} (h : e ≤ s) : slc T s e = [] := by unfold slc; rw [show e - s = 0 by omega, List.take_zero]
theorem slc_out {T : List Nat} {s e : Nat} (h : T.length ≤ s) : slc T s e = [] := by unfold slc; rw [List.drop_eq_nil_of_le h, List.take_nil]
theorem ifd {α : Type} {p q : Prop} [Decidable p] [Decidable q] (h : p ↔ q) {A B : α} : (if p then A else B) = if q then A else B := by
  by_cases hp : p
  · rw [if_pos hp, if_pos (h.mp hp)]
  · rw [if_neg hp, if_neg (fun z => hp (h.mpr z))]
theorem zI_if {p : Prop} [Decidable p] : (if p then some 1 else some 0) = some (zI (decide p)) := by
  by_cases h : p
  · rw [if_pos h, decide_eq_true h]; rfl
  · rw [if_neg h, decide_eq_false h]; rfl
/-- the class compares two pieces of texts -/
theorem X0_isSame_L {U a b f to p : Nat} {σ : SG} {T S : List Nat} {z y : Int32} (hb0 : sh b = 0) (ha : RB σ a T z) (hb : RB σ b S y) (hto : to ≤ S.length) (hp : p < 2 ^ 30) : ∀ (j k U1 : Nat), k + j = to → f ≤ k → j < U1 →
    x_X0_isSame_L32 U a (nI p) (some b) (nI f) (nI to) σ U1 (nI k) = some (zI (decide (slc T (p + (k - f)) (p + (to - f)) = slc S k to))) := by
  have hla := ln_small (a + 1)
  have hlb := ln_small (b + 1)
  have hSl : S.length ≤ 4000 := Nat.le_trans hb.2.2.1 hlb
  have hTl : T.length ≤ 4000 := Nat.le_trans ha.2.2.1 hla
  intro j
  induction j with
  | zero =>
    intro k U1 hk hf hu
    obtain ⟨V, rfl⟩ : ∃ V, U1 = V + 1 := ⟨U1 - 1, by omega⟩
    rw [x_X0_isSame_L32, if_neg (fun q => by have := (ltI (by omega) (by omega)).mp q; omega), slc_nil (by omega), slc_nil (by omega)]
    rfl
  | succ j ih =>
    intro k U1 hk hf hu
    obtain ⟨V, rfl⟩ : ∃ V, U1 = V + 1 := ⟨U1 - 1, by omega⟩
    have hkS : k < S.length := by omega
    rw [x_X0_isSame_L32, if_pos ((ltI (by omega) (by omega)).mpr (by omega)), nI_add, nI_sub (by omega), show p + k - f = p + (k - f) by omega, ha.1, slc_cons (show k < to by omega) hkS]
    by_cases hq : p + (k - f) < T.length
    · rw [if_pos ((ltI (by omega) (by omega)).mpr hq), if_pos ((ltI (by omega) (by omega)).mpr (by have := ha.2.2.1; omega)), ix_in (by have := ha.2.2.1; omega) (by omega), ck_eq hb0, ix_in (by have := hb.2.2.1; omega) (by omega), ha.2.2.2.1 _ _ (List.getElem?_eq_getElem hq), hb.2.2.2.1 _ _ (List.getElem?_eq_getElem hkS), slc_cons (show p + (k - f) < p + (to - f) by omega) hq, nI_1, ih (k + 1) V (by omega) (by omega) (by omega), show p + (k + 1 - f) = p + (k - f) + 1 by omega]
      by_cases hc : T[p + (k - f)] = S[k]
      · rw [if_pos (by rw [hc]), hc]
        congr 2
        apply Bool.eq_iff_iff.mpr
        rw [decide_eq_true_iff, decide_eq_true_iff]
        exact ⟨fun q => by rw [q], fun q => (List.cons.inj q).2⟩
      · rw [if_neg (fun q => hc ((nB_inj (ha.2.2.2.2 _ (List.getElem_mem hq)) (hb.2.2.2.2 _ (List.getElem_mem hkS))).mp q)), decide_eq_false (fun q => hc (List.cons.inj q).1)]
        rfl
    · rw [if_neg (fun q => hq ((ltI (by omega) (by omega)).mp q)), slc_out (by omega), decide_eq_false (by intro q; cases q)]
      rfl
theorem X0_isSame {U a b f to p : Nat} {σ : SG} {T S : List Nat} {z y : Int32} (hU : 4000 < U) (hb0 : sh b = 0) (ha : RB σ a T z) (hb : RB σ b S y) (hf : f ≤ to) (hto : to ≤ S.length) (hp : p < 2 ^ 30) :
    x_X0_isSame U a (nI p) (some b) (nI f) (nI to) σ = some (zI (decide (slc T p (p + (to - f)) = slc S f to))) := by
  have hlb := ln_small (b + 1)
  have hSl : S.length ≤ ln (b + 1) := hb.2.2.1
  unfold x_X0_isSame
  rw [if_neg (nI_neg (by omega)), if_neg (nI_neg (by omega)), ck_eq hb0, hb.1, if_neg (fun q => by have := (ltI (by omega) (by omega)).mp q; omega), if_neg (fun q => by have := (ltI (by omega) (by omega)).mp q; omega), X0_isSame_L hb0 ha hb hto hp (to - f) f U (by omega) (Nat.le_refl _) (by omega), Nat.sub_self, Nat.add_zero]
/-- the reference compares two pieces of its tape -/
theorem N_sameText_L {U a b n : Nat} {σ : SG} {T : List Nat} (hL : LR σ T) (ha : a + n ≤ T.length) (hb : b + n ≤ T.length) : ∀ (j k U1 : Nat), k + j = n → j < U1 →
    x_X12_sameText_L11 U 1101 (nI a) (nI n) (nI b) σ U1 (nI k) = some (zI (decide (slc T (a + k) (a + n) = slc T (b + k) (b + n)))) := by
  have hl := hL.2.2.1
  intro j
  induction j with
  | zero =>
    intro k U1 hk hu
    obtain ⟨V, rfl⟩ : ∃ V, U1 = V + 1 := ⟨U1 - 1, by omega⟩
    rw [x_X12_sameText_L11, if_neg (fun q => by have := (ltI (by omega) (by omega)).mp q; omega), slc_nil (by omega), slc_nil (by omega)]
    rfl
  | succ j ih =>
    intro k U1 hk hu
    obtain ⟨V, rfl⟩ : ∃ V, U1 = V + 1 := ⟨U1 - 1, by omega⟩
    have h1 : a + k < T.length := by omega
    have h2 : b + k < T.length := by omega
    rw [x_X12_sameText_L11, if_pos ((ltI (by omega) (by omega)).mpr (by omega)), nI_add, nI_add, ix_in (by omega) (by decide), ix_in (by omega) (by decide), hL.2.1 _ _ (List.getElem?_eq_getElem h1), hL.2.1 _ _ (List.getElem?_eq_getElem h2), nI_1, ih (k + 1) V (by omega) (by omega), slc_cons (show a + k < a + n by omega) h1, slc_cons (show b + k < b + n by omega) h2]
    have c1 := hL.2.2.2 _ (List.getElem_mem h1)
    have c2 := hL.2.2.2 _ (List.getElem_mem h2)
    by_cases hc : T[a + k] = T[b + k]
    · rw [if_pos (by rw [hc]), hc]
      congr 2
      apply Bool.eq_iff_iff.mpr
      rw [decide_eq_true_iff, decide_eq_true_iff]
      exact ⟨fun q => by rw [show a + k + 1 = a + (k + 1) by omega, show b + k + 1 = b + (k + 1) by omega, q], fun q => (List.cons.inj q).2⟩
    · rw [if_neg (fun q => hc ((nI_eq (by omega) (by omega)).mp q)), decide_eq_false (fun q => hc (List.cons.inj q).1)]
      rfl
theorem N_sameText {U a b n m : Nat} {σ : SG} {T : List Nat} (hU : 4000 < U) (hL : LR σ T) (ha : a + n ≤ T.length) (hb : b + m ≤ T.length) :
    x_X12_sameText U 1101 (nI a) (nI n) (nI b) (nI m) σ = some (zI (decide (slc T a (a + n) = slc T b (b + m)))) := by
  have hl := hL.2.2.1
  unfold x_X12_sameText
  by_cases h : n = m
  · subst h
    have := N_sameText_L (U := U) hL ha hb n 0 U (by omega) (by omega)
    rw [if_pos rfl]
    exact this
  · rw [if_neg (fun q => h ((nI_eq (by omega) (by omega)).mp q)), decide_eq_false]
    · rfl
    · intro q
      have := congrArg List.length q
      rw [slc_len (by omega) ha, slc_len (by omega) hb] at this
      omega
