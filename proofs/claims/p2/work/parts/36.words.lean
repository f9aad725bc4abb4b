/-! ===== words: the spec, and the class ===== -/
def dg (h : Bool) (c : Nat) : Bool := if h then pH c else pD c
def dV (h : Bool) (c : Nat) : Int32 := if dg h c then nI (hexV c) else -1
def rl (f : Nat → Bool) (T : List Nat) (p : Nat) : List Nat := (T.drop p).takeWhile f
theorem rl_len (f : Nat → Bool) (T : List Nat) (p : Nat) : (rl f T p).length = rn f T p := rfl
theorem rl_no {f : Nat → Bool} {T : List Nat} {p : Nat} (h : bP f T p = false) : rl f T p = [] := List.eq_nil_of_length_eq_zero (rn_no h)
theorem rl_yes {f : Nat → Bool} {T : List Nat} {p c : Nat} (h : T[p]? = some c) (hf : f c = true) : rl f T p = c :: rl f T (p + 1) := by
  have hp := (List.getElem?_eq_some_iff.mp h)
  unfold rl
  rw [List.drop_eq_getElem_cons hp.1, List.takeWhile_cons, hp.2, hf]; rfl
/-- a number's worth, held down at 2^40 as the class does -/
def cf (b : Nat) (A : Nat) (L : List Nat) : Nat := L.foldl (fun a c => min (a * b + hexV c) (2 ^ 40)) A
def bs (h : Bool) : Nat := if h then 16 else 10
theorem hexV_lt {h : Bool} {c : Nat} (hc : dg h c = true) : hexV c < 16 := by
  have key : ∀ c, c < 256 → pH c = true → hexV c < 16 := by decide +kernel
  have p1 : pH c = true := by
    cases h with
    | true => exact hc
    | false => unfold pH; have : pD c = true := hc; rw [this]; rfl
  rcases Nat.lt_or_ge c 256 with q | q
  · exact key c q p1
  · exfalso; unfold pH pD at p1; simp at p1; omega
theorem W_digit {σ : SG} {w p : Nat} {T : List Nat} (hx : LX σ w T) (h : Bool) (hp : p < 2 ^ 31) : x_X10_digit w (nI p) (nI (bs h)) σ = some (match T[p]? with | some c => dV h c | none => -1) := by
  unfold x_X10_digit
  rw [hx.at hp, b1_eq]
  have key : ∀ h : Bool, ∀ c, c < 256 → (if nI c < 48 then x_X10_digit_26 0 (nI (bs h)) (nI c) σ0 else if 57 < nI c then x_X10_digit_26 0 (nI (bs h)) (nI c) σ0 else some (nI c - 48)) = some (dV h c) := by decide +kernel
  have key2 : ∀ h : Bool, (if (-1 : Int32) < 48 then x_X10_digit_26 0 (nI (bs h)) (-1) σ0 else if 57 < (-1 : Int32) then x_X10_digit_26 0 (nI (bs h)) (-1) σ0 else some (-1 - 48)) = some (-1) := by decide +kernel
  cases e : T[p]? with
  | none => rw [bA_none e]; exact key2 h
  | some c => rw [bA_some e]; exact key h c (hx.ok8 c (List.mem_of_getElem? e))
theorem dV_neg {h : Bool} {c : Nat} (hc : dg h c = false) : dV h c < 0 := by unfold dV; rw [hc, if_neg (by decide)]; decide
theorem dV_pos {h : Bool} {c : Nat} (hc : dg h c = true) : dV h c = nI (hexV c) := by unfold dV; rw [hc]; rfl
theorem l40 : (1099511627776 : Int64) = lN (2 ^ 40) := rfl
theorem bs_le (h : Bool) : bs h ≤ 16 := by cases h <;> decide
theorem X10_digits_L {U w : Nat} {σ : SG} {T : List Nat} {k : Int64 → Int32 → Option (Int32 × SG)} {v1 v2 v3 : Int32} {h : Bool} (hx : LX σ w T) : ∀ (j p U1 A : Nat), p + j = T.length → j < U1 → A ≤ 2 ^ 40 →
    x_X10_addNumber_L65 U w k v1 v2 v3 (nI (bs h)) σ U1 (lN A) (nI p) = k (lN (cf (bs h) A (rl (dg h) T p))) (nI (p + rn (dg h) T p)) := by
  have hl := hx.2.2.2
  intro j
  induction j with
  | zero =>
    intro p U1 A hp hU hA
    obtain ⟨V, rfl⟩ : ∃ V, U1 = V + 1 := ⟨U1 - 1, by omega⟩
    have hb : bP (dg h) T p = false := by unfold bP; rw [List.getElem?_eq_none (by omega)]
    rw [x_X10_addNumber_L65, hx.2.2.1, if_neg (fun q => by have := (ltI (by omega) (by omega)).mp q; omega), rl_no hb, rn_no hb]; rfl
  | succ j ih =>
    intro p U1 A hp hU hA
    obtain ⟨V, rfl⟩ : ∃ V, U1 = V + 1 := ⟨U1 - 1, by omega⟩
    have hpl : p < T.length := by omega
    have e := List.getElem?_eq_getElem hpl
    rw [x_X10_addNumber_L65, hx.2.2.1, if_pos ((ltI (by omega) (by omega)).mpr (by omega)), W_digit hx h (by omega), e]
    simp only
    rw [b1_eq, b1_eq]
    cases hd : dg h T[p] with
    | false =>
      have hb : bP (dg h) T p = false := by unfold bP; rw [e]; exact hd
      rw [if_pos (dV_neg hd), rl_no hb, rn_no hb]; rfl
    | true =>
      have hb : bP (dg h) T p = true := by unfold bP; rw [e]; exact hd
      have hv := hexV_lt hd
      have hbs := bs_le h
      have hm : A * bs h ≤ 2 ^ 40 * 16 := Nat.mul_le_mul hA hbs
      rw [dV_pos hd, if_neg (nI_neg (by omega)), (rn_yes hb).2, rl_yes e hd, nI_l (by omega), nI_l (by omega), lN_mul, lN_add, l40]
      have em : lmin (lN (A * bs h + hexV T[p])) (lN (2 ^ 40)) = lN (min (A * bs h + hexV T[p]) (2 ^ 40)) := by
        unfold lmin
        by_cases q : 2 ^ 40 < A * bs h + hexV T[p]
        · rw [if_pos ((pk_lLT (by omega) (by omega)).mpr q), Nat.min_eq_right (by omega)]
        · rw [if_neg (fun z => q ((pk_lLT (by omega) (by omega)).mp z)), Nat.min_eq_left (by omega)]
      rw [em, nI_1, ih (p + 1) V _ (by omega) (by omega) (Nat.min_le_right _ _)]
      congr 2; omega
/-- the rows of words -/
abbrev Wd : Type := Nat × Nat × Nat × Int64
def WA (σ : SG) (w : Nat) (Ws : List Wd) : Prop := sI σ w 5 = nI Ws.length ∧ Ws.length ≤ 701 ∧ ∀ i x, Ws[i]? = some x → sI σ (w + 1) i = nI x.1 ∧ sI σ (w + 2) i = nI x.2.1 ∧ sI σ (w + 3) i = nI x.2.2.1 ∧ sL σ (w + 4) i = x.2.2.2
def fWd (w : Nat) (K : List Nat) (σ τ : SG) : Prop := (∀ b, b < w ∨ w + 4 < b → sm σ τ b) ∧ (∀ k, k ∉ K → sI τ w k = sI σ w k) ∧ (∀ k, sL τ w k = sL σ w k) ∧ ∀ k, sP τ w k = sP σ w k
theorem fWd_refl (w : Nat) (K : List Nat) (σ : SG) : fWd w K σ σ := ⟨fun b _ => sm_refl σ b, fun _ _ => rfl, fun _ => rfl, fun _ => rfl⟩
theorem fWd_trans {w : Nat} {K : List Nat} {σ τ υ : SG} (h : fWd w K σ τ) (h' : fWd w K τ υ) : fWd w K σ υ := ⟨fun b hb => sm_trans (h.1 b hb) (h'.1 b hb), fun k hk => (h'.2.1 k hk).trans (h.2.1 k hk), fun k => (h'.2.2.1 k).trans (h.2.2.1 k), fun k => (h'.2.2.2 k).trans (h.2.2.2 k)⟩
theorem fWd_f1 {w : Nat} {K J : List Nat} {σ τ : SG} (h : f1 w K σ τ) (hs : ∀ k ∈ K, k ∈ J) : fWd w J σ τ := ⟨fun b hb => h.1 b (by omega), fun k hk => h.2.1 k (fun q => hk (hs k q)), h.2.2.1, h.2.2.2⟩
theorem fWd_mono {w : Nat} {K J : List Nat} {σ τ : SG} (h : fWd w K σ τ) (hs : ∀ k ∈ K, k ∈ J) : fWd w J σ τ := ⟨h.1, fun k hk => h.2.1 k (fun q => hk (hs k q)), h.2.2⟩
theorem LX.fWd {σ τ : SG} {w : Nat} {T : List Nat} {K : List Nat} (h : LX σ w T) (hf : fWd w K σ τ) (h6 : 6 ∉ K) : LX τ w T := by
  have := h.w
  exact ⟨h.1, h.2.1.sm (hf.1 _ (by omega)) (hf.1 _ (by omega)), (hf.2.1 6 h6).trans h.2.2.1, h.2.2.2⟩
theorem WA.f1 {σ τ : SG} {w : Nat} {Ws : List Wd} {K : List Nat} (h : WA σ w Ws) (hf : f1 w K σ τ) (h5 : 5 ∉ K) : WA τ w Ws := by
  refine ⟨(hf.2.1 5 h5).trans h.1, h.2.1, fun i x hi => ?_⟩
  obtain ⟨a1, a2, a3, a4⟩ := h.2.2 i x hi
  exact ⟨((hf.1 _ (by omega)) i).1.trans a1, ((hf.1 _ (by omega)) i).1.trans a2, ((hf.1 _ (by omega)) i).1.trans a3, ((hf.1 _ (by omega)) i).2.1.trans a4⟩
theorem l701 : (701 : Int32) = nI 701 := rfl
theorem X10_push {w : Nat} {σ : SG} {Ws : List Wd} {kd s e : Nat} {v : Int64} (h : WA σ w Ws) (hl : Ws.length < 701) (hk : kd < 6) : ∃ τ, x_X10_push w (nI kd) (nI s) (nI e) v σ = some (nI (if kd = 5 then s else e), τ) ∧ WA τ w (Ws ++ [(kd, s, e, v)]) ∧ fWd w [5] σ τ := by
  obtain ⟨h1, h2, h3⟩ := h
  have hc : sI σ w 5 < 701 := by rw [h1, l701]; exact (ltI (by omega) (by omega)).mpr hl
  refine ⟨uI (uL (uI (uI (uI σ (w + 1) Ws.length (nI kd)) (w + 2) Ws.length (nI s)) (w + 3) Ws.length (nI e)) (w + 4) Ws.length v) w 5 (nI (Ws.length + 1)), ?_, ⟨?_, ?_, ?_⟩, ?_⟩
  · unfold x_X10_push
    rw [if_neg (by rw [h1]; exact nI_neg (by omega)), if_pos hc, if_pos hc, if_pos hc, if_pos hc, h1, ix_in hl (by decide), sb_eq, sI_o (Or.inl (by omega)), h1, ix_in hl (by decide), sb_eq, sI_o (Or.inl (by omega)), sI_o (Or.inl (by omega)), h1, ix_in hl (by decide), sb_eq, sI_o (Or.inl (by omega)), sI_o (Or.inl (by omega)), sI_o (Or.inl (by omega)), h1, ix_in hl (by decide), sb_eq, sb_eq, sI_uL, sI_o (Or.inl (by omega)), sI_o (Or.inl (by omega)), sI_o (Or.inl (by omega)), h1, nI_1, show (5 : Int32) = nI 5 from rfl]
    by_cases q : kd = 5
    · subst q; rw [if_pos rfl, if_pos rfl]
    · rw [if_neg (fun z => q ((nI_eq (a := kd) (b := 5) (by omega) (by decide)).mp z)), if_neg q]
  · rw [sI_s, List.length_append]; rfl
  · rw [List.length_append, List.length_singleton]; omega
  · intro i x hi
    by_cases hj : i = Ws.length
    · subst hj
      rw [List.getElem?_append_right (Nat.le_refl _)] at hi
      simp at hi
      subst hi
      refine ⟨?_, ?_, ?_, ?_⟩
      · rw [sI_o (Or.inl (by omega)), sI_uL, sI_o (Or.inl (by omega)), sI_o (Or.inl (by omega)), sI_s]
      · rw [sI_o (Or.inl (by omega)), sI_uL, sI_o (Or.inl (by omega)), sI_s]
      · rw [sI_o (Or.inl (by omega)), sI_uL, sI_s]
      · rw [sL_uI, sL_s]
    · have hi' : Ws[i]? = some x := by
        rcases Nat.lt_or_ge i Ws.length with q | q
        · rw [List.getElem?_append_left q] at hi; exact hi
        · rw [List.getElem?_eq_none (by rw [List.length_append, List.length_singleton]; omega)] at hi; cases hi
      obtain ⟨a1, a2, a3, a4⟩ := h3 i x hi'
      refine ⟨?_, ?_, ?_, ?_⟩
      · rw [sI_o (Or.inl (by omega)), sI_uL, sI_o (Or.inl (by omega)), sI_o (Or.inl (by omega)), sI_o (Or.inr hj), a1]
      · rw [sI_o (Or.inl (by omega)), sI_uL, sI_o (Or.inl (by omega)), sI_o (Or.inr hj), sI_o (Or.inl (by omega)), a2]
      · rw [sI_o (Or.inl (by omega)), sI_uL, sI_o (Or.inr hj), sI_o (Or.inl (by omega)), sI_o (Or.inl (by omega)), a3]
      · rw [sL_uI, sL_o (Or.inr hj), sL_uI, sL_uI, sL_uI, a4]
  · refine ⟨fun b hb => ?_, fun k hk => ?_, fun k => ?_, fun k => rfl⟩
    · exact sm_trans (sm_trans (sm_trans (sm_trans (sm_uI (by omega)) (sm_uI (by omega))) (sm_uI (by omega))) (sm_uL (by omega))) (sm_uI (by omega))
    · rw [sI_o (Or.inr (by simpa using hk)), sI_uL, sI_o (Or.inl (by omega)), sI_o (Or.inl (by omega)), sI_o (Or.inl (by omega))]
    · rw [sL_uI, sL_o (Or.inl (by omega)), sL_uI, sL_uI, sL_uI]
/-! which word of a list -/
def wI (S : List Nat) : List Nat → Nat → Nat → Bool → Option Nat
  | [], i, m, z => if z = true ∧ m = S.length then some i else none
  | c :: r, i, m, z => if c = 32 then (if z = true ∧ m = S.length then some i else wI S r (i + 1) 0 true) else wI S r i (m + 1) (z && decide (S[m]? = some c))
def oI (o : Option Nat) : Int32 := match o with
  | some i => nI i
  | none => -1
theorem tby_ok : ∀ k, k < 24 → ∀ c ∈ tby.getD k [], c < 256 := by decide +kernel
theorem tlen_le : ∀ k, tlen k ≤ 200 := by
  intro k
  rcases Nat.lt_or_ge k 24 with h | h
  · exact (by decide +kernel : ∀ k, k < 24 → tlen k ≤ 200) k h
  · unfold tlen; rw [List.getD_eq_getElem?_getD, List.getElem?_eq_none (by exact h)]; decide
theorem l32 : (32 : Int32) = nI 32 := rfl
theorem X0_wordIn_L {U a k s e : Nat} {σ : SG} {T : List Nat} {z : Int32} (hR : RB σ a T z) (hk : k < 24) (hse : s ≤ e) (he : e ≤ T.length) (hT : T.length ≤ 4000) : ∀ (j c U1 i m : Nat) (q : Bool), c + j = tlen k → j + 1 < U1 → m ≤ c → (q = true → m ≤ e - s) → i ≤ c →
    x_X0_wordIn_L12 U a k (nI s) (nI e) σ U1 (nI i) (nI (s + m)) (zI q) (nI c) = some (oI (wI ((T.drop s).take (e - s)) ((tby.getD k []).drop c) i m q)) := by
  have hok : ok8 T := hR.2.2.2.2
  have htl := tlen_le k
  have hSl : ((T.drop s).take (e - s)).length = e - s := by rw [List.length_take, List.length_drop]; omega
  intro j
  induction j with
  | zero =>
    intro c U1 i m q hc hU hm hq hi
    obtain ⟨V, rfl⟩ : ∃ V, U1 = V + 1 + 1 := ⟨U1 - 2, by omega⟩
    rw [x_X0_wordIn_L12, if_neg (fun z => by have := (ltI (by omega) (by omega)).mp z; omega), if_neg (fun z => by have := (ltI (by omega) (by omega)).mp z; omega), show (tby.getD k []).drop c = [] from List.drop_eq_nil_of_le (by show tlen k ≤ c; omega), wI, hSl]
    unfold x_X0_wordIn_41 x_X0_wordIn_99 x_X0_wordIn_108
    rw [if_pos rfl, ifz]
    have last : x_X0_wordIn_L12 U a k (nI s) (nI e) σ (V + 1) (nI i + 1) (nI s) 1 (nI c + 1) = some (-1) := by
      rw [nI_1, nI_1, x_X0_wordIn_L12, if_pos ((ltI (by omega) (by omega)).mpr (by omega))]
    cases q with
    | false => rw [if_neg (by decide), if_neg (fun z => by cases z.1)]; exact last
    | true =>
      rw [if_pos rfl]
      by_cases hm2 : s + m = e
      · rw [if_pos (by rw [hm2]), if_pos ⟨rfl, by omega⟩]; rfl
      · rw [if_neg (fun z => hm2 ((nI_eq (by omega) (by omega)).mp z)), if_neg (fun z => hm2 (by omega))]; exact last
  | succ j ih =>
    intro c U1 i m q hc hU hm hq hi
    obtain ⟨V, rfl⟩ : ∃ V, U1 = V + 1 := ⟨U1 - 1, by omega⟩
    have hcl : c < (tby.getD k []).length := by show c < tlen k; omega
    have hch : (tby.getD k [])[c] < 256 := tby_ok k hk _ (List.getElem_mem hcl)
    have htc : tchr k c = nI (tby.getD k [])[c] := by
      unfold tchr; rw [List.getD_eq_getElem?_getD (l := tby.getD k []), List.getElem?_eq_getElem hcl]; rfl
    rw [x_X0_wordIn_L12, if_neg (fun z => by have := (ltI (by omega) (by omega)).mp z; omega), if_pos ((ltI (by omega) (by omega)).mpr (by omega)), ix_in (by omega) (by omega), htc, List.drop_eq_getElem_cons hcl, wI, hSl]
    generalize (tby.getD k [])[c] = ch at hch
    unfold x_X0_wordIn_41 x_X0_wordIn_99 x_X0_wordIn_76 x_X0_wordIn_77 x_X0_wordIn_108
    by_cases h32 : ch = 32
    · rw [if_pos (by rw [h32]; rfl), if_pos h32, ifz]
      have next : x_X0_wordIn_L12 U a k (nI s) (nI e) σ V (nI i + 1) (nI s) 1 (nI c + 1) = some (oI (wI ((T.drop s).take (e - s)) ((tby.getD k []).drop (c + 1)) (i + 1) 0 true)) := by
        rw [nI_1, nI_1]
        exact ih (c + 1) V (i + 1) 0 true (by omega) (by omega) (by omega) (by omega) (by omega)
      cases q with
      | false => rw [if_neg (by decide), if_neg (fun z => by cases z.1)]; exact next
      | true =>
        rw [if_pos rfl]
        by_cases hm2 : s + m = e
        · rw [if_pos (by rw [hm2]), if_pos ⟨rfl, by omega⟩]; rfl
        · rw [if_neg (fun z => hm2 ((nI_eq (by omega) (by omega)).mp z)), if_neg (fun z => hm2 (by omega))]; exact next
    · rw [if_neg (show ¬ nI ch = 32 from fun z => h32 ((nI_eq (a := ch) (b := 32) (by omega) (by decide)).mp z)), if_neg h32, ifz]
      have hS : ∀ m', m' < e - s → ((T.drop s).take (e - s))[m']? = T[s + m']? := by
        intro m' h'
        rw [List.getElem?_take_of_lt h', List.getElem?_drop]
      have nextF : x_X0_wordIn_L12 U a k (nI s) (nI e) σ V (nI i) (nI (s + m) + 1) 0 (nI c + 1) = some (oI (wI ((T.drop s).take (e - s)) ((tby.getD k []).drop (c + 1)) i (m + 1) false)) := by
        rw [nI_1, nI_1]
        exact ih (c + 1) V i (m + 1) false (by omega) (by omega) (by omega) (fun z => by cases z) (by omega)
      cases q with
      | false => rw [if_neg (by decide), Bool.false_and]; exact nextF
      | true =>
        rw [if_pos rfl, Bool.true_and]
        have hmle := hq rfl
        by_cases hm2 : s + m < e
        · rw [if_pos ((ltI (by omega) (by omega)).mpr hm2), X0_at hR (by omega), b1_eq, ifA hok hch, hS m (by omega)]
          by_cases ht : T[s + m]? = some ch
          · rw [if_pos ht, decide_eq_true ht, nI_1, nI_1]
            exact ih (c + 1) V i (m + 1) true (by omega) (by omega) (by omega) (fun _ => by omega) (by omega)
          · rw [if_neg ht, decide_eq_false ht]; exact nextF
        · rw [if_neg (fun z => hm2 ((ltI (by omega) (by omega)).mp z)), List.getElem?_eq_none (by rw [hSl]; omega)]
          exact nextF
theorem X0_wordIn {U a k s e : Nat} {σ : SG} {T : List Nat} {z : Int32} (hU : 4000 < U) (hR : RB σ a T z) (hk : k < 24) (hse : s ≤ e) (he : e ≤ T.length) : x_X0_wordIn U a k (nI s) (nI e) σ = some (oI (wI ((T.drop s).take (e - s)) (tby.getD k []) 0 0 true)) := by
  have hT : T.length ≤ 4000 := Nat.le_trans hR.2.2.1 (ln_small _)
  have htl := tlen_le k
  have := X0_wordIn_L (U := U) hR hk hse he hT (tlen k) 0 U 0 0 true (by omega) (by omega) (by omega) (by omega) (by omega)
  rw [List.drop_zero, Nat.add_zero] at this
  exact this
