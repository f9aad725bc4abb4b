/-! ===== parse: numbers ===== -/
/-- an unsigned number of 64 bits, read from its digits -/
def nmF : List Nat → Nat → Option Nat
  | [], a => some a
  | c :: L, a => if 1844674407370955161 < a ∨ (a = 1844674407370955161 ∧ 5 < c - 48) then none else nmF L (a * 10 + (c - 48))
theorem nmF_lt : ∀ (L : List Nat) (a x : Nat), (∀ c ∈ L, c - 48 ≤ 9) → a < 2 ^ 64 → nmF L a = some x → x < 2 ^ 64 := by
  intro L
  induction L with
  | nil => intro a x _ ha h; cases h; exact ha
  | cons c L ih =>
    intro a x hL ha h
    rw [nmF] at h
    by_cases q : 1844674407370955161 < a ∨ (a = 1844674407370955161 ∧ 5 < c - 48)
    · rw [if_pos q] at h; cases h
    · rw [if_neg q] at h
      have := hL c (List.mem_cons_self ..)
      exact ih _ x (fun y hy => hL y (List.mem_cons_of_mem _ hy)) (by omega) h
/-- the largest size that a type takes -/
def mxO (t : Nat) (neg : Bool) : Nat := if t = 1 ∨ t = 5 ∨ t = 9 then (if neg then 2 ^ 63 else 2 ^ 63 - 1) else if t = 2 ∨ t = 6 then (if neg then 0 else 2 ^ 32 - 1) else if t = 3 ∨ t = 7 then (if neg then 0 else 2 ^ 64 - 1) else (if neg then 2 ^ 31 else 2 ^ 31 - 1)
theorem pD_le {c : Nat} (h : pD c = true) : 48 ≤ c ∧ c ≤ 57 := by
  unfold pD at h
  rw [Bool.and_eq_true] at h
  exact ⟨of_decide_eq_true h.1, of_decide_eq_true h.2⟩
theorem rl_mem {f : Nat → Bool} {S : List Nat} {p c : Nat} (h : c ∈ rl f S p) : f c = true := by
  unfold rl at h
  have : ∀ (L : List Nat), ∀ c ∈ L.takeWhile f, f c = true := by
    intro L
    induction L with
    | nil => intro c hc; cases hc
    | cons a L ih =>
      intro c hc
      rw [List.takeWhile_cons] at hc
      by_cases q : f a = true
      · rw [if_pos q] at hc
        rcases List.mem_cons.mp hc with z | z
        · rw [z]; exact q
        · exact ih c z
      · rw [if_neg q] at hc; cases hc
  exact this _ c h
def numS (S : List Nat) (t p : Nat) : Option (Int64 × Nat) :=
  if rn pD S (if S[p]? = some 45 then p + 1 else p) = 0 ∨ bP pW S ((if S[p]? = some 45 then p + 1 else p) + rn pD S (if S[p]? = some 45 then p + 1 else p)) = true then none else match nmF (rl pD S (if S[p]? = some 45 then p + 1 else p)) 0 with
  | none => none
  | some x => if x ≤ mxO t (decide (S[p]? = some 45)) then some (if S[p]? = some 45 then -(lN x) else lN x, (if S[p]? = some 45 then p + 1 else p) + rn pD S (if S[p]? = some 45 then p + 1 else p)) else none
theorem lN_neg {x : Nat} (h : x < 2 ^ 64) : lN x < 0 ↔ 2 ^ 63 ≤ x := by
  rw [Int64.lt_iff_toInt_lt]
  have e : (lN x).toInt = Int.bmod x (2 ^ 64) := by
    show (lN x).toBitVec.toInt = _
    rw [lN_bv, BitVec.toInt_ofNat']
  have e0 : (0 : Int64).toInt = 0 := by decide
  rw [e, e0]
  by_cases q : x < 2 ^ 63
  · rw [Int.bmod_eq_of_le (by omega) (by omega)]; omega
  · have : Int.bmod (x : Int) (2 ^ 64) = (x : Int) - 2 ^ 64 := by
      unfold Int.bmod
      simp only
      rw [Int.emod_eq_of_lt (by omega) (by omega)]
      split <;> omega
    rw [this]; omega
theorem lN_ltN {x y : Nat} (hx : x < 2 ^ 63) (hy : y < 2 ^ 63) : lN x < lN y ↔ x < y := by
  rw [Int64.lt_iff_toInt_lt]
  have e : ∀ z : Nat, z < 2 ^ 63 → (lN z).toInt = (z : Int) := fun z hz => by
    show (lN z).toBitVec.toInt = _
    rw [lN_bv, BitVec.toInt_ofNat', Int.bmod_eq_of_le (by omega) (by omega)]
  rw [e x hx, e y hy]
  omega
theorem lN_inj {x y : Nat} (hx : x < 2 ^ 64) (hy : y < 2 ^ 64) : lN x = lN y ↔ x = y := by
  constructor
  · intro z
    have : uN (lN x) = uN (lN y) := by rw [z]
    rw [uN_lN hx, uN_lN hy] at this
    exact this
  · intro z; rw [z]
theorem inR_11 {t : Nat} (ht : t ≤ 14) {v1 s0 : Int32} {v2 : Int64} {σ : SG} : x_X7_isInRange_11 (nI t) v1 v2 s0 σ = if t = 1 ∨ t = 5 ∨ t = 9 then (if s0 = 0 then (if v1 = 0 then (some 0) else (if v2 = (-9223372036854775808) then (some 1) else (some 0))) else (some 1)) else if t = 2 ∨ t = 6 then (if s0 = 0 then (some 0) else (if v1 = 0 then (x_X7_isInRange_97 4294967295 v2 σ) else (x_X7_isInRange_97 0 v2 σ))) else if t = 3 ∨ t = 7 then (if v1 = 0 then (some 1) else (if v2 = 0 then (some 1) else (some 0))) else (if s0 = 0 then (some 0) else (if v1 = 0 then (x_X7_isInRange_149 2147483647 v2 σ) else (x_X7_isInRange_149 2147483648 v2 σ))) := by
  have e1 : nI t = 1 ↔ t = 1 := nI_eq (b := 1) (by omega) (by decide)
  have e2 : nI t = 2 ↔ t = 2 := nI_eq (b := 2) (by omega) (by decide)
  have e3 : nI t = 3 ↔ t = 3 := nI_eq (b := 3) (by omega) (by decide)
  have e4 : nI t = 4 ↔ t = 4 := nI_eq (b := 4) (by omega) (by decide)
  have e5 : nI t = 5 ↔ t = 5 := nI_eq (b := 5) (by omega) (by decide)
  have e6 : nI t = 6 ↔ t = 6 := nI_eq (b := 6) (by omega) (by decide)
  have e7 : nI t = 7 ↔ t = 7 := nI_eq (b := 7) (by omega) (by decide)
  have e8 : nI t = 8 ↔ t = 8 := nI_eq (b := 8) (by omega) (by decide)
  have e9 : nI t = 9 ↔ t = 9 := nI_eq (b := 9) (by omega) (by decide)
  unfold x_X7_isInRange_11
  rw [ifd e1, ifd e2, ifd e3, ifd e4, ifd e5, ifd e6, ifd e7, ifd e8, ifd e9]
  by_cases q1 : t = 1
  · rw [if_pos q1, if_pos (show t = 1 ∨ t = 5 ∨ t = 9 by omega)]
  rw [if_neg q1]
  by_cases q2 : t = 2
  · rw [if_pos q2, if_neg (show ¬ (t = 1 ∨ t = 5 ∨ t = 9) by omega), if_pos (show t = 2 ∨ t = 6 by omega)]
  rw [if_neg q2]
  by_cases q3 : t = 3
  · rw [if_pos q3, if_neg (show ¬ (t = 1 ∨ t = 5 ∨ t = 9) by omega), if_neg (show ¬ (t = 2 ∨ t = 6) by omega), if_pos (show t = 3 ∨ t = 7 by omega)]
  rw [if_neg q3]
  by_cases q4 : t = 4
  · rw [if_pos q4, if_neg (show ¬ (t = 1 ∨ t = 5 ∨ t = 9) by omega), if_neg (show ¬ (t = 2 ∨ t = 6) by omega), if_neg (show ¬ (t = 3 ∨ t = 7) by omega)]
  rw [if_neg q4]
  by_cases q5 : t = 5
  · rw [if_pos q5, if_pos (show t = 1 ∨ t = 5 ∨ t = 9 by omega)]
  rw [if_neg q5]
  by_cases q6 : t = 6
  · rw [if_pos q6, if_neg (show ¬ (t = 1 ∨ t = 5 ∨ t = 9) by omega), if_pos (show t = 2 ∨ t = 6 by omega)]
  rw [if_neg q6]
  by_cases q7 : t = 7
  · rw [if_pos q7, if_neg (show ¬ (t = 1 ∨ t = 5 ∨ t = 9) by omega), if_neg (show ¬ (t = 2 ∨ t = 6) by omega), if_pos (show t = 3 ∨ t = 7 by omega)]
  rw [if_neg q7]
  by_cases q8 : t = 8
  · rw [if_pos q8, if_neg (show ¬ (t = 1 ∨ t = 5 ∨ t = 9) by omega), if_neg (show ¬ (t = 2 ∨ t = 6) by omega), if_neg (show ¬ (t = 3 ∨ t = 7) by omega)]
  rw [if_neg q8]
  by_cases q9 : t = 9
  · rw [if_pos q9, if_pos (show t = 1 ∨ t = 5 ∨ t = 9 by omega)]
  rw [if_neg q9]
  rw [if_neg (show ¬ (t = 1 ∨ t = 5 ∨ t = 9) by omega), if_neg (show ¬ (t = 2 ∨ t = 6) by omega), if_neg (show ¬ (t = 3 ∨ t = 7) by omega)]
theorem C_inR {t x : Nat} (ht : t ≤ 14) (hx : x < 2 ^ 64) (neg : Bool) (σ : SG) : x_X7_isInRange (nI t) (zI neg) (lN x) σ = some (zI (decide (x ≤ mxO t neg))) := by
  unfold x_X7_isInRange
  rw [ifd (lN_neg hx), inR_11 ht, inR_11 ht]
  unfold mxO x_X7_isInRange_97 x_X7_isInRange_149
  have hm63 : lN x = -9223372036854775808 ↔ x = 2 ^ 63 := by
    have : (-9223372036854775808 : Int64) = lN (2 ^ 63) := by decide
    rw [this]
    exact lN_inj hx (by decide)
  rw [ifz, ifz, ifz, ifz, ifd hm63, ifd (lN_zero hx)]
  have e0 : ∀ (A B : Option Int32), (if (0 : Int32) = 0 then A else B) = A := fun A B => if_pos rfl
  have e1 : ∀ (A B : Option Int32), (if (1 : Int32) = 0 then A else B) = B := fun A B => if_neg (by decide)
  simp only [e0, e1]
  have lt : ∀ k : Nat, k < 2 ^ 63 → x < 2 ^ 63 → ((if lN k < lN x then some (0 : Int32) else some 1) = some (zI (decide (x ≤ k)))) := by
    intro k hk hx3
    rw [ifd (lN_ltN hk hx3)]
    by_cases q : k < x
    · rw [if_pos q, decide_eq_false (by omega)]; try rfl
    · rw [if_neg q, decide_eq_true (by omega)]; try rfl
  have big : ∀ k : Nat, k < 2 ^ 63 → 2 ^ 63 ≤ x → some (0 : Int32) = some (zI (decide (x ≤ k))) := fun k hk h => by rw [decide_eq_false (by omega)]; try rfl
  have l1 : (4294967295 : Int64) = lN (2 ^ 32 - 1) := by decide
  have l2 : (0 : Int64) = lN 0 := by decide
  have l3 : (2147483647 : Int64) = lN (2 ^ 31 - 1) := by decide
  have l4 : (2147483648 : Int64) = lN (2 ^ 31) := by decide
  rw [l1, l3, l4]
  by_cases g1 : t = 1 ∨ t = 5 ∨ t = 9
  · simp only [if_pos g1]
    by_cases h : 2 ^ 63 ≤ x
    · rw [if_pos h]
      cases neg with
      | false => rw [if_neg (show ¬ false = true by decide), if_neg (show ¬ false = true by decide), decide_eq_false (by omega)]; try rfl
      | true =>
        rw [if_pos (show true = true from rfl), if_pos (show true = true from rfl)]
        by_cases q : x = 2 ^ 63
        · rw [if_pos q, decide_eq_true (by omega)]; try rfl
        · rw [if_neg q, decide_eq_false (by omega)]; try rfl
    · rw [if_neg h, decide_eq_true (by cases neg <;> simp <;> omega)]; try rfl
  simp only [if_neg g1]
  by_cases g2 : t = 2 ∨ t = 6
  · simp only [if_pos g2]
    by_cases h : 2 ^ 63 ≤ x
    · rw [if_pos h]
      cases neg with
      | false => exact big _ (by decide) h
      | true => exact big _ (by decide) h
    · rw [if_neg h]
      cases neg with
      | false => exact lt _ (by decide) (by omega)
      | true => exact lt 0 (by decide) (by omega)
  simp only [if_neg g2]
  by_cases g3 : t = 3 ∨ t = 7
  · simp only [if_pos g3, ite_self]
    cases neg with
    | false => rw [if_neg (show ¬ false = true by decide), if_neg (show ¬ false = true by decide), decide_eq_true (by omega)]; try rfl
    | true =>
      rw [if_pos (show true = true from rfl), if_pos (show true = true from rfl)]
      by_cases q : x = 0
      · rw [if_pos q, decide_eq_true (by omega)]; try rfl
      · rw [if_neg q, decide_eq_false (by omega)]; try rfl
  simp only [if_neg g3]
  by_cases h : 2 ^ 63 ≤ x
  · rw [if_pos h]
    cases neg with
    | false => exact big _ (by decide) h
    | true => exact big _ (by decide) h
  · rw [if_neg h]
    cases neg with
    | false => exact lt _ (by decide) (by omega)
    | true => exact lt _ (by decide) (by omega)
theorem lN_step {a d : Nat} : lN a * 10 + Int32.toInt64 (nI d) = lN (a * 10 + d) ∨ 2 ^ 31 ≤ d := by
  by_cases q : d < 2 ^ 31
  · left
    rw [nI_l q]
    apply Int64.toBitVec_inj.mp
    rw [Int64.toBitVec_add, Int64.toBitVec_mul, lN_bv, lN_bv, lN_bv, show Int64.toBitVec 10 = BitVec.ofNat 64 10 from rfl]
    apply BitVec.eq_of_toNat_eq
    rw [BitVec.toNat_add, BitVec.toNat_mul, BitVec.toNat_ofNat, BitVec.toNat_ofNat, BitVec.toNat_ofNat, BitVec.toNat_ofNat]
    omega
  · right; omega
/-- whether one more digit is too much -/
theorem big_iff {a : Nat} (ha : a < 2 ^ 64) : (lN a < 0 ∨ 1844674407370955161 < lN a) ↔ 1844674407370955161 < a := by
  rw [lN_neg ha]
  have l : (1844674407370955161 : Int64) = lN 1844674407370955161 := by decide
  by_cases q : a < 2 ^ 63
  · rw [l, lN_ltN (by decide) q]; omega
  · constructor
    · intro _; omega
    · intro _; exact Or.inl (by omega)
theorem C_dig_L {U : Nat} {S : List Nat} {K : Int64 → SG → Option (Int32 × SG)} {v1 v2 v3 : Int32} (hSl : S.length ≤ 700) : ∀ (j p a U1 : Nat) (σ : SG), p + j = S.length → j < U1 → a < 2 ^ 64 → RB σ 1 S 0 → sI σ 1095 4 = nI p → ∃ τ, fT σ τ ∧ (nmF (rl pD S p) a = none → x_X7_readNumber_L44 U 1095 K v1 v2 v3 U1 (lN a) σ = some (0, τ)) ∧ ∀ x, nmF (rl pD S p) a = some x → x_X7_readNumber_L44 U 1095 K v1 v2 v3 U1 (lN a) σ = K (lN x) τ ∧ sI τ 1095 4 = nI (p + rn pD S p) := by
  intro j
  induction j with
  | zero =>
    intro p a U1 σ hj hu ha hR h4
    obtain ⟨V, rfl⟩ : ∃ V, U1 = V + 1 := ⟨U1 - 1, by omega⟩
    have h0 : S[p]? = none := List.getElem?_eq_none (by omega)
    have hb : bP pD S p = false := by unfold bP; rw [h0]
    rw [rl_no hb, rn_no hb, nmF]
    refine ⟨σ, fT_refl σ, fun z => (by cases z), fun x z => ?_⟩
    cases z
    rw [x_X7_readNumber_L44, X0_size hR, b1_eq, h4, if_neg (fun z => by have := (ltI (by omega) (by omega)).mp z; omega)]
    exact ⟨rfl, rfl⟩
  | succ j ih =>
    intro p a U1 σ hj hu ha hR h4
    obtain ⟨V, rfl⟩ : ∃ V, U1 = V + 1 := ⟨U1 - 1, by omega⟩
    have hpl : p < S.length := by omega
    have hS := List.getElem?_eq_getElem hpl
    have hc : S[p] < 256 := hR.2.2.2.2 _ (List.getElem_mem hpl)
    have hA : bA S p = nI S[p] := by unfold bA; rw [hS]
    have e48 : nI S[p] < 48 ↔ S[p] < 48 := ltI (b := 48) (by omega) (by decide)
    have e57 : (57 : Int32) < nI S[p] ↔ 57 < S[p] := ltI (a := 57) (by decide) (by omega)
    rw [x_X7_readNumber_L44, X0_size hR, b1_eq, h4, if_pos ((ltI (by omega) (by omega)).mpr hpl), X0_at hR (by omega), b1_eq, b1_eq, b1_eq, hA, ifd e48, ifd e57]
    by_cases hd : pD S[p] = true
    · obtain ⟨d1, d2⟩ := pD_le hd
      have hb : bP pD S p = true := by unfold bP; rw [hS]; exact hd
      have es : nI S[p] - 48 = nI (S[p] - 48) := nI_sub (b := 48) d1
      have e5 : (5 : Int32) < nI (S[p] - 48) ↔ 5 < S[p] - 48 := ltI (a := 5) (by decide) (by omega)
      have eq1 : lN a = 1844674407370955161 ↔ a = 1844674407370955161 := by
        have l : (1844674407370955161 : Int64) = lN 1844674407370955161 := by decide
        rw [l]
        exact lN_inj ha (by decide)
      rw [if_neg (by omega), if_neg (by omega), es, ifd e5, ifd eq1, rl_yes hS hd, nmF, (rn_yes hb).2]
      by_cases q : 1844674407370955161 < a ∨ (a = 1844674407370955161 ∧ 5 < S[p] - 48)
      · rw [if_pos q]
        refine ⟨σ, fT_refl σ, fun _ => ?_, fun x z => by cases z⟩
        by_cases q0 : lN a < 0
        · rw [if_pos q0]
        rw [if_neg q0]
        by_cases q1 : 1844674407370955161 < lN a
        · rw [if_pos q1]
        rw [if_neg q1]
        have nq : ¬ 1844674407370955161 < a := fun z => (big_iff ha).mpr z |>.elim q0 q1
        have q2 := q.elim (fun z => absurd z nq) id
        rw [if_pos q2.1, if_pos q2.2]
      · rw [if_neg q]
        have nb : ¬ (lN a < 0 ∨ 1844674407370955161 < lN a) := fun z => q (Or.inl ((big_iff ha).mp z))
        rw [if_neg (fun z => nb (Or.inl z)), if_neg (fun z => nb (Or.inr z))]
        have hst : lN a * 10 + Int32.toInt64 (nI (S[p] - 48)) = lN (a * 10 + (S[p] - 48)) := (lN_step (a := a) (d := S[p] - 48)).elim id (fun z => by omega)
        have ha' : a * 10 + (S[p] - 48) < 2 ^ 64 := by omega
        obtain ⟨τ, t1, t2, t3⟩ := ih (p + 1) (a * 10 + (S[p] - 48)) V (uI σ 1095 4 (nI (p + 1))) (by omega) (by omega) ha' (RB_fT hR fT_u (by decide) (by decide)) (sI_s _ _ _ _)
        have one : ∀ X, (if a = 1844674407370955161 then (if 5 < S[p] - 48 then X else x_X7_readNumber_139 U 1095 (x_X7_readNumber_L44 U 1095 K v1 v2 v3 V) K v1 v2 v3 (lN a) (nI (S[p] - 48)) σ) else x_X7_readNumber_139 U 1095 (x_X7_readNumber_L44 U 1095 K v1 v2 v3 V) K v1 v2 v3 (lN a) (nI (S[p] - 48)) σ) = x_X7_readNumber_L44 U 1095 K v1 v2 v3 V (lN (a * 10 + (S[p] - 48))) (uI σ 1095 4 (nI (p + 1))) := by
          intro X
          have e139 : x_X7_readNumber_139 U 1095 (x_X7_readNumber_L44 U 1095 K v1 v2 v3 V) K v1 v2 v3 (lN a) (nI (S[p] - 48)) σ = x_X7_readNumber_L44 U 1095 K v1 v2 v3 V (lN (a * 10 + (S[p] - 48))) (uI σ 1095 4 (nI (p + 1))) := by
            unfold x_X7_readNumber_139
            rw [sb_eq, h4, nI_1, hst]
          rw [e139]
          by_cases q9 : a = 1844674407370955161
          · rw [if_pos q9, if_neg (fun z => q (Or.inr ⟨q9, z⟩))]
          · rw [if_neg q9]
        rw [one]
        refine ⟨τ, fT_trans fT_u t1, t2, fun x z => ?_⟩
        obtain ⟨u1, u2⟩ := t3 x z
        refine ⟨u1, ?_⟩
        rw [u2]
        congr 1
        omega
    · have hb : bP pD S p = false := by unfold bP; rw [hS]; simpa using hd
      rw [rl_no hb, rn_no hb, nmF]
      refine ⟨σ, fT_refl σ, fun z => (by cases z), fun x z => ?_⟩
      cases z
      by_cases q : S[p] < 48
      · rw [if_pos q]; exact ⟨rfl, h4⟩
      · rw [if_neg q]
        have : 57 < S[p] := by
          unfold pD at hd
          rw [Bool.and_eq_true, decide_eq_true_iff, decide_eq_true_iff] at hd
          omega
        rw [if_pos this]; exact ⟨rfl, h4⟩
/-- what reading a number gives the class -/
def RNo (σ : SG) (o : Option (Int64 × Nat)) (x : Option (Int32 × SG)) : Prop := ∃ τ, x = some (zI o.isSome, τ) ∧ fT σ τ ∧ ∀ v q, o = some (v, q) → sL τ 1095 6 = v ∧ sI τ 1095 4 = nI q
theorem RNo_no {σ τ : SG} (h : fT σ τ) : RNo σ none (some (0, τ)) := ⟨τ, rfl, h, fun v q z => by cases z⟩
theorem C_number {U t p : Nat} {S : List Nat} {σ : SG} (hU4 : 4000 < U) (hSl : S.length ≤ 700) (ht : t ≤ 14) (hp : p ≤ S.length) (hR : RB σ 1 S 0) (h4 : sI σ 1095 4 = nI p) : RNo σ (numS S t p) (x_X7_readNumber U 1095 (nI t) σ) := by
  unfold x_X7_readNumber x_X7_readNumber_21
  rw [h4, X0_at hR (by omega), b1_eq, show (45 : Int32) = nI 45 from rfl, ifA hR.2.2.2.2 (by decide), if_pos (show (0 : Int32) = 0 from rfl), if_neg (show ¬ (1 : Int32) = 0 by decide), sb_eq, nI_1]
  -- from the sign on
  have core : ∀ (p1 : Nat) (neg : Bool) (υ : SG), p1 ≤ S.length → RB υ 1 S 0 → sI υ 1095 4 = nI p1 → fT σ υ → RNo σ (if rn pD S p1 = 0 ∨ bP pW S (p1 + rn pD S p1) = true then none else match nmF (rl pD S p1) 0 with
    | none => none
    | some x => if x ≤ mxO t neg then some (if neg then -(lN x) else lN x, p1 + rn pD S p1) else none) (x_X7_readNumber_36 U 1095 (nI t) (zI neg) υ) := by
    intro p1 neg υ hp1 hR1 h41 hf
    unfold x_X7_readNumber_36
    have hrl := rn_le' (f := pD) hp1
    obtain ⟨τ, t1, t2, t3⟩ := C_dig_L (U := U) (S := S) (K := fun w21 σ22 => x_X7_readNumber_164 U 1095 (nI t) (zI neg) (sI υ 1095 4) w21 σ22) (v1 := nI t) (v2 := zI neg) (v3 := sI υ 1095 4) hSl (S.length - p1) p1 0 U υ (by omega) (by omega) (by decide) hR1 h41
    have fA := fT_trans hf t1
    have z0 : lN 0 = (0 : Int64) := rfl
    rw [z0] at t2 t3
    cases hn : nmF (rl pD S p1) 0 with
    | none =>
      rw [t2 hn]
      have : (if rn pD S p1 = 0 ∨ bP pW S (p1 + rn pD S p1) = true then (none : Option (Int64 × Nat)) else none) = none := ite_self _
      simp only
      rw [this]
      exact RNo_no fA
    | some x =>
      obtain ⟨u1, u2⟩ := t3 x hn
      have hx : x < 2 ^ 64 := nmF_lt _ _ _ (fun c hc => by have := pD_le (rl_mem hc); omega) (by decide) hn
      rw [u1]
      simp only
      unfold x_X7_readNumber_164 x_X7_readNumber_214
      have e0 : nI (p1 + rn pD S p1) = nI p1 ↔ rn pD S p1 = 0 := by
        rw [nI_eq (by omega) (by omega)]
        omega
      have hRt := RB_fT hR1 t1 (by decide) (by decide)
      rw [u2, h41, ifd e0, X0_at hRt (by omega), b1_eq, W_isWordByte hR.2.2.2.2, b1_eq, ifz, C_inR ht hx, b1_eq, ifz, ifz]
      by_cases q0 : rn pD S p1 = 0
      · rw [if_pos q0, if_pos (Or.inl q0)]; exact RNo_no fA
      rw [if_neg q0]
      cases hw : bP pW S (p1 + rn pD S p1) with
      | true => rw [if_pos (show true = true from rfl), if_pos (Or.inr rfl)]; exact RNo_no fA
      | false =>
        rw [if_neg (show ¬ false = true by decide), if_neg (fun z => z.elim q0 (fun y => by cases y))]
        by_cases qx : x ≤ mxO t neg
        · rw [decide_eq_true qx, if_pos (show true = true from rfl), if_pos qx, sb_eq, sb_eq]
          cases neg with
          | true =>
            rw [if_pos (show true = true from rfl)]
            refine ⟨_, rfl, fT_trans fA fT_L, fun v q z => ?_⟩
            cases z
            exact ⟨by rw [sL_uL, if_pos ⟨rfl, rfl⟩], u2⟩
          | false =>
            rw [if_neg (show ¬ false = true by decide)]
            refine ⟨_, rfl, fT_trans fA fT_L, fun v q z => ?_⟩
            cases z
            exact ⟨by rw [sL_uL, if_pos ⟨rfl, rfl⟩], u2⟩
        · rw [decide_eq_false qx, if_neg (show ¬ false = true by decide), if_neg qx]
          exact RNo_no fA
  unfold numS
  by_cases q : S[p]? = some 45
  · have hpl := (List.getElem?_eq_some_iff.mp q).1
    have := core (p + 1) true (uI σ 1095 4 (nI (p + 1))) (by omega) (RB_fT hR fT_u (by decide) (by decide)) (sI_s _ _ _ _) fT_u
    rw [if_pos q]
    simp only [if_pos q, decide_eq_true q]
    exact this
  · have := core p false σ hp hR h4 (fT_refl σ)
    rw [if_neg q]
    simp only [if_neg q, decide_eq_false q]
    exact this
/-! ===== parse: texts, names, a value of the class ===== -/
def o8 (S : List Nat) (p : Nat) : Bool := bP (fun c => decide (48 ≤ c ∧ c ≤ 55)) S p
def byt0 (S : List Nat) (p : Nat) : Nat := (S[p]?.getD 0) - 48
/-- an escape behind its backslash -/
def esS (S : List Nat) (p : Nat) : Option (Nat × Nat) := if S[p]? = some 110 then some (10, p + 1) else if S[p]? = some 114 then some (13, p + 1) else if S[p]? = some 116 then some (9, p + 1) else if S[p]? = some 34 then some (34, p + 1) else if S[p]? = some 92 then some (92, p + 1) else if S[p]? = some 39 then some (39, p + 1) else if o8 S p && o8 S (p + 1) && o8 S (p + 2) && decide (byt0 S p * 64 + byt0 S (p + 1) * 8 + byt0 S (p + 2) ≤ 255) then some (byt0 S p * 64 + byt0 S (p + 1) * 8 + byt0 S (p + 2), p + 3) else none
theorem o8_lt {S : List Nat} {p : Nat} (h : o8 S p = true) : p < S.length ∧ S[p]? = some (byt0 S p + 48) ∧ byt0 S p ≤ 7 := by
  unfold o8 bP at h
  cases hs : S[p]? with
  | none => rw [hs] at h; cases h
  | some c =>
    rw [hs] at h
    have hc := of_decide_eq_true h
    have hb : byt0 S p = c - 48 := by unfold byt0; rw [hs]; try rfl
    have := (List.getElem?_eq_some_iff.mp hs).1
    refine ⟨this, by rw [hb]; congr 1; omega, by omega⟩
theorem o8_no {S : List Nat} {p : Nat} (h : o8 S p = false) : (S[p]? = none) ∨ ∃ c, S[p]? = some c ∧ (c < 48 ∨ 55 < c) := by
  unfold o8 bP at h
  cases hs : S[p]? with
  | none => exact Or.inl rfl
  | some c =>
    rw [hs] at h
    have hc := of_decide_eq_false h
    exact Or.inr ⟨c, rfl, by omega⟩
theorem esS_lt {S : List Nat} {p b q : Nat} (h : esS S p = some (b, q)) : p < q ∧ q ≤ S.length ∧ b < 256 := by
  unfold esS at h
  have lit : ∀ c, S[p]? = some c → p < S.length := fun c hc => (List.getElem?_eq_some_iff.mp hc).1
  split at h
  · rename_i h1; have := lit _ h1; cases h; omega
  split at h
  · rename_i h1; have := lit _ h1; cases h; omega
  split at h
  · rename_i h1; have := lit _ h1; cases h; omega
  split at h
  · rename_i h1; have := lit _ h1; cases h; omega
  split at h
  · rename_i h1; have := lit _ h1; cases h; omega
  split at h
  · rename_i h1; have := lit _ h1; cases h; omega
  split at h
  · rename_i h1
    rw [Bool.and_eq_true, Bool.and_eq_true, decide_eq_true_iff] at h1
    have := (o8_lt h1.1.2).1
    cases h
    omega
  · cases h
def txS (S : List Nat) (qt : Nat) : Nat → Nat → Option (List Nat × Nat)
  | 0, _ => none
  | j + 1, p => match S[p]? with
    | none => none
    | some c => if c = qt then some ([], p + 1) else if c = 92 then (match esS S (p + 1) with
      | none => none
      | some (b, p') => (txS S qt j p').map (fun y => (b :: y.1, y.2))) else if c < 32 ∨ 126 < c then none else (txS S qt j (p + 1)).map (fun y => (c :: y.1, y.2))
/-- the class's place in the text form and its texts -/
def fU (σ τ : SG) : Prop := (∀ b, b ≠ 1095 → b ≠ 1092 → b ≠ 1093 → sm σ τ b) ∧ (∀ k, k ≠ 4 → sI τ 1095 k = sI σ 1095 k) ∧ sI τ 1092 2 = sI σ 1092 2
theorem fU_refl (σ : SG) : fU σ σ := ⟨fun b _ _ _ => sm_refl σ b, fun _ _ => rfl, rfl⟩
theorem fU_trans {σ τ υ : SG} (h : fU σ τ) (h' : fU τ υ) : fU σ υ := ⟨fun b h1 h2 h3 => sm_trans (h.1 b h1 h2 h3) (h'.1 b h1 h2 h3), fun k hk => (h'.2.1 k hk).trans (h.2.1 k hk), h'.2.2.trans h.2.2⟩
theorem fT_fU {σ τ : SG} (h : fT σ τ) : fU σ τ := ⟨fun b h1 _ _ => h.1 b h1, h.2.1, (h.1 1092 (by decide) 2).1⟩
theorem fU_RB1 {σ τ : SG} {S : List Nat} (h : RB σ 1 S 0) (hf : fU σ τ) : RB τ 1 S 0 := h.sm (hf.1 1 (by decide) (by decide) (by decide)) (hf.1 2 (by decide) (by decide) (by decide))
theorem tch10 : tchr 10 0 = nI 110 ∧ tchr 10 1 = nI 114 ∧ tchr 10 2 = nI 116 ∧ tchr 10 3 = nI 34 ∧ tchr 10 4 = nI 92 ∧ tchr 10 5 = nI 39 := by decide
theorem tch11 : tchr 11 0 = nI 10 ∧ tchr 11 1 = nI 13 ∧ tchr 11 2 = nI 9 ∧ tchr 11 3 = nI 34 ∧ tchr 11 4 = nI 92 ∧ tchr 11 5 = nI 39 := by decide
/-- what reading an escape gives the class -/
def REo (σ : SG) (o : Option (Nat × Nat)) (x : Option (Int32 × SG)) : Prop := ∃ v τ, x = some (v, τ) ∧ fT σ τ ∧ (o = none → v < 0) ∧ ∀ b q, o = some (b, q) → v = nI b ∧ sI τ 1095 4 = nI q
theorem C_escape {U p : Nat} {S : List Nat} {σ : SG} (hU4 : 4000 < U) (hSl : S.length ≤ 700) (hp : p ≤ S.length) (hR : RB σ 1 S 0) (h4 : sI σ 1095 4 = nI p) : REo σ (esS S p) (x_X7_readEscape U 1095 σ) := by
  have h8 : ok8 S := hR.2.2.2.2
  unfold x_X7_readEscape
  rw [h4, X0_at hR (by omega), b1_eq, nI_1]
  obtain ⟨V, hV⟩ : ∃ V, U = V + 7 := ⟨U - 7, by omega⟩
  have t6 : tlen 10 = 6 := by decide
  have t6' : tlen 11 = 6 := by decide
  -- the escapes one after the other
  have go : ∀ (k42 : Int32 → Option (Int32 × SG)) (k65 : Option (Int32 × SG)), (S[p]? = some 110 → REo σ (esS S p) (k42 (nI 0))) → (S[p]? = some 114 → REo σ (esS S p) (k42 (nI 1))) → (S[p]? = some 116 → REo σ (esS S p) (k42 (nI 2))) → (S[p]? = some 34 → REo σ (esS S p) (k42 (nI 3))) → (S[p]? = some 92 → REo σ (esS S p) (k42 (nI 4))) → (S[p]? = some 39 → REo σ (esS S p) (k42 (nI 5))) → (S[p]? ≠ some 110 → S[p]? ≠ some 114 → S[p]? ≠ some 116 → S[p]? ≠ some 34 → S[p]? ≠ some 92 → S[p]? ≠ some 39 → REo σ (esS S p) k65) → REo σ (esS S p) (x_X7_readEscape_L14 U 1095 k42 k65 (bA S p) σ (V + 7) (nI 0)) := by
    intro k42 k65 g0 g1 g2 g3 g4 g5 g6
    have step : ∀ (j W e : Nat), j < 6 → tchr 10 j = nI e → e < 256 → (S[p]? = some e → REo σ (esS S p) (k42 (nI j))) → (S[p]? ≠ some e → REo σ (esS S p) (x_X7_readEscape_L14 U 1095 k42 k65 (bA S p) σ W (nI (j + 1)))) → REo σ (esS S p) (x_X7_readEscape_L14 U 1095 k42 k65 (bA S p) σ (W + 1) (nI j)) := by
      intro j W e hj ht he h1 h2
      rw [x_X7_readEscape_L14, t6, t6', if_pos ((ltI (by omega) (by decide)).mpr hj), if_pos ((ltI (by omega) (by decide)).mpr hj), ix_in hj (by decide), ht, nI_1]
      by_cases q : S[p]? = some e
      · rw [if_pos ((bA_is h8 he).mpr q).symm]; exact h1 q
      · rw [if_neg (fun z => q ((bA_is h8 he).mp z.symm))]; exact h2 q
    obtain ⟨c0, c1, c2, c3, c4, c5⟩ := tch10
    refine step 0 (V + 6) 110 (by decide) c0 (by decide) g0 (fun n0 => ?_)
    refine step 1 (V + 5) 114 (by decide) c1 (by decide) g1 (fun n1 => ?_)
    refine step 2 (V + 4) 116 (by decide) c2 (by decide) g2 (fun n2 => ?_)
    refine step 3 (V + 3) 34 (by decide) c3 (by decide) g3 (fun n3 => ?_)
    refine step 4 (V + 2) 92 (by decide) c4 (by decide) g4 (fun n4 => ?_)
    refine step 5 (V + 1) 39 (by decide) c5 (by decide) g5 (fun n5 => ?_)
    rw [x_X7_readEscape_L14, t6, if_neg (show ¬ nI (5 + 1) < nI 6 by decide)]
    exact g6 n0 n1 n2 n3 n4 n5
  have two : ∀ (j y : Nat), j < 6 → tchr 11 j = nI y → esS S p = some (y, p + 1) → REo σ (esS S p) ((fun w10 => sb (uI σ 1095 4 (nI (p + 1))) fun σ11 => ix w10 (tlen 11) fun j12 => some (tchr 11 j12, σ11)) (nI j)) := by
    intro j y hj ht he
    rw [he]
    refine ⟨nI y, uI σ 1095 4 (nI (p + 1)), ?_, fT_u, fun z => (by cases z), fun b q z => by cases z; exact ⟨rfl, sI_s _ _ _ _⟩⟩
    show sb (uI σ 1095 4 (nI (p + 1))) (fun σ11 => ix (nI j) (tlen 11) fun j12 => some (tchr 11 j12, σ11)) = _
    rw [sb_eq, t6', ix_in hj (by decide), ht]
  obtain ⟨d0, d1, d2, d3, d4, d5⟩ := tch11
  have key := go (fun w10 => sb (uI σ 1095 4 (nI (p + 1))) fun σ11 => ix w10 (tlen 11) fun j12 => some (tchr 11 j12, σ11)) (x_X7_readEscape_65 U 1095 σ)
    (fun q => two 0 10 (by decide) d0 (by unfold esS; rw [if_pos q]))
    (fun q => two 1 13 (by decide) d1 (by unfold esS; rw [q]; rfl))
    (fun q => two 2 9 (by decide) d2 (by unfold esS; rw [q]; rfl))
    (fun q => two 3 34 (by decide) d3 (by unfold esS; rw [q]; rfl))
    (fun q => two 4 92 (by decide) d4 (by unfold esS; rw [q]; rfl))
    (fun q => two 5 39 (by decide) d5 (by unfold esS; rw [q]; rfl))
    (fun n0 n1 n2 n3 n4 n5 => by
      have ee : esS S p = if o8 S p && o8 S (p + 1) && o8 S (p + 2) && decide (byt0 S p * 64 + byt0 S (p + 1) * 8 + byt0 S (p + 2) ≤ 255) then some (byt0 S p * 64 + byt0 S (p + 1) * 8 + byt0 S (p + 2), p + 3) else none := by
        unfold esS
        rw [if_neg n0, if_neg n1, if_neg n2, if_neg n3, if_neg n4, if_neg n5]
      rw [ee]
      unfold x_X7_readEscape_65
      generalize hK : (fun (w22 : Int32) (σ23 : SG) => if 255 < w22 then (some ((-1 : Int32), σ23)) else (some (w22, σ23))) = K
      -- one digit
      have dig : ∀ (m v W q : Nat) (υ : SG), m < 3 → q < 2 ^ 20 → RB υ 1 S 0 → sI υ 1095 4 = nI q → x_X7_readEscape_L69 U 1095 K (W + 1) (nI v) (nI m) υ = if o8 S q then x_X7_readEscape_L69 U 1095 K W (nI (v * 8 + byt0 S q)) (nI (m + 1)) (uI υ 1095 4 (nI (q + 1))) else some (-1, υ) := by
        intro m v W q υ hm hq hRυ h4υ
        rw [x_X7_readEscape_L69, if_pos (show nI m < 3 from (ltI (b := 3) (by omega) (by decide)).mpr hm), h4υ, X0_at hRυ (by omega), b1_eq, sb_eq, nI_1, nI_1]
        cases ho : o8 S q with
        | true =>
          obtain ⟨o1, o2, o3⟩ := o8_lt ho
          have eA : bA S q - 48 = nI (byt0 S q) := by
            rw [bA_some o2]
            exact nI_sub (a := byt0 S q + 48) (b := 48) (by omega) |>.trans (by rw [Nat.add_sub_cancel])
          rw [if_pos (show true = true from rfl), eA, if_neg (nI_neg (by omega)), if_neg (show ¬ (7 : Int32) < nI (byt0 S q) from fun z => by have := (ltI (a := 7) (by decide) (by omega)).mp z; omega), show (8 : Int32) = nI 8 from rfl, pk_mul, nI_add]
        | false =>
          rw [if_neg (show ¬ false = true by decide)]
          rcases o8_no ho with z | ⟨c, z, hc⟩
          · rw [bA_none z, if_pos (by decide)]
          · have hc256 : c < 256 := h8 c (List.mem_of_getElem? z)
            rw [bA_some z]
            rcases hc with y | y
            · rw [if_pos ((by decide +kernel : ∀ c, c < 48 → nI c - 48 < 0) c y)]
            · have e1 : nI c - 48 = nI (c - 48) := nI_sub (b := 48) (by omega)
              rw [e1, if_neg (nI_neg (by omega)), if_pos (show (7 : Int32) < nI (c - 48) from (ltI (a := 7) (by decide) (by omega)).mpr (by omega))]
      have no : ∀ (υ : SG), fT σ υ → REo σ none (some (-1, υ)) := fun υ h => ⟨-1, υ, rfl, h, fun _ => by decide, fun b q z => by cases z⟩
      have hz : x_X7_readEscape_L69 U 1095 K U 0 0 σ = x_X7_readEscape_L69 U 1095 K (V + 7) (nI 0) (nI 0) σ := by rw [← hV]; try rfl
      rw [hz, dig 0 0 (V + 6) p σ (by decide) (by omega) hR h4]
      cases o0 : o8 S p with
      | false => rw [if_neg (show ¬ false = true by decide), Bool.false_and, Bool.false_and, Bool.false_and, if_neg (show ¬ false = true by decide)]; exact no σ (fT_refl σ)
      | true =>
        rw [if_pos (show true = true from rfl), dig (0 + 1) _ (V + 5) (p + 1) _ (by decide) (by omega) (RB_fT hR fT_u (by decide) (by decide)) (sI_s _ _ _ _), Bool.true_and]
        cases o1 : o8 S (p + 1) with
        | false => rw [if_neg (show ¬ false = true by decide), Bool.false_and, Bool.false_and, if_neg (show ¬ false = true by decide)]; exact no _ fT_u
        | true =>
          rw [if_pos (show true = true from rfl), dig (0 + 1 + 1) _ (V + 4) (p + 2) _ (by decide) (by omega) (RB_fT (RB_fT hR fT_u (by decide) (by decide)) fT_u (by decide) (by decide)) (sI_s _ _ _ _), Bool.true_and]
          cases o2 : o8 S (p + 2) with
          | false => rw [if_neg (show ¬ false = true by decide), Bool.false_and, if_neg (show ¬ false = true by decide)]; exact no _ (fT_trans fT_u fT_u)
          | true =>
            have b0 := (o8_lt o0).2.2
            have b1' := (o8_lt o1).2.2
            have b2' := (o8_lt o2).2.2
            rw [if_pos (show true = true from rfl), Bool.true_and, x_X7_readEscape_L69, if_neg (show ¬ nI (0 + 1 + 1 + 1) < 3 by decide), ← hK]
            have ev : ((0 * 8 + byt0 S p) * 8 + byt0 S (p + 1)) * 8 + byt0 S (p + 2) = byt0 S p * 64 + byt0 S (p + 1) * 8 + byt0 S (p + 2) := by omega
            simp only
            have e255 : (255 : Int32) < nI (byt0 S p * 64 + byt0 S (p + 1) * 8 + byt0 S (p + 2)) ↔ 255 < byt0 S p * 64 + byt0 S (p + 1) * 8 + byt0 S (p + 2) := ltI (a := 255) (by decide) (by omega)
            rw [ev, ifd e255]
            by_cases q : byt0 S p * 64 + byt0 S (p + 1) * 8 + byt0 S (p + 2) ≤ 255
            · rw [if_neg (show ¬ 255 < byt0 S p * 64 + byt0 S (p + 1) * 8 + byt0 S (p + 2) by omega), decide_eq_true q, if_pos (show true = true from rfl)]
              exact ⟨_, _, rfl, fT_trans (fT_trans fT_u fT_u) fT_u, fun z => (by cases z), fun b q z => by cases z; exact ⟨rfl, sI_s _ _ _ _⟩⟩
            · rw [if_pos (show 255 < byt0 S p * 64 + byt0 S (p + 1) * 8 + byt0 S (p + 2) by omega), decide_eq_false q, if_neg (show ¬ false = true by decide)]
              exact no _ (fT_trans (fT_trans fT_u fT_u) fT_u))
  have hz : x_X7_readEscape_L14 U 1095 (fun w10 => sb (uI σ 1095 4 (nI (p + 1))) fun σ11 => ix w10 (tlen 11) fun j12 => some (tchr 11 j12, σ11)) (x_X7_readEscape_65 U 1095 σ) (bA S p) σ U 0 = x_X7_readEscape_L14 U 1095 (fun w10 => sb (uI σ 1095 4 (nI (p + 1))) fun σ11 => ix w10 (tlen 11) fun j12 => some (tchr 11 j12, σ11)) (x_X7_readEscape_65 U 1095 σ) (bA S p) σ (V + 7) (nI 0) := by rw [← hV]; try rfl
  rw [hz]
  exact key
theorem C_tx_L {U a v2 qt : Nat} {S : List Nat} (hU4 : 4000 < U) (hSl : S.length ≤ 700) (hq : qt < 256) (hq2 : qt ≠ 92) {K : SG → Option (Int32 × SG)} : ∀ (j p U1 : Nat) (P : List Nat) (σ : SG), S.length < p + j → j < U1 → p ≤ S.length → P.length + (S.length - p) ≤ 1000 → RB σ 1 S 0 → RB σ 1092 P 0 → sI σ 1095 4 = nI p →
    (txS S qt j p = none → (∃ τ, x_X7_readText_L50 U 1095 K (some a) (nI v2) (nI qt) U1 σ = some (0, τ) ∧ fU σ τ) ∨ ∃ τ P', x_X7_readText_L50 U 1095 K (some a) (nI v2) (nI qt) U1 σ = K τ ∧ fU σ τ ∧ sI τ 1095 4 = nI S.length ∧ RB τ 1092 P' 0) ∧
    ∀ t q, txS S qt j p = some (t, q) → ∃ τ, x_X7_readText_L50 U 1095 K (some a) (nI v2) (nI qt) U1 σ = K τ ∧ fU σ τ ∧ sI τ 1095 4 = nI (q - 1) ∧ RB τ 1092 (P ++ t) 0 ∧ p + t.length < q ∧ q ≤ S.length ∧ ok8 t := by
  intro j
  induction j with
  | zero => intro p U1 P σ hj hu hp; omega
  | succ j ih =>
    intro p U1 P σ hj hu hp hl hR hP h4
    obtain ⟨V, rfl⟩ : ∃ V, U1 = V + 1 := ⟨U1 - 1, by omega⟩
    have h8 : ok8 S := hR.2.2.2.2
    rw [x_X7_readText_L50, X0_size hR, b1_eq, h4, txS]
    by_cases hpe : p = S.length
    · have h0 : S[p]? = none := List.getElem?_eq_none (by omega)
      rw [if_neg (fun z => by have := (ltI (by omega) (by omega)).mp z; omega), h0]
      exact ⟨fun _ => Or.inr ⟨σ, P, rfl, fU_refl σ, by rw [h4, hpe], hP⟩, fun t q z => by cases z⟩
    have hpl : p < S.length := by omega
    have hS := List.getElem?_eq_getElem hpl
    have hc : S[p] < 256 := h8 _ (List.getElem_mem hpl)
    have hA : bA S p = nI S[p] := by unfold bA; rw [hS]
    rw [if_pos ((ltI (by omega) (by omega)).mpr hpl), X0_at hR (by omega), b1_eq, hA, ifd (nI_eq (by omega) (by omega)), b1_eq, sb_eq, nI_1, hS]
    simp only
    by_cases cq : S[p] = qt
    · rw [if_pos cq, if_pos cq]
      refine ⟨fun z => (by cases z), fun t q z => ?_⟩
      cases z
      exact ⟨σ, rfl, fU_refl σ, by rw [Nat.add_sub_cancel]; exact h4, by rw [List.append_nil]; exact hP, by simp, by omega, fun c hc => by cases hc⟩
    rw [if_neg cq, if_neg cq]
    have R1 := RB_fT hR (fT_u (v := nI (p + 1))) (by decide) (by decide)
    have P1 := RB_fT hP (fT_u (v := nI (p + 1))) (by decide) (by decide)
    have a4 : sI (uI σ 1095 4 (nI (p + 1))) 1095 4 = nI (p + 1) := sI_s _ _ _ _
    have F1 : fU σ (uI σ 1095 4 (nI (p + 1))) := fT_fU fT_u
    generalize uI σ 1095 4 (nI (p + 1)) = σ1 at *
    have e92 : nI S[p] = 92 ↔ S[p] = 92 := nI_eq (b := 92) (by omega) (by decide)
    have e32 : nI S[p] < 32 ↔ S[p] < 32 := ltI (b := 32) (by omega) (by decide)
    have e126 : (126 : Int32) < nI S[p] ↔ 126 < S[p] := ltI (a := 126) (by decide) (by omega)
    rw [ifd e92, ifd e32, ifd e126]
    -- one byte more
    have more : ∀ (b q : Nat) (υ : SG), b < 256 → p < q → q ≤ S.length → fU σ υ → RB υ 1 S 0 → RB υ 1092 P 0 → sI υ 1095 4 = nI q →
        (txS S qt j q = none → (∃ τ, x_X7_readText_136 U 1095 (x_X7_readText_L50 U 1095 K (some a) (nI v2) (nI qt) V) K (some a) (nI v2) (nI qt) (nI b) υ = some (0, τ) ∧ fU σ τ) ∨ ∃ τ P', x_X7_readText_136 U 1095 (x_X7_readText_L50 U 1095 K (some a) (nI v2) (nI qt) V) K (some a) (nI v2) (nI qt) (nI b) υ = K τ ∧ fU σ τ ∧ sI τ 1095 4 = nI S.length ∧ RB τ 1092 P' 0) ∧
        ∀ t r, txS S qt j q = some (t, r) → ∃ τ, x_X7_readText_136 U 1095 (x_X7_readText_L50 U 1095 K (some a) (nI v2) (nI qt) V) K (some a) (nI v2) (nI qt) (nI b) υ = K τ ∧ fU σ τ ∧ sI τ 1095 4 = nI (r - 1) ∧ RB τ 1092 (P ++ b :: t) 0 ∧ p + (b :: t).length < r ∧ r ≤ S.length ∧ ok8 (b :: t) := by
      intro b q υ hb hpq hqS hfυ hRυ hPυ h4υ
      unfold x_X7_readText_136
      have ln93 : ln (1092 + 1) = 1000 := by decide
      obtain ⟨ψ, y1, y2, y3⟩ := X0_add (σ := υ) (a := 1092) (x := nI b) hPυ (by rw [ln93]; omega)
      rw [lo8_nI hb] at y2
      have Fψ : fU υ ψ := ⟨fun b h1 h2 h3 => y3 b h2 h3, fun k _ => (y3 1095 (by decide) (by decide) k).1, y2.2.1.trans hPυ.2.1.symm⟩
      rw [if_neg (nI_neg (by omega)), y1, b1_eq]
      have hRψ := hRυ.sm (y3 1 (by decide) (by decide)) (y3 2 (by decide) (by decide))
      have h4ψ : sI ψ 1095 4 = nI q := ((y3 1095 (by decide) (by decide) 4).1).trans h4υ
      obtain ⟨k1, k2⟩ := ih q V (P ++ [b]) ψ (by omega) (by omega) hqS (by rw [List.length_append, List.length_singleton]; omega) hRψ y2 h4ψ
      have FA := fU_trans hfυ Fψ
      refine ⟨fun z => ?_, fun t r z => ?_⟩
      · rcases k1 z with ⟨τ, t1, t2⟩ | ⟨τ, P', t1, t2, t3, t4⟩
        · exact Or.inl ⟨τ, t1, fU_trans FA t2⟩
        · exact Or.inr ⟨τ, P', t1, fU_trans FA t2, t3, t4⟩
      · obtain ⟨τ, t1, t2, t3, t4, t5, t6, t7⟩ := k2 t r z
        refine ⟨τ, t1, fU_trans FA t2, t3, ?_, by rw [List.length_cons]; omega, t6, fun c hc => ?_⟩
        · rw [List.append_assoc] at t4; exact t4
        · rcases List.mem_cons.mp hc with w | w
          · rw [w]; exact hb
          · exact t7 c w
    by_cases c92 : S[p] = 92
    · rw [if_pos c92, if_pos c92]
      obtain ⟨v, τ, e1, e2, e3, e4⟩ := C_escape (U := U) (p := p + 1) hU4 hSl (by omega) R1 a4
      rw [e1, b2_eq]
      cases hes : esS S (p + 1) with
      | none =>
        simp only
        refine ⟨fun _ => Or.inl ⟨τ, ?_, fU_trans F1 (fT_fU e2)⟩, fun t q z => by cases z⟩
        unfold x_X7_readText_136
        rw [if_pos (e3 hes)]
      | some y =>
        obtain ⟨b, q⟩ := y
        obtain ⟨f1, f2⟩ := e4 b q hes
        obtain ⟨l1, l2, l3⟩ := esS_lt hes
        simp only
        have m := more b q τ l3 (by omega) l2 (fU_trans F1 (fT_fU e2)) (RB_fT R1 e2 (by decide) (by decide)) (RB_fT P1 e2 (by decide) (by decide)) f2
        rw [f1]
        refine ⟨fun z => ?_, fun t r z => ?_⟩
        · exact m.1 (by cases h : txS S qt j q with | none => rfl | some y => rw [h] at z; cases z)
        · cases h : txS S qt j q with
          | none => rw [h] at z; cases z
          | some y =>
            rw [h] at z
            cases z
            exact m.2 _ _ h
    · rw [if_neg c92, if_neg c92]
      by_cases c32 : S[p] < 32
      · rw [if_pos c32, if_pos (Or.inl c32)]
        unfold x_X7_readText_135 x_X7_readText_136
        rw [if_pos (by decide)]
        exact ⟨fun _ => Or.inl ⟨σ1, rfl, F1⟩, fun t q z => by cases z⟩
      rw [if_neg c32]
      by_cases c126 : 126 < S[p]
      · rw [if_pos c126, if_pos (Or.inr c126)]
        unfold x_X7_readText_135 x_X7_readText_136
        rw [if_pos (by decide)]
        exact ⟨fun _ => Or.inl ⟨σ1, rfl, F1⟩, fun t q z => by cases z⟩
      rw [if_neg c126, if_neg (fun z => z.elim c32 c126)]
      have m := more S[p] (p + 1) σ1 hc (by omega) (by omega) F1 R1 P1 a4
      refine ⟨fun z => ?_, fun t r z => ?_⟩
      · exact m.1 (by cases h : txS S qt j (p + 1) with | none => rfl | some y => rw [h] at z; cases z)
      · cases h : txS S qt j (p + 1) with
        | none => rw [h] at z; cases z
        | some y =>
          rw [h] at z
          cases z
          exact m.2 _ _ h
/-! ===== parse: a value, read by the class ===== -/
def tvS (S : List Nat) (t p : Nat) : Option (List Nat × Nat) := match S[p]? with
  | none => none
  | some c => if c = 34 ∨ c = 39 then (match txS S c 701 (p + 1) with
    | none => none
    | some (x, q) => if t = 11 ∧ u8T x 0 x.length = false then none else some (x, q)) else none
/-- the text form's place, the texts, and a node's text -/
def fN5 (a : Nat) (σ τ : SG) : Prop := (∀ b, b ≠ 1095 → b ≠ 1092 → b ≠ 1093 → b ≠ a → sm σ τ b) ∧ (∀ k, k ≠ 4 → sI τ 1095 k = sI σ 1095 k) ∧ sI τ 1092 2 = sI σ 1092 2 ∧ ∀ k, (k ≠ 5 → k ≠ 6 → sI τ a k = sI σ a k) ∧ sL τ a k = sL σ a k ∧ sP τ a k = sP σ a k
theorem fN5_trans {a : Nat} {σ τ υ : SG} (h : fN5 a σ τ) (h' : fN5 a τ υ) : fN5 a σ υ := ⟨fun b h1 h2 h3 h4 => sm_trans (h.1 b h1 h2 h3 h4) (h'.1 b h1 h2 h3 h4), fun k hk => (h'.2.1 k hk).trans (h.2.1 k hk), h'.2.2.1.trans h.2.2.1, fun k => ⟨fun h5 h6 => ((h'.2.2.2 k).1 h5 h6).trans ((h.2.2.2 k).1 h5 h6), (h'.2.2.2 k).2.1.trans (h.2.2.2 k).2.1, (h'.2.2.2 k).2.2.trans (h.2.2.2 k).2.2⟩⟩
theorem fU_N5 {a : Nat} {σ τ : SG} (ha : 391 ≤ a) (ha2 : a < 1092) (h : fU σ τ) : fN5 a σ τ := ⟨fun b h1 h2 h3 _ => h.1 b h1 h2 h3, h.2.1, h.2.2, fun k => ⟨fun _ _ => (h.1 a (by omega) (by omega) (by omega) k).1, (h.1 a (by omega) (by omega) (by omega) k).2.1, (h.1 a (by omega) (by omega) (by omega) k).2.2⟩⟩
theorem uI_N5 {a k : Nat} {σ : SG} {v : Int32} (ha : 391 ≤ a) (ha2 : a < 1092) (hk : k = 5 ∨ k = 6) : fN5 a σ (uI σ a k v) := ⟨fun b _ _ _ h4 => sm_uI h4, fun k _ => sI_o (Or.inl (by omega)), sI_o (Or.inl (by omega)), fun j => ⟨fun h5 h6 => sI_o (Or.inr (by omega)), rfl, rfl⟩⟩
theorem u8_pre {P t : List Nat} : u8T (P ++ t) P.length (P.length + t.length) = u8T t 0 t.length := by
  have := u8_pool (P := P) (S := t) (a := 0) (e := t.length) (Nat.zero_le _) (Nat.le_refl _)
  have e : slc t 0 t.length = t := by unfold slc; rw [List.drop_zero, Nat.sub_zero, List.take_length]
  rw [e, Nat.sub_zero] at this
  exact this
theorem C_rtext {U a t p : Nat} {S P : List Nat} {σ : SG} (hU4 : 4000 < U) (hSl : S.length ≤ 700) (ha : 391 ≤ a) (ha2 : a < 1092) (ht : t ≤ 14) (hp : p ≤ S.length) (hPl : P.length ≤ p) (hR : RB σ 1 S 0) (hP : RB σ 1092 P 0) (h4 : sI σ 1095 4 = nI p) : ∃ τ, x_X7_readText U 1095 (some a) (nI t) σ = some (zI (tvS S t p).isSome, τ) ∧ fN5 a σ τ ∧ ∀ x q, tvS S t p = some (x, q) → sI τ 1095 4 = nI q ∧ RB τ 1092 (P ++ x) 0 ∧ sI τ a 5 = nI P.length ∧ sI τ a 6 = nI (P ++ x).length ∧ p + x.length < q ∧ q ≤ S.length ∧ ok8 x := by
  have h8 : ok8 S := hR.2.2.2.2
  have hsh : sh a = 4 := nd_sh ha ha2
  have f0 : fN5 a σ σ := fU_N5 ha ha2 (fU_refl σ)
  unfold x_X7_readText
  rw [h4, X0_at hR (by omega), b1_eq, show (34 : Int32) = nI 34 from rfl, ifA h8 (by decide), show (39 : Int32) = nI 39 from rfl, ifA h8 (by decide)]
  unfold tvS
  cases hs : S[p]? with
  | none =>
    rw [if_neg (by intro z; cases z), if_neg (by intro z; cases z)]
    exact ⟨σ, rfl, f0, fun x q z => by cases z⟩
  | some c =>
    have hpl := (List.getElem?_eq_some_iff.mp hs).1
    have hc : c < 256 := h8 c (List.mem_of_getElem? hs)
    have e34 : some c = some 34 ↔ c = 34 := ⟨fun z => Option.some.inj z, fun z => by rw [z]⟩
    have e39 : some c = some 39 ↔ c = 39 := ⟨fun z => Option.some.inj z, fun z => by rw [z]⟩
    rw [ifd e34, ifd e39, bA_some hs]
    simp only
    by_cases cq : c = 34 ∨ c = 39
    · have go : ∃ τ, x_X7_readText_26 U 1095 (some a) (nI t) (nI c) σ = some (zI (match txS S c 701 (p + 1) with
          | none => (none : Option (List Nat × Nat))
          | some (x, q) => if t = 11 ∧ u8T x 0 x.length = false then none else some (x, q)).isSome, τ) ∧ fN5 a σ τ ∧ ∀ x q, (match txS S c 701 (p + 1) with
          | none => (none : Option (List Nat × Nat))
          | some (x, q) => if t = 11 ∧ u8T x 0 x.length = false then none else some (x, q)) = some (x, q) → sI τ 1095 4 = nI q ∧ RB τ 1092 (P ++ x) 0 ∧ sI τ a 5 = nI P.length ∧ sI τ a 6 = nI (P ++ x).length ∧ p + x.length < q ∧ q ≤ S.length ∧ ok8 x := by
        unfold x_X7_readText_26
        rw [sb_eq, h4, nI_1]
        have P1 := RB_fT hP (fT_u (v := nI (p + 1))) (by decide) (by decide)
        have R1 := RB_fT hR (fT_u (v := nI (p + 1))) (by decide) (by decide)
        have a4 : sI (uI σ 1095 4 (nI (p + 1))) 1095 4 = nI (p + 1) := sI_s _ _ _ _
        have F1 : fN5 a σ (uI σ 1095 4 (nI (p + 1))) := fU_N5 ha ha2 (fT_fU fT_u)
        generalize uI σ 1095 4 (nI (p + 1)) = σ1 at *
        rw [X0_size P1, b1_eq, ck_eq hsh, sb_eq]
        have P2 : RB (uI σ1 a 5 (nI P.length)) 1092 P 0 := P1.sm (sm_uI (by omega)) (sm_uI (by omega))
        have R2 : RB (uI σ1 a 5 (nI P.length)) 1 S 0 := R1.sm (sm_uI (by omega)) (sm_uI (by omega))
        have a42 : sI (uI σ1 a 5 (nI P.length)) 1095 4 = nI (p + 1) := (sI_o (Or.inl (by omega))).trans a4
        have a5 : sI (uI σ1 a 5 (nI P.length)) a 5 = nI P.length := sI_s _ _ _ _
        have F2 : fN5 a σ (uI σ1 a 5 (nI P.length)) := fN5_trans F1 (uI_N5 ha ha2 (Or.inl rfl))
        generalize uI σ1 a 5 (nI P.length) = σ2 at *
        have key := C_tx_L (U := U) (a := a) (v2 := t) (qt := c) (K := fun σ29 => x_X7_readText_160 U 1095 (some a) (nI t) σ29) hU4 hSl hc (by omega) 701 (p + 1) U P σ2 (by omega) (by omega) (by omega) (by omega) R2 P2 a42
        obtain ⟨k1, k2⟩ := key
        cases htx : txS S c 701 (p + 1) with
        | none =>
          simp only
          rcases k1 htx with ⟨τ, t1, t2⟩ | ⟨τ, P', t1, t2, t3, t4⟩
          · exact ⟨τ, t1, fN5_trans F2 (fU_N5 ha ha2 t2), fun x q z => by cases z⟩
          · rw [t1]
            unfold x_X7_readText_160 x_X7_readText_193
            have R3 := fU_RB1 R2 t2
            have R4 : RB (uI τ a 6 (nI P'.length)) 1 S 0 := R3.sm (sm_uI (by omega)) (sm_uI (by omega))
            have e4 : sI (uI τ a 6 (nI P'.length)) 1095 4 = nI S.length := (sI_o (Or.inl (by omega))).trans t3
            rw [X0_size t4, b1_eq, ck_eq hsh, sb_eq, X0_size R4, b1_eq, e4, if_neg (show ¬ nI S.length < nI S.length from fun z => by have := (ltI (by omega) (by omega)).mp z; omega), sb_eq, if_pos (show (0 : Int32) = 0 from rfl)]
            exact ⟨_, rfl, fN5_trans F2 (fN5_trans (fU_N5 ha ha2 t2) (fN5_trans (uI_N5 ha ha2 (Or.inr rfl)) (fU_N5 ha ha2 (fT_fU fT_u)))), fun x q z => by cases z⟩
        | some y =>
          obtain ⟨x, q⟩ := y
          obtain ⟨τ, t1, t2, t3, t4, t5, t6, t7⟩ := k2 x q htx
          simp only
          rw [t1]
          unfold x_X7_readText_160
          have R3 := fU_RB1 R2 t2
          have R4 : RB (uI τ a 6 (nI (P ++ x).length)) 1 S 0 := R3.sm (sm_uI (by omega)) (sm_uI (by omega))
          have e4 : sI (uI τ a 6 (nI (P ++ x).length)) 1095 4 = nI (q - 1) := (sI_o (Or.inl (by omega))).trans t3
          have T4 : RB (uI τ a 6 (nI (P ++ x).length)) 1092 (P ++ x) 0 := t4.sm (sm_uI (by omega)) (sm_uI (by omega))
          have a53 : sI (uI τ a 6 (nI (P ++ x).length)) a 5 = nI P.length := (sI_o (Or.inr (by decide))).trans (((t2.1 a (by omega) (by omega) (by omega)) 5).1.trans a5)
          have a63 : sI (uI τ a 6 (nI (P ++ x).length)) a 6 = nI (P ++ x).length := sI_s _ _ _ _
          rw [X0_size t4, b1_eq, ck_eq hsh, sb_eq, X0_size R4, b1_eq, e4, if_pos (show nI (q - 1) < nI S.length from (ltI (by omega) (by omega)).mpr (by omega))]
          have F4 : fN5 a σ (uI τ a 6 (nI (P ++ x).length)) := fN5_trans F2 (fN5_trans (fU_N5 ha ha2 t2) (uI_N5 ha ha2 (Or.inr rfl)))
          generalize uI τ a 6 (nI (P ++ x).length) = σ4 at *
          unfold x_X7_readText_193
          rw [sb_eq, e4, nI_1, show q - 1 + 1 = q by omega, if_neg (show ¬ (1 : Int32) = 0 by decide)]
          have T5 := RB_fT T4 (fT_u (v := nI q)) (by decide) (by decide)
          have b5 : sI (uI σ4 1095 4 (nI q)) a 5 = nI P.length := (sI_o (Or.inl (by omega))).trans a53
          have b6 : sI (uI σ4 1095 4 (nI q)) a 6 = nI (P ++ x).length := (sI_o (Or.inl (by omega))).trans a63
          have b4 : sI (uI σ4 1095 4 (nI q)) 1095 4 = nI q := sI_s _ _ _ _
          have F5 : fN5 a σ (uI σ4 1095 4 (nI q)) := fN5_trans F4 (fU_N5 ha ha2 (fT_fU fT_u))
          generalize uI σ4 1095 4 (nI q) = σ5 at *
          have e11 : nI t = 11 ↔ t = 11 := nI_eq (b := 11) (by omega) (by decide)
          have h9 := List.length_append (as := P) (bs := x)
          rw [ifd e11, ck_eq hsh, b5, b6, X0_isUtf8 (U := U) hU4 T5 (by omega) (Nat.le_refl _), b1_eq, ifz, h9, u8_pre]
          by_cases q11 : t = 11
          · rw [if_pos q11]
            cases hu8 : u8T x 0 x.length with
            | true =>
              rw [if_pos (show true = true from rfl), if_neg (fun z => by cases z.2)]
              refine ⟨σ5, rfl, F5, fun x' q' z => ?_⟩
              cases z
              exact ⟨b4, T5, b5, b6, by omega, t6, t7⟩
            | false =>
              rw [if_neg (show ¬ false = true by decide), if_pos ⟨q11, rfl⟩]
              exact ⟨σ5, rfl, F5, fun x' q' z => by cases z⟩
          · rw [if_neg q11, if_neg (fun z => q11 z.1)]
            refine ⟨σ5, rfl, F5, fun x' q' z => ?_⟩
            cases z
            exact ⟨b4, T5, b5, b6, by omega, t6, t7⟩
      rw [if_pos cq]
      rcases cq with z | z
      · rw [if_pos z]; exact go
      · rw [if_neg (by omega), if_pos z]; exact go
    · rw [if_neg cq, if_neg (fun z => cq (Or.inl z)), if_neg (fun z => cq (Or.inr z))]
      exact ⟨σ, rfl, f0, fun x q z => by cases z⟩
def bvS (S : List Nat) (p : Nat) : Option (Int64 × Nat) := (fi (slc S p (weS S p)) [[102, 97, 108, 115, 101], [116, 114, 117, 101]] 0).map (fun i => (lN i, weS S p))
theorem t12 : tby.getD 12 [] = jn [[102, 97, 108, 115, 101], [116, 114, 117, 101]] := by decide
theorem C_rbool {U p : Nat} {S : List Nat} {σ : SG} (hU4 : 4000 < U) (hSl : S.length ≤ 700) (hp : p ≤ S.length) (hR : RB σ 1 S 0) (h4 : sI σ 1095 4 = nI p) : RNo σ (bvS S p) (x_X7_readBool U 1095 σ) := by
  unfold x_X7_readBool bvS
  obtain ⟨τ, t1, t2, t3⟩ := C_skipW (U := U) hU4 hSl hp hR h4
  obtain ⟨w1, w2⟩ := weS_le hp
  have hwI := X0_wordIn (U := U) (k := 12) hU4 (RB_fT hR t3 (by decide) (by decide)) (by decide) w1 w2
  rw [t12, wI_fi _ 0 (by decide) (by decide)] at hwI
  have hsl : (S.drop p).take (weS S p - p) = slc S p (weS S p) := rfl
  rw [hsl] at hwI
  rw [t1, b1_eq, h4, t2, hwI, b1_eq, sb_eq, sL_s]
  have hfi : ∀ i, fi (slc S p (weS S p)) [[102, 97, 108, 115, 101], [116, 114, 117, 101]] 0 = some i → i ≤ 1 := by
    intro i h
    unfold fi at h
    split at h
    · cases h; omega
    · unfold fi at h
      split at h
      · cases h; omega
      · cases h
  cases hf : fi (slc S p (weS S p)) [[102, 97, 108, 115, 101], [116, 114, 117, 101]] 0 with
  | none =>
    rw [if_pos (show Int32.toInt64 (oI none) < 0 by decide)]
    exact RNo_no (fT_trans t3 fT_L)
  | some i =>
    have hi := hfi i hf
    rw [if_neg (show ¬ Int32.toInt64 (oI (some i)) < 0 from (by decide +kernel : ∀ i, i < 2 → ¬ Int32.toInt64 (oI (some i)) < 0) i (by omega))]
    refine ⟨_, rfl, fT_trans t3 fT_L, fun v q z => ?_⟩
    cases z
    refine ⟨?_, t2⟩
    rw [sL_uL, if_pos ⟨rfl, rfl⟩]
    exact nI_l (by omega)
def evS (T : List Nat) (D : List Dc) (e : Nat) (S : List Nat) (p : Nat) : Option (Int64 × Nat) := (vNm T D e (slc S p (weS S p))).map (fun i => (nLi D i, weS S p))
theorem C_rname {U c e p : Nat} {T S : List Nat} {D : List Dc} {y : Dc} {σ : SG} (hU4 : 4000 < U) (hcb : cb c) (hg : GSc T D) (hSl : S.length ≤ 700) (hp : p ≤ S.length) (hC : CS σ c T D) (hR : RB σ 1 S 0) (h4 : sI σ 1095 4 = nI p) (h9 : sP σ 389 4 = some (c + 1)) (he : D[e]? = some y) (h1 : dK y = 1) : RNo σ (evS T D e S p) (x_X7_readEnumName U 1095 (ad c (some e)) σ) := by
  have hc : c = 5 ∨ c = 197 := hcb
  have hl := hg.2.1
  have hel := (List.getElem?_eq_some_iff.mp he).1
  unfold x_X7_readEnumName evS
  obtain ⟨τ, t1, t2, t3⟩ := C_skipW (U := U) hU4 hSl hp hR h4
  obtain ⟨w1, w2⟩ := weS_le hp
  have hC1 : CS τ c T D := CS_sm hC (fun b h1 h2 => t3.1 b (by omega))
  have hR1 := RB_fT hR t3 (by decide) (by decide)
  have h91 : sP τ 389 4 = some (c + 1) := ((t3.1 389 (by decide) 4).2.2).trans h9
  rw [t1, b1_eq, if_neg (show ¬ ad c (some e) = none by intro z; cases z), h91, if_neg (show ¬ some (c + 1) = none by intro z; cases z), ck_eq (show sh (c + 1) = 6 by rcases hc with z | z <;> rw [z] <;> decide), h4, t2, C_called hU4 hcb hg hC1 hR1 w1 w2 hel, b1_eq, vNm_find hg he h1]
  cases hv : vNm T D e (slc S p (weS S p)) with
  | none =>
    rw [if_pos (show ad c none = none from rfl)]
    exact RNo_no t3
  | some i =>
    obtain ⟨d, hd, _⟩ := vNm_some hv
    have hil := (List.getElem?_eq_some_iff.mp hd).1
    have e6 : sL τ (c + 5 + i) 6 = nLi D i := by unfold nLi; rw [hd]; exact (hC1.it hd).1.2.2.2.2.2.2.1
    rw [if_neg (show ¬ ad c (some i) = none by intro z; cases z), ad_some, ck_eq (it_sh hcb (by omega)), e6, sb_eq]
    refine ⟨_, rfl, fT_trans t3 fT_L, fun v q z => ?_⟩
    cases z
    exact ⟨by rw [sL_uL, if_pos ⟨rfl, rfl⟩], t2⟩
/-- a number of a field -/
def nvS (T : List Nat) (D : List Dc) (S : List Nat) (d : Dc) (p : Nat) : Option (Int64 × Nat) := if fty T D d = 10 then bvS S p else if fty T D d = 14 ∧ bP pL S p = true then (match ftg T D d with
  | some e => evS T D e S p
  | none => none) else numS S (fty T D d) p
theorem C_nval {U c f a p : Nat} {T S : List Nat} {D : List Dc} {d : Dc} {σ : SG} (hU4 : 4000 < U) (hcb : cb c) (hg : GSc T D) (hSl : S.length ≤ 700) (hp : p ≤ S.length) (ha : 391 ≤ a) (ha2 : a < 1092) (hC : CS σ c T D) (hR : RB σ 1 S 0) (h4 : sI σ 1095 4 = nI p) (h9 : sP σ 389 4 = some (c + 1)) (hd : D[f]? = some d) (h2 : dK d = 2) (hnm : nmr (fty T D d) = true) : ∃ υ, x_X7_readValue U 1095 (some a) (ad c (some f)) σ = some (zI (nvS T D S d p).isSome, uL υ a 4 (sL υ 1095 6)) ∧ fT σ υ ∧ ∀ v q, nvS T D S d p = some (v, q) → sL υ 1095 6 = v ∧ sI υ 1095 4 = nI q := by
  have hl := hg.2.1
  have hfl := (List.getElem?_eq_some_iff.mp hd).1
  have hft : fty T D d ≤ 14 := dTy_lt (hg.fld hd h2).2.2.2.1
  have ety : sI σ (c + 5 + f) 8 = nI (fty T D d) := (hC.it hd).2.1
  have etg : sP σ (c + 5 + f) 10 = ad c (ftg T D d) := (hC.it hd).2.2.1
  have hsh : sh a = 4 := nd_sh ha ha2
  have e10 : nI (fty T D d) = 10 ↔ fty T D d = 10 := nI_eq (b := 10) (by omega) (by decide)
  have e14 : nI (fty T D d) = 14 ↔ fty T D d = 14 := nI_eq (b := 14) (by omega) (by decide)
  have hsh3 : sh (c + 5 + f) = 3 := it_sh hcb (by omega)
  unfold x_X7_readValue x_X7_readValue_75 x_X7_readValue_84 nvS
  simp only [ad_some, ck_eq hsh3, ck_eq hsh, ety]
  rw [X11_isNumeric (by omega), b1_eq, ifz, hnm, if_pos (show true = true from rfl), ifd e10, ifd e14, h4, X0_at hR (by omega), b1_eq, W_isLetter hR.2.2.2.2, b1_eq, ifz, etg]
  have fin : ∀ (o : Option (Int64 × Nat)) (x : Option (Int32 × SG)), RNo σ o x → ∃ υ, (b2 x fun v13 σ14 => sb (uL σ14 a 4 (sL σ14 1095 6)) fun σ18 => zb v13 <| some (v13, σ18)) = some (zI o.isSome, uL υ a 4 (sL υ 1095 6)) ∧ fT σ υ ∧ ∀ v q, o = some (v, q) → sL υ 1095 6 = v ∧ sI υ 1095 4 = nI q := by
    rintro o x ⟨υ, u1, u2, u3⟩
    refine ⟨υ, ?_, u2, u3⟩
    rw [u1, b2_eq, sb_eq, zb_zI]
  by_cases q10 : fty T D d = 10
  · rw [if_pos q10, if_pos q10]
    exact fin _ _ (C_rbool hU4 hSl hp hR h4)
  rw [if_neg q10, if_neg q10]
  have num : ∃ υ, (b2 (x_X7_readNumber U 1095 (nI (fty T D d)) σ) fun v30 σ31 => sb (uL σ31 a 4 (sL σ31 1095 6)) fun σ18 => zb v30 <| some (v30, σ18)) = some (zI (numS S (fty T D d) p).isSome, uL υ a 4 (sL υ 1095 6)) ∧ fT σ υ ∧ ∀ v q, numS S (fty T D d) p = some (v, q) → sL υ 1095 6 = v ∧ sI υ 1095 4 = nI q := fin _ _ (C_number hU4 hSl hft hp hR h4)
  by_cases q14 : fty T D d = 14
  · rw [if_pos q14]
    cases hb : bP pL S p with
    | false => rw [if_neg (show ¬ false = true by decide), if_neg (fun z => by cases z.2)]; exact num
    | true =>
      obtain ⟨e, y, h3, h5, h6⟩ := (ftg_msg hg hd h2).2.1 q14
      rw [if_pos (show true = true from rfl), if_pos ⟨q14, rfl⟩, h3]
      exact fin _ _ (C_rname hU4 hcb hg hSl hp hC hR h4 h9 h5 h6)
  · rw [if_neg q14, if_neg (fun z => q14 z.1)]
    exact num
/-! ===== parse: the spec, and a field of the class ===== -/
def pVal (T : List Nat) (D : List Dc) (S : List Nat) (d : Dc) (p : Nat) : Option (Int64 × List Nat × Nat) := if nmr (fty T D d) then (nvS T D S d p).map (fun y => (y.1, [], y.2)) else (tvS S (fty T D d) p).map (fun y => (0, y.1, y.2))
abbrev Tl : Type := List (Nat × Nat)
/-- one field of a message -/
def qSt (T : List Nat) (D : List Dc) (S : List Nat) (rc : AV → Tl → Nat → Nat → Nat → Option (AV × Tl × Nat)) (n m p : Nat) (A : AV) (tl : Tl) : Option (AV × Tl × Nat) := match fNm T D m (slc S p (weS S p)) with
  | none => none
  | some f => match D[f]? with
    | none => none
    | some d => if tk D tl n f d then none else if fty T D d = 13 then (if S[tbS S (weS S p)]? = some 123 then (match ftg T D d with
        | none => none
        | some t => rc (aMsg D A n f d t).1 ((n, f) :: tl) (aMsg D A n f d t).2 t (tbS S (weS S p) + 1)) else none)
      else if S[tbS S (weS S p)]? = some 58 then (match pVal T D S d (tbS S (tbS S (weS S p) + 1)) with
        | none => none
        | some (v, x, q) => some (aPut T D A n f d v x, (n, f) :: tl, q)) else none
def qLp (T : List Nat) (D : List Dc) (S : List Nat) (rc : AV → Tl → Nat → Nat → Nat → Option (AV × Tl × Nat)) (n m dp : Nat) : Nat → AV → Tl → Nat → Option (AV × Tl × Nat)
  | 0, _, _, _ => none
  | j + 1, A, tl, p => match S[tbS S p]? with
    | none => if dp = 1 then some (A, tl, tbS S p) else none
    | some c => if c = 125 then (if 1 < dp then some (A, tl, tbS S p + 1) else none) else match qSt T D S rc n m (tbS S p) A tl with
      | none => none
      | some (A', tl', p') => qLp T D S rc n m dp j A' tl' p'
def qMs (T : List Nat) (D : List Dc) (S : List Nat) (lm : Nat) : Nat → Nat → AV → Tl → Nat → Nat → Nat → Option (AV × Tl × Nat)
  | 0, _, _, _, _, _, _ => none
  | j + 1, dp, A, tl, n, m, p => if lm < dp then none else qLp T D S (qMs T D S lm j (dp + 1)) n m dp 701 A tl p
theorem numS_lt {S : List Nat} {t p q : Nat} {v : Int64} (hp : p ≤ S.length) (h : numS S t p = some (v, q)) : p < q ∧ q ≤ S.length := by
  unfold numS at h
  generalize hp1 : (if S[p]? = some 45 then p + 1 else p) = p1 at h
  have hb : p ≤ p1 ∧ p1 ≤ S.length := by
    by_cases z : S[p]? = some 45
    · have := (List.getElem?_eq_some_iff.mp z).1
      rw [if_pos z] at hp1; omega
    · rw [if_neg z] at hp1; omega
  have hr := rn_le' (f := pD) hb.2
  by_cases z : rn pD S p1 = 0 ∨ bP pW S (p1 + rn pD S p1) = true
  · rw [if_pos z] at h; cases h
  · rw [if_neg z] at h
    cases hn : nmF (rl pD S p1) 0 with
    | none => rw [hn] at h; cases h
    | some x =>
      rw [hn] at h
      simp only at h
      split at h
      · cases h
        have : rn pD S p1 ≠ 0 := fun y => z (Or.inl y)
        omega
      · cases h
theorem txS_lt {S : List Nat} {qt : Nat} : ∀ (j p : Nat) (t : List Nat) (q : Nat), txS S qt j p = some (t, q) → p + t.length < q ∧ q ≤ S.length := by
  intro j
  induction j with
  | zero => intro p t q h; cases h
  | succ j ih =>
    intro p t q h
    rw [txS] at h
    cases hs : S[p]? with
    | none => rw [hs] at h; cases h
    | some c =>
      have hpl := (List.getElem?_eq_some_iff.mp hs).1
      rw [hs] at h
      simp only at h
      by_cases cq : c = qt
      · rw [if_pos cq] at h; cases h; simp; omega
      rw [if_neg cq] at h
      by_cases c92 : c = 92
      · rw [if_pos c92] at h
        cases hes : esS S (p + 1) with
        | none => rw [hes] at h; cases h
        | some y =>
          obtain ⟨b, p'⟩ := y
          rw [hes] at h
          simp only at h
          have l := esS_lt hes
          cases ht : txS S qt j p' with
          | none => rw [ht] at h; cases h
          | some y =>
            rw [ht] at h
            cases h
            have := ih p' y.1 y.2 ht
            simp
            omega
      rw [if_neg c92] at h
      split at h
      · cases h
      · cases ht : txS S qt j (p + 1) with
        | none => rw [ht] at h; cases h
        | some y =>
          rw [ht] at h
          cases h
          have := ih (p + 1) y.1 y.2 ht
          simp
          omega
theorem fi_some {L : List (List Nat)} {N : List Nat} : ∀ (k i : Nat), fi N L k = some i → N ∈ L := by
  induction L with
  | nil => intro k i h; cases h
  | cons a L ih =>
    intro k i h
    unfold fi at h
    split at h
    · rename_i e; rw [e]; exact List.mem_cons_self ..
    · exact List.mem_cons_of_mem _ (ih _ _ h)
theorem we_lt {S : List Nat} {p : Nat} {N : List Nat} (hp : p ≤ S.length) (h : slc S p (weS S p) = N) (hN : N ≠ []) : p < weS S p := by
  have h1 := slc_len (weS_le hp).1 (weS_le hp).2
  rw [h] at h1
  have : N.length ≠ 0 := fun z => hN (List.length_eq_zero_iff.mp z)
  omega
theorem nmT_ne {T : List Nat} {D : List Dc} {i : Nat} {d : Dc} (hg : GSc T D) (hd : D[i]? = some d) : nmT T d ≠ [] := fun z => by
  obtain ⟨_, _, ⟨c, h4, _⟩, _⟩ := hg.N i d hd
  have z' : slc T (dA d) (dE d) = [] := z
  rw [z'] at h4
  cases h4
theorem pVal_lt {T : List Nat} {D : List Dc} {S : List Nat} {f : Nat} {d : Dc} {p q : Nat} {v : Int64} {x : List Nat} (hg : GSc T D) (hp : p ≤ S.length) (h : pVal T D S d p = some (v, x, q)) : p + x.length < q ∧ q ≤ S.length := by
  unfold pVal at h
  cases hnm : nmr (fty T D d) with
  | true =>
    rw [hnm, if_pos rfl] at h
    cases hn : nvS T D S d p with
    | none => rw [hn] at h; cases h
    | some y =>
      obtain ⟨v', q'⟩ := y
      rw [hn] at h
      cases h
      have hw := weS_le hp
      show p + 0 < q' ∧ q' ≤ S.length
      unfold nvS at hn
      split at hn
      · unfold bvS at hn
        cases hf : fi (slc S p (weS S p)) [[102, 97, 108, 115, 101], [116, 114, 117, 101]] 0 with
        | none => rw [hf] at hn; cases hn
        | some i =>
          rw [hf] at hn
          cases hn
          have hm := fi_some _ _ hf
          have := we_lt hp rfl (show slc S p (weS S p) ≠ [] from fun z => by rw [z] at hm; revert hm; decide)
          omega
      · split at hn
        · cases ht : ftg T D d with
          | none => rw [ht] at hn; cases hn
          | some e =>
            rw [ht] at hn
            simp only [evS] at hn
            cases hv : vNm T D e (slc S p (weS S p)) with
            | none => rw [hv] at hn; cases hn
            | some i =>
              rw [hv] at hn
              cases hn
              obtain ⟨y, h1, _, _, h4⟩ := vNm_some hv
              have := we_lt hp h4.symm (nmT_ne hg h1)
              omega
        · have := numS_lt hp hn
          omega
  | false =>
    rw [hnm, if_neg (by decide)] at h
    cases hn : tvS S (fty T D d) p with
    | none => rw [hn] at h; cases h
    | some y =>
      obtain ⟨x', q'⟩ := y
      rw [hn] at h
      cases h
      unfold tvS at hn
      cases hs : S[p]? with
      | none => rw [hs] at hn; cases hn
      | some c =>
        rw [hs] at hn
        simp only at hn
        split at hn
        · cases ht : txS S c 701 (p + 1) with
          | none => rw [ht] at hn; cases hn
          | some y =>
            obtain ⟨x2, q2⟩ := y
            rw [ht] at hn
            simp only at hn
            split at hn
            · cases hn
            · have e := Prod.mk.inj (Option.some.inj hn)
              have := txS_lt _ _ _ _ ht
              rw [e.1, e.2] at this
              show p + x'.length < q' ∧ q' ≤ S.length
              omega
        · cases hn
/-- the class while it parses -/
def QC (σ : SG) (c : Nat) (T : List Nat) (D : List Dc) (S : List Nat) (G : Gh) (A : AV) (tl : Tl) (p b : Nat) : Prop := CS σ c T D ∧ VG σ c T D G ∧ VE T D G A ∧ RB σ 1 S 0 ∧ sI σ 1095 4 = nI p ∧ gU G ≤ b ∧ (gP G).length ≤ b ∧ b ≤ p ∧ p ≤ S.length ∧ TLc G tl ∧ sP σ 389 4 = some (c + 1)
theorem fT_fX {σ τ : SG} (h : fT σ τ) : fX σ τ := ⟨fun b hb => h.1 b (by omega), fun k _ => h.1 389 (by decide) k, (h.1 1094 (by decide) 5).1, h.2.1 5 (by decide), (h.1 1092 (by decide) 2).1⟩
theorem QC_T {σ τ : SG} {c : Nat} {T : List Nat} {D : List Dc} {S : List Nat} {G : Gh} {A : AV} {tl : Tl} {p p' b : Nat} (h : QC σ c T D S G A tl p b) (hcb : cb c) (hf : fT σ τ) (h4 : sI τ 1095 4 = nI p') (hp : b ≤ p') (hp' : p' ≤ S.length) : QC τ c T D S G A tl p' b := by
  obtain ⟨a1, a2, a3, a4, a5, a6, a7, a8, a9, a10, a11⟩ := h
  exact ⟨CS_fX a1 hcb (fT_fX hf), VG_sm a2 (fun b hb => hf.1 b (by omega)), a3, RB_fT a4 hf (by decide) (by decide), h4, a6, a7, hp, hp', a10, ((hf.1 389 (by decide) 4).2.2).trans a11⟩
def OP (c : Nat) (T : List Nat) (D : List Dc) (S : List Nat) (G : Gh) (σ : SG) (o : Option (AV × Tl × Nat)) (x : Option (Int32 × SG)) : Prop := ∃ τ, x = some (zI o.isSome, τ) ∧ fX σ τ ∧ ∀ A tl p, o = some (A, tl, p) → ∃ G', QC τ c T D S G' A tl p p ∧ gX G G'
theorem OP_no {c : Nat} {T : List Nat} {D : List Dc} {S : List Nat} {G : Gh} {σ τ : SG} (h : fX σ τ) : OP c T D S G σ none (some (0, τ)) := ⟨τ, rfl, h, fun A tl p z => by cases z⟩
theorem OP_from {c : Nat} {T : List Nat} {D : List Dc} {S : List Nat} {G G1 : Gh} {σ τ : SG} {o : Option (AV × Tl × Nat)} {x : Option (Int32 × SG)} (hf : fX σ τ) (hg : gX G G1) (h : OP c T D S G1 τ o x) : OP c T D S G σ o x := by
  obtain ⟨υ, a, b, d⟩ := h
  refine ⟨υ, a, fX_trans hf b, fun A tl p z => ?_⟩
  obtain ⟨G', w1, w2⟩ := d A tl p z
  exact ⟨G', w1, gX_trans hg w2⟩
/-- a told field with its rivals -/
theorem tk_no {T : List Nat} {D : List Dc} {tl : Tl} {n f g : Nat} {d : Dc} (hg : GSc T D) (hd : D[f]? = some d) (h2 : dK d = 2) (h : tk D tl n f d = false) (hr : rivB D f d g = true) : (n, g) ∉ tl := by
  intro hm
  have hR : dR d = false := by
    cases hq : dR d with
    | false => rfl
    | true =>
      have ho := (hg.fld hd h2).2.2.2.2.2 hq
      unfold rivB at hr
      cases hx : D[g]? with
      | none => rw [hx] at hr; cases hr
      | some x => rw [hx] at hr; exact absurd ho (of_decide_eq_true hr).1
  have : tk D tl n f d = true := tk_iff.mpr ⟨hR, g, hm, Or.inr hr⟩
  rw [h] at this
  cases this
theorem TLc_flo {G : Gh} {n f : Nat} : (∃ e ∈ gL G n, eF e = some f) ↔ flo (some f) (gL G n) ≠ [] := by
  constructor
  · rintro ⟨e, he, hf⟩ z
    have : e ∈ flo (some f) (gL G n) := flo_mem.mpr ⟨he, hf⟩
    rw [z] at this
    cases this
  · intro h
    obtain ⟨e, he⟩ := List.exists_mem_of_ne_nil _ h
    exact ⟨e, flo_mem.mp he⟩
/-- one more told field -/
theorem TLc_add {T : List Nat} {D : List Dc} {G G2 : Gh} {tl : Tl} {n f : Nat} {d : Dc} (hg : GSc T D) (hd : D[f]? = some d) (h2 : dK d = 2) (hn : n < gC G) (htl : TLc G tl) (htk : tk D tl n f d = false) (hC : gC G ≤ gC G2) (hnew : ∀ m, gC G ≤ m → m < gC G2 → gL G2 m = []) (hoth : ∀ m, m < gC G → m ≠ n → gL G2 m = gL G m) (hf : flo (some f) (gL G2 n) ≠ []) (hfg : ∀ g, g ≠ f → flo (some g) (gL G2 n) = if rivB D f d g then [] else flo (some g) (gL G n)) : TLc G2 ((n, f) :: tl) := by
  intro m g
  rw [List.mem_cons]
  by_cases hm : m = n
  · subst hm
    rw [TLc_flo]
    by_cases hgf : g = f
    · subst hgf
      exact ⟨fun _ => ⟨by omega, hf⟩, fun _ => Or.inl rfl⟩
    · rw [hfg g hgf]
      constructor
      · rintro (z | z)
        · exact absurd (Prod.mk.inj z).2 hgf
        · refine ⟨by omega, ?_⟩
          cases hr : rivB D f d g with
          | true => exact absurd z (tk_no hg hd h2 htk hr)
          | false =>
            rw [if_neg (by decide)]
            exact TLc_flo.mp ((htl m g).mp z).2
      · rintro ⟨_, z⟩
        cases hr : rivB D f d g with
        | true => rw [hr, if_pos rfl] at z; exact absurd rfl z
        | false =>
          rw [hr, if_neg (by decide)] at z
          exact Or.inr ((htl m g).mpr ⟨hn, TLc_flo.mpr z⟩)
  · constructor
    · rintro (z | z)
      · exact absurd (Prod.mk.inj z).1 hm
      · obtain ⟨z1, z2⟩ := (htl m g).mp z
        rw [← hoth m z1 hm] at z2
        exact ⟨by omega, z2⟩
    · rintro ⟨z1, e, he, hef⟩
      right
      by_cases hmc : m < gC G
      · rw [hoth m hmc hm] at he
        exact (htl m g).mpr ⟨hmc, e, he, hef⟩
      · rw [hnew m (by omega) z1] at he
        cases he
/-! ===== the class parses a field ===== -/
theorem C_setN2 {c n f a : Nat} {σ : SG} {T : List Nat} {D : List Dc} {G G1 : Gh} {A : AV} {d : Dc} {v : Int64} (hV : VG σ c T D G1) (hE : VE T D G A) (hn : n < gC G) (hF : isF D (gN G n) f d) (h13 : fty T D d ≠ 13) (hnm : nmr (fty T D d) = true) (c1 : gC G1 = gC G) (c2 : gN G1 = gN G) (c3 : ∀ m, m ≠ n → gL G1 m = gL G m) (hp : CPt D G G1 n f d a) : ∃ t, VG (uL σ a 4 v) c T D (gN G1, gH G1, up (gL G1) n (setE a v t (gL G1 n)), gC G1, gU G1, gP G1) ∧ VE T D (gN G1, gH G1, up (gL G1) n (setE a v t (gL G1 n)), gC G1, gU G1, gP G1) (aPut T D A n f d v []) ∧ fX σ (uL σ a 4 v) := by
  obtain ⟨e, he, hea⟩ := hp.1
  have hn1 : n < gC G1 := by omega
  obtain ⟨b1, b2, b3, b4, ⟨x, y, x1, x2, x3, x4, x5⟩, b6, b7⟩ := hV.e hn1 he
  rw [hea] at b1 b2 x1 x2
  have hu := hV.2.1
  refine ⟨eT e, VG_set (v := v) (t := eT e) (P' := gP G1) hV hn1 ⟨e, he, hea⟩ (sL_s _ _ _ _) x1 x2 x3 x4 x5 (hV.2.2.1.sm (sm_uL (by omega)) (sm_uL (by omega))) (fun _ _ _ => rfl) (Nat.le_refl _) (fP_L (Or.inl ⟨rfl, Or.inl rfl⟩)), VE_of hE hn hF h13 c1 c2 c3 hp (fun _ => ⟨rfl, rfl⟩) (fun z => by rw [hnm] at z; cases z), ?_⟩
  exact ⟨fun b hb => sm_uL (by omega), fun k hk => ⟨rfl, sL_o (Or.inl (by omega)), rfl⟩, rfl, rfl, rfl⟩
/-- a text is put -/
theorem C_setT {c n f a : Nat} {σ τ : SG} {T : List Nat} {D : List Dc} {G G1 : Gh} {A : AV} {d : Dc} {x : List Nat} (hV : VG σ c T D G1) (hE : VE T D G A) (hn : n < gC G) (hF : isF D (gN G n) f d) (h13 : fty T D d ≠ 13) (hnm : nmr (fty T D d) = false) (c1 : gC G1 = gC G) (c2 : gN G1 = gN G) (c3 : ∀ m, m ≠ n → gL G1 m = gL G m) (hp : CPt D G G1 n f d a) (ha : 391 ≤ a) (ha2 : a < 1092) (hf : fN5 a σ τ) (hP : RB τ 1092 (gP G1 ++ x) 0) (h5 : sI τ a 5 = nI (gP G1).length) (h6 : sI τ a 6 = nI (gP G1 ++ x).length) : ∃ v, VG τ c T D (gN G1, gH G1, up (gL G1) n (setE a v x (gL G1 n)), gC G1, gU G1, gP G1 ++ x) ∧ VE T D (gN G1, gH G1, up (gL G1) n (setE a v x (gL G1 n)), gC G1, gU G1, gP G1 ++ x) (aPut T D A n f d 0 x) := by
  obtain ⟨e, he, hea⟩ := hp.1
  have hn1 : n < gC G1 := by omega
  have hlen := List.length_append (as := gP G1) (bs := x)
  refine ⟨sL τ a 4, ?_, VE_of hE hn hF h13 c1 c2 c3 hp (fun z => by rw [hnm] at z; cases z) (fun _ => ⟨rfl, rfl⟩)⟩
  let τ0 : SG := (fun b k => if b = 1095 then sI σ b k else sI τ b k, fun b k => if b = 1095 then sL σ b k else sL τ b k, fun b k => if b = 1095 then sP σ b k else sP τ b k)
  have z1 : ∀ b k, b ≠ 1095 → sI τ0 b k = sI τ b k ∧ sL τ0 b k = sL τ b k ∧ sP τ0 b k = sP τ b k := fun b k hb => ⟨if_neg hb, if_neg hb, if_neg hb⟩
  have z2 : ∀ k, sI τ0 1095 k = sI σ 1095 k ∧ sL τ0 1095 k = sL σ 1095 k ∧ sP τ0 1095 k = sP σ 1095 k := fun k => ⟨rfl, rfl, rfl⟩
  have V3 := VG_set (τ := τ0) (v := sL τ a 4) (t := x) (P' := gP G1 ++ x) (x := (gP G1).length) (y := (gP G1 ++ x).length) hV hn1 ⟨e, he, hea⟩ (z1 a 4 (by omega)).2.1 ((z1 a 5 (by omega)).1.trans h5) ((z1 a 6 (by omega)).1.trans h6) (by omega) (Nat.le_refl _) (by
    unfold slc
    rw [List.drop_left, List.take_of_length_le]
    rw [hlen, Nat.add_sub_cancel_left]
    exact Nat.le_refl _) (hP.sm (fun k => ⟨(z1 1092 k (by decide)).1, (z1 1092 k (by decide)).2.1, (z1 1092 k (by decide)).2.2⟩) (fun k => ⟨(z1 1093 k (by decide)).1, (z1 1093 k (by decide)).2.1, (z1 1093 k (by decide)).2.2⟩)) (fun u w hw => slc_pre hw) (by omega) (fun b k hk => by
    by_cases hb : b = 1095
    · rw [hb]; exact z2 k
    · obtain ⟨y1, y2, y3⟩ := z1 b k hb
      by_cases hba : b = a
      · subst hba
        obtain ⟨w1, w2, w3⟩ := hf.2.2.2 k
        have hk' : k ≠ 5 ∧ k ≠ 6 := ⟨fun z => hk (Or.inl ⟨rfl, Or.inr (Or.inl z)⟩), fun z => hk (Or.inl ⟨rfl, Or.inr (Or.inr z)⟩)⟩
        exact ⟨y1.trans (w1 hk'.1 hk'.2), y2.trans w2, y3.trans w3⟩
      · obtain ⟨w1, w2, w3⟩ := hf.1 b hb (fun z => hk (Or.inr (Or.inl z))) (fun z => hk (Or.inr (Or.inr z))) hba k
        exact ⟨y1.trans w1, y2.trans w2, y3.trans w3⟩)
  exact VG_sm V3 (fun b hb k => by
    obtain ⟨y1, y2, y3⟩ := z1 b k (by omega)
    exact ⟨y1.symm, y2.symm, y3.symm⟩)
/-- a message that was not told before -/
theorem C_msgN {U c n f t : Nat} {σ : SG} {T : List Nat} {D : List Dc} {G : Gh} {A : AV} {d : Dc} {tl : Tl} (hU : 4000 < U) (hcb : cb c) (hg : GSc T D) (hC : CS σ c T D) (h : VG σ c T D G) (hE : VE T D G A) (hn : n < gC G) (hu : gU G < 700) (hF : isF D (gN G n) f d) (h13 : fty T D d = 13) (ht : ftg T D d = some t) (htl : TLc G tl) (htk : tk D tl n f d = false) :
    ∃ a τ G', x_X8_put U 389 (some (gH G n)) (ad c (some f)) σ = some (some a, τ) ∧ VG τ c T D G' ∧ VE T D G' (aMsg D A n f d t).1 ∧ CS τ c T D ∧ fV σ τ ∧ gU G' ≤ gU G + 1 ∧ gX G G' ∧ gP G' = gP G ∧ (aMsg D A n f d t).2 < gC G' ∧ gH G' (aMsg D A n f d t).2 = a ∧ gN G' (aMsg D A n f d t).2 = t ∧ TLc G' ((n, f) :: tl) := by
  obtain ⟨a, τ, p1, p2, p3, p4, p5⟩ := X8_put (o := some f) hU hcb hg hC h hn hu (fun g hg' => by cases hg'; exact ⟨d, hF⟩)
  obtain ⟨a', τ', G', q1, q2, q3, q4, q5, q6, q7, q8, q9, q10, q11, q12, q13⟩ := C_msg hU hcb hg hC h hE hn hu hF h13 ht
  have hv := h.2.2.2.2.2.2.2.2.2 n hn
  have fi := h.fi hn
  have hfd : ∀ x ∈ gL G n, ∀ g, eF x = some g → ∃ y, D[g]? = some y := fun x hx g hgx => by obtain ⟨y, hy⟩ := fi x hx g hgx; exact ⟨y, hy.1⟩
  have hdr := flo_dr (L := gL G n) hF.1 hfd
  have hsub : List.Sublist (drG D (some f) (gL G n)) (gL G n) := drG_sub
  have hmt : mtO T D (some f) = some t := by unfold mtO; simp only; rw [hF.1]; simp only; rw [if_pos h13, ht]
  have hsr : srE D (drG D (some f) (gL G n)) := hv.2.2.1.sublist hsub
  have e1 := hE.1
  cases hr : ruE D (some f) (drG D (some f) (gL G n)) with
  | some b =>
    exfalso
    have hr' := hr
    unfold ruE at hr'
    cases hbl : (twE D (some f) (drG D (some f) (gL G n))).getLast? with
    | none => rw [hbl] at hr'; cases hr'
    | some b' =>
      rw [hbl] at hr'
      simp only at hr'
      by_cases q : eF b' = some f ∧ (∀ d, D[f]? = some d → dR d = false)
      · rw [if_pos q] at hr'
        cases hr'
        obtain ⟨Z, hZ⟩ := List.getLast?_eq_some_iff.mp hbl
        have hb1 : b ∈ drG D (some f) (gL G n) := by rw [← tdE D (some f) (drG D (some f) (gL G n)), hZ]; simp
        have : tk D tl n f d = true := tk_iff.mpr ⟨q.2 d hF.1, f, (htl n f).mpr ⟨hn, b, hsub.subset hb1, q.1⟩, Or.inl rfl⟩
        rw [htk] at this
        cases this
      · rw [if_neg q] at hr'; cases hr'
  | none =>
    obtain ⟨w1, w2⟩ := p5 hr
    rw [hmt] at w2
    have gl : gL (gNew D (gSet G n (drG D (some f) (gL G n))) n (some f) (some t)) n = insE D (391 + gU G, some f, gC G, 0, []) (drG D (some f) (gL G n)) := by
      show up (up (up (gL G) n (drG D (some f) (gL G n))) n (insE D (391 + gU G, some f, gC G, 0, []) (up (gL G) n (drG D (some f) (gL G n)) n))) (gC G) [] n = _
      rw [up_o (Nat.ne_of_lt hn), up_s, up_s]
    have eC : gC (gNew D (gSet G n (drG D (some f) (gL G n))) n (some f) (some t)) = gC G + 1 := rfl
    obtain ⟨e1, e2, e3⟩ := hE
    obtain ⟨k1, k2⟩ := e3 n hn
    have nz : ∀ v t, noth T D d v t = false := fun v t => by unfold noth; rw [decide_eq_false (show ¬ fty T D d ≠ 13 from fun z => z h13)]; simp
    have hf1 : flo (some f) (drG D (some f) (gL G n)) = flo (some f) (gL G n) := by rw [hdr (some f)]; simp only; rw [rivB_self]; try rfl
    have hEf : (flo (some f) (gL G n)).map (itm T D d) = aE A n f := by
      rw [← k1 f d hF, List.filter_eq_self.mpr]
      intro e _
      unfold live; rw [nz]; try rfl
    have hit : ∀ e, itm T D d e = (0, [], eK e) := fun e => by unfold itm; rw [if_pos h13]
    have hm : aMsg D A n f d t = (aNew D A n f d t, aC A) := by
      unfold aMsg
      cases hR : dR d with
      | true => rfl
      | false =>
        have h0 : flo (some f) (gL G n) = [] := by
          cases hq : flo (some f) (gL G n) with
          | nil => rfl
          | cons e L =>
            exfalso
            have he : e ∈ flo (some f) (gL G n) := by rw [hq]; exact List.mem_cons_self ..
            obtain ⟨h1, h2⟩ := flo_mem.mp he
            have : tk D tl n f d = true := tk_iff.mpr ⟨hR, f, (htl n f).mpr ⟨hn, e, h1, h2⟩, Or.inl rfl⟩
            rw [htk] at this
            cases this
        rw [h0] at hEf
        have : aE A n f = [] := hEf.symm
        rw [this]
    rw [hm]
    refine ⟨a, τ, _, p1, w2, ⟨by rw [eC, e1]; rfl, fun m hm' => ?_, fun m hm' => ?_⟩, p3, p2, Nat.le_refl _, ⟨by rw [eC]; omega, fun m hm' => ⟨up_o (Nat.ne_of_lt hm'), up_o (Nat.ne_of_lt hm')⟩⟩, rfl, by rw [eC, ← e1]; exact Nat.lt_succ_self _, ?_, ?_, ?_⟩
    · show up (gN G) (gC G) t m = up (aN A) (aC A) t m
      rw [← e1]
      by_cases z : m = gC G
      · rw [z, up_s, up_s]
      · rw [up_o z, up_o z]; exact e2 m (by rw [eC] at hm'; omega)
    · show VEn T D (up (gN G) (gC G) t m) _ (up (up (aE A) n _) (aC A) (fun _ => []) m) (up (aU A) (aC A) [] m)
      rw [← e1]
      by_cases zc : m = gC G
      · subst zc
        have eL : gL (gNew D (gSet G n (drG D (some f) (gL G n))) n (some f) (some t)) (gC G) = [] := up_s _ _ _
        rw [eL, up_s, up_s, up_s]
        exact ⟨fun g x _ => rfl, rfl⟩
      · rw [up_o zc, up_o zc, up_o zc]
        have hmC : m < gC G := by rw [eC] at hm'; omega
        by_cases z : m = n
        · subst z
          rw [gl, up_s]
          refine ⟨fun g x hx => ?_, ?_⟩
          · show List.map _ _ = (if g = f then aE A m f ++ [(0, [], gC G)] else if rivB D f d g then [] else aE A m g)
            rw [flo_ins hsr]
            by_cases w : g = f
            · subst w
              have : x = d := by have := hx.1; rw [hF.1] at this; exact (Option.some.inj this).symm
              subst this
              rw [if_pos (show eF (391 + gU G, some g, gC G, 0, []) = some g from rfl), if_pos rfl, hf1, List.filter_eq_self.mpr (fun e _ => by unfold live; rw [nz]; rfl), List.map_append, hEf]
              show _ ++ [itm T D x _] = _
              rw [hit]; try rfl
            · rw [if_neg (show ¬ eF (391 + gU G, some f, gC G, 0, []) = some g from fun y => w (Option.some.inj y).symm), if_neg w, hdr (some g)]
              simp only
              cases rivB D f d g with
              | true => rfl
              | false => exact k1 g x hx
          · rw [flo_ins hsr, if_neg (show ¬ eF (391 + gU G, some f, gC G, 0, []) = none from fun y => by cases y), hdr none]
            exact k2
        · have eL : gL (gNew D (gSet G n (drG D (some f) (gL G n))) n (some f) (some t)) m = gL G m := (up_o zc).trans ((up_o z).trans (up_o z))
          rw [eL, up_o z]
          exact e3 m hmC
    · show up (gH G) (gC G) (391 + gU G) (aC A) = a
      rw [← e1, up_s, w1]
    · show up (gN G) (gC G) t (aC A) = t
      rw [← e1, up_s]
    · refine TLc_add hg hF.1 hF.2.1 hn htl htk (by rw [eC]; omega) (fun m h1 h2 => ?_) (fun m h1 h2 => ?_) ?_ (fun g hgf => ?_)
      · have : m = gC G := by rw [eC] at h2; omega
        rw [this]
        exact up_s _ _ _
      · exact (up_o (Nat.ne_of_lt h1)).trans ((up_o h2).trans (up_o h2))
      · rw [gl, flo_ins hsr, if_pos (show eF (391 + gU G, some f, gC G, 0, []) = some f from rfl)]
        simp
      · rw [gl, flo_ins hsr, if_neg (show ¬ eF (391 + gU G, some f, gC G, 0, []) = some g from fun y => hgf (Option.some.inj y).symm), hdr (some g)]
/-! ===== the class parses a message ===== -/
theorem C_qfld {σb : SG} {U c n m dp p : Nat} {σ : SG} {T : List Nat} {D : List Dc} {S : List Nat} {G : Gh} {A : AV} {tl : Tl} {rcC : Option Nat → Option Nat → Int32 → SG → Option (Int32 × SG)} {rc : AV → Tl → Nat → Nat → Nat → Option (AV × Tl × Nat)} (hU : 4000 < U) (hcb : cb c) (hg : GSc T D) (hSl : S.length ≤ 700) (hQ : QC σ c T D S G A tl p p) (hn : n < gC G) (hm : gN G n = m) (hfb : fX σb σ)
    (hrc : ∀ (τ : SG) (G' : Gh) (A' : AV) (tl' : Tl) (n' t q : Nat), fX σb τ → QC τ c T D S G' A' tl' q q → n' < gC G' → gN G' n' = t → OP c T D S G' τ (rc A' tl' n' t q) (rcC (some (gH G' n')) (ad c (some t)) (nI (dp + 1)) τ)) : OP c T D S G σ (qSt T D S rc n m p A tl) (x_X7_readField U rcC 1095 (some (gH G n)) (ad c (some m)) (nI dp) σ) := by
  have hc : c = 5 ∨ c = 197 := hcb
  have hl := hg.2.1
  have hQ' := hQ
  obtain ⟨a1, a2, a3, a4, a5, a6, a7, a8, a9, a10, a11⟩ := hQ'
  have hmM : isM D m := by rw [← hm]; exact a2.2.2.2.2.2.2.2.1 n hn
  obtain ⟨dm, hdm, _⟩ := id hmM
  have hml := (List.getElem?_eq_some_iff.mp hdm).1
  unfold x_X7_readField qSt
  obtain ⟨τ, t1, t2, t3⟩ := C_skipW (U := U) hU hSl a9 a4 a5
  obtain ⟨w1, w2⟩ := weS_le a9
  have Q1 := QC_T hQ hcb t3 t2 w1 w2
  have Q1' := Q1
  obtain ⟨b1, b2, b3, b4, b5, b6, b7, b8, b9, b10, b11⟩ := Q1'
  rw [t1, b1_eq, b11, if_neg (show ¬ some (c + 1) = none by intro z; cases z), ck_eq (show sh (c + 1) = 6 by rcases hc with z | z <;> rw [z] <;> decide), a5, t2, C_called hU hcb hg b1 b4 w1 w2 hml, b1_eq, fNm_find hg hmM]
  unfold x_X7_readField_45
  cases hf : fNm T D m (slc S p (weS S p)) with
  | none =>
    rw [if_pos (show ad c none = none from rfl)]
    exact OP_no (fT_fX t3)
  | some f =>
    obtain ⟨d, hd, hnmd⟩ := fNm_some hf
    have hF : isF D (gN G n) f d := by rw [hm]; exact hd
    have hfl := (List.getElem?_eq_some_iff.mp hd.1).1
    have hft : fty T D d ≤ 14 := dTy_lt (hg.fld hd.1 hd.2.1).2.2.2.1
    have hwp : p < weS S p := we_lt a9 hnmd.symm (nmT_ne hg hd.1)
    simp only
    rw [hd.1]
    simp only
    rw [if_neg (show ¬ ad c (some f) = none by intro z; cases z), C_taken hU hcb hg b1 b2 hn hF b10, b1_eq, ifz]
    cases htk : tk D tl n f d with
    | true =>
      rw [if_pos (show true = true from rfl), if_pos (show true = true from rfl)]
      exact OP_no (fT_fX t3)
    | false =>
      rw [if_neg (show ¬ false = true by decide), if_neg (show ¬ false = true by decide)]
      obtain ⟨υ, u1, u2, u3⟩ := C_skipB (U := U) hU hSl w2 b4 b5
      obtain ⟨r1, r2⟩ := tbS_le' w2
      have Q2 := QC_T Q1 hcb u3 u2 (by omega) r2
      have F2 : fX σ υ := fX_trans (fT_fX t3) (fT_fX u3)
      have Q2' := Q2
      obtain ⟨c1, c2, c3, c4, c5, c6, c7, c8, c9, c10, c11⟩ := Q2'
      have ety : sI υ (c + 5 + f) 8 = nI (fty T D d) := (c1.it hd.1).2.1
      have e13 : nI (fty T D d) = 13 ↔ fty T D d = 13 := nI_eq (b := 13) (by omega) (by decide)
      have hsh3 : sh (c + 5 + f) = 3 := it_sh hcb (by omega)
      rw [u1, b1_eq, u2, X0_at c4 (by omega), b1_eq, ad_some, ck_eq hsh3, ety, ifd e13]
      unfold x_X7_readField_99
      rw [show (123 : Int32) = nI 123 from rfl, ifA c4.2.2.2.2 (by decide), show (58 : Int32) = nI 58 from rfl, ifA c4.2.2.2.2 (by decide), sb_eq, u2, nI_1]
      have Q3 : ∀ (x : Nat), S[tbS S (weS S p)]? = some x → QC (uI υ 1095 4 (nI (tbS S (weS S p) + 1))) c T D S G A tl (tbS S (weS S p) + 1) p := fun x hx => by
        have := (List.getElem?_eq_some_iff.mp hx).1
        exact QC_T Q2 hcb fT_u (sI_s _ _ _ _) (by omega) (by omega)
      have F3 : fX σ (uI υ 1095 4 (nI (tbS S (weS S p) + 1))) := fX_trans F2 (fT_fX fT_u)
      by_cases q13 : fty T D d = 13
      · rw [if_pos q13, if_pos q13]
        by_cases qb : S[tbS S (weS S p)]? = some 123
        · rw [if_pos qb, if_pos qb]
          have Q4 := Q3 _ qb
          have hrl := (List.getElem?_eq_some_iff.mp qb).1
          generalize uI υ 1095 4 (nI (tbS S (weS S p) + 1)) = σ3 at *
          obtain ⟨d1, d2, d3, d4, d5, d6, d7, d8, d9, d10, d11⟩ := Q4
          obtain ⟨t, ht, htM⟩ := (ftg_msg hg hd.1 hd.2.1).1 q13
          obtain ⟨a, ω, G', o1, o2, o3, o4, o5, o6, o7, o8, o9, o10, o11, o12⟩ := C_msgN hU hcb hg d1 d2 d3 hn (by omega) hF q13 ht d10 htk
          have o1' : x_X8_put U 389 (some (gH G n)) (some (c + 5 + f)) σ3 = some (some a, ω) := o1
          have etyω : sI ω (c + 5 + f) 8 = nI (fty T D d) := (o4.it hd.1).2.1
          have etgω : sP ω (c + 5 + f) 10 = ad c (ftg T D d) := (o4.it hd.1).2.2.1
          rw [o1', b2_eq, if_neg (show ¬ some a = none by intro z; cases z), ck_eq hsh3, etyω, ifd e13, if_pos q13, etgω, ht]
          simp only
          have F4 : fX σ ω := fX_trans F3 (fX_V o5)
          have Q5 : QC ω c T D S G' (aMsg D A n f d t).1 ((n, f) :: tl) (tbS S (weS S p) + 1) (tbS S (weS S p) + 1) := ⟨o4, o2, o3, d4.sm (o5.1 1 (by omega)) (o5.1 2 (by omega)), ((o5.1 1095 (by omega) 4).1).trans d5, by omega, by rw [o8]; omega, Nat.le_refl _, d9, o12, ((o5.2 4 (by decide)).2.2).trans d11⟩
          have key := hrc ω G' _ _ _ t _ (fX_trans hfb F4) Q5 o9 o11
          rw [o10, ← nI_1] at key
          obtain ⟨ψ, y1, y2, y3⟩ := key
          have y1' : rcC (some a) (ad c (some t)) (nI dp + 1) ω = some (zI (rc (aMsg D A n f d t).1 ((n, f) :: tl) (aMsg D A n f d t).2 t (tbS S (weS S p) + 1)).isSome, ψ) := y1
          rw [y1', b2_eq, zb_zI]
          refine ⟨ψ, rfl, fX_trans F4 y2, fun A' tl' p' z => ?_⟩
          obtain ⟨G2, g1, g2⟩ := y3 A' tl' p' z
          exact ⟨G2, g1, gX_trans o7 g2⟩
        · rw [if_neg qb, if_neg qb]
          exact OP_no F2
      · rw [if_neg q13, if_neg q13]
        by_cases qb : S[tbS S (weS S p)]? = some 58
        · rw [if_pos qb, if_pos qb]
          have Q4 := Q3 _ qb
          have hrl := (List.getElem?_eq_some_iff.mp qb).1
          generalize uI υ 1095 4 (nI (tbS S (weS S p) + 1)) = σ3 at *
          obtain ⟨d1, d2, d3, d4, d5, d6, d7, d8, d9, d10, d11⟩ := Q4
          obtain ⟨a, ω, G1, p1, p2, p3, p4, p5, p6, p7, p8, p9, p10, p11, p12, p13⟩ := C_put hU hcb hg d1 d2 hn (by omega) hF q13
          have p1' : x_X8_put U 389 (some (gH G n)) (some (c + 5 + f)) σ3 = some (some a, ω) := p1
          have etyω : sI ω (c + 5 + f) 8 = nI (fty T D d) := (p3.it hd.1).2.1
          rw [p1', b2_eq, if_neg (show ¬ some a = none by intro z; cases z), ck_eq hsh3, etyω, ifd e13, if_neg q13]
          have R4 : RB ω 1 S 0 := d4.sm (p2.1 1 (by omega)) (p2.1 2 (by omega))
          have h4ω : sI ω 1095 4 = nI (tbS S (weS S p) + 1) := ((p2.1 1095 (by omega) 4).1).trans d5
          obtain ⟨φ, f1, f2, f3⟩ := C_skipB (U := U) hU hSl d9 R4 h4ω
          obtain ⟨s1, s2⟩ := tbS_le' d9
          rw [f1, b1_eq]
          have F5 : fX σ φ := fX_trans (fX_trans F3 (fX_V p2)) (fT_fX f3)
          have C5 : CS φ c T D := CS_fX p3 hcb (fT_fX f3)
          have V5 : VG φ c T D G1 := VG_sm p4 (fun b hb => f3.1 b (by omega))
          have R5 : RB φ 1 S 0 := RB_fT R4 f3 (by decide) (by decide)
          have h95 : sP φ 389 4 = some (c + 1) := ((f3.1 389 (by decide) 4).2.2).trans (((p2.2 4 (by decide)).2.2).trans d11)
          have gx : ∀ (L' : Nat → List Eg) (P' : List Nat), gX G (gN G1, gH G1, L', gC G1, gU G1, P') := fun L' P' => ⟨by show gC G ≤ gC G1; omega, fun m _ => ⟨by show gN G1 m = _; rw [p8], by show gH G1 m = _; rw [p9]⟩⟩
          have tla : ∀ (v : Int64) (x : List Nat) (P' : List Nat), TLc (gN G1, gH G1, up (gL G1) n (setE a v x (gL G1 n)), gC G1, gU G1, P') ((n, f) :: tl) := by
            intro v x P'
            obtain ⟨e, e1, e2, e3, e4, e5⟩ := p13.2 v x
            have eL : gL (gN G1, gH G1, up (gL G1) n (setE a v x (gL G1 n)), gC G1, gU G1, P') n = setE a v x (gL G1 n) := up_s _ _ _
            refine TLc_add hg hd.1 hd.2.1 hn d10 htk (by show gC G ≤ gC G1; omega) (fun m h1 h2 => ?_) (fun m h1 h2 => ?_) ?_ (fun g hgf => ?_)
            · have h2' : m < gC G1 := h2
              omega
            · exact (up_o h2).trans (p10 m h2)
            · rw [eL, e3]
              split
              · simp
              · simp
            · rw [eL]; exact e4 g hgf
          unfold pVal
          cases hnm : nmr (fty T D d) with
          | true =>
            rw [if_pos (show true = true from rfl)]
            obtain ⟨ψ, y1, y2, y3⟩ := C_nval (U := U) (a := a) hU hcb hg hSl s2 p5 (by omega) C5 R5 f2 h95 hd.1 hd.2.1 hnm
            have y1' : x_X7_readValue U 1095 (some a) (some (c + 5 + f)) φ = some (zI (nvS T D S d (tbS S (tbS S (weS S p) + 1))).isSome, uL ψ a 4 (sL ψ 1095 6)) := y1
            rw [y1', b2_eq, zb_zI]
            have V6 : VG ψ c T D G1 := VG_sm V5 (fun b hb => y2.1 b (by omega))
            obtain ⟨t, g1, g2, g3⟩ := C_setN2 (v := sL ψ 1095 6) V6 d3 hn hF q13 hnm p7 p8 p10 p13
            have F7 : fX σ (uL ψ a 4 (sL ψ 1095 6)) := fX_trans (fX_trans F5 (fT_fX y2)) g3
            cases hv : nvS T D S d (tbS S (tbS S (weS S p) + 1)) with
            | none => exact ⟨_, rfl, F7, fun A' tl' p' z => by cases z⟩
            | some y =>
              obtain ⟨v, q⟩ := y
              obtain ⟨v1, v2⟩ := y3 v q hv
              have hpv := pVal_lt (f := f) (d := d) hg s2 (show pVal T D S d (tbS S (tbS S (weS S p) + 1)) = some (v, [], q) by unfold pVal; rw [hnm, if_pos rfl, hv]; rfl)
              rw [v1] at g1 g2
              refine ⟨_, rfl, F7, fun A' tl' p' z => ?_⟩
              cases z
              refine ⟨_, ⟨CS_fX C5 hcb (fX_trans (fT_fX y2) g3), ?_, g2, (RB_fT R5 y2 (by decide) (by decide)).sm (sm_uL (by omega)) (sm_uL (by omega)), v2, ?_, ?_, Nat.le_refl _, hpv.2, tla _ _ _, ((y2.1 389 (by decide) 4).2.2).trans h95⟩, gx _ _⟩
              · rw [v1]; exact g1
              · show gU G1 ≤ q
                simp at hpv
                omega
              · show (gP G1).length ≤ q
                rw [p11]
                simp at hpv
                omega
          | false =>
            rw [if_neg (show ¬ false = true by decide)]
            unfold x_X7_readValue
            have etyφ : sI φ (c + 5 + f) 8 = nI (fty T D d) := (C5.it hd.1).2.1
            rw [ck_eq hsh3, etyφ, X11_isNumeric (by omega), b1_eq, ifz, hnm, if_neg (show ¬ false = true by decide)]
            have hPG : (gP G1).length ≤ tbS S (tbS S (weS S p) + 1) := by rw [p11]; omega
            obtain ⟨ψ, y1, y2, y3⟩ := C_rtext (U := U) (a := a) (t := fty T D d) hU hSl p5 (by omega) hft s2 hPG R5 V5.2.2.1 f2
            have hfx : fX φ ψ := ⟨fun b hb => y2.1 b (by omega) (by omega) (by omega) (by omega), fun k _ => y2.1 389 (by decide) (by decide) (by decide) (by omega) k, (y2.1 1094 (by decide) (by decide) (by decide) (by omega) 5).1, y2.2.1 5 (by decide), y2.2.2.1⟩
            rw [y1, b2_eq, zb_zI, b2_eq, zb_zI]
            have F7 : fX σ ψ := fX_trans F5 hfx
            cases hv : tvS S (fty T D d) (tbS S (tbS S (weS S p) + 1)) with
            | none => exact ⟨_, rfl, F7, fun A' tl' p' z => by cases z⟩
            | some y =>
              obtain ⟨x, q⟩ := y
              obtain ⟨v1, v2, v3, v4, v5, v6, v7⟩ := y3 x q hv
              obtain ⟨v, g1, g2⟩ := C_setT V5 d3 hn hF q13 hnm p7 p8 p10 p13 p5 (by omega) y2 v2 v3 v4
              refine ⟨_, rfl, F7, fun A' tl' p' z => ?_⟩
              cases z
              refine ⟨_, ⟨CS_fX C5 hcb hfx, g1, g2, R5.sm (y2.1 1 (by decide) (by decide) (by decide) (by omega)) (y2.1 2 (by decide) (by decide) (by decide) (by omega)), v1, ?_, ?_, Nat.le_refl _, v6, tla _ _ _, ((hfx.2.1 4 (by decide)).2.2).trans h95⟩, gx _ _⟩
              · show gU G1 ≤ q
                omega
              · show (gP G1 ++ x).length ≤ q
                rw [List.length_append, p11]
                omega
        · rw [if_neg qb, if_neg qb]
          exact OP_no F2
/-! ===== the class parses ===== -/
theorem qSt_lt {T : List Nat} {D : List Dc} {S : List Nat} {rc : AV → Tl → Nat → Nat → Nat → Option (AV × Tl × Nat)} {n m p : Nat} {A A' : AV} {tl tl' : Tl} {p' : Nat} (hg : GSc T D) (hp : p ≤ S.length) (hrc : ∀ A tl k t q A' tl' q', q ≤ S.length → rc A tl k t q = some (A', tl', q') → q ≤ q' ∧ q' ≤ S.length) (h : qSt T D S rc n m p A tl = some (A', tl', p')) : p + 1 < p' ∧ p' ≤ S.length := by
  unfold qSt at h
  cases hf : fNm T D m (slc S p (weS S p)) with
  | none => rw [hf] at h; cases h
  | some f =>
    obtain ⟨d, hd, hnmd⟩ := fNm_some hf
    have hwp : p < weS S p := we_lt hp hnmd.symm (nmT_ne hg hd.1)
    obtain ⟨w1, w2⟩ := weS_le hp
    obtain ⟨r1, r2⟩ := tbS_le' w2
    rw [hf] at h
    simp only at h
    rw [hd.1] at h
    simp only at h
    split at h
    · cases h
    · split at h
      · split at h
        · rename_i hb
          have := (List.getElem?_eq_some_iff.mp hb).1
          cases ht : ftg T D d with
          | none => rw [ht] at h; cases h
          | some t =>
            rw [ht] at h
            simp only at h
            have := hrc _ _ _ _ _ _ _ _ (by omega) h
            omega
        · cases h
      · split at h
        · rename_i hb
          have hbl := (List.getElem?_eq_some_iff.mp hb).1
          obtain ⟨s1, s2⟩ := tbS_le' (S := S) (p := tbS S (weS S p) + 1) (by omega)
          cases hv : pVal T D S d (tbS S (tbS S (weS S p) + 1)) with
          | none => rw [hv] at h; cases h
          | some y =>
            obtain ⟨v, x, q⟩ := y
            rw [hv] at h
            simp only at h
            have e := Prod.mk.inj (Prod.mk.inj (Option.some.inj h)).2
            have := pVal_lt (f := f) hg s2 hv
            rw [e.2] at this
            omega
        · cases h
theorem qLp_le {T : List Nat} {D : List Dc} {S : List Nat} {rc : AV → Tl → Nat → Nat → Nat → Option (AV × Tl × Nat)} {n m dp : Nat} (hg : GSc T D) (hrc : ∀ A tl k t q A' tl' q', q ≤ S.length → rc A tl k t q = some (A', tl', q') → q ≤ q' ∧ q' ≤ S.length) : ∀ (j p : Nat) (A A' : AV) (tl tl' : Tl) (p' : Nat), p ≤ S.length → qLp T D S rc n m dp j A tl p = some (A', tl', p') → p ≤ p' ∧ p' ≤ S.length := by
  intro j
  induction j with
  | zero => intro p A A' tl tl' p' _ h; cases h
  | succ j ih =>
    intro p A A' tl tl' p' hp h
    obtain ⟨r1, r2⟩ := tbS_le' hp
    rw [qLp] at h
    cases hs : S[tbS S p]? with
    | none =>
      rw [hs] at h
      simp only at h
      split at h
      · cases h; omega
      · cases h
    | some c =>
      have hpl := (List.getElem?_eq_some_iff.mp hs).1
      rw [hs] at h
      simp only at h
      split at h
      · split at h
        · cases h; omega
        · cases h
      · cases hq : qSt T D S rc n m (tbS S p) A tl with
        | none => rw [hq] at h; cases h
        | some y =>
          obtain ⟨A1, tl1, p1⟩ := y
          rw [hq] at h
          simp only at h
          have := qSt_lt hg r2 hrc hq
          have := ih p1 A1 A' tl1 tl' p' (by omega) h
          omega
theorem qMs_le {T : List Nat} {D : List Dc} {S : List Nat} {lm : Nat} (hg : GSc T D) : ∀ (j dp : Nat) (A : AV) (tl : Tl) (n m p : Nat) (A' : AV) (tl' : Tl) (p' : Nat), p ≤ S.length → qMs T D S lm j dp A tl n m p = some (A', tl', p') → p ≤ p' ∧ p' ≤ S.length := by
  intro j
  induction j with
  | zero => intro dp A tl n m p A' tl' p' _ h; cases h
  | succ j ih =>
    intro dp A tl n m p A' tl' p' hp h
    rw [qMs] at h
    split at h
    · cases h
    · exact qLp_le hg (fun A tl k t q A' tl' q' hq h => ih (dp + 1) A tl k t q A' tl' q' hq h) 701 p A A' tl tl' p' hp h
theorem C_qlp {σb : SG} {U c n m dp : Nat} {T : List Nat} {D : List Dc} {S : List Nat} {rcC : Option Nat → Option Nat → Int32 → SG → Option (Int32 × SG)} {rc : AV → Tl → Nat → Nat → Nat → Option (AV × Tl × Nat)} (hU : 4000 < U) (hcb : cb c) (hg : GSc T D) (hSl : S.length ≤ 700) (hdp : dp < 100) (hrl : ∀ A tl k t q A' tl' q', q ≤ S.length → rc A tl k t q = some (A', tl', q') → q ≤ q' ∧ q' ≤ S.length)
    (hrc : ∀ (τ : SG) (G' : Gh) (A' : AV) (tl' : Tl) (n' t q : Nat), fX σb τ → QC τ c T D S G' A' tl' q q → n' < gC G' → gN G' n' = t → OP c T D S G' τ (rc A' tl' n' t q) (rcC (some (gH G' n')) (ad c (some t)) (nI (dp + 1)) τ)) : ∀ (j k p U1 : Nat) (σ : SG) (G : Gh) (A : AV) (tl : Tl), S.length < j + p → k ≤ p → j < U1 → QC σ c T D S G A tl p p → n < gC G → gN G n = m → fX σb σ → OP c T D S G σ (qLp T D S rc n m dp j A tl p) (x_X7_readMessage_L17 U rcC 1095 (fun σ14 => if nI dp = 1 then (some (1, σ14)) else (some (0, σ14))) (fun σ16 => sb (uI σ16 1095 4 ((sI σ16 1095 4) + 1)) fun σ17 => if 1 < nI dp then (some (1, σ17)) else (some (0, σ17))) (some (gH G n)) (ad c (some m)) (nI dp) U1 (nI k) σ) := by
  intro j
  induction j with
  | zero =>
    intro k p U1 σ G A tl hj _ _ hQ
    have := hQ.2.2.2.2.2.2.2.2.1
    omega
  | succ j ih =>
    intro k p U1 σ G A tl hj hk hu hQ hn hm hfb
    obtain ⟨V, rfl⟩ : ∃ V, U1 = V + 1 := ⟨U1 - 1, by omega⟩
    have hQ' := hQ
    obtain ⟨a1, a2, a3, a4, a5, a6, a7, a8, a9, a10, a11⟩ := hQ'
    have h8 : ok8 S := a4.2.2.2.2
    obtain ⟨τ, t1, t2, t3⟩ := C_skipB (U := U) hU hSl a9 a4 a5
    obtain ⟨r1, r2⟩ := tbS_le' a9
    have Q1 : QC τ c T D S G A tl (tbS S p) (tbS S p) := by
      obtain ⟨b1, b2, b3, b4, b5, b6, b7, b8, b9, b10, b11⟩ := QC_T hQ hcb t3 t2 r1 r2
      exact ⟨b1, b2, b3, b4, b5, by omega, by omega, Nat.le_refl _, b9, b10, b11⟩
    have F1 : fX σ τ := fT_fX t3
    have h700 : ¬ (700 : Int32) < nI k := fun z => by have := (ltI (a := 700) (by decide) (by omega)).mp z; omega
    have e1 : nI dp = 1 ↔ dp = 1 := nI_eq (b := 1) (by omega) (by decide)
    have e2 : (1 : Int32) < nI dp ↔ 1 < dp := ltI (a := 1) (by decide) (by omega)
    have hR1 : RB τ 1 S 0 := Q1.2.2.2.1
    rw [x_X7_readMessage_L17, if_neg h700, t1, b1_eq, t2, X0_at hR1 (by omega), b1_eq, ifd (bA_neg h8), show (125 : Int32) = nI 125 from rfl, ifA h8 (by decide), qLp]
    cases hs : S[tbS S p]? with
    | none =>
      rw [if_pos rfl, ifd e1]
      simp only
      by_cases q : dp = 1
      · rw [if_pos q, if_pos q]
        exact ⟨τ, rfl, F1, fun A' tl' p' z => by cases z; exact ⟨G, Q1, gX_refl G⟩⟩
      · rw [if_neg q, if_neg q]
        exact OP_no F1
    | some x =>
      have hpl := (List.getElem?_eq_some_iff.mp hs).1
      have ex : some x = some 125 ↔ x = 125 := ⟨fun z => Option.some.inj z, fun z => by rw [z]⟩
      rw [if_neg (show ¬ some x = none by intro z; cases z), ifd ex]
      simp only
      by_cases q : x = 125
      · rw [if_pos q, if_pos q, sb_eq, nI_1, ifd e2]
        have Q2 := QC_T Q1 hcb (fT_u (v := nI (tbS S p + 1))) (sI_s _ _ _ _) (p' := tbS S p + 1) (by omega) (by omega)
        have F2 := fX_trans F1 (fT_fX (fT_u (σ := τ) (v := nI (tbS S p + 1))))
        by_cases q1 : 1 < dp
        · rw [if_pos q1, if_pos q1]
          refine ⟨_, rfl, F2, fun A' tl' p' z => ?_⟩
          cases z
          obtain ⟨b1, b2, b3, b4, b5, b6, b7, b8, b9, b10, b11⟩ := Q2
          exact ⟨G, ⟨b1, b2, b3, b4, b5, by omega, by omega, Nat.le_refl _, b9, b10, b11⟩, gX_refl G⟩
        · rw [if_neg q1, if_neg q1]
          exact OP_no F2
      · rw [if_neg q, if_neg q]
        obtain ⟨υ, u1, u2, u3⟩ := C_qfld (U := U) hU hcb hg hSl Q1 hn hm (fX_trans hfb F1) hrc
        rw [u1, b2_eq, ifz, nI_1]
        cases hq : qSt T D S rc n m (tbS S p) A tl with
        | none =>
          rw [Option.isSome_none, if_neg (show ¬ false = true by decide)]
          exact OP_no (fX_trans F1 u2)
        | some y =>
          obtain ⟨A', tl', p'⟩ := y
          have hlt := qSt_lt hg r2 hrl hq
          rw [Option.isSome_some, if_pos (show true = true from rfl)]
          obtain ⟨G', w1, w2⟩ := u3 A' tl' p' hq
          have key := ih (k + 1) p' V υ G' A' tl' (by omega) (by omega) (by omega) w1 (by have := w2.1; omega) ((w2.2 n hn).1.trans hm) (fX_trans hfb (fX_trans F1 u2))
          rw [(w2.2 n hn).2] at key
          exact OP_from (fX_trans F1 u2) w2 key
theorem C_qms {U c lm : Nat} {T : List Nat} {D : List Dc} {S : List Nat} (hU : 4000 < U) (hcb : cb c) (hg : GSc T D) (hSl : S.length ≤ 700) (hlm : lm ≤ 20) : ∀ (j dp : Nat) (σ : SG) (G : Gh) (A : AV) (tl : Tl) (n m p : Nat), j + dp = 25 → dp ≤ lm + 1 → QC σ c T D S G A tl p p → n < gC G → gN G n = m → sI σ 1095 5 = nI lm →
    OP c T D S G σ (qMs T D S lm j dp A tl n m p) (x_X7_readMessage U 1095 j (some (gH G n)) (ad c (some m)) (nI dp) σ) := by
  intro j
  induction j with
  | zero => intro dp σ G A tl n m p hj hdp; omega
  | succ j ih =>
    intro dp σ G A tl n m p hj hdp hQ hn hm h5
    rw [x_X7_readMessage, qMs]
    unfold x_X7_readMessage_b
    rw [if_neg (show ¬ ad c (some m) = none by intro z; cases z), h5, ifd (ltI (by omega) (by omega))]
    by_cases q : lm < dp
    · rw [if_pos q, if_pos q]
      exact OP_no (fX_refl σ)
    · rw [if_neg q, if_neg q]
      have key := C_qlp (σb := σ) (U := U) (n := n) (m := m) (dp := dp) (rcC := x_X7_readMessage U 1095 j) (rc := qMs T D S lm j (dp + 1)) hU hcb hg hSl (by omega) (fun A tl k t q A' tl' q' hq h => qMs_le hg j (dp + 1) A tl k t q A' tl' q' hq h) (fun τ G' A' tl' n' t q' hf' hQ' hn' ht' => ih (dp + 1) τ G' A' tl' n' t q' (by omega) (by omega) hQ' hn' ht' (hf'.2.2.2.1.trans h5)) 701 0 p U σ G A tl (by have := hQ.2.2.2.2.2.2.2.2.1; omega) (Nat.zero_le _) (by omega) hQ hn hm (fX_refl σ)
      exact key
theorem TLc_0 (m : Nat) : TLc (g0 m) [] := fun n f => ⟨fun z => (by cases z), fun z => by obtain ⟨_, e, he, _⟩ := z; cases he⟩
/-- the text form on the tape, read -/
def pcS (T : List Nat) (D : List Dc) (S : List Nat) (lm m : Nat) : Option AV := (qMs T D S lm 24 1 (a0 m) [] 0 m 0).map (fun y => y.1)
theorem C_qread {σ : SG} {U c m lm : Nat} {T S : List Nat} {D : List Dc} (hU : 4000 < U) (hcb : cb c) (hg : GSc T D) (hlm : lm ≤ 20) (hC : CS σ c T D) (hV : VG σ c T D (g0 m)) (hE : VE T D (g0 m) (a0 m)) (hS : RB σ 1 S 0) (h4 : sP σ 389 4 = some (c + 1)) (h5 : sP σ 389 5 = ad c (some m)) :
    ∃ τ, x_X7_read U 1095 (nI lm) σ = some (zI (pcS T D S lm m).isSome, τ) ∧ fX (uI σ 1095 5 (nI lm)) τ ∧ ∀ A, pcS T D S lm m = some A → ∃ G tl p, QC τ c T D S G A tl p p := by
  have hSl : S.length ≤ 700 := hS.2.2.1
  unfold x_X7_read
  rw [sb_eq, sb_eq]
  have fr : ∀ b, b ≠ 1095 → sm σ (uI (uI σ 1095 4 0) 1095 5 (nI lm)) b := fun b hb => sm_trans (sm_uI hb) (sm_uI hb)
  have hc : c = 5 ∨ c = 197 := hcb
  have S2 := hS.sm (fr 1 (by decide)) (fr 2 (by decide))
  have Q0 : QC (uI (uI σ 1095 4 0) 1095 5 (nI lm)) c T D S (g0 m) (a0 m) [] 0 0 := ⟨CS_sm hC (fun b h1 h2 => fr b (by omega)), VG_sm hV (fun b hb => fr b (by omega)), hE, S2, by rw [sI_o (Or.inr (by decide)), sI_s]; rfl, Nat.le_refl _, Nat.le_refl _, Nat.le_refl _, Nat.zero_le _, TLc_0 m, h4⟩
  have e5 : sP (uI (uI σ 1095 4 0) 1095 5 (nI lm)) 389 5 = ad c (some m) := h5
  have key := C_qms (U := U) (lm := lm) hU hcb hg hSl hlm 24 1 _ (g0 m) (a0 m) [] 0 m 0 (by omega) (by omega) Q0 Nat.one_pos rfl (sI_s _ _ _ _)
  obtain ⟨τ, k1, k2, k3⟩ := key
  have k1' : x_X7_readMessage U 1095 24 (some 1091) (ad c (some m)) 1 (uI (uI σ 1095 4 0) 1095 5 (nI lm)) = some (zI (qMs T D S lm 24 1 (a0 m) [] 0 m 0).isSome, τ) := k1
  rw [e5, k1', b2_eq, zb_zI]
  refine ⟨τ, ?_, ?_, fun A hA => ?_⟩
  · unfold pcS
    try (cases qMs T D S lm 24 1 (a0 m) [] 0 m 0 <;> rfl)
  · refine ⟨fun b hb => sm_trans (fun k => ?_) (k2.1 b hb), fun k hk => ?_, ?_, ?_, ?_⟩
    · have : b ≠ 1095 := by omega
      exact ⟨by rw [sI_o (Or.inl this), sI_o (Or.inl this), sI_o (Or.inl this)], rfl, rfl⟩
    · exact k2.2.1 k hk
    · rw [k2.2.2.1, sI_o (Or.inl (by decide)), sI_o (Or.inl (by decide)), sI_o (Or.inl (by decide))]
    · rw [k2.2.2.2.1, sI_s, sI_s]
    · rw [k2.2.2.2.2, sI_o (Or.inl (by decide)), sI_o (Or.inl (by decide)), sI_o (Or.inl (by decide))]
  · unfold pcS at hA
    cases hq : qMs T D S lm 24 1 (a0 m) [] 0 m 0 with
    | none => rw [hq] at hA; cases hA
    | some y =>
      obtain ⟨A', tl', p'⟩ := y
      rw [hq] at hA
      cases hA
      obtain ⟨G, w1, w2⟩ := k3 A' tl' p' hq
      exact ⟨G, tl', p', w1⟩
/-- the class's parse -/
theorem C_parse {U s : Nat} {σ : SG} {T S : List Nat} {D : List Dc} {x y : Int32} (hU4 : 4000 < U) (hs : s < 2) (hg : GSc T D) (hC : CS σ (cA s) T D) (hB : RB σ 1 S 0) (h92 : sI σ 1092 2 = 0) (hW : ∀ A, rdV D (pcS T D S) x y = some A → ∃ z, AW T D A z) : ∃ τ, x_X11_parse U 0 (nI s) x y σ = some ((seR T D (rdV D (pcS T D S) x y)).1, τ) ∧ fCd σ τ ∧ RB τ 1 [] 0 ∧ ((seR T D (rdV D (pcS T D S) x y)).2 = none → VCn τ) ∧ ∀ A, (seR T D (rdV D (pcS T D S) x y)).2 = some A → ∃ m, msg D x = some m ∧ VCs τ (cA s) T D m A := by
  have hcb := cA_cb (s := s)
  have hc : cA s = 5 ∨ cA s = 197 := hcb
  obtain ⟨o1, o2⟩ := C_opens (U := U) (x := x) (y := y) hU4 hs hg hC
  unfold x_X11_parse x_X11_parse_26 x_X11_parse_27
  by_cases hbad : msg D x = none ∨ y < 1 ∨ 20 < y
  · rw [o1 hbad, b2_eq, if_pos (show (0 : Int32) = 0 from rfl)]
    have hno := rdV_no (rd := pcS T D S) hbad
    obtain ⟨τ, t1, t2, t3, t4, t5⟩ := C_settle (U := U) (c := cA s) (m := 0) (σ := σ) (T := T) (D := D) (o := none) hU4 hcb hg (fun _ => h92) (fun A z => by cases z)
    rw [hno]
    exact ⟨τ, t1, t2, t3, t4, fun A z => by cases z⟩
  · cases hm : msg D x with
    | none => exact absurd (Or.inl hm) hbad
    | some m =>
      have h1 : ¬ y < 1 := fun z => hbad (Or.inr (Or.inl z))
      have h2 : ¬ 20 < y := fun z => hbad (Or.inr (Or.inr z))
      obtain ⟨lm, rfl, h1', h20⟩ := lim_n h1 h2
      obtain ⟨hM, _⟩ := msg_some hm
      obtain ⟨τ1, a1, a2, a3, a4, a5, a6, a7⟩ := C_begin hcb hC hM
      rw [o2 m hm h1 h2, a1, b1_eq, b2_eq, if_neg (show ¬ (1 : Int32) = 0 by decide)]
      have B1 : RB τ1 1 S 0 := hB.sm (a5 1 (by decide) (by decide) (by decide)) (a5 2 (by decide) (by decide) (by decide))
      obtain ⟨τ2, r1, r2, r3⟩ := C_qread (lm := lm) hU4 hcb hg h20 a4 a2 a3 B1 a6 a7
      have hrd := rdV_yes (rd := pcS T D S) hm h1' h20
      rw [← hrd] at r1 r3
      have f2 : ∀ b, (b < 389 ∨ b = 390 ∨ 1096 ≤ b) → sm τ1 τ2 b := fun b hb => sm_trans (sm_uI (by omega)) (r2.1 b hb)
      have F2 : fCd σ τ2 := fun b h1 h2 => sm_trans (a5 b (by omega) (by omega) (by omega)) (f2 b h2)
      have e92 : sI τ2 1092 2 = 0 := by
        rw [r2.2.2.2.2, sI_o (Or.inl (by decide))]
        exact a2.2.2.1.2.1
      have e4 : sP τ2 389 4 = some (cA s + 1) := ((r2.2.1 4 (by decide)).2.2).trans a6
      have e5 : sP τ2 389 5 = ad (cA s) (some m) := ((r2.2.1 5 (by decide)).2.2).trans a7
      rw [r1, b2_eq]
      obtain ⟨τ, t1, t2, t3, t4, t5⟩ := C_settle (U := U) (c := cA s) (m := m) (σ := τ2) (T := T) (D := D) (o := rdV D (pcS T D S) x (nI lm)) hU4 hcb hg (fun _ => e92) (fun A hA => by
        obtain ⟨G, tl, p, hG⟩ := r3 A hA
        exact ⟨hG.1, ⟨⟨G, hG.2.1, hG.2.2.1⟩, e4, e5⟩, hW A hA⟩)
      refine ⟨τ, ?_, fun b h1 h2 => sm_trans (F2 b h1 h2) (t2 b h1 h2), t3, t4, fun A hA => ⟨m, rfl, t5 A hA⟩⟩
      cases ho : rdV D (pcS T D S) x (nI lm) with
      | none =>
        rw [ho] at t1
        rw [if_pos (show zI (none : Option AV).isSome = 0 from rfl)]
        exact t1
      | some A =>
        rw [ho] at t1
        rw [if_neg (show ¬ zI (some A).isSome = 0 from (by decide : ¬ zI true = 0))]
        exact t1
/-! ===== the reference parses: what was told, numbers ===== -/
/-- one more row -/
theorem TLr_add {σ υ τ : SG} {s n f : Nat} {T : List Nat} {D : List Dc} {P P' : List Nat} {H H' : Rh} {d : Dc} {tl : Tl} (hs : s < 2) (hg : GSc T D) (hd : D[f]? = some d) (h2 : dK d = 2) (hn : n < 400) (hN : ∀ r ∈ zR H, rN r < 400) (hN' : ∀ r ∈ zR H', rN r < 400) (hR' : RT τ s T D P' (zR H')) (hl : (zR H).length < 700) (h82 : sI τ 1101 82 = nI ((zR H).length + 1)) (hRo : RTo υ s T D P (kR T D n f d (zR H))) (hNw : NwR υ (zR H).length n (fx D s f)) (hc : ∀ k, sI τ 1165 k = sI υ 1165 k ∧ sI τ 1166 k = sI υ 1166 k) (htl : TLr H tl) : TLr H' ((n, f) :: tl) := by
  have hlen : (zR H').length = (zR H).length + 1 := by
    have h1 := hR'.1
    have h2 := hR'.2.1
    rw [h82] at h1
    exact ((nI_eq (by omega) (by omega)).mp h1).symm
  -- a row's node and field are what its cells tell
  have key : ∀ i r', (zR H')[i]? = some r' → (i < (zR H).length → ∃ r, (zR H)[i]? = some r ∧ rN r' = rN r ∧ rF r' = rF r) ∧ (i = (zR H).length → rN r' = n ∧ rF r' = f) := by
    intro i r' hi
    obtain ⟨⟨w1, w2, _, _, x, w8, w9, _⟩, _⟩ := hR'.2.2 i r' hi
    have hr' := hN' r' (List.mem_of_getElem? hi)
    rw [(hc i).1] at w1
    rw [(hc i).2] at w2
    refine ⟨fun hil => ?_, fun hil => ?_⟩
    · have hik : i < (kR T D n f d (zR H)).length := by rw [kR_len]; exact hil
      obtain ⟨r, h3, h4, h5, _⟩ := kR_inv (List.getElem?_eq_getElem hik)
      obtain ⟨⟨y1, y2, _, _, z, y8, y9, _⟩, _⟩ := hRo.2 i _ (List.getElem?_eq_getElem hik)
      have hr := hN r (List.mem_of_getElem? h3)
      rw [y1] at w1
      rw [y2] at w2
      refine ⟨r, h3, ?_, ?_⟩
      · rw [← h4]
        rw [h4] at w1
        have := (nI_eq (by omega) (by omega)).mp w1
        omega
      · rw [← h5]
        exact ((fx_inj hg hs y8 y9 w8 w9).mp w2).symm
    · subst hil
      rw [hNw.1] at w1
      rw [hNw.2.1] at w2
      exact ⟨((nI_eq (by omega) (by omega)).mp w1).symm, ((fx_inj hg hs hd h2 w8 w9).mp w2).symm⟩
  intro m g
  rw [List.mem_cons]
  constructor
  · rintro (z | z)
    · obtain ⟨z1, z2⟩ := Prod.mk.inj z
      have hi : (zR H).length < (zR H').length := by omega
      have := (key _ _ (List.getElem?_eq_getElem hi)).2 rfl
      exact ⟨_, List.getElem_mem hi, this.1.trans z1.symm, this.2.trans z2.symm⟩
    · obtain ⟨r, hr, e1, e2⟩ := (htl m g).mp z
      obtain ⟨i, hi⟩ := List.getElem?_of_mem hr
      have hil := (List.getElem?_eq_some_iff.mp hi).1
      have hi' : i < (zR H').length := by omega
      obtain ⟨r2, y1, y2, y3⟩ := (key i _ (List.getElem?_eq_getElem hi')).1 hil
      rw [hi] at y1
      cases y1
      exact ⟨_, List.getElem_mem hi', y2.trans e1, y3.trans e2⟩
  · rintro ⟨r', hr', e1, e2⟩
    obtain ⟨i, hi⟩ := List.getElem?_of_mem hr'
    have hil := (List.getElem?_eq_some_iff.mp hi).1
    by_cases q : i < (zR H).length
    · obtain ⟨r, y1, y2, y3⟩ := (key i r' hi).1 q
      exact Or.inr ((htl m g).mpr ⟨r, List.mem_of_getElem? y1, y2.symm.trans e1, y3.symm.trans e2⟩)
    · obtain ⟨y1, y2⟩ := (key i r' hi).2 (by omega)
      left
      rw [← e1, ← e2, y1, y2]
theorem ix_inv {β : Type} {i : Int32} {n : Nat} {f : Nat → Option β} {y : β} (h : ix i n f = some y) : ∃ j, f j = some y := by
  unfold ix at h
  by_cases q : i < 0 ∨ n ≤ i.toNatClampNeg
  · rw [if_pos q] at h; cases h
  · rw [if_neg q] at h; exact ⟨_, h⟩
theorem b2_inv {α γ β : Type} {x : Option (α × γ)} {f : α → γ → Option β} {y : β} (h : b2 x f = some y) : ∃ a c, x = some (a, c) ∧ f a c = some y := by
  cases x with
  | none => cases h
  | some z => obtain ⟨a, c⟩ := z; exact ⟨a, c, rfl, h⟩
theorem if_inv {β : Type} {p : Prop} [Decidable p] {A B : Option β} {y : β} (h : (if p then A else B) = some y) : A = some y ∨ B = some y := by
  by_cases q : p
  · rw [if_pos q] at h; exact Or.inl h
  · rw [if_neg q] at h; exact Or.inr h
/-- the rows' nodes and fields stay -/
def kp3 (υ τ : SG) : Prop := sI τ 1101 82 = sI υ 1101 82 ∧ ∀ k, sI τ 1165 k = sI υ 1165 k ∧ sI τ 1166 k = sI υ 1166 k
theorem kp3_refl (υ : SG) : kp3 υ υ := ⟨rfl, fun _ => ⟨rfl, rfl⟩⟩
theorem kp3_L {υ ω : SG} {b j : Nat} {v : Int64} (h : kp3 υ ω) : kp3 υ (uL ω b j v) := h
theorem kp3_I {υ ω : SG} {b j : Nat} {v : Int32} (h : kp3 υ ω) (hb : b ≠ 1165 ∧ b ≠ 1166 ∧ (b = 1101 → j ≠ 82)) : kp3 υ (uI ω b j v) := ⟨(sI_o (by omega)).trans h.1, fun k => ⟨(sI_o (Or.inl (by omega))).trans (h.2 k).1, (sI_o (Or.inl (by omega))).trans (h.2 k).2⟩⟩
/-- the cells of nodes and fields after a number, a text, a message -/
theorem inv_num {U : Nat} {a b : Int32} {x : Int64} {σ τ : SG} (h : x_X12_putNumber U 1101 a b x σ = some τ) : ∃ v υ, x_X12_rowFor U 1101 a b σ = some (v, υ) ∧ kp3 υ τ := by
  unfold x_X12_putNumber at h
  obtain ⟨v, υ, hr, h⟩ := b2_inv h
  refine ⟨v, υ, hr, ?_⟩
  obtain ⟨j, h⟩ := ix_inv h
  rw [sb_eq] at h
  have k0 : kp3 υ (uL υ 1167 j x) := kp3_L (kp3_refl υ)
  rcases if_inv h with h | h
  · obtain ⟨j2, h⟩ := ix_inv h
    rcases if_inv h with h | h
    · obtain ⟨j3, h⟩ := ix_inv h
      rcases if_inv h with h | h
      · obtain ⟨j4, h⟩ := ix_inv h
        rw [sb_eq] at h
        cases h
        exact kp3_I k0 (by omega)
      · cases h; exact k0
    · cases h; exact k0
  · cases h; exact k0
theorem inv_txt {U : Nat} {a b x y : Int32} {σ τ : SG} (h : x_X12_putText_34 U 1101 a b x y σ = some τ) : ∃ v υ, x_X12_rowFor U 1101 a b σ = some (v, υ) ∧ kp3 υ τ := by
  unfold x_X12_putText_34 at h
  obtain ⟨v, υ, hr, h⟩ := b2_inv h
  refine ⟨v, υ, hr, ?_⟩
  obtain ⟨j, h⟩ := ix_inv h
  rw [sb_eq] at h
  obtain ⟨j', h⟩ := ix_inv h
  rw [sb_eq] at h
  have k0 : kp3 υ (uI (uI υ 1168 j x) 1169 j' y) := kp3_I (kp3_I (kp3_refl υ) (by omega)) (by omega)
  rcases if_inv h with h | h
  · obtain ⟨j2, h⟩ := ix_inv h
    rcases if_inv h with h | h
    · obtain ⟨j3, h⟩ := ix_inv h
      rcases if_inv h with h | h
      · obtain ⟨j4, h⟩ := ix_inv h
        rw [sb_eq] at h
        cases h
        exact kp3_I k0 (by omega)
      · cases h; exact k0
    · cases h; exact k0
  · cases h; exact k0
theorem inv_msg {U : Nat} {a b w : Int32} {σ τ : SG} (h : x_X12_putMessage U 1101 a b σ = some (w, τ)) : ∃ v υ, x_X12_rowFor U 1101 a b σ = some (v, υ) ∧ kp3 υ τ := by
  unfold x_X12_putMessage x_X12_putMessage_42 at h
  obtain ⟨v, υ, hr, h⟩ := b2_inv h
  refine ⟨v, υ, hr, ?_⟩
  obtain ⟨j, h⟩ := ix_inv h
  rcases if_inv h with h | h
  · obtain ⟨j2, h⟩ := ix_inv h
    obtain ⟨j3, h⟩ := ix_inv h
    obtain ⟨v2, ω, hn, h⟩ := b2_inv h
    have kω : kp3 υ ω := by
      unfold x_X12_addNode at hn
      rw [sb_eq] at hn
      obtain ⟨i1, hn⟩ := ix_inv hn
      rw [sb_eq] at hn
      obtain ⟨i2, hn⟩ := ix_inv hn
      rw [sb_eq] at hn
      obtain ⟨i3, hn⟩ := ix_inv hn
      rw [sb_eq] at hn
      rcases if_inv hn with hn | hn
      · rw [sb_eq] at hn
        cases hn
        exact kp3_I (kp3_I (kp3_I (kp3_I (kp3_I (kp3_refl υ) (by omega)) (by omega)) (by omega)) (by omega)) (by omega)
      · cases hn
        exact kp3_I (kp3_I (kp3_I (kp3_I (kp3_refl υ) (by omega)) (by omega)) (by omega)) (by omega)
    obtain ⟨j4, h⟩ := ix_inv h
    rw [sb_eq] at h
    obtain ⟨j5, h⟩ := ix_inv h
    cases h
    exact kp3_I kω (by omega)
  · obtain ⟨j2, h⟩ := ix_inv h
    cases h
    exact kp3_refl _
/-- no row of a field that was not told -/
theorem oldR_tk {T : List Nat} {D : List Dc} {H : Rh} {n f : Nat} {d : Dc} {tl : Tl} (htl : TLr H tl) (htk : tk D tl n f d = false) : oldR T D n f d (zR H) = none := by
  unfold oldR
  cases hR : dR d with
  | true => rfl
  | false =>
    rw [if_neg (show ¬ false = true by decide)]
    apply ff_no
    intro r hr
    cases hp : pRw n f r with
    | false => rfl
    | true =>
      exfalso
      obtain ⟨p1, p2⟩ := pRw_of hp
      have hk : r ∈ kR T D n f d (zR H) := by unfold kR; rw [hR]; exact hr
      obtain ⟨x, hx, e1, e2, _⟩ := kR_mem hk
      have : tk D tl n f d = true := tk_iff.mpr ⟨hR, f, (htl n f).mpr ⟨x, hx, e1.symm.trans p1, e2.symm.trans p2⟩, Or.inl rfl⟩
      rw [htk] at this
      cases this
/-- from the cells: the new told fields -/
theorem TLr_put {U s n f : Nat} {σ τ : SG} {T : List Nat} {D : List Dc} {A A' : AV} {H H' : Rh} {d : Dc} {tl : Tl} (hU4 : 4000 < U) (hs : s < 2) (hg : GSc T D) (hS : RS σ s T D) (hV : VR σ s T D A H) (hn : n < aC A) (hd : D[f]? = some d) (h2 : dK d = 2) (hl : (zR H).length < 700) (hV' : VR τ s T D A' H') (htl : TLr H tl) (htk : tk D tl n f d = false) (hi : ∃ v υ, x_X12_rowFor U 1101 (nI n) (nI (fx D s f)) σ = some (v, υ) ∧ kp3 υ τ) : TLr H' ((n, f) :: tl) := by
  have hn4 : n < 400 := by have := hV.2.2.2.2.1.2.2.1; omega
  obtain ⟨υ, u1, u2, u3, u4, u5⟩ := (N_rowFor hU4 hs hg hd h2 hn4 hV.n400 hS hV.2.1 hl).1 (oldR_tk htl htk)
  obtain ⟨v, υ', e1, e2, e3⟩ := hi
  rw [u1] at e1
  cases e1
  exact TLr_add (σ := σ) hs hg hd h2 hn4 hV.n400 hV'.n400 hV'.2.1 hl (e2.trans u3) u2 u4 e3 htl
/-! numbers -/
theorem lN_sInt {x : Nat} (h : x < 2 ^ 64) : (lN x).toInt = if x < 2 ^ 63 then (x : Int) else (x : Int) - 2 ^ 64 := by
  show (lN x).toBitVec.toInt = _
  rw [lN_bv, BitVec.toInt_ofNat']
  by_cases q : x < 2 ^ 63
  · rw [if_pos q, Int.bmod_eq_of_le (by omega) (by omega)]
  · rw [if_neg q]
    unfold Int.bmod
    simp only
    rw [Int.emod_eq_of_lt (by omega) (by omega)]
    split <;> omega
theorem N_above {a b : Nat} {σ : SG} (ha : a < 2 ^ 64) (hb : b < 2 ^ 64) : x_X12_above (lN a) (lN b) σ = some (zI (decide (b < a))) := by
  unfold x_X12_above x_X12_above_11 x_X12_above_22
  have hlt : lN b < lN a ↔ (lN b).toInt < (lN a).toInt := Int64.lt_iff_toInt_lt
  rw [ifd (lN_neg ha), ifd (lN_neg hb), ifd (lN_neg hb), ifd (lN_neg ha), if_pos (show (1 : Int32) = 1 from rfl), if_neg (show ¬ (1 : Int32) = 0 by decide), if_neg (show ¬ (0 : Int32) = 1 by decide), if_pos (show (0 : Int32) = 0 from rfl), ifd hlt, lN_sInt ha, lN_sInt hb]
  by_cases qa : 2 ^ 63 ≤ a
  · rw [if_pos qa, if_pos qa]
    by_cases qb : 2 ^ 63 ≤ b
    · rw [if_pos qb, if_neg (show ¬ b < 2 ^ 63 by omega), if_neg (show ¬ a < 2 ^ 63 by omega)]
      by_cases q : b < a
      · rw [if_pos (by omega), decide_eq_true q]; try rfl
      · rw [if_neg (by omega), decide_eq_false q]; try rfl
    · rw [if_neg qb, decide_eq_true (by omega)]; try rfl
  · rw [if_neg qa, if_neg qa]
    by_cases qb : 2 ^ 63 ≤ b
    · rw [if_pos qb, decide_eq_false (by omega)]; try rfl
    · rw [if_neg qb, if_pos (show b < 2 ^ 63 by omega), if_pos (show a < 2 ^ 63 by omega)]
      by_cases q : b < a
      · rw [if_pos (by omega), decide_eq_true q]; try rfl
      · rw [if_neg (by omega), decide_eq_false q]; try rfl
/-! ===== the reference parses a number, a name ===== -/
def P109 (b k : Nat) : Prop := b = 1101 ∧ k = 109
theorem LR_P {σ τ : SG} {S : List Nat} {P : Nat → Nat → Prop} (h : LR σ S) (hf : fP P σ τ) (h1 : ¬ P 1101 73) (h2 : ∀ k, ¬ P 1102 k) : LR τ S := ⟨((hf 1101 73 h1).1).trans h.1, RI_P h.2.1 hf h2, h.2.2⟩
theorem N_digH_L {U : Nat} {S : List Nat} {K : Int64 → Int32 → SG → Option SG} {v1 v2 v3 v4 : Int32} : ∀ (j p U1 : Nat) (y : Int64) (σ : SG), p + j = S.length → j < U1 → LR σ S → sI σ 1101 109 = nI p → ∃ y' τ, x_X12_parseNumber_L45 U 1101 K v1 v2 v3 v4 U1 y 1 σ = K y' 1 τ ∧ fP P109 σ τ ∧ sI τ 1101 109 = nI (p + rn pD S p) := by
  intro j
  induction j with
  | zero =>
    intro p U1 y σ hj hu hL h9
    obtain ⟨V, rfl⟩ : ∃ V, U1 = V + 1 := ⟨U1 - 1, by omega⟩
    have hl := hL.2.2.1
    have h0 : S[p]? = none := List.getElem?_eq_none (by omega)
    have hb : bP pD S p = false := by unfold bP; rw [h0]
    refine ⟨y, σ, ?_, fP_refl _ σ, by rw [rn_no hb]; exact h9⟩
    rw [x_X12_parseNumber_L45, h9, hL.at (by omega), b1_eq, V_isDigit hL.2.2.2, b1_eq, ifz, hb, if_neg (show ¬ false = true by decide)]
  | succ j ih =>
    intro p U1 y σ hj hu hL h9
    obtain ⟨V, rfl⟩ : ∃ V, U1 = V + 1 := ⟨U1 - 1, by omega⟩
    have hl := hL.2.2.1
    rw [x_X12_parseNumber_L45, h9, hL.at (by omega), b1_eq, V_isDigit hL.2.2.2, b1_eq, ifz, b1_eq]
    cases hb : bP pD S p with
    | false =>
      rw [if_neg (show ¬ false = true by decide), rn_no hb]
      exact ⟨y, σ, rfl, fP_refl _ σ, h9⟩
    | true =>
      rw [if_pos (show true = true from rfl), (rn_yes hb).2]
      have hF : fP P109 σ (uI σ 1101 109 (nI (p + 1))) := fP_u ⟨rfl, rfl⟩
      have go : ∀ y2 : Int64, ∃ y' τ, x_X12_parseNumber_L45 U 1101 K v1 v2 v3 v4 V y2 1 (uI σ 1101 109 (nI (p + 1))) = K y' 1 τ ∧ fP P109 σ τ ∧ sI τ 1101 109 = nI (p + (rn pD S (p + 1) + 1)) := by
        intro y2
        obtain ⟨y', τ, t1, t2, t3⟩ := ih (p + 1) V y2 (uI σ 1101 109 (nI (p + 1))) (by omega) (by omega) (LR_P hL hF (by unfold P109; omega) (fun k => by unfold P109; omega)) (sI_s _ _ _ _)
        exact ⟨y', τ, t1, fP_trans hF t2, by rw [t3]; congr 1; omega⟩
      obtain ⟨a, ha⟩ : ∃ a, x_X12_above y 1844674407370955161 σ = some a := by
        unfold x_X12_above x_X12_above_11 x_X12_above_22
        repeat' split
        all_goals exact ⟨_, rfl⟩
      rw [ha, b1_eq]
      unfold x_X12_parseNumber_98 x_X12_parseNumber_101
      rw [sb_eq, h9, nI_1]
      repeat' split
      all_goals exact go _
theorem N_dig_L {U : Nat} {S : List Nat} {K : Int64 → Int32 → SG → Option SG} {v1 v2 v3 v4 : Int32} : ∀ (j p a U1 : Nat) (σ : SG), p + j = S.length → j < U1 → a < 2 ^ 64 → LR σ S → sI σ 1101 109 = nI p → ∃ τ, fP P109 σ τ ∧ sI τ 1101 109 = nI (p + rn pD S p) ∧ (nmF (rl pD S p) a = none → ∃ y', x_X12_parseNumber_L45 U 1101 K v1 v2 v3 v4 U1 (lN a) 0 σ = K y' 1 τ) ∧ ∀ x, nmF (rl pD S p) a = some x → x_X12_parseNumber_L45 U 1101 K v1 v2 v3 v4 U1 (lN a) 0 σ = K (lN x) 0 τ := by
  intro j
  induction j with
  | zero =>
    intro p a U1 σ hj hu ha hL h9
    obtain ⟨V, rfl⟩ : ∃ V, U1 = V + 1 := ⟨U1 - 1, by omega⟩
    have hl := hL.2.2.1
    have h0 : S[p]? = none := List.getElem?_eq_none (by omega)
    have hb : bP pD S p = false := by unfold bP; rw [h0]
    refine ⟨σ, fP_refl _ σ, by rw [rn_no hb]; exact h9, fun z => ?_, fun x z => ?_⟩
    · rw [rl_no hb] at z; cases z
    · rw [rl_no hb] at z
      cases z
      rw [x_X12_parseNumber_L45, h9, hL.at (by omega), b1_eq, V_isDigit hL.2.2.2, b1_eq, ifz, hb, if_neg (show ¬ false = true by decide)]
  | succ j ih =>
    intro p a U1 σ hj hu ha hL h9
    obtain ⟨V, rfl⟩ : ∃ V, U1 = V + 1 := ⟨U1 - 1, by omega⟩
    have hl := hL.2.2.1
    have hpl : p < S.length := by omega
    have hS := List.getElem?_eq_getElem hpl
    have hc : S[p] < 256 := hL.2.2.2 _ (List.getElem_mem hpl)
    have hA : bA S p = nI S[p] := by unfold bA; rw [hS]
    have lL : (1844674407370955161 : Int64) = lN 1844674407370955161 := by decide
    rw [x_X12_parseNumber_L45, h9, hL.at (by omega), b1_eq, V_isDigit hL.2.2.2, b1_eq, ifz, b1_eq, hA, lL, N_above ha (by decide), b1_eq, ifz]
    cases hb : bP pD S p with
    | false =>
      rw [if_neg (show ¬ false = true by decide), rn_no hb, rl_no hb]
      exact ⟨σ, fP_refl _ σ, h9, fun z => (by cases z), fun x z => by cases z; rfl⟩
    | true =>
      have hd : pD S[p] = true := by unfold bP at hb; rw [hS] at hb; exact hb
      obtain ⟨d1, d2⟩ := pD_le hd
      have es : nI S[p] - 48 = nI (S[p] - 48) := nI_sub (b := 48) d1
      have e5 : (5 : Int32) < nI (S[p] - 48) ↔ 5 < S[p] - 48 := ltI (a := 5) (by decide) (by omega)
      have eq1 : lN a = lN 1844674407370955161 ↔ a = 1844674407370955161 := lN_inj ha (by decide)
      rw [if_pos (show true = true from rfl), (rn_yes hb).2, rl_yes hS hd, nmF, es, ifd e5, ifd eq1]
      unfold x_X12_parseNumber_98 x_X12_parseNumber_101
      rw [sb_eq, sb_eq, h9, nI_1]
      have hF : fP P109 σ (uI σ 1101 109 (nI (p + 1))) := fP_u ⟨rfl, rfl⟩
      have L1 := LR_P hL hF (by unfold P109; omega) (fun k => by unfold P109; omega)
      have a9 : sI (uI σ 1101 109 (nI (p + 1))) 1101 109 = nI (p + 1) := sI_s _ _ _ _
      have ep : p + (rn pD S (p + 1) + 1) = p + 1 + rn pD S (p + 1) := by omega
      have hst : 10 * lN a + Int32.toInt64 (nI (S[p] - 48)) = lN (a * 10 + (S[p] - 48)) := by
        rw [Int64.mul_comm]
        exact (lN_step (a := a) (d := S[p] - 48)).elim id (fun z => by omega)
      rw [hst, ep]
      by_cases q : 1844674407370955161 < a ∨ (a = 1844674407370955161 ∧ 5 < S[p] - 48)
      · rw [if_pos q]
        obtain ⟨y', τ, t1, t2, t3⟩ := N_digH_L (U := U) (S := S) (K := K) (v1 := v1) (v2 := v2) (v3 := v3) (v4 := v4) j (p + 1) V (lN (a * 10 + (S[p] - 48))) (uI σ 1101 109 (nI (p + 1))) (by omega) (by omega) L1 a9
        refine ⟨τ, fP_trans hF t2, t3, fun _ => ⟨y', ?_⟩, fun x z => by cases z⟩
        by_cases q1 : 1844674407370955161 < a
        · rw [decide_eq_true q1, if_pos (show true = true from rfl)]; exact t1
        · have q2 := q.elim (fun z => absurd z q1) id
          rw [decide_eq_false q1, if_neg (show ¬ false = true by decide), if_pos q2.1, if_pos q2.2]; exact t1
      · rw [if_neg q]
        have ha' : a * 10 + (S[p] - 48) < 2 ^ 64 := by omega
        obtain ⟨τ, t1, t2, t3, t4⟩ := ih (p + 1) (a * 10 + (S[p] - 48)) V (uI σ 1101 109 (nI (p + 1))) (by omega) (by omega) ha' L1 a9
        have same : (if decide (1844674407370955161 < a) = true then x_X12_parseNumber_L45 U 1101 K v1 v2 v3 v4 V (lN (a * 10 + (S[p] - 48))) 1 (uI σ 1101 109 (nI (p + 1))) else if a = 1844674407370955161 then if 5 < S[p] - 48 then x_X12_parseNumber_L45 U 1101 K v1 v2 v3 v4 V (lN (a * 10 + (S[p] - 48))) 1 (uI σ 1101 109 (nI (p + 1))) else x_X12_parseNumber_L45 U 1101 K v1 v2 v3 v4 V (lN (a * 10 + (S[p] - 48))) 0 (uI σ 1101 109 (nI (p + 1))) else x_X12_parseNumber_L45 U 1101 K v1 v2 v3 v4 V (lN (a * 10 + (S[p] - 48))) 0 (uI σ 1101 109 (nI (p + 1)))) = x_X12_parseNumber_L45 U 1101 K v1 v2 v3 v4 V (lN (a * 10 + (S[p] - 48))) 0 (uI σ 1101 109 (nI (p + 1))) := by
          rw [decide_eq_false (fun z => q (Or.inl z)), if_neg (show ¬ false = true by decide)]
          by_cases q9 : a = 1844674407370955161
          · rw [if_pos q9, if_neg (fun z => q (Or.inr ⟨q9, z⟩))]
          · rw [if_neg q9]
        rw [same]
        exact ⟨τ, fP_trans hF t1, t2, t3, t4⟩
/-- an outcome of reading a value -/
def OV (s : Nat) (T : List Nat) (D : List Dc) (S : List Nat) (lm : Nat) (A : AV) (H : Rh) (tl : Tl) (n f : Nat) (d : Dc) (σ : SG) (o : Option (Int64 × List Nat × Nat)) (x : Option SG) : Prop := ∃ τ, x = some τ ∧ fP PDn σ τ ∧ (o = none → ¬ sI τ 1101 107 = 0) ∧ ∀ v t q, o = some (v, t, q) → ∃ H', DR τ s T D S lm (aPut T D A n f d v t) H' q q ∧ zX A H (aPut T D A n f d v t) H' ∧ TLr H' ((n, f) :: tl)
theorem OV_no {s lm n f : Nat} {T S : List Nat} {D : List Dc} {A : AV} {H : Rh} {tl : Tl} {d : Dc} {σ τ : SG} (hf : fP PDn σ τ) (h7 : ¬ sI τ 1101 107 = 0) : OV s T D S lm A H tl n f d σ none (some τ) := ⟨τ, rfl, hf, fun _ => h7, fun _ _ _ z => by cases z⟩
/-- a number is put, and told -/
theorem OV_num {U s n f lm p b q : Nat} {σ υ : SG} {T S : List Nat} {D : List Dc} {A : AV} {H : Rh} {d : Dc} {tl : Tl} {v : Int64} (hU4 : 4000 < U) (hs : s < 2) (hg : GSc T D) (hD : DR σ s T D S lm A H p b) (hn : n < aC A) (hF : isF D (aN A n) f d) (h13 : fty T D d ≠ 13) (hnm : nmr (fty T D d) = true) (htl : TLr H tl) (htk : tk D tl n f d = false) (hf : fP P109 σ υ) (h9 : sI υ 1101 109 = nI q) (hb : b < q) (hpq : p ≤ q) (hq : q ≤ S.length) : OV s T D S lm A H tl n f d σ (some (v, [], q)) (x_X12_putNumber U 1101 (nI n) (nI (fx D s f)) v υ) := by
  have F : fP PN σ υ := fP_mono hf (fun b k z => by unfold P109 at z; unfold PN; omega)
  have D1 : DR υ s T D S lm A H q b := DR_N hD F h9 (((hf 1101 107 (by unfold P109; omega)).1).trans hD.2.2.2.2.2.1) hpq hq
  have hSl := hD.2.2.2.1.2.2.1
  have hbb := D1.2.2.2.2.2.2.2.1.1
  have hbp := D1.2.2.2.2.2.2.2.2.1
  obtain ⟨τ, H', t1, t2, t3, t4⟩ := DR_num (x := v) hU4 hs hg D1 hn hF h13 hnm hb
  refine ⟨τ, t1, fP_trans (PDn_N F) t3, fun z => (by cases z), fun v' t' q' z => ?_⟩
  cases z
  exact ⟨H', t2, t4, TLr_put hU4 hs hg D1.1 D1.2.1 hn hF.1 hF.2.1 (by omega) t2.2.1 htl htk (inv_num t1)⟩
theorem mx_r : ∀ t, t < 15 → t ≠ 10 → t ≠ 11 → t ≠ 12 → t ≠ 13 → x_X12_mostOf (nI t) = some (lN (mxO t false)) ∧ ∃ y, x_X12_leastOf (nI t) = some y ∧ -y = lN (mxO t true) := by
  intro t h1 h2 h3 h4 h5
  have key : ∀ t, t < 15 → (t = 10 ∨ t = 11 ∨ t = 12 ∨ t = 13) ∨ (x_X12_mostOf (nI t) = some (lN (mxO t false)) ∧ (x_X12_leastOf (nI t)).map (fun y => -y) = some (lN (mxO t true))) := by decide +kernel
  obtain ⟨k1, k2⟩ := (key t h1).elim (fun z => by omega) id
  refine ⟨k1, ?_⟩
  cases hl : x_X12_leastOf (nI t) with
  | none => rw [hl] at k2; cases k2
  | some y => rw [hl] at k2; exact ⟨y, rfl, Option.some.inj k2⟩
theorem mx_lt (t : Nat) (neg : Bool) : mxO t neg < 2 ^ 64 := by
  unfold mxO
  repeat' split
  all_goals omega
theorem mx_10 : ∃ y z, x_X12_mostOf (nI 10) = some y ∧ x_X12_leastOf (nI 10) = some z := ⟨_, _, rfl, rfl⟩
theorem N_number {U s n f lm p b : Nat} {σ : SG} {T S : List Nat} {D : List Dc} {A : AV} {H : Rh} {d : Dc} {tl : Tl} (hU4 : 4000 < U) (hs : s < 2) (hg : GSc T D) (hD : DR σ s T D S lm A H p b) (hb : b < p) (hn : n < aC A) (hF : isF D (aN A n) f d) (hnm : nmr (fty T D d) = true) (htl : TLr H tl) (htk : tk D tl n f d = false) : OV s T D S lm A H tl n f d σ (if fty T D d = 10 then none else (numS S (fty T D d) p).map (fun y => (y.1, [], y.2))) (x_X12_parseNumber U 1101 (nI n) (nI (fx D s f)) σ) := by
  have hD' := hD
  obtain ⟨a1, a2, a3, a4, a5, a6, a7, a8, a9, a10⟩ := hD'
  have hSl := a4.2.2.1
  have h8 := a4.2.2.2
  have hft : fty T D d ≤ 14 := dTy_lt (hg.fld hF.1 hF.2.1).2.2.2.1
  have h13 : fty T D d ≠ 13 := fun z => by rw [z] at hnm; cases hnm
  have h11 : fty T D d ≠ 11 := fun z => by rw [z] at hnm; cases hnm
  have h12 : fty T D d ≠ 12 := fun z => by rw [z] at hnm; cases hnm
  unfold x_X12_parseNumber x_X12_parseNumber_18
  rw [a5, a4.at (by omega), b1_eq, show (45 : Int32) = nI 45 from rfl, ifA h8 (by decide), if_pos (show (0 : Int32) = 0 from rfl), if_neg (show ¬ (1 : Int32) = 0 by decide), sb_eq, nI_1]
  -- from the sign on
  have core : ∀ (p1 : Nat) (neg : Bool) (υ : SG), p ≤ p1 → p1 ≤ S.length → fP P109 σ υ → sI υ 1101 109 = nI p1 → OV s T D S lm A H tl n f d σ (if fty T D d = 10 then none else (if rn pD S p1 = 0 ∨ bP pW S (p1 + rn pD S p1) = true then none else match nmF (rl pD S p1) 0 with
    | none => none
    | some x => if x ≤ mxO (fty T D d) neg then some (if neg then -(lN x) else lN x, p1 + rn pD S p1) else none).map (fun y => (y.1, [], y.2))) (x_X12_parseNumber_33 U 1101 (nI n) (nI (fx D s f)) (zI neg) υ) := by
    intro p1 neg υ hpp hp1 hf h9
    unfold x_X12_parseNumber_33
    have hrl := rn_le' (f := pD) hp1
    have L1 := LR_P a4 hf (by unfold P109; omega) (fun k => by unfold P109; omega)
    have key := N_dig_L (U := U) (S := S) (K := fun w18 w19 σ20 => ix (nI (fx D s f)) 120 fun j21 => if zI neg = 0 then (b1 (x_X12_mostOf (sI σ20 1118 j21)) fun v27 => x_X12_parseNumber_152 U 1101 (nI n) (nI (fx D s f)) (zI neg) (sI υ 1101 109) w18 w19 (sI σ20 1118 j21) v27 σ20) else (b1 (x_X12_leastOf (sI σ20 1118 j21)) fun v45 => x_X12_parseNumber_152 U 1101 (nI n) (nI (fx D s f)) (zI neg) (sI υ 1101 109) w18 w19 (sI σ20 1118 j21) (-v45) σ20)) (v1 := nI n) (v2 := nI (fx D s f)) (v3 := zI neg) (v4 := sI υ 1101 109) (S.length - p1) p1 0 U υ (by omega) (by omega) (by decide) L1 h9
    obtain ⟨τ, t1, t2, t3, t4⟩ := key
    have z0 : lN 0 = (0 : Int64) := rfl
    rw [z0] at t3 t4
    have FA := fP_trans hf t1
    have L2 := LR_P L1 t1 (by unfold P109; omega) (fun k => by unfold P109; omega)
    have S2 : RS τ s T D := RS_keep a1 (fun b k hb => (FA b k (by unfold PKP at hb; unfold P109; omega)).1)
    obtain ⟨f1, _, _, f4, _⟩ := S2.f hF.1 hF.2.1
    have e10 : nI (fty T D d) = 10 ↔ fty T D d = 10 := nI_eq (b := 10) (by omega) (by decide)
    have e0 : nI (p1 + rn pD S p1) = nI p1 ↔ rn pD S p1 = 0 := by
      rw [nI_eq (by omega) (by omega)]
      omega
    have FD : fP PDn σ τ := fP_mono FA (fun b k z => by unfold P109 at z; unfold PDn; omega)
    have c7 : sI τ 1101 107 = 0 := ((FA 1101 107 (by unfold P109; omega)).1).trans a6
    -- a wrong one
    have bad : ∀ y : Int64, OV s T D S lm A H tl n f d σ none (x_X12_parseNumber_199 U 1101 (nI n) (nI (fx D s f)) (zI neg) y τ) := by
      intro y
      unfold x_X12_parseNumber_199 x_X12_parseNumber_204
      rw [sb_eq, sI_s, if_neg (show ¬ (1 : Int32) = 0 by decide)]
      exact OV_no (fP_trans FD (fP_u (by unfold PDn; omega))) (by rw [sI_s]; decide)
    -- from the digits on, whatever the most
    have at152 : ∀ (y : Int64) (h : Int32) (mx : Int64), (h ≠ 0 ∨ fty T D d = 10) → OV s T D S lm A H tl n f d σ none (x_X12_parseNumber_152 U 1101 (nI n) (nI (fx D s f)) (zI neg) (sI υ 1101 109) y h (sI τ 1118 (fx D s f)) mx τ) := by
      intro y h mx hh
      obtain ⟨w, hw⟩ : ∃ w, x_X12_above y mx τ = some w := by
        unfold x_X12_above x_X12_above_11 x_X12_above_22
        repeat' split
        all_goals exact ⟨_, rfl⟩
      have eb : x_X12_byteAt 1101 (sI τ 1101 109) τ = some (bA S (p1 + rn pD S p1)) := by rw [t2]; exact L2.at (by omega)
      unfold x_X12_parseNumber_152
      rw [eb, b1_eq, V_isPart h8, b1_eq, ifz, hw, b1_eq, f4, ifd e10]
      by_cases q0 : sI τ 1101 109 = sI υ 1101 109
      · rw [if_pos q0]; exact bad y
      rw [if_neg q0]
      cases bP pW S (p1 + rn pD S p1) with
      | true => rw [if_pos (show true = true from rfl)]; exact bad y
      | false =>
        rw [if_neg (show ¬ false = true by decide)]
        by_cases qh : h = 0
        · rw [if_pos qh]
          by_cases qw : w = 0
          · rw [if_pos qw, if_pos (hh.elim (fun z => absurd qh z) id)]; exact bad y
          · rw [if_neg qw]; exact bad y
        · rw [if_neg qh]; exact bad y
    -- both mosts
    have both : ∀ (y : Int64) (h : Int32), (h ≠ 0 ∨ fty T D d = 10) → OV s T D S lm A H tl n f d σ none (ix (nI (fx D s f)) 120 fun j21 => if zI neg = 0 then (b1 (x_X12_mostOf (sI τ 1118 j21)) fun v27 => x_X12_parseNumber_152 U 1101 (nI n) (nI (fx D s f)) (zI neg) (sI υ 1101 109) y h (sI τ 1118 j21) v27 τ) else (b1 (x_X12_leastOf (sI τ 1118 j21)) fun v45 => x_X12_parseNumber_152 U 1101 (nI n) (nI (fx D s f)) (zI neg) (sI υ 1101 109) y h (sI τ 1118 j21) (-v45) τ)) := by
      intro y h hh
      have ht : ∃ u w, x_X12_mostOf (sI τ 1118 (fx D s f)) = some u ∧ x_X12_leastOf (sI τ 1118 (fx D s f)) = some w := by
        rw [f4]
        by_cases q : fty T D d = 10
        · rw [q]; obtain ⟨u, w, h1, h2⟩ := mx_10; exact ⟨u, w, h1, h2⟩
        · obtain ⟨h1, w, h2, _⟩ := mx_r (fty T D d) (by omega) q h11 h12 h13
          exact ⟨_, w, h1, h2⟩
      obtain ⟨u, w, h1, h2⟩ := ht
      rw [ix_in (by omega) (by decide), h1, h2, b1_eq, b1_eq]
      split
      · exact at152 y h u hh
      · exact at152 y h (-w) hh
    by_cases q10 : fty T D d = 10
    · rw [if_pos q10]
      cases hn' : nmF (rl pD S p1) 0 with
      | none =>
        obtain ⟨y', e⟩ := t3 hn'
        rw [e]
        exact both y' 1 (Or.inr q10)
      | some x =>
        rw [t4 x hn']
        exact both _ 0 (Or.inr q10)
    · rw [if_neg q10]
      cases hn' : nmF (rl pD S p1) 0 with
      | none =>
        obtain ⟨y', e⟩ := t3 hn'
        rw [e]
        simp only
        rw [ite_self]
        exact both y' 1 (Or.inl (by decide))
      | some x =>
        have hx : x < 2 ^ 64 := nmF_lt _ _ _ (fun c hc => by have := pD_le (rl_mem hc); omega) (by decide) hn'
        obtain ⟨h1, w, h2, h3⟩ := mx_r (fty T D d) (by omega) q10 h11 h12 h13
        rw [t4 x hn']
        simp only
        rw [ix_in (by omega) (by decide), f4, h1, h2, b1_eq, b1_eq, h3]
        have one : ∀ (mx : Int64), mx = lN (mxO (fty T D d) neg) → OV s T D S lm A H tl n f d σ ((if rn pD S p1 = 0 ∨ bP pW S (p1 + rn pD S p1) = true then none else if x ≤ mxO (fty T D d) neg then some (if neg then -(lN x) else lN x, p1 + rn pD S p1) else none).map (fun y => (y.1, [], y.2))) (x_X12_parseNumber_152 U 1101 (nI n) (nI (fx D s f)) (zI neg) (sI υ 1101 109) (lN x) 0 (nI (fty T D d)) mx τ) := by
          intro mx hmx
          unfold x_X12_parseNumber_152
          rw [t2, h9, ifd e0, L2.at (by omega), b1_eq, V_isPart h8, b1_eq, ifz, hmx, N_above hx (mx_lt _ _), b1_eq, ifz, ifd e10, if_neg q10, if_pos (show (0 : Int32) = 0 from rfl)]
          by_cases q0 : rn pD S p1 = 0
          · rw [if_pos q0, if_pos (Or.inl q0)]; exact bad _
          rw [if_neg q0]
          cases hw : bP pW S (p1 + rn pD S p1) with
          | true => rw [if_pos (show true = true from rfl), if_pos (Or.inr rfl)]; exact bad _
          | false =>
            rw [if_neg (show ¬ false = true by decide), if_neg (fun z => z.elim q0 (fun y => by cases y))]
            by_cases qx : x ≤ mxO (fty T D d) neg
            · rw [decide_eq_false (show ¬ mxO (fty T D d) neg < x by omega), if_neg (show ¬ false = true by decide), if_pos qx]
              unfold x_X12_parseNumber_204 x_X12_parseNumber_226
              rw [if_pos c7, ifz, b1_id, b1_id]
              have hput := OV_num (U := U) (q := p1 + rn pD S p1) (v := if neg then -(lN x) else lN x) hU4 hs hg hD hn hF h13 hnm htl htk FA t2 (by omega) (by omega) hrl
              cases neg with
              | true => rw [if_pos (show true = true from rfl)]; exact hput
              | false => rw [if_neg (show ¬ false = true by decide)]; exact hput
            · rw [decide_eq_true (show mxO (fty T D d) neg < x by omega), if_pos (show true = true from rfl), if_neg qx]
              exact bad _
        cases neg with
        | true => rw [if_neg (show ¬ zI true = 0 by decide)]; exact one _ rfl
        | false => rw [if_pos (show zI false = 0 from rfl)]; exact one _ rfl
  unfold numS
  by_cases q : S[p]? = some 45
  · have hpl := (List.getElem?_eq_some_iff.mp q).1
    have := core (p + 1) true (uI σ 1101 109 (nI (p + 1))) (by omega) (by omega) (fP_u ⟨rfl, rfl⟩) (sI_s _ _ _ _)
    rw [if_pos q]
    simp only [if_pos q, decide_eq_true q]
    exact this
  · have := core p false σ (Nat.le_refl _) a10 (fP_refl _ σ) a5
    rw [if_neg q]
    simp only [if_neg q, decide_eq_false q]
    exact this
/-! ===== the reference parses a name, a text ===== -/
theorem N_ename_L {U s e p q : Nat} {σ : SG} {T S : List Nat} {D : List Dc} {y : Dc} {f : Nat} {K : Int64 → Int32 → Option SG} {v1 : Int32} (hU4 : 4000 < U) (hs : s < 2) (h80 : sI σ 1101 80 = nI s) (hg : GSc T D) (h : RS σ s T D) (he : D[e]? = some y) (h1 : dK y = 1) (hL : LR σ S) (h9 : sI σ 1101 109 = nI p) (hpq : p ≤ q) (hq : q ≤ S.length) (hf : f < 120) (h19 : sI σ 1119 f = nI (cnt (D.take e) 1)) : ∀ (j g U1 : Nat) (v5 : Int64) (v7 : Int32), g + j = cnt D 3 → j < U1 → ((∀ (i : Nat) (d : Dc), D[i]? = some d → dK d = 3 → g ≤ cnt (D.take i) 3 → pVn T e (slc S p q) d = false) → x_X12_parseName_L100 U 1101 K v1 (nI f) (nI q) 14 σ U1 v5 v7 (nI (40 * s + g)) = K v5 v7) ∧ ∀ i, vNm T D e (slc S p q) = some i → g ≤ cnt (D.take i) 3 → x_X12_parseName_L100 U 1101 K v1 (nI f) (nI q) 14 σ U1 v5 v7 (nI (40 * s + g)) = K (nLi D i) 1 := by
  have hl := hg.2.1
  obtain ⟨l0, l1, l2, l3, l4, l5⟩ := lim_of h.1
  have hc : sI σ 1107 s = nI (cnt D 3) := h.2.1 3 (by decide)
  intro j
  induction j with
  | zero =>
    intro g U1 v5 v7 hgj hu
    obtain ⟨V, rfl⟩ : ∃ V, U1 = V + 1 := ⟨U1 - 1, by omega⟩
    have stp : x_X12_parseName_L100 U 1101 K v1 (nI f) (nI q) 14 σ (V + 1) v5 v7 (nI (40 * s + g)) = K v5 v7 := by
      rw [x_X12_parseName_L100, h80, ix_in hs (by decide), show (40 : Int32) = nI 40 from rfl, pk_mul, hc, nI_add, if_neg (fun q => by have := (ltI (by omega) (by omega)).mp q; omega)]
    refine ⟨fun _ => stp, fun i hi hgi => ?_⟩
    obtain ⟨d, hd, h3, _⟩ := vNm_some hi
    have := cnt_take_lt hd h3
    omega
  | succ j ih =>
    intro g U1 v5 v7 hgj hu
    obtain ⟨V, rfl⟩ : ∃ V, U1 = V + 1 := ⟨U1 - 1, by omega⟩
    obtain ⟨i0, d0, hd0, hk0, hi0⟩ := plc (D := D) (q := 3) g (by omega)
    have row := (h.2.2 i0 d0 hd0).2.2.2 hk0
    rw [hi0] at row
    have hown : oq D 1 (dO d0) = nI (cnt (D.take e) 1) ↔ dO d0 = some e := oq_inj (q := 1) (o := dO d0) (o' := some e) hl (hg.1.ow hd0 hk0) (fun m hm => by cases hm; exact ⟨y, he, h1⟩)
    have hnl := nLv (hg.all.2.1.2 i0 d0 hd0 hk0).1
    have hnm := N_isNamed (U := U) hU4 hs hL row.2.1 hpq hq (nmT8 hg (d := d0))
    have hnm' : x_X12_isNamed U 1101 (nI p) (nI q) (sI σ 1124 (40 * s + g)) (sI σ 1125 (40 * s + g)) σ = some (zI (decide (slc S p q = nmT T d0))) := hnm
    have enl : nL (dN d0) = nLi D i0 := by unfold nLi; rw [hd0]
    have stp : x_X12_parseName_L100 U 1101 K v1 (nI f) (nI q) 14 σ (V + 1) v5 v7 (nI (40 * s + g)) = if pVn T e (slc S p q) d0 then x_X12_parseName_L100 U 1101 K v1 (nI f) (nI q) 14 σ V (nLi D i0) 1 (nI (40 * s + (g + 1))) else x_X12_parseName_L100 U 1101 K v1 (nI f) (nI q) 14 σ V v5 v7 (nI (40 * s + (g + 1))) := by
      rw [x_X12_parseName_L100, h80, ix_in hs (by decide), show (40 : Int32) = nI 40 from rfl, pk_mul, hc, nI_add, if_pos ((ltI (by omega) (by omega)).mpr (by omega)), if_pos (show (14 : Int32) = 14 from rfl), ix_in (by omega) (by decide), ix_in hf (by decide), row.1, h19, ifd hown, ix_in (by omega) (by decide), ix_in (by omega) (by decide), h9, hnm', b1_eq, ifz, ix_in (by omega) (by decide), row.2.2, hnl, enl]
      unfold x_X12_parseName_184
      rw [nI_1, show 40 * s + g + 1 = 40 * s + (g + 1) by omega]
      unfold pVn
      by_cases q1 : dO d0 = some e
      · rw [if_pos q1]
        by_cases q2 : slc S p q = nmT T d0
        · rw [decide_eq_true q2, if_pos (show true = true from rfl), decide_eq_true ⟨hk0, q1, q2.symm⟩, if_pos (show true = true from rfl)]
        · rw [decide_eq_false q2, if_neg (show ¬ false = true by decide), decide_eq_false (fun z => q2 z.2.2.symm), if_neg (show ¬ false = true by decide)]
      · rw [if_neg q1, decide_eq_false (fun z => q1 z.2.1), if_neg (show ¬ false = true by decide)]
    rw [stp]
    refine ⟨fun hall => ?_, fun i hi hgi => ?_⟩
    · rw [hall i0 d0 hd0 hk0 (by omega), if_neg (show ¬ false = true by decide)]
      exact (ih (g + 1) V v5 v7 (by omega) (by omega)).1 (fun i d hd h3 hgi => hall i d hd h3 (by omega))
    · obtain ⟨d, hd, h3, ho, hnmd⟩ := vNm_some hi
      have uniq : ∀ (i' : Nat) (d' : Dc), D[i']? = some d' → dK d' = 3 → pVn T e (slc S p q) d' = true → i' = i := by
        intro i' d' hd' h3' hp'
        have hp := of_decide_eq_true hp'
        have sc : ∀ (k : Nat) (x : Dc), D[k]? = some x → dK x = 3 → dO x = some e → dS x = dS y := by
          intro k x hx hx3 hxo
          have hw := (hg.1 k x hx).2
          rcases hw with z | z | z | z | ⟨_, e', z1, z2, hz, _, z4⟩
          · omega
          · omega
          · omega
          · omega
          · rw [hxo] at z1
            cases z1
            have hz' : D[e]? = some z2 := by
              have hlt := (List.getElem?_eq_some_iff.mp hz).1
              rw [List.length_take] at hlt
              rw [List.getElem?_take_of_lt (by omega)] at hz
              exact hz
            rw [he] at hz'
            cases hz'
            exact z4.symm
        exact nam_inj hg hd' hd ((sc i' d' hd' h3' hp.2.1).trans (sc i d hd h3 ho).symm) (hp.2.2.trans hnmd.symm)
      cases hp : pVn T e (slc S p q) d0 with
      | true =>
        have e1 := uniq i0 d0 hd0 hk0 hp
        rw [if_pos (show true = true from rfl)]
        refine ((ih (g + 1) V (nLi D i0) 1 (by omega) (by omega)).1 (fun i' d' hd' h3' hgi' => ?_)).trans (by rw [e1])
        cases hp' : pVn T e (slc S p q) d' with
        | false => rfl
        | true =>
          have := uniq i' d' hd' h3' hp'
          rw [this, ← e1, hi0] at hgi'
          omega
      | false =>
        rw [if_neg (show ¬ false = true by decide)]
        refine (ih (g + 1) V v5 v7 (by omega) (by omega)).2 i hi ?_
        by_cases z : cnt (D.take i) 3 = g
        · exfalso
          have := ord_inj hd h3 hd0 hk0 (by omega)
          subst this
          rw [hd] at hd0
          cases hd0
          have : pVn T e (slc S p q) d0 = true := decide_eq_true ⟨h3, ho, hnmd⟩
          rw [hp] at this
          cases this
        · omega
theorem N_name {U s n f lm p b : Nat} {σ : SG} {T S : List Nat} {D : List Dc} {A : AV} {H : Rh} {d : Dc} {tl : Tl} (hU4 : 4000 < U) (hs : s < 2) (hg : GSc T D) (hD : DR σ s T D S lm A H p b) (hb : b < p) (hn : n < aC A) (hF : isF D (aN A n) f d) (hnm : nmr (fty T D d) = true) (htl : TLr H tl) (htk : tk D tl n f d = false) (hlt : bP pL S p = true) : OV s T D S lm A H tl n f d σ ((nvS T D S d p).map (fun y => (y.1, [], y.2))) (x_X12_parseName U 1101 (nI n) (nI (fx D s f)) σ) := by
  have hD' := hD
  obtain ⟨a1, a2, a3, a4, a5, a6, a7, a8, a9, a10⟩ := hD'
  have hSl := a4.2.2.1
  have h8 := a4.2.2.2
  have hft : fty T D d ≤ 14 := dTy_lt (hg.fld hF.1 hF.2.1).2.2.2.1
  have h13 : fty T D d ≠ 13 := fun z => by rw [z] at hnm; cases hnm
  obtain ⟨w1, w2⟩ := weS_le a10
  have hne : neS S p = weS S p := by unfold neS; rw [hlt, if_pos rfl]
  obtain ⟨f1, _, _, f4, f5, _⟩ := a1.f hF.1 hF.2.1
  have hl9 := hg.2.1
  obtain ⟨l0, l1, l2, l3, l4, l5⟩ := lim_of a1.1
  have hlt' : p < weS S p := by
    unfold weS
    have : bP pW S p = true := by
      unfold bP at hlt ⊢
      cases hs : S[p]? with
      | none => rw [hs] at hlt; cases hlt
      | some c =>
        rw [hs] at hlt
        have hc : pL c = true := hlt
        show pW c = true
        unfold pW
        rw [hc]
        try rfl
    have := (rn_yes this).2
    omega
  -- the end
  have F9 : fP P109 σ (uI σ 1101 109 (nI (weS S p))) := fP_u ⟨rfl, rfl⟩
  have yes : ∀ v : Int64, OV s T D S lm A H tl n f d σ (some (v, [], weS S p)) (x_X12_parseName_190 U 1101 (nI n) (nI (fx D s f)) (nI (weS S p)) v 1 σ) := by
    intro v
    unfold x_X12_parseName_190
    rw [sb_eq, if_neg (show ¬ (1 : Int32) = 0 by decide), b1_id]
    exact OV_num (U := U) (v := v) hU4 hs hg hD hn hF h13 hnm htl htk F9 (sI_s _ _ _ _) (by omega) w1 w2
  have no : ∀ v : Int64, OV s T D S lm A H tl n f d σ none (x_X12_parseName_190 U 1101 (nI n) (nI (fx D s f)) (nI (weS S p)) v 0 σ) := by
    intro v
    unfold x_X12_parseName_190
    rw [sb_eq, if_pos (show (0 : Int32) = 0 from rfl), sb_eq]
    exact OV_no (fP_trans (fP_u (by unfold PDn; omega)) (fP_u (by unfold PDn; omega))) (by rw [sI_s]; decide)
  unfold x_X12_parseName x_X12_parseName_62 x_X12_parseName_67 x_X12_parseName_89 x_X12_parseName_91
  have e10 : nI (fty T D d) = 10 ↔ fty T D d = 10 := nI_eq (b := 10) (by omega) (by decide)
  have hpl1 := X12_isPlain (U := U) (w := 1953658213) hU4 a4.2.1 h8 hSl w1 w2
  have hpl2 := X12_isPlain (U := U) (w := 439721161573) hU4 a4.2.1 h8 hSl w1 w2
  rw [bw4] at hpl1
  rw [bw3] at hpl2
  rw [a5, N_nend hU4 a4 a10, b1_eq, hne, ix_in (by omega) (by decide), f4, ifd e10, hpl1, b1_eq, b1_eq, hpl2, b1_eq, ifz, ifz, ifz, a2.1, show (40 : Int32) = nI 40 from rfl, pk_mul]
  -- no enum: the loop does nothing
  have skip : fty T D d ≠ 14 → ∀ (v : Int64) (w : Int32), x_X12_parseName_L100 U 1101 (fun w47 w48 => x_X12_parseName_190 U 1101 (nI n) (nI (fx D s f)) (nI (weS S p)) w47 w48 σ) (nI n) (nI (fx D s f)) (nI (weS S p)) (nI (fty T D d)) σ U v w (nI (40 * s)) = x_X12_parseName_190 U 1101 (nI n) (nI (fx D s f)) (nI (weS S p)) v w σ := by
    intro q v w
    obtain ⟨V, rfl⟩ : ∃ V, U = V + 1 := ⟨U - 1, by omega⟩
    rw [x_X12_parseName_L100, a2.1, ix_in hs (by decide), if_neg (show ¬ nI (fty T D d) = 14 from fun z => q ((nI_eq (b := 14) (by omega) (by decide)).mp z)), ite_self]
  unfold nvS
  by_cases q10 : fty T D d = 10
  · rw [if_pos q10, if_pos q10, skip (by omega), skip (by omega), skip (by omega), skip (by omega)]
    simp only [b1_eq, ifz]
    unfold bvS fi fi fi
    have ne : [102, 97, 108, 115, 101] ≠ [116, 114, 117, 101] := by decide
    by_cases qt : slc S p (weS S p) = [116, 114, 117, 101]
    · rw [decide_eq_true qt, if_pos (show true = true from rfl), if_pos (show true = true from rfl), if_neg (fun z => ne (z.symm.trans qt)), if_pos qt]
      exact yes 1
    · rw [decide_eq_false qt, if_neg (show ¬ false = true by decide)]
      by_cases qf : slc S p (weS S p) = [102, 97, 108, 115, 101]
      · rw [decide_eq_true qf, if_pos (show true = true from rfl), if_neg (show ¬ false = true by decide), if_pos qf]
        exact yes 0
      · rw [decide_eq_false qf, if_neg (show ¬ false = true by decide), if_neg (show ¬ false = true by decide), if_neg qf, if_neg qt]
        exact no _
  · rw [if_neg q10, if_neg q10]
    by_cases q14 : fty T D d = 14
    · obtain ⟨e, y, h3, h4, h5⟩ := (ftg_msg hg hF.1 hF.2.1).2.1 q14
      have hrf : refI D (some e) = nI (cnt (D.take e) 1) := by show nI (cnt (D.take e) (knd D e)) = _; rw [knd_some h4, h5]
      rw [if_pos ⟨q14, hlt⟩, h3, q14, show nI 14 = (14 : Int32) from rfl]
      rw [h3, hrf] at f5
      have key := N_ename_L (U := U) (K := fun w47 w48 => x_X12_parseName_190 U 1101 (nI n) (nI (fx D s f)) (nI (weS S p)) w47 w48 σ) (v1 := nI n) hU4 hs a2.1 hg a1 h4 h5 a4 a5 w1 w2 (show fx D s f < 120 by omega) f5 (cnt D 3) 0 U (-1) 0 (by omega) (by omega)
      rw [Nat.add_zero] at key
      simp only [evS]
      cases hv : vNm T D e (slc S p (weS S p)) with
      | none =>
        rw [key.1 (fun i x hx h3' _ => by
          cases hp : pVn T e (slc S p (weS S p)) x with
          | false => rfl
          | true =>
            have := ff_none _ _ hv x (List.mem_of_getElem? hx)
            rw [hp] at this
            cases this)]
        exact no _
      | some i =>
        rw [key.2 i hv (Nat.zero_le _)]
        exact yes _
    · rw [if_neg (fun z => q14 z.1), skip q14]
      have hnone : numS S (fty T D d) p = none := by
        unfold numS
        have n45 : S[p]? ≠ some 45 := fun z => by unfold bP at hlt; rw [z] at hlt; cases hlt
        have hdg : bP pD S p = false := by
          unfold bP at hlt ⊢
          cases hs : S[p]? with
          | none => rfl
          | some c =>
            rw [hs] at hlt
            have hc : pL c = true := hlt
            show pD c = false
            have hc256 : c < 256 := h8 c (List.mem_of_getElem? hs)
            exact (by decide +kernel : ∀ c, c < 256 → pL c = true → pD c = false) c hc256 hc
        rw [if_neg n45, rn_no hdg, if_pos (Or.inl rfl)]
      rw [hnone]
      exact no _
/-! ===== the reference parses a text, a value ===== -/
def P84 (b k : Nat) : Prop := (b = 1101 ∧ (k = 84 ∨ k = 107 ∨ k = 109)) ∨ b = 1175
/-- the texts so far -/
def TXT (σ : SG) (P : List Nat) : Prop := sI σ 1101 84 = nI P.length ∧ RI σ 1175 P
theorem N_eight {S : List Nat} {σ : SG} {p : Nat} (hL : LR σ S) (hp : p < 2 ^ 31) : x_X12_isEight 1101 (nI p) σ = some (zI (o8 S p)) := by
  unfold x_X12_isEight
  rw [hL.at hp, b1_eq, b1_eq]
  have h8 := hL.2.2.2
  cases ho : o8 S p with
  | true =>
    obtain ⟨o1, o2, o3⟩ := o8_lt ho
    rw [bA_some o2, if_neg (show ¬ nI (byt0 S p + 48) < 48 from fun z => by have := (ltI (b := 48) (by omega) (by decide)).mp z; omega), if_neg (show ¬ (55 : Int32) < nI (byt0 S p + 48) from fun z => by have := (ltI (a := 55) (by decide) (by omega)).mp z; omega)]; try rfl
  | false =>
    rcases o8_no ho with z | ⟨c, z, hc⟩
    · rw [bA_none z, if_pos (by decide)]; try rfl
    · have hc256 : c < 256 := h8 c (List.mem_of_getElem? z)
      rw [bA_some z]
      by_cases q : c < 48
      · rw [if_pos (show nI c < 48 from (ltI (b := 48) (by omega) (by decide)).mpr q)]; try rfl
      · rw [if_neg (show ¬ nI c < 48 from fun z => q ((ltI (b := 48) (by omega) (by decide)).mp z)), if_pos (show (55 : Int32) < nI c from (ltI (a := 55) (by decide) (by omega)).mpr (by omega))]; try rfl
/-- what an escape gives the reference -/
def RXo (σ : SG) (P : List Nat) (o : Option (Nat × Nat)) (x : Option SG) : Prop := ∃ τ, x = some τ ∧ fP P84 σ τ ∧ (o = none → ¬ sI τ 1101 107 = 0) ∧ ∀ b q, o = some (b, q) → sI τ 1101 107 = 0 ∧ sI τ 1101 109 = nI q ∧ TXT τ (P ++ [b])
theorem TXT_app {σ : SG} {P : List Nat} {c : Nat} (h : TXT σ P) : RI (uI σ 1175 P.length (nI c)) 1175 (P ++ [c]) := RI_app h.2 rfl
theorem N_escape {p : Nat} {S P : List Nat} {σ : SG} (hL : LR σ S) (hp : p ≤ S.length) (hP : P.length < 1400) (hT : TXT σ P) (h9 : sI σ 1101 109 = nI p) (h7 : sI σ 1101 107 = 0) : RXo σ P (esS S p) (x_X12_parseEscape 1101 σ) := by
  have h8 := hL.2.2.2
  have hSl := hL.2.2.1
  -- what is added
  have add : ∀ (v m : Int32) (υ : SG), TXT υ P → ∃ τ, x_X12_parseEscape_163 1101 v m υ = some τ ∧ fP P84 υ τ ∧ sI τ 1101 107 = sI υ 1101 107 ∧ sI τ 1101 109 = sI υ 1101 109 + m ∧ ∀ b, v = nI b → TXT τ (P ++ [b]) := by
    intro v m υ hυ
    unfold x_X12_parseEscape_163
    rw [hυ.1, ix_in (by omega) (by decide), sb_eq, sb_eq, sI_o (Or.inl (by decide)), hυ.1, nI_1, sb_eq, sI_o (Or.inr (by decide)), sI_o (Or.inl (by decide))]
    refine ⟨_, rfl, fP_trans (fP_trans (fP_u (by unfold P84; omega)) (fP_u (by unfold P84; omega))) (fP_u (by unfold P84; omega)), ?_, sI_s _ _ _ _, fun b hb => ⟨?_, ?_⟩⟩
    · rw [sI_o (Or.inr (by decide)), sI_o (Or.inr (by decide)), sI_o (Or.inl (by decide))]
    · rw [sI_o (Or.inr (by decide)), sI_s, List.length_append, List.length_singleton]
    · intro i c hi
      rw [sI_o (Or.inl (by decide)), sI_o (Or.inl (by decide)), hb]
      exact TXT_app hυ i c hi
  have bad : ∀ (v m : Int32), v = -1 ∨ 255 < v → ∃ τ, x_X12_parseEscape_146 1101 v m σ = some τ ∧ fP P84 σ τ ∧ ¬ sI τ 1101 107 = 0 := by
    intro v m hv
    have go : ∃ τ, x_X12_parseEscape_158 1101 v m σ = some τ ∧ fP P84 σ τ ∧ ¬ sI τ 1101 107 = 0 := by
      unfold x_X12_parseEscape_158
      rw [sb_eq]
      obtain ⟨τ, t1, t2, t3, _⟩ := add v m (uI σ 1101 107 1) ⟨(sI_o (Or.inr (by decide))).trans hT.1, fun i c hi => (sI_o (Or.inl (by decide))).trans (hT.2 i c hi)⟩
      exact ⟨τ, t1, fP_trans (fP_u (by unfold P84; omega)) t2, by rw [t3, sI_s]; decide⟩
    unfold x_X12_parseEscape_146
    by_cases q : v = -1
    · rw [if_pos q]; exact go
    · rw [if_neg q, if_pos (hv.elim (fun z => absurd z q) id)]; exact go
  have good : ∀ (b m : Nat), b ≤ 255 → m < 10 → ∃ τ, x_X12_parseEscape_146 1101 (nI b) (nI m) σ = some τ ∧ fP P84 σ τ ∧ sI τ 1101 107 = 0 ∧ sI τ 1101 109 = nI (p + m) ∧ TXT τ (P ++ [b]) := by
    intro b m hb hm
    unfold x_X12_parseEscape_146
    have n1 : ¬ nI b = -1 := fun z => nI_neg (by omega : b < 2 ^ 31) (by rw [z]; decide)
    have n2 : ¬ (255 : Int32) < nI b := fun z => by have := (ltI (a := 255) (by decide) (by omega)).mp z; omega
    rw [if_neg n1, if_neg n2]
    obtain ⟨τ, t1, t2, t3, t4, t5⟩ := add (nI b) (nI m) σ hT
    exact ⟨τ, t1, t2, t3.trans h7, by rw [t4, h9, nI_add], t5 b rfl⟩
  unfold x_X12_parseEscape x_X12_parseEscape_60
  rw [h9, hL.at (by omega), b1_eq, show (110 : Int32) = nI 110 from rfl, ifA h8 (by decide), show (114 : Int32) = nI 114 from rfl, ifA h8 (by decide), show (116 : Int32) = nI 116 from rfl, ifA h8 (by decide), show (34 : Int32) = nI 34 from rfl, ifA h8 (by decide), show (92 : Int32) = nI 92 from rfl, ifA h8 (by decide), show (39 : Int32) = nI 39 from rfl, ifA h8 (by decide)]
  -- a letter is no digit
  have lit : ∀ (c y : Nat), S[p]? = some c → (c < 48 ∨ 55 < c) → y ≤ 255 → ∃ τ, x_X12_parseEscape_65 1101 (bA S p) (nI y) σ = some τ ∧ fP P84 σ τ ∧ sI τ 1101 107 = 0 ∧ sI τ 1101 109 = nI (p + 1) ∧ TXT τ (P ++ [y]) := by
    intro c y hc hcr hy
    have ho : o8 S p = false := by
      unfold o8 bP
      rw [hc]
      exact decide_eq_false (by omega)
    unfold x_X12_parseEscape_65
    rw [h9, N_eight hL (by omega), b1_eq, ifz, ho, if_neg (show ¬ false = true by decide)]
    exact good y 1 hy (by decide)
  have fin : ∀ (c y : Nat), S[p]? = some c → (c < 48 ∨ 55 < c) → y ≤ 255 → esS S p = some (y, p + 1) → RXo σ P (esS S p) (x_X12_parseEscape_65 1101 (bA S p) (nI y) σ) := by
    intro c y hc hcr hy he
    obtain ⟨τ, t1, t2, t3, t4, t5⟩ := lit c y hc hcr hy
    rw [he]
    refine ⟨τ, t1, t2, fun z => (by cases z), fun b q z => ?_⟩
    cases z
    exact ⟨t3, t4, t5⟩
  have eA : ∀ c, S[p]? = some c → bA S p = nI c := fun c hc => bA_some hc
  by_cases q0 : S[p]? = some 110
  · rw [if_pos q0]; exact fin 110 10 q0 (by decide) (by decide) (by unfold esS; rw [if_pos q0])
  rw [if_neg q0]
  by_cases q1 : S[p]? = some 114
  · rw [if_pos q1]; exact fin 114 13 q1 (by decide) (by decide) (by unfold esS; rw [q1]; rfl)
  rw [if_neg q1]
  by_cases q2 : S[p]? = some 116
  · rw [if_pos q2]; exact fin 116 9 q2 (by decide) (by decide) (by unfold esS; rw [q2]; rfl)
  rw [if_neg q2]
  by_cases q3 : S[p]? = some 34
  · rw [if_pos q3]
    have := fin 34 34 q3 (by decide) (by decide) (by unfold esS; rw [q3]; rfl)
    rw [← eA 34 q3] at this
    exact this
  rw [if_neg q3]
  by_cases q4 : S[p]? = some 92
  · rw [if_pos q4]
    have := fin 92 92 q4 (by decide) (by decide) (by unfold esS; rw [q4]; rfl)
    rw [← eA 92 q4] at this
    exact this
  rw [if_neg q4]
  by_cases q5 : S[p]? = some 39
  · rw [if_pos q5]
    have := fin 39 39 q5 (by decide) (by decide) (by unfold esS; rw [q5]; rfl)
    rw [← eA 39 q5] at this
    exact this
  rw [if_neg q5]
  have ee : esS S p = if o8 S p && o8 S (p + 1) && o8 S (p + 2) && decide (byt0 S p * 64 + byt0 S (p + 1) * 8 + byt0 S (p + 2) ≤ 255) then some (byt0 S p * 64 + byt0 S (p + 1) * 8 + byt0 S (p + 2), p + 3) else none := by
    unfold esS
    rw [if_neg q0, if_neg q1, if_neg q2, if_neg q3, if_neg q4, if_neg q5]
  rw [ee]
  unfold x_X12_parseEscape_65
  have n1 : nI p + 1 = nI (p + 1) := nI_1 p
  have n2 : nI p + 2 = nI (p + 2) := nI_add p 2
  rw [h9, N_eight hL (by omega), b1_eq, ifz, n1, N_eight hL (by omega), b1_eq, ifz, n2, N_eight hL (by omega), b1_eq, ifz]
  have none' : ∃ τ, x_X12_parseEscape_146 1101 (-1) 1 σ = some τ ∧ fP P84 σ τ ∧ ¬ sI τ 1101 107 = 0 := bad (-1) 1 (Or.inl rfl)
  have rno : RXo σ P none (x_X12_parseEscape_146 1101 (-1) 1 σ) := by
    obtain ⟨τ, t1, t2, t3⟩ := none'
    exact ⟨τ, t1, t2, fun _ => t3, fun b q z => by cases z⟩
  cases o0 : o8 S p with
  | false => rw [if_neg (show ¬ false = true by decide), Bool.false_and, Bool.false_and, Bool.false_and, if_neg (show ¬ false = true by decide)]; exact rno
  | true =>
    rw [if_pos (show true = true from rfl), Bool.true_and]
    cases o1 : o8 S (p + 1) with
    | false => rw [if_neg (show ¬ false = true by decide), Bool.false_and, Bool.false_and, if_neg (show ¬ false = true by decide)]; exact rno
    | true =>
      rw [if_pos (show true = true from rfl), Bool.true_and]
      cases o2 : o8 S (p + 2) with
      | false => rw [if_neg (show ¬ false = true by decide), Bool.false_and, if_neg (show ¬ false = true by decide)]; exact rno
      | true =>
        obtain ⟨x1, x2, x3⟩ := o8_lt o0
        obtain ⟨y1, y2, y3⟩ := o8_lt o1
        obtain ⟨z1, z2, z3⟩ := o8_lt o2
        rw [if_pos (show true = true from rfl), Bool.true_and, hL.at (by omega), b1_eq, hL.at (by omega), b1_eq, bA_some x2, bA_some y2, bA_some z2]
        have ev : ((nI (byt0 S p + 48) - 48) * 64 + (nI (byt0 S (p + 1) + 48) - 48) * 8) + nI (byt0 S (p + 2) + 48) - 48 = nI (byt0 S p * 64 + byt0 S (p + 1) * 8 + byt0 S (p + 2)) := by
          have e48 : ∀ x, nI (x + 48) - 48 = nI x := fun x => (nI_sub (a := x + 48) (b := 48) (by omega)).trans (by rw [Nat.add_sub_cancel])
          have e1 : nI (byt0 S p) * 64 = nI (byt0 S p * 64) := pk_mul _ 64
          have e2 : nI (byt0 S (p + 1)) * 8 = nI (byt0 S (p + 1) * 8) := pk_mul _ 8
          rw [e48, e48, e1, e2, nI_add, nI_add]
          exact (nI_sub (a := byt0 S p * 64 + byt0 S (p + 1) * 8 + (byt0 S (p + 2) + 48)) (b := 48) (by omega)).trans (by congr 1)
        rw [ev]
        by_cases q : byt0 S p * 64 + byt0 S (p + 1) * 8 + byt0 S (p + 2) ≤ 255
        · rw [decide_eq_true q, if_pos (show true = true from rfl)]
          obtain ⟨τ, t1, t2, t3, t4, t5⟩ := good (byt0 S p * 64 + byt0 S (p + 1) * 8 + byt0 S (p + 2)) 3 q (by decide)
          refine ⟨τ, t1, t2, fun z => (by cases z), fun b q z => ?_⟩
          cases z
          exact ⟨t3, t4, t5⟩
        · rw [decide_eq_false q, if_neg (show ¬ false = true by decide)]
          obtain ⟨τ, t1, t2, t3⟩ := bad (nI (byt0 S p * 64 + byt0 S (p + 1) * 8 + byt0 S (p + 2))) 3 (Or.inr ((ltI (a := 255) (by decide) (by omega)).mpr (by omega)))
          exact ⟨τ, t1, t2, fun _ => t3, fun b q z => by cases z⟩
theorem N_tx_L {U qt : Nat} {S : List Nat} (hq : qt < 256) (hq2 : qt ≠ 92) {K : SG → Option SG} {v1 v2 v4 : Int32} : ∀ (j p U1 : Nat) (P : List Nat) (σ : SG), S.length < p + j → j + 1 < U1 → p ≤ S.length → P.length + (S.length - p) < 1400 → LR σ S → TXT σ P → sI σ 1101 109 = nI p → sI σ 1101 107 = 0 → ∃ τ, x_X12_parseText_L25 U 1101 K v1 v2 (nI qt) v4 U1 σ = K τ ∧ fP P84 σ τ ∧ (txS S qt j p = none → ¬ sI τ 1101 107 = 0) ∧ ∀ t q, txS S qt j p = some (t, q) → sI τ 1101 107 = 0 ∧ sI τ 1101 109 = nI (q - 1) ∧ TXT τ (P ++ t) ∧ ok8 t := by
  intro j
  induction j with
  | zero => intro p U1 P σ hj hu hp; omega
  | succ j ih =>
    intro p U1 P σ hj hu hp hl hL hT h9 h7
    obtain ⟨V, rfl⟩ : ∃ V, U1 = V + 1 := ⟨U1 - 1, by omega⟩
    have h8 := hL.2.2.2
    have hSl := hL.2.2.1
    -- once it is wrong the loop ends
    have ends : ∀ (ψ : SG), fP P84 σ ψ → ¬ sI ψ 1101 107 = 0 → ∃ τ, x_X12_parseText_L25 U 1101 K v1 v2 (nI qt) v4 V ψ = K τ ∧ fP P84 σ τ ∧ ¬ sI τ 1101 107 = 0 := by
      intro ψ hf h
      obtain ⟨W, rfl⟩ : ∃ W, V = W + 1 := ⟨V - 1, by omega⟩
      rw [x_X12_parseText_L25, if_neg h]
      exact ⟨ψ, rfl, hf, h⟩
    have wrong : ∀ (x : Option SG) (o : Option (List Nat × Nat)), o = none → (∃ τ, x = some τ ∧ True) → True := fun _ _ _ _ => trivial
    rw [x_X12_parseText_L25, if_pos h7, h9, hL.at (by omega), b1_eq, ifA h8 hq, b1_eq, txS]
    -- a wrong byte
    have bad68 : ∀ (c : Int32), c ≠ 92 → ∃ τ, x_X12_parseText_68 U 1101 (x_X12_parseText_L25 U 1101 K v1 v2 (nI qt) v4 V) K v1 v2 (nI qt) v4 c σ = K τ ∧ fP P84 σ τ ∧ ¬ sI τ 1101 107 = 0 := by
      intro c hc
      unfold x_X12_parseText_68 x_X12_parseText_73 x_X12_parseText_125
      rw [sb_eq, sb_eq, if_neg hc]
      have h107 : ¬ sI (uI (uI σ 1101 107 1) 1101 109 (sI (uI σ 1101 107 1) 1101 109 + 1)) 1101 107 = 0 := by
        rw [sI_o (Or.inr (by decide)), sI_s]
        decide
      rw [if_neg h107]
      exact ends _ (fP_trans (fP_u (by unfold P84; omega)) (fP_u (by unfold P84; omega))) h107
    cases hs : S[p]? with
    | none =>
      rw [if_neg (show ¬ (none : Option Nat) = some qt by intro z; cases z), bA_none hs, if_pos (show (-1 : Int32) < 32 by decide)]
      obtain ⟨τ, t1, t2, t3⟩ := bad68 (-1) (by decide)
      exact ⟨τ, t1, t2, fun _ => t3, fun t q z => by cases z⟩
    | some c =>
      have hpl := (List.getElem?_eq_some_iff.mp hs).1
      have hc : c < 256 := h8 c (List.mem_of_getElem? hs)
      have ecq : some c = some qt ↔ c = qt := ⟨fun z => Option.some.inj z, fun z => by rw [z]⟩
      have e32 : nI c < 32 ↔ c < 32 := ltI (b := 32) (by omega) (by decide)
      have e126 : (126 : Int32) < nI c ↔ 126 < c := ltI (a := 126) (by decide) (by omega)
      have e92 : nI c = 92 ↔ c = 92 := nI_eq (b := 92) (by omega) (by decide)
      rw [ifd ecq, bA_some hs, ifd e32, ifd e126]
      simp only
      by_cases cq : c = qt
      · rw [if_pos cq, if_pos cq]
        refine ⟨σ, rfl, fP_refl _ σ, fun z => (by cases z), fun t q z => ?_⟩
        cases z
        exact ⟨h7, by rw [Nat.add_sub_cancel]; exact h9, by rw [List.append_nil]; exact hT, fun x hx => by cases hx⟩
      rw [if_neg cq, if_neg cq]
      have F1 : fP P84 σ (uI σ 1101 109 (nI (p + 1))) := fP_u (by unfold P84; omega)
      have L1 := LR_P hL F1 (by unfold P84; omega) (fun k => by unfold P84; omega)
      have T1 : TXT (uI σ 1101 109 (nI (p + 1))) P := ⟨(sI_o (Or.inr (by decide))).trans hT.1, fun i x hi => (sI_o (Or.inl (by decide))).trans (hT.2 i x hi)⟩
      have a9 : sI (uI σ 1101 109 (nI (p + 1))) 1101 109 = nI (p + 1) := sI_s _ _ _ _
      have a7 : sI (uI σ 1101 109 (nI (p + 1))) 1101 107 = 0 := (sI_o (Or.inr (by decide))).trans h7
      -- one byte more
      have more : ∀ (b q : Nat) (υ : SG), b < 256 → p < q → q ≤ S.length → fP P84 σ υ → TXT υ (P ++ [b]) → sI υ 1101 109 = nI q → sI υ 1101 107 = 0 → ∃ τ, x_X12_parseText_L25 U 1101 K v1 v2 (nI qt) v4 V υ = K τ ∧ fP P84 σ τ ∧ (txS S qt j q = none → ¬ sI τ 1101 107 = 0) ∧ ∀ t r, txS S qt j q = some (t, r) → sI τ 1101 107 = 0 ∧ sI τ 1101 109 = nI (r - 1) ∧ TXT τ (P ++ b :: t) ∧ ok8 (b :: t) := by
        intro b q υ hb hpq hqS hfυ hTυ h9υ h7υ
        obtain ⟨τ, t1, t2, t3, t4⟩ := ih q V (P ++ [b]) υ (by omega) (by omega) hqS (by rw [List.length_append, List.length_singleton]; omega) (LR_P hL hfυ (by unfold P84; omega) (fun k => by unfold P84; omega)) hTυ h9υ h7υ
        refine ⟨τ, t1, fP_trans hfυ t2, t3, fun t r z => ?_⟩
        obtain ⟨u1, u2, u3, u4⟩ := t4 t r z
        refine ⟨u1, u2, by rw [List.append_assoc] at u3; exact u3, fun x hx => ?_⟩
        rcases List.mem_cons.mp hx with w | w
        · rw [w]; exact hb
        · exact u4 x w
      unfold x_X12_parseText_73 x_X12_parseText_125
      rw [sb_eq, h9, nI_1, ifd e92]
      by_cases c92 : c = 92
      · rw [if_neg (show ¬ c < 32 by omega), if_neg (show ¬ 126 < c by omega), if_pos c92, if_pos c92]
        obtain ⟨τ, e1, e2, e3, e4⟩ := N_escape (p := p + 1) L1 (by omega) (by omega) T1 a9 a7
        rw [e1, b1_eq]
        cases hes : esS S (p + 1) with
        | none =>
          simp only
          obtain ⟨υ, u1, u2, u3⟩ := ends τ (fP_trans F1 e2) (e3 hes)
          exact ⟨υ, u1, u2, fun _ => u3, fun t q z => by cases z⟩
        | some y =>
          obtain ⟨b, q⟩ := y
          obtain ⟨f1, f2, f3⟩ := e4 b q hes
          obtain ⟨l1, l2, l3⟩ := esS_lt hes
          simp only
          obtain ⟨υ, u1, u2, u3, u4⟩ := more b q τ l3 (by omega) l2 (fP_trans F1 e2) f3 f2 f1
          refine ⟨υ, u1, u2, fun z => ?_, fun t r z => ?_⟩
          · exact u3 (by cases h : txS S qt j q with | none => rfl | some y => rw [h] at z; cases z)
          · cases h : txS S qt j q with
            | none => rw [h] at z; cases z
            | some y =>
              rw [h] at z
              cases z
              exact u4 _ _ h
      · rw [if_neg c92, if_neg c92, if_pos a7]
        have n92 : nI c ≠ 92 := fun z => c92 (e92.mp z)
        by_cases c32 : c < 32
        · rw [if_pos c32, if_pos (Or.inl c32)]
          obtain ⟨τ, t1, t2, t3⟩ := bad68 (nI c) n92
          exact ⟨τ, t1, t2, fun _ => t3, fun t q z => by cases z⟩
        rw [if_neg c32]
        by_cases c126 : 126 < c
        · rw [if_pos c126, if_pos (Or.inr c126)]
          obtain ⟨τ, t1, t2, t3⟩ := bad68 (nI c) n92
          exact ⟨τ, t1, t2, fun _ => t3, fun t q z => by cases z⟩
        rw [if_neg c126, if_neg (fun z => z.elim c32 c126), T1.1, ix_in (by omega) (by decide), sb_eq, sb_eq, sI_o (Or.inl (by decide)), T1.1, nI_1]
        obtain ⟨υ, u1, u2, u3, u4⟩ := more c (p + 1) (uI (uI (uI σ 1101 109 (nI (p + 1))) 1175 P.length (nI c)) 1101 84 (nI (P.length + 1))) hc (by omega) (by omega) (fP_trans (fP_trans F1 (fP_u (by unfold P84; omega))) (fP_u (by unfold P84; omega))) ⟨by rw [sI_s, List.length_append, List.length_singleton], fun i x hi => by rw [sI_o (Or.inl (by decide))]; exact TXT_app T1 i x hi⟩ (by rw [sI_o (Or.inr (by decide)), sI_o (Or.inl (by decide))]; exact a9) (by rw [sI_o (Or.inr (by decide)), sI_o (Or.inl (by decide))]; exact a7)
        refine ⟨υ, u1, u2, fun z => ?_, fun t r z => ?_⟩
        · exact u3 (by cases h : txS S qt j (p + 1) with | none => rfl | some y => rw [h] at z; cases z)
        · cases h : txS S qt j (p + 1) with
          | none => rw [h] at z; cases z
          | some y =>
            rw [h] at z
            cases z
            exact u4 _ _ h
/-! ===== the reference parses a value ===== -/
theorem N_text {U s n f lm p b : Nat} {σ : SG} {T S : List Nat} {D : List Dc} {A : AV} {H : Rh} {d : Dc} {tl : Tl} (hU4 : 4000 < U) (hs : s < 2) (hg : GSc T D) (hD : DR σ s T D S lm A H p b) (hb : b < p) (hn : n < aC A) (hF : isF D (aN A n) f d) (h13 : fty T D d ≠ 13) (hnm : nmr (fty T D d) = false) (htl : TLr H tl) (htk : tk D tl n f d = false) (hqt : S[p]? = some 34 ∨ S[p]? = some 39) : OV s T D S lm A H tl n f d σ ((tvS S (fty T D d) p).map (fun y => (0, y.1, y.2))) (x_X12_parseText U 1101 (nI n) (nI (fx D s f)) σ) := by
  have hD' := hD
  obtain ⟨a1, a2, a3, a4, a5, a6, a7, ⟨e1, e2, e3, e4⟩, a9, a10⟩ := hD'
  have hSl := a4.2.2.1
  have h8 := a4.2.2.2
  have hft : fty T D d ≤ 14 := dTy_lt (hg.fld hF.1 hF.2.1).2.2.2.1
  obtain ⟨c, hc, hcq⟩ : ∃ c, S[p]? = some c ∧ (c = 34 ∨ c = 39) := hqt.elim (fun z => ⟨34, z, Or.inl rfl⟩) (fun z => ⟨39, z, Or.inr rfl⟩)
  have hpl := (List.getElem?_eq_some_iff.mp hc).1
  have hTX : TXT σ (zP H) := ⟨a2.2.2.1.1, a2.2.2.1.2.1⟩
  unfold x_X12_parseText
  rw [a5, a4.at (by omega), b1_eq, sb_eq, nI_1, bA_some hc, hTX.1]
  have F1 : fP P84 σ (uI σ 1101 109 (nI (p + 1))) := fP_u (by unfold P84; omega)
  have L1 := LR_P a4 F1 (by unfold P84; omega) (fun k => by unfold P84; omega)
  have T1 : TXT (uI σ 1101 109 (nI (p + 1))) (zP H) := ⟨(sI_o (Or.inr (by decide))).trans hTX.1, fun i x hi => (sI_o (Or.inl (by decide))).trans (hTX.2 i x hi)⟩
  obtain ⟨τ, t1, t2, t3, t4⟩ := N_tx_L (U := U) (qt := c) (S := S) (K := fun σ24 => x_X12_parseText_128 U 1101 (nI n) (nI (fx D s f)) (nI (zP H).length) σ24) (v1 := nI n) (v2 := nI (fx D s f)) (v4 := nI (zP H).length) (by omega) (by omega) 701 (p + 1) U (zP H) (uI σ 1101 109 (nI (p + 1))) (by omega) (by omega) (by omega) (by omega) L1 T1 (sI_s _ _ _ _) ((sI_o (Or.inr (by decide))).trans a6)
  rw [t1]
  have FA := fP_trans F1 t2
  have FD : fP PDn σ τ := fP_mono FA (fun b k z => by unfold P84 at z; unfold PDn; omega)
  have etv : tvS S (fty T D d) p = match txS S c 701 (p + 1) with
    | none => none
    | some (x, q) => if fty T D d = 11 ∧ u8T x 0 x.length = false then none else some (x, q) := by
    unfold tvS
    rw [hc]
    simp only
    rw [if_pos hcq]
    try (cases txS S c 701 (p + 1) <;> rfl)
  rw [etv]
  unfold x_X12_parseText_128
  rw [sb_eq, sI_o (Or.inr (show (107 : Nat) ≠ 109 by decide))]
  cases htx : txS S c 701 (p + 1) with
  | none =>
    rw [if_neg (t3 htx)]
    exact OV_no (fP_trans FD (fP_u (by unfold PDn; omega))) (by rw [sI_o (Or.inr (by decide))]; exact t3 htx)
  | some y =>
    obtain ⟨x, q⟩ := y
    obtain ⟨u1, u2, u3, u4⟩ := t4 x q htx
    have hlt := txS_lt _ _ _ _ htx
    simp only
    rw [if_pos u1, u2, nI_1, show q - 1 + 1 = q by omega]
    -- the state with the text, at its end
    have FP : fP (fun b k => (b = 1101 ∧ (k = 84 ∨ k = 107 ∨ k = 109)) ∨ b = 1175) σ (uI τ 1101 109 (nI q)) := fP_trans FA (fP_u (by omega))
    have g7 : sI (uI τ 1101 109 (nI q)) 1101 107 = 0 := (sI_o (Or.inr (by decide))).trans u1
    have g9 : sI (uI τ 1101 109 (nI q)) 1101 109 = nI q := sI_s _ _ _ _
    have g84 : sI (uI τ 1101 109 (nI q)) 1101 84 = nI (zP H ++ x).length := (sI_o (Or.inr (by decide))).trans u3.1
    have gR : RI (uI τ 1101 109 (nI q)) 1175 (zP H ++ x) := fun i y hi => (sI_o (Or.inl (by decide))).trans (u3.2 i y hi)
    generalize uI τ 1101 109 (nI q) = ψ at *
    have hxl : x.length < q - (p + 1) := by omega
    have hPl : (zP H ++ x).length = (zP H).length + x.length := List.length_append
    let τ0 : SG := (fun b k => if (b = 1101 ∧ k = 84) ∨ b = 1175 then sI ψ b k else sI σ b k, fun b k => if (b = 1101 ∧ k = 84) ∨ b = 1175 then sL ψ b k else sL σ b k, fun b k => if (b = 1101 ∧ k = 84) ∨ b = 1175 then sP ψ b k else sP σ b k)
    have z1 : ∀ b k, (b = 1101 ∧ k = 84) ∨ b = 1175 → sI τ0 b k = sI ψ b k ∧ sL τ0 b k = sL ψ b k := fun b k hb => ⟨if_pos hb, if_pos hb⟩
    have z2 : ∀ b k, ¬ ((b = 1101 ∧ k = 84) ∨ b = 1175) → sI τ0 b k = sI σ b k ∧ sL τ0 b k = sL σ b k ∧ sP τ0 b k = sP σ b k := fun b k hb => ⟨if_neg hb, if_neg hb, if_neg hb⟩
    have V0 : VR τ0 s T D A (zR H, zU H, zP H ++ x, zW H, zD H) := VR_pool a2 ((z1 1101 84 (Or.inl ⟨rfl, rfl⟩)).1.trans g84) (fun i y hi => (z1 1175 i (Or.inr rfl)).1.trans (gR i y hi)) u4 (by omega) z2
    have V2 : VR ψ s T D A (zR H, zU H, zP H ++ x, zW H, zD H) := VR_keep V0 (fun b k hb => by
      by_cases q : (b = 1101 ∧ k = 84) ∨ b = 1175
      · exact ⟨(z1 b k q).1.symm, (z1 b k q).2.symm⟩
      · obtain ⟨y1, y2, _⟩ := z2 b k q
        obtain ⟨y4, y5, _⟩ := FP b k (by omega)
        exact ⟨y4.trans y1.symm, y5.trans y2.symm⟩)
    have S2 : RS ψ s T D := RS_keep a1 (fun b k hb => (FP b k (by unfold PKP at hb; omega)).1)
    have FD2 : fP PDn σ ψ := fP_mono FP (fun b k z => by unfold PDn; omega)
    obtain ⟨f1, _, _, f4', _⟩ := S2.f hF.1 hF.2.1
    have e11 : nI (fty T D d) = 11 ↔ fty T D d = 11 := nI_eq (b := 11) (by omega) (by decide)
    unfold x_X12_putText
    rw [ix_in (by omega) (by decide), f4', ifd e11, g84, nI_sub (by omega)]
    have hRl : (zR H).length < 700 := by omega
    have hcut : slc (zP H ++ x) (zP H).length (zP H ++ x).length = x := by
      unfold slc
      rw [List.drop_left, hPl, List.take_of_length_le (by omega)]
    -- the row is put
    have put : ∀ (ω : SG), fP (fun b k => b = 1101 ∧ k = 107) ψ ω → ∃ ρ H', x_X12_putText_34 U 1101 (nI n) (nI (fx D s f)) (nI (zP H).length) (nI ((zP H ++ x).length - (zP H).length)) ω = some ρ ∧ fP PDn σ ρ ∧ sI ρ 1101 107 = sI ω 1101 107 ∧ (sI ω 1101 107 = 0 → DR ρ s T D S lm (aPut T D A n f d 0 x) H' q q) ∧ zX A H (aPut T D A n f d 0 x) H' ∧ TLr H' ((n, f) :: tl) := by
      intro ω fω
      have V3 : VR ω s T D A (zR H, zU H, zP H ++ x, zW H, zD H) := VR_keep V2 (fun b k hb => ⟨(fω b k (by omega)).1, (fω b k (by omega)).2.1⟩)
      have S3 : RS ω s T D := RS_keep S2 (fun b k hb => (fω b k (by unfold PKP at hb; omega)).1)
      obtain ⟨ρ, H', r1, r2, r3, r4, r5, r6, r7, r8, r9⟩ := V_txt (U := U) (a := (zP H).length) hU4 hs hg S3 V3 hn hF h13 hnm hRl (by show (zP H).length ≤ (zP H ++ x).length; omega)
      have r2' : VR ρ s T D (aPut T D A n f d 0 x) H' := by
        have := r2
        rw [show slc (zP (zR H, zU H, zP H ++ x, zW H, zD H)) (zP H).length (zP (zR H, zU H, zP H ++ x, zW H, zD H)).length = x from hcut] at this
        exact this
      have r9' : DPk T D lm (aPut T D A n f d 0 x) H' := by
        have := (r9 lm a3).1
        rw [show slc (zP (zR H, zU H, zP H ++ x, zW H, zD H)) (zP H).length (zP (zR H, zU H, zP H ++ x, zW H, zD H)).length = x from hcut] at this
        exact this
      have fρ : fP PDn σ ρ := fP_trans (fP_trans FD2 (fP_mono fω (fun b k z => Or.inl ⟨z.1, by omega⟩))) (PDn_V r3)
      have htl2 : TLr (zR H, zU H, zP H ++ x, zW H, zD H) tl := htl
      refine ⟨ρ, H', r1, fρ, r4, fun h0 => ?_, ⟨Nat.le_refl _, fun m' _ => ⟨rfl, by rw [r8]; rfl⟩⟩, TLr_put (H := (zR H, zU H, zP H ++ x, zW H, zD H)) hU4 hs hg S3 V3 hn hF.1 hF.2.1 hRl r2' htl2 htk (inv_txt r1)⟩
      have k1 : ∀ b k, ¬ (b = 1101 ∧ (k = 81 ∨ k = 82 ∨ k = 83 ∨ k = 84 ∨ k = 107)) → ¬ (1160 ≤ b ∧ b ≤ 1175) → sI ρ b k = sI ψ b k := fun b k y1 y2 => ((r3 b k (by unfold PV; omega)).1).trans ((fω b k (by omega)).1)
      have k2 : ∀ b k, ¬ (b = 1101 ∧ (k = 81 ∨ k = 82 ∨ k = 83 ∨ k = 84 ∨ k = 107 ∨ k = 108 ∨ k = 109)) → ¬ (1160 ≤ b ∧ b ≤ 1175) → sI ρ b k = sI σ b k := fun b k y1 y2 => (fρ b k (by unfold PDn; omega)).1
      refine ⟨RS_PV S3 r3, r2', r9', ⟨(k2 1101 73 (by omega) (by omega)).trans a4.1, fun i c hi => (k2 1102 i (by omega) (by omega)).trans (a4.2.1 i c hi), a4.2.2⟩, (k1 1101 109 (by omega) (by omega)).trans g9, r4.trans h0, (k2 1101 85 (by omega) (by omega)).trans a7, ⟨?_, ?_, ?_, ?_, ?_⟩, Nat.le_refl _, by omega⟩
      · rw [r5]; show (zR H).length + 1 ≤ q; omega
      · rw [r6]; show 2 * (zU H).length ≤ q; omega
      · rw [r7]; show (zP H ++ x).length ≤ q; omega
      · show 2 * aC A ≤ q + 2; omega
      · rw [(r9 lm a3).2, r7]; show zT H + ((zP H ++ x).length - (zP H).length) ≤ (zP H ++ x).length; omega
    have good : OV s T D S lm A H tl n f d σ (some (0, x, q)) (b1 (x_X12_putText_34 U 1101 (nI n) (nI (fx D s f)) (nI (zP H).length) (nI ((zP H ++ x).length - (zP H).length)) ψ) fun σ48 => some σ48) := by
      obtain ⟨ρ, H', r1, r2, r3, r4, r5, r6⟩ := put ψ (fP_refl _ _)
      rw [r1, b1_eq]
      refine ⟨ρ, rfl, r2, fun z => (by cases z), fun v' x' q' z => ?_⟩
      cases z
      exact ⟨H', r4 g7, r5, r6⟩
    by_cases q11 : fty T D d = 11
    · have hu := N_isUtf8 (U := U) (f := (zP H).length) (q := (zP H ++ x).length) hU4 V2.2.2.1.2.1 V2.2.2.1.2.2.1 V2.2.2.1.2.2.2 (by omega) (Nat.le_refl _)
      have hu2 : u8T (zP H ++ x) (zP H).length (zP H ++ x).length = u8T x 0 x.length := by rw [hPl]; exact u8_pre
      have hu' : x_X12_isUtf8 U 1101 (nI (zP H).length) (nI ((zP H ++ x).length - (zP H).length)) ψ = some (zI (u8T x 0 x.length)) := by rw [← hu2]; exact hu
      rw [if_pos q11, hu', b1_eq, ifz]
      cases hu8 : u8T x 0 x.length with
      | true =>
        rw [if_pos (show true = true from rfl), if_neg (show ¬ (fty T D d = 11 ∧ true = false) from fun z => by cases z.2)]
        exact good
      | false =>
        rw [if_neg (show ¬ false = true by decide), if_pos (show fty T D d = 11 ∧ false = false from ⟨q11, rfl⟩), sb_eq]
        obtain ⟨ρ, H', r1, r2, r3, r4, r5, r6⟩ := put (uI ψ 1101 107 1) (fP_u ⟨rfl, rfl⟩)
        rw [r1, b1_eq]
        exact OV_no r2 (by rw [r3, sI_s]; decide)
    · rw [if_neg q11, if_neg (show ¬ (fty T D d = 11 ∧ u8T x 0 x.length = false) from fun z => q11 z.1)]
      exact good
theorem pL_quote : ∀ c, c < 256 → pL c = true → c ≠ 34 ∧ c ≠ 39 := by decide +kernel
theorem bvS_let {S : List Nat} {p : Nat} (h : bP pL S p = false) : bvS S p = none := by
  unfold bvS
  cases hf : fi (slc S p (weS S p)) [[102, 97, 108, 115, 101], [116, 114, 117, 101]] 0 with
  | none => rfl
  | some i =>
    exfalso
    have hm := fi_some _ _ hf
    have h0 : ∃ c, (slc S p (weS S p))[0]? = some c ∧ pL c = true := by
      rcases List.mem_cons.mp hm with z | z
      · rw [z]; exact ⟨102, rfl, rfl⟩
      · rcases List.mem_cons.mp z with z | z
        · rw [z]; exact ⟨116, rfl, rfl⟩
        · cases z
    obtain ⟨c, hc, hl⟩ := h0
    unfold slc at hc
    have h1 : 0 < weS S p - p := by
      rcases Nat.eq_zero_or_pos (weS S p - p) with z | z
      · rw [z] at hc; cases hc
      · exact z
    rw [List.getElem?_take_of_lt h1, List.getElem?_drop, Nat.add_zero] at hc
    unfold bP at h
    rw [hc] at h
    have h' : pL c = false := h
    rw [hl] at h'
    cases h'
theorem N_plain {U s n f lm p b : Nat} {σ : SG} {T S : List Nat} {D : List Dc} {A : AV} {H : Rh} {d : Dc} {tl : Tl} (hU4 : 4000 < U) (hs : s < 2) (hg : GSc T D) (hD : DR σ s T D S lm A H p b) (hb : b < p) (hn : n < aC A) (hF : isF D (aN A n) f d) (h13 : fty T D d ≠ 13) (htl : TLr H tl) (htk : tk D tl n f d = false) : OV s T D S lm A H tl n f d σ (pVal T D S d p) (x_X12_parsePlain U 1101 (nI n) (nI (fx D s f)) σ) := by
  have hD' := hD
  obtain ⟨a1, a2, a3, a4, a5, a6, a7, a8, a9, a10⟩ := hD'
  have hSl := a4.2.2.1
  have h8 := a4.2.2.2
  have hft : fty T D d ≤ 14 := dTy_lt (hg.fld hF.1 hF.2.1).2.2.2.1
  obtain ⟨f1, _, _, f4, _⟩ := a1.f hF.1 hF.2.1
  have e11 : nI (fty T D d) = 11 ↔ fty T D d = 11 := nI_eq (b := 11) (by omega) (by decide)
  have e12 : nI (fty T D d) = 12 ↔ fty T D d = 12 := nI_eq (b := 12) (by omega) (by decide)
  have wrong : OV s T D S lm A H tl n f d σ none (sb (uI σ 1101 107 1) fun σ20 => some σ20) := by
    rw [sb_eq]
    exact OV_no (fP_u (by unfold PDn; omega)) (by rw [sI_s]; decide)
  unfold x_X12_parsePlain x_X12_parsePlain_31 x_X12_parsePlain_36 x_X12_parsePlain_52 x_X12_parsePlain_57
  rw [a5, a4.at (by omega), b1_eq, ix_in (by omega) (by decide), f4, ifd e11, ix_in (by omega) (by decide), f4, ifd e12, show (34 : Int32) = nI 34 from rfl, show (39 : Int32) = nI 39 from rfl]
  simp only [ifA h8 (show 34 < 256 by decide), ifA h8 (show 39 < 256 by decide)]
  unfold pVal
  cases hnm : nmr (fty T D d) with
  | false =>
    have h12 : fty T D d = 11 ∨ fty T D d = 12 := by
      unfold nmr at hnm
      have := of_decide_eq_false hnm
      omega
    rw [if_neg (show ¬ false = true by decide)]
    have go : OV s T D S lm A H tl n f d σ ((tvS S (fty T D d) p).map (fun y => (0, y.1, y.2))) (if S[p]? = some 34 then (if (1 : Int32) = 1 then (if (1 : Int32) = 0 then (b1 (x_X12_isLetter (bA S p) σ) fun v12 => if v12 = 0 then (b1 (x_X12_parseNumber U 1101 (nI n) (nI (fx D s f)) σ) fun σ15 => some σ15) else (b1 (x_X12_parseName U 1101 (nI n) (nI (fx D s f)) σ) fun σ17 => some σ17)) else (b1 (x_X12_parseText U 1101 (nI n) (nI (fx D s f)) σ) fun σ19 => some σ19)) else (sb (uI σ 1101 107 1) fun σ20 => some σ20)) else if S[p]? = some 39 then (if (1 : Int32) = 1 then (if (1 : Int32) = 0 then (b1 (x_X12_isLetter (bA S p) σ) fun v12 => if v12 = 0 then (b1 (x_X12_parseNumber U 1101 (nI n) (nI (fx D s f)) σ) fun σ15 => some σ15) else (b1 (x_X12_parseName U 1101 (nI n) (nI (fx D s f)) σ) fun σ17 => some σ17)) else (b1 (x_X12_parseText U 1101 (nI n) (nI (fx D s f)) σ) fun σ19 => some σ19)) else (sb (uI σ 1101 107 1) fun σ20 => some σ20)) else (if (1 : Int32) = 0 then (if (1 : Int32) = 0 then (b1 (x_X12_isLetter (bA S p) σ) fun v12 => if v12 = 0 then (b1 (x_X12_parseNumber U 1101 (nI n) (nI (fx D s f)) σ) fun σ15 => some σ15) else (b1 (x_X12_parseName U 1101 (nI n) (nI (fx D s f)) σ) fun σ17 => some σ17)) else (b1 (x_X12_parseText U 1101 (nI n) (nI (fx D s f)) σ) fun σ19 => some σ19)) else (sb (uI σ 1101 107 1) fun σ20 => some σ20))) := by
      rw [if_pos (show (1 : Int32) = 1 from rfl), if_neg (show ¬ (1 : Int32) = 0 by decide), if_neg (show ¬ (1 : Int32) = 0 by decide), b1_id]
      by_cases q1 : S[p]? = some 34
      · rw [if_pos q1]; exact N_text hU4 hs hg hD hb hn hF h13 hnm htl htk (Or.inl q1)
      rw [if_neg q1]
      by_cases q2 : S[p]? = some 39
      · rw [if_pos q2]; exact N_text hU4 hs hg hD hb hn hF h13 hnm htl htk (Or.inr q2)
      rw [if_neg q2]
      have : tvS S (fty T D d) p = none := by
        unfold tvS
        cases hs : S[p]? with
        | none => rfl
        | some c =>
          simp only
          rw [if_neg]
          rintro (z | z)
          · exact q1 (by rw [hs, z])
          · exact q2 (by rw [hs, z])
      rw [this]
      exact wrong
    rcases h12 with z | z
    · rw [if_pos z]; exact go
    · rw [if_neg (by omega), if_pos z]; exact go
  | true =>
    have n11 : fty T D d ≠ 11 := fun z => by rw [z] at hnm; cases hnm
    have n12 : fty T D d ≠ 12 := fun z => by rw [z] at hnm; cases hnm
    rw [if_neg n11, if_neg n12, if_pos (show true = true from rfl), if_neg (show ¬ (0 : Int32) = 1 by decide), if_pos trivial, if_pos trivial, V_isLetter h8, b1_eq, ifz, b1_id, b1_id]
    have nolet : bP pL S p = false → (nvS T D S d p).map (fun y => (y.1, ([] : List Nat), y.2)) = if fty T D d = 10 then none else (numS S (fty T D d) p).map (fun y => (y.1, [], y.2)) := by
      intro hlt
      unfold nvS
      by_cases q10 : fty T D d = 10
      · rw [if_pos q10, if_pos q10, bvS_let hlt]; try rfl
      · rw [if_neg q10, if_neg q10, if_neg (fun z => by rw [hlt] at z; cases z.2)]
    have quote : (S[p]? = some 34 ∨ S[p]? = some 39) → (nvS T D S d p).map (fun y => (y.1, ([] : List Nat), y.2)) = none := by
      intro hq
      obtain ⟨c, hc, hcq⟩ : ∃ c, S[p]? = some c ∧ (c = 34 ∨ c = 39) := hq.elim (fun z => ⟨34, z, Or.inl rfl⟩) (fun z => ⟨39, z, Or.inr rfl⟩)
      have hlt : bP pL S p = false := by unfold bP; rw [hc]; rcases hcq with z | z <;> rw [z] <;> rfl
      rw [nolet hlt]
      have : numS S (fty T D d) p = none := by
        unfold numS
        have n45 : S[p]? ≠ some 45 := fun z => by rw [hc] at z; have := Option.some.inj z; omega
        have hdg : bP pD S p = false := by unfold bP; rw [hc]; rcases hcq with z | z <;> rw [z] <;> rfl
        rw [if_neg n45, rn_no hdg, if_pos (Or.inl rfl)]
      rw [this]
      show (if fty T D d = 10 then none else none) = none
      rw [ite_self]
    by_cases q1 : S[p]? = some 34
    · rw [if_pos q1, quote (Or.inl q1)]; exact wrong
    rw [if_neg q1]
    by_cases q2 : S[p]? = some 39
    · rw [if_pos q2, quote (Or.inr q2)]; exact wrong
    rw [if_neg q2]
    cases hlt : bP pL S p with
    | true => rw [if_pos (show true = true from rfl)]; exact N_name hU4 hs hg hD hb hn hF hnm htl htk hlt
    | false =>
      rw [if_neg (show ¬ false = true by decide), nolet hlt]
      exact N_number hU4 hs hg hD hb hn hF hnm htl htk
