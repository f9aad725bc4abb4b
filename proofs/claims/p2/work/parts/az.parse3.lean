/-! ===== parse: numbers ===== -/
/-- an unsigned number of 64 bits, read from its digits -/
def nmF : List Nat → Nat → Option Nat
  | [], a => some a
  | c :: L, a => if 1844674407370955161 < a ∨ (a = 1844674407370955161 ∧ 5 < c - 48) then none else nmF L (a * 10 + (c - 48))
theorem nmF_lt : ∀ (L : List Nat) (a x : Nat), (∀ c ∈ L, c - 48 ≤ 9) → a < 2 ^ 64 → nmF L a = some x → x < 2 ^ 64 := by
  intro L
  induction L with
  | nil => intro a x _ ha h; cases h; exact ha
  | cons c L ih =>
    intro a x hL ha h
    rw [nmF] at h
    by_cases q : 1844674407370955161 < a ∨ (a = 1844674407370955161 ∧ 5 < c - 48)
    · rw [if_pos q] at h; cases h
    · rw [if_neg q] at h
      have := hL c (List.mem_cons_self ..)
      exact ih _ x (fun y hy => hL y (List.mem_cons_of_mem _ hy)) (by omega) h
/-- the largest size that a type takes -/
def mxO (t : Nat) (neg : Bool) : Nat := if t = 1 ∨ t = 5 ∨ t = 9 then (if neg then 2 ^ 63 else 2 ^ 63 - 1) else if t = 2 ∨ t = 6 then (if neg then 0 else 2 ^ 32 - 1) else if t = 3 ∨ t = 7 then (if neg then 0 else 2 ^ 64 - 1) else (if neg then 2 ^ 31 else 2 ^ 31 - 1)
theorem pD_le {c : Nat} (h : pD c = true) : 48 ≤ c ∧ c ≤ 57 := by
  unfold pD at h
  rw [Bool.and_eq_true] at h
  exact ⟨of_decide_eq_true h.1, of_decide_eq_true h.2⟩
theorem rl_mem {f : Nat → Bool} {S : List Nat} {p c : Nat} (h : c ∈ rl f S p) : f c = true := by
  unfold rl at h
  have : ∀ (L : List Nat), ∀ c ∈ L.takeWhile f, f c = true := by
    intro L
    induction L with
    | nil => intro c hc; cases hc
    | cons a L ih =>
      intro c hc
      rw [List.takeWhile_cons] at hc
      by_cases q : f a = true
      · rw [if_pos q] at hc
        rcases List.mem_cons.mp hc with z | z
        · rw [z]; exact q
        · exact ih c z
      · rw [if_neg q] at hc; cases hc
  exact this _ c h
def numS (S : List Nat) (t p : Nat) : Option (Int64 × Nat) :=
  if rn pD S (if S[p]? = some 45 then p + 1 else p) = 0 ∨ bP pW S ((if S[p]? = some 45 then p + 1 else p) + rn pD S (if S[p]? = some 45 then p + 1 else p)) = true then none else match nmF (rl pD S (if S[p]? = some 45 then p + 1 else p)) 0 with
  | none => none
  | some x => if x ≤ mxO t (decide (S[p]? = some 45)) then some (if S[p]? = some 45 then -(lN x) else lN x, (if S[p]? = some 45 then p + 1 else p) + rn pD S (if S[p]? = some 45 then p + 1 else p)) else none
theorem lN_neg {x : Nat} (h : x < 2 ^ 64) : lN x < 0 ↔ 2 ^ 63 ≤ x := by
  rw [Int64.lt_iff_toInt_lt]
  have e : (lN x).toInt = Int.bmod x (2 ^ 64) := by
    show (lN x).toBitVec.toInt = _
    rw [lN_bv, BitVec.toInt_ofNat']
  have e0 : (0 : Int64).toInt = 0 := by decide
  rw [e, e0]
  by_cases q : x < 2 ^ 63
  · rw [Int.bmod_eq_of_le (by omega) (by omega)]; omega
  · have : Int.bmod (x : Int) (2 ^ 64) = (x : Int) - 2 ^ 64 := by
      unfold Int.bmod
      simp only
      rw [Int.emod_eq_of_lt (by omega) (by omega)]
      split <;> omega
    rw [this]; omega
theorem lN_ltN {x y : Nat} (hx : x < 2 ^ 63) (hy : y < 2 ^ 63) : lN x < lN y ↔ x < y := by
  rw [Int64.lt_iff_toInt_lt]
  have e : ∀ z : Nat, z < 2 ^ 63 → (lN z).toInt = (z : Int) := fun z hz => by
    show (lN z).toBitVec.toInt = _
    rw [lN_bv, BitVec.toInt_ofNat', Int.bmod_eq_of_le (by omega) (by omega)]
  rw [e x hx, e y hy]
  omega
theorem lN_inj {x y : Nat} (hx : x < 2 ^ 64) (hy : y < 2 ^ 64) : lN x = lN y ↔ x = y := by
  constructor
  · intro z
    have : uN (lN x) = uN (lN y) := by rw [z]
    rw [uN_lN hx, uN_lN hy] at this
    exact this
  · intro z; rw [z]
theorem inR_11 {t : Nat} (ht : t ≤ 14) {v1 s0 : Int32} {v2 : Int64} {σ : SG} : x_X7_isInRange_11 (nI t) v1 v2 s0 σ = if t = 1 ∨ t = 5 ∨ t = 9 then (if s0 = 0 then (if v1 = 0 then (some 0) else (if v2 = (-9223372036854775808) then (some 1) else (some 0))) else (some 1)) else if t = 2 ∨ t = 6 then (if s0 = 0 then (some 0) else (if v1 = 0 then (x_X7_isInRange_97 4294967295 v2 σ) else (x_X7_isInRange_97 0 v2 σ))) else if t = 3 ∨ t = 7 then (if v1 = 0 then (some 1) else (if v2 = 0 then (some 1) else (some 0))) else (if s0 = 0 then (some 0) else (if v1 = 0 then (x_X7_isInRange_149 2147483647 v2 σ) else (x_X7_isInRange_149 2147483648 v2 σ))) := by
  have e1 : nI t = 1 ↔ t = 1 := nI_eq (b := 1) (by omega) (by decide)
  have e2 : nI t = 2 ↔ t = 2 := nI_eq (b := 2) (by omega) (by decide)
  have e3 : nI t = 3 ↔ t = 3 := nI_eq (b := 3) (by omega) (by decide)
  have e4 : nI t = 4 ↔ t = 4 := nI_eq (b := 4) (by omega) (by decide)
  have e5 : nI t = 5 ↔ t = 5 := nI_eq (b := 5) (by omega) (by decide)
  have e6 : nI t = 6 ↔ t = 6 := nI_eq (b := 6) (by omega) (by decide)
  have e7 : nI t = 7 ↔ t = 7 := nI_eq (b := 7) (by omega) (by decide)
  have e8 : nI t = 8 ↔ t = 8 := nI_eq (b := 8) (by omega) (by decide)
  have e9 : nI t = 9 ↔ t = 9 := nI_eq (b := 9) (by omega) (by decide)
  unfold x_X7_isInRange_11
  rw [ifd e1, ifd e2, ifd e3, ifd e4, ifd e5, ifd e6, ifd e7, ifd e8, ifd e9]
  by_cases q1 : t = 1
  · rw [if_pos q1, if_pos (show t = 1 ∨ t = 5 ∨ t = 9 by omega)]
  rw [if_neg q1]
  by_cases q2 : t = 2
  · rw [if_pos q2, if_neg (show ¬ (t = 1 ∨ t = 5 ∨ t = 9) by omega), if_pos (show t = 2 ∨ t = 6 by omega)]
  rw [if_neg q2]
  by_cases q3 : t = 3
  · rw [if_pos q3, if_neg (show ¬ (t = 1 ∨ t = 5 ∨ t = 9) by omega), if_neg (show ¬ (t = 2 ∨ t = 6) by omega), if_pos (show t = 3 ∨ t = 7 by omega)]
  rw [if_neg q3]
  by_cases q4 : t = 4
  · rw [if_pos q4, if_neg (show ¬ (t = 1 ∨ t = 5 ∨ t = 9) by omega), if_neg (show ¬ (t = 2 ∨ t = 6) by omega), if_neg (show ¬ (t = 3 ∨ t = 7) by omega)]
  rw [if_neg q4]
  by_cases q5 : t = 5
  · rw [if_pos q5, if_pos (show t = 1 ∨ t = 5 ∨ t = 9 by omega)]
  rw [if_neg q5]
  by_cases q6 : t = 6
  · rw [if_pos q6, if_neg (show ¬ (t = 1 ∨ t = 5 ∨ t = 9) by omega), if_pos (show t = 2 ∨ t = 6 by omega)]
  rw [if_neg q6]
  by_cases q7 : t = 7
  · rw [if_pos q7, if_neg (show ¬ (t = 1 ∨ t = 5 ∨ t = 9) by omega), if_neg (show ¬ (t = 2 ∨ t = 6) by omega), if_pos (show t = 3 ∨ t = 7 by omega)]
  rw [if_neg q7]
  by_cases q8 : t = 8
  · rw [if_pos q8, if_neg (show ¬ (t = 1 ∨ t = 5 ∨ t = 9) by omega), if_neg (show ¬ (t = 2 ∨ t = 6) by omega), if_neg (show ¬ (t = 3 ∨ t = 7) by omega)]
  rw [if_neg q8]
  by_cases q9 : t = 9
  · rw [if_pos q9, if_pos (show t = 1 ∨ t = 5 ∨ t = 9 by omega)]
  rw [if_neg q9]
  rw [if_neg (show ¬ (t = 1 ∨ t = 5 ∨ t = 9) by omega), if_neg (show ¬ (t = 2 ∨ t = 6) by omega), if_neg (show ¬ (t = 3 ∨ t = 7) by omega)]
theorem C_inR {t x : Nat} (ht : t ≤ 14) (hx : x < 2 ^ 64) (neg : Bool) (σ : SG) : x_X7_isInRange (nI t) (zI neg) (lN x) σ = some (zI (decide (x ≤ mxO t neg))) := by
  unfold x_X7_isInRange
  rw [ifd (lN_neg hx), inR_11 ht, inR_11 ht]
  unfold mxO x_X7_isInRange_97 x_X7_isInRange_149
  have hm63 : lN x = -9223372036854775808 ↔ x = 2 ^ 63 := by
    have : (-9223372036854775808 : Int64) = lN (2 ^ 63) := by decide
    rw [this]
    exact lN_inj hx (by decide)
  rw [ifz, ifz, ifz, ifz, ifd hm63, ifd (lN_zero hx)]
  have e0 : ∀ (A B : Option Int32), (if (0 : Int32) = 0 then A else B) = A := fun A B => if_pos rfl
  have e1 : ∀ (A B : Option Int32), (if (1 : Int32) = 0 then A else B) = B := fun A B => if_neg (by decide)
  simp only [e0, e1]
  have lt : ∀ k : Nat, k < 2 ^ 63 → x < 2 ^ 63 → ((if lN k < lN x then some (0 : Int32) else some 1) = some (zI (decide (x ≤ k)))) := by
    intro k hk hx3
    rw [ifd (lN_ltN hk hx3)]
    by_cases q : k < x
    · rw [if_pos q, decide_eq_false (by omega)]; rfl
    · rw [if_neg q, decide_eq_true (by omega)]; rfl
  have big : ∀ k : Nat, k < 2 ^ 63 → 2 ^ 63 ≤ x → some (0 : Int32) = some (zI (decide (x ≤ k))) := fun k hk h => by rw [decide_eq_false (by omega)]; rfl
  have l1 : (4294967295 : Int64) = lN (2 ^ 32 - 1) := by decide
  have l2 : (0 : Int64) = lN 0 := by decide
  have l3 : (2147483647 : Int64) = lN (2 ^ 31 - 1) := by decide
  have l4 : (2147483648 : Int64) = lN (2 ^ 31) := by decide
  rw [l1, l3, l4]
  by_cases g1 : t = 1 ∨ t = 5 ∨ t = 9
  · simp only [if_pos g1]
    by_cases h : 2 ^ 63 ≤ x
    · rw [if_pos h]
      cases neg with
      | false => rw [if_neg (show ¬ false = true by decide), if_neg (show ¬ false = true by decide), decide_eq_false (by omega)]; rfl
      | true =>
        rw [if_pos (show true = true from rfl), if_pos (show true = true from rfl)]
        by_cases q : x = 2 ^ 63
        · rw [if_pos q, decide_eq_true (by omega)]; rfl
        · rw [if_neg q, decide_eq_false (by omega)]; rfl
    · rw [if_neg h, decide_eq_true (by cases neg <;> simp <;> omega)]; rfl
  simp only [if_neg g1]
  by_cases g2 : t = 2 ∨ t = 6
  · simp only [if_pos g2]
    by_cases h : 2 ^ 63 ≤ x
    · rw [if_pos h]
      cases neg with
      | false => exact big _ (by decide) h
      | true => exact big _ (by decide) h
    · rw [if_neg h]
      cases neg with
      | false => exact lt _ (by decide) (by omega)
      | true => exact lt 0 (by decide) (by omega)
  simp only [if_neg g2]
  by_cases g3 : t = 3 ∨ t = 7
  · simp only [if_pos g3, ite_self]
    cases neg with
    | false => rw [if_neg (show ¬ false = true by decide), if_neg (show ¬ false = true by decide), decide_eq_true (by omega)]; rfl
    | true =>
      rw [if_pos (show true = true from rfl), if_pos (show true = true from rfl)]
      by_cases q : x = 0
      · rw [if_pos q, decide_eq_true (by omega)]; rfl
      · rw [if_neg q, decide_eq_false (by omega)]; rfl
  simp only [if_neg g3]
  by_cases h : 2 ^ 63 ≤ x
  · rw [if_pos h]
    cases neg with
    | false => exact big _ (by decide) h
    | true => exact big _ (by decide) h
  · rw [if_neg h]
    cases neg with
    | false => exact lt _ (by decide) (by omega)
    | true => exact lt _ (by decide) (by omega)
theorem lN_step {a d : Nat} : lN a * 10 + Int32.toInt64 (nI d) = lN (a * 10 + d) ∨ 2 ^ 31 ≤ d := by
  by_cases q : d < 2 ^ 31
  · left
    rw [nI_l q]
    apply Int64.toBitVec_inj.mp
    rw [Int64.toBitVec_add, Int64.toBitVec_mul, lN_bv, lN_bv, lN_bv, show Int64.toBitVec 10 = BitVec.ofNat 64 10 from rfl]
    apply BitVec.eq_of_toNat_eq
    rw [BitVec.toNat_add, BitVec.toNat_mul, BitVec.toNat_ofNat, BitVec.toNat_ofNat, BitVec.toNat_ofNat, BitVec.toNat_ofNat]
    omega
  · right; omega
/-- whether one more digit is too much -/
theorem big_iff {a : Nat} (ha : a < 2 ^ 64) : (lN a < 0 ∨ 1844674407370955161 < lN a) ↔ 1844674407370955161 < a := by
  rw [lN_neg ha]
  have l : (1844674407370955161 : Int64) = lN 1844674407370955161 := by decide
  by_cases q : a < 2 ^ 63
  · rw [l, lN_ltN (by decide) q]; omega
  · constructor
    · intro _; omega
    · intro _; exact Or.inl (by omega)
theorem C_dig_L {U : Nat} {S : List Nat} {K : Int64 → SG → Option (Int32 × SG)} {v1 v2 v3 : Int32} (hSl : S.length ≤ 700) : ∀ (j p a U1 : Nat) (σ : SG), p + j = S.length → j < U1 → a < 2 ^ 64 → RB σ 1 S 0 → sI σ 1095 4 = nI p → ∃ τ, fT σ τ ∧ (nmF (rl pD S p) a = none → x_X7_readNumber_L44 U 1095 K v1 v2 v3 U1 (lN a) σ = some (0, τ)) ∧ ∀ x, nmF (rl pD S p) a = some x → x_X7_readNumber_L44 U 1095 K v1 v2 v3 U1 (lN a) σ = K (lN x) τ ∧ sI τ 1095 4 = nI (p + rn pD S p) := by
  intro j
  induction j with
  | zero =>
    intro p a U1 σ hj hu ha hR h4
    obtain ⟨V, rfl⟩ : ∃ V, U1 = V + 1 := ⟨U1 - 1, by omega⟩
    have h0 : S[p]? = none := List.getElem?_eq_none (by omega)
    have hb : bP pD S p = false := by unfold bP; rw [h0]
    rw [rl_no hb, rn_no hb, nmF]
    refine ⟨σ, fT_refl σ, fun z => (by cases z), fun x z => ?_⟩
    cases z
    rw [x_X7_readNumber_L44, X0_size hR, b1_eq, h4, if_neg (fun z => by have := (ltI (by omega) (by omega)).mp z; omega)]
    exact ⟨rfl, rfl⟩
  | succ j ih =>
    intro p a U1 σ hj hu ha hR h4
    obtain ⟨V, rfl⟩ : ∃ V, U1 = V + 1 := ⟨U1 - 1, by omega⟩
    have hpl : p < S.length := by omega
    have hS := List.getElem?_eq_getElem hpl
    have hc : S[p] < 256 := hR.2.2.2.2 _ (List.getElem_mem hpl)
    have hA : bA S p = nI S[p] := by unfold bA; rw [hS]
    have e48 : nI S[p] < 48 ↔ S[p] < 48 := ltI (b := 48) (by omega) (by decide)
    have e57 : (57 : Int32) < nI S[p] ↔ 57 < S[p] := ltI (a := 57) (by decide) (by omega)
    rw [x_X7_readNumber_L44, X0_size hR, b1_eq, h4, if_pos ((ltI (by omega) (by omega)).mpr hpl), X0_at hR (by omega), b1_eq, b1_eq, b1_eq, hA, ifd e48, ifd e57]
    by_cases hd : pD S[p] = true
    · obtain ⟨d1, d2⟩ := pD_le hd
      have hb : bP pD S p = true := by unfold bP; rw [hS]; exact hd
      have es : nI S[p] - 48 = nI (S[p] - 48) := nI_sub (b := 48) d1
      have e5 : (5 : Int32) < nI (S[p] - 48) ↔ 5 < S[p] - 48 := ltI (a := 5) (by decide) (by omega)
      have eq1 : lN a = 1844674407370955161 ↔ a = 1844674407370955161 := by
        have l : (1844674407370955161 : Int64) = lN 1844674407370955161 := by decide
        rw [l]
        exact lN_inj ha (by decide)
      rw [if_neg (by omega), if_neg (by omega), es, ifd e5, ifd eq1, rl_yes hS hd, nmF, (rn_yes hb).2]
      by_cases q : 1844674407370955161 < a ∨ (a = 1844674407370955161 ∧ 5 < S[p] - 48)
      · rw [if_pos q]
        refine ⟨σ, fT_refl σ, fun _ => ?_, fun x z => by cases z⟩
        by_cases q0 : lN a < 0
        · rw [if_pos q0]
        rw [if_neg q0]
        by_cases q1 : 1844674407370955161 < lN a
        · rw [if_pos q1]
        rw [if_neg q1]
        have nq : ¬ 1844674407370955161 < a := fun z => (big_iff ha).mpr z |>.elim q0 q1
        have q2 := q.elim (fun z => absurd z nq) id
        rw [if_pos q2.1, if_pos q2.2]
      · rw [if_neg q]
        have nb : ¬ (lN a < 0 ∨ 1844674407370955161 < lN a) := fun z => q (Or.inl ((big_iff ha).mp z))
        rw [if_neg (fun z => nb (Or.inl z)), if_neg (fun z => nb (Or.inr z))]
        have hst : lN a * 10 + Int32.toInt64 (nI (S[p] - 48)) = lN (a * 10 + (S[p] - 48)) := (lN_step (a := a) (d := S[p] - 48)).elim id (fun z => by omega)
        have ha' : a * 10 + (S[p] - 48) < 2 ^ 64 := by omega
        obtain ⟨τ, t1, t2, t3⟩ := ih (p + 1) (a * 10 + (S[p] - 48)) V (uI σ 1095 4 (nI (p + 1))) (by omega) (by omega) ha' (RB_fT hR fT_u (by decide) (by decide)) (sI_s _ _ _ _)
        have one : ∀ X, (if a = 1844674407370955161 then (if 5 < S[p] - 48 then X else x_X7_readNumber_139 U 1095 (x_X7_readNumber_L44 U 1095 K v1 v2 v3 V) K v1 v2 v3 (lN a) (nI (S[p] - 48)) σ) else x_X7_readNumber_139 U 1095 (x_X7_readNumber_L44 U 1095 K v1 v2 v3 V) K v1 v2 v3 (lN a) (nI (S[p] - 48)) σ) = x_X7_readNumber_L44 U 1095 K v1 v2 v3 V (lN (a * 10 + (S[p] - 48))) (uI σ 1095 4 (nI (p + 1))) := by
          intro X
          have e139 : x_X7_readNumber_139 U 1095 (x_X7_readNumber_L44 U 1095 K v1 v2 v3 V) K v1 v2 v3 (lN a) (nI (S[p] - 48)) σ = x_X7_readNumber_L44 U 1095 K v1 v2 v3 V (lN (a * 10 + (S[p] - 48))) (uI σ 1095 4 (nI (p + 1))) := by
            unfold x_X7_readNumber_139
            rw [sb_eq, h4, nI_1, hst]
          rw [e139]
          by_cases q9 : a = 1844674407370955161
          · rw [if_pos q9, if_neg (fun z => q (Or.inr ⟨q9, z⟩))]
          · rw [if_neg q9]
        rw [one]
        refine ⟨τ, fT_trans fT_u t1, t2, fun x z => ?_⟩
        obtain ⟨u1, u2⟩ := t3 x z
        refine ⟨u1, ?_⟩
        rw [u2]
        congr 1
        omega
    · have hb : bP pD S p = false := by unfold bP; rw [hS]; simpa using hd
      rw [rl_no hb, rn_no hb, nmF]
      refine ⟨σ, fT_refl σ, fun z => (by cases z), fun x z => ?_⟩
      cases z
      by_cases q : S[p] < 48
      · rw [if_pos q]; exact ⟨rfl, h4⟩
      · rw [if_neg q]
        have : 57 < S[p] := by
          unfold pD at hd
          rw [Bool.and_eq_true, decide_eq_true_iff, decide_eq_true_iff] at hd
          omega
        rw [if_pos this]; exact ⟨rfl, h4⟩
/-- what reading a number gives the class -/
def RNo (σ : SG) (o : Option (Int64 × Nat)) (x : Option (Int32 × SG)) : Prop := ∃ τ, x = some (zI o.isSome, τ) ∧ fT σ τ ∧ ∀ v q, o = some (v, q) → sL τ 1095 6 = v ∧ sI τ 1095 4 = nI q
theorem RNo_no {σ τ : SG} (h : fT σ τ) : RNo σ none (some (0, τ)) := ⟨τ, rfl, h, fun v q z => by cases z⟩
theorem C_number {U t p : Nat} {S : List Nat} {σ : SG} (hU4 : 4000 < U) (hSl : S.length ≤ 700) (ht : t ≤ 14) (hp : p ≤ S.length) (hR : RB σ 1 S 0) (h4 : sI σ 1095 4 = nI p) : RNo σ (numS S t p) (x_X7_readNumber U 1095 (nI t) σ) := by
  unfold x_X7_readNumber x_X7_readNumber_21
  rw [h4, X0_at hR (by omega), b1_eq, show (45 : Int32) = nI 45 from rfl, ifA hR.2.2.2.2 (by decide), if_pos (show (0 : Int32) = 0 from rfl), if_neg (show ¬ (1 : Int32) = 0 by decide), sb_eq, nI_1]
  -- from the sign on
  have core : ∀ (p1 : Nat) (neg : Bool) (υ : SG), p1 ≤ S.length → RB υ 1 S 0 → sI υ 1095 4 = nI p1 → fT σ υ → RNo σ (if rn pD S p1 = 0 ∨ bP pW S (p1 + rn pD S p1) = true then none else match nmF (rl pD S p1) 0 with
    | none => none
    | some x => if x ≤ mxO t neg then some (if neg then -(lN x) else lN x, p1 + rn pD S p1) else none) (x_X7_readNumber_36 U 1095 (nI t) (zI neg) υ) := by
    intro p1 neg υ hp1 hR1 h41 hf
    unfold x_X7_readNumber_36
    have hrl := rn_le' (f := pD) hp1
    obtain ⟨τ, t1, t2, t3⟩ := C_dig_L (U := U) (S := S) (K := fun w21 σ22 => x_X7_readNumber_164 U 1095 (nI t) (zI neg) (sI υ 1095 4) w21 σ22) (v1 := nI t) (v2 := zI neg) (v3 := sI υ 1095 4) hSl (S.length - p1) p1 0 U υ (by omega) (by omega) (by decide) hR1 h41
    have fA := fT_trans hf t1
    have z0 : lN 0 = (0 : Int64) := rfl
    rw [z0] at t2 t3
    cases hn : nmF (rl pD S p1) 0 with
    | none =>
      rw [t2 hn]
      have : (if rn pD S p1 = 0 ∨ bP pW S (p1 + rn pD S p1) = true then (none : Option (Int64 × Nat)) else none) = none := ite_self _
      simp only
      rw [this]
      exact RNo_no fA
    | some x =>
      obtain ⟨u1, u2⟩ := t3 x hn
      have hx : x < 2 ^ 64 := nmF_lt _ _ _ (fun c hc => by have := pD_le (rl_mem hc); omega) (by decide) hn
      rw [u1]
      simp only
      unfold x_X7_readNumber_164 x_X7_readNumber_214
      have e0 : nI (p1 + rn pD S p1) = nI p1 ↔ rn pD S p1 = 0 := by
        rw [nI_eq (by omega) (by omega)]
        omega
      have hRt := RB_fT hR1 t1 (by decide) (by decide)
      rw [u2, h41, ifd e0, X0_at hRt (by omega), b1_eq, W_isWordByte hR.2.2.2.2, b1_eq, ifz, C_inR ht hx, b1_eq, ifz, ifz]
      by_cases q0 : rn pD S p1 = 0
      · rw [if_pos q0, if_pos (Or.inl q0)]; exact RNo_no fA
      rw [if_neg q0]
      cases hw : bP pW S (p1 + rn pD S p1) with
      | true => rw [if_pos (show true = true from rfl), if_pos (Or.inr rfl)]; exact RNo_no fA
      | false =>
        rw [if_neg (show ¬ false = true by decide), if_neg (fun z => z.elim q0 (fun y => by cases y))]
        by_cases qx : x ≤ mxO t neg
        · rw [decide_eq_true qx, if_pos (show true = true from rfl), if_pos qx, sb_eq, sb_eq]
          cases neg with
          | true =>
            rw [if_pos (show true = true from rfl)]
            refine ⟨_, rfl, fT_trans fA fT_L, fun v q z => ?_⟩
            cases z
            exact ⟨by rw [sL_uL, if_pos ⟨rfl, rfl⟩], u2⟩
          | false =>
            rw [if_neg (show ¬ false = true by decide)]
            refine ⟨_, rfl, fT_trans fA fT_L, fun v q z => ?_⟩
            cases z
            exact ⟨by rw [sL_uL, if_pos ⟨rfl, rfl⟩], u2⟩
        · rw [decide_eq_false qx, if_neg (show ¬ false = true by decide), if_neg qx]
          exact RNo_no fA
  unfold numS
  by_cases q : S[p]? = some 45
  · have hpl := (List.getElem?_eq_some_iff.mp q).1
    have := core (p + 1) true (uI σ 1095 4 (nI (p + 1))) (by omega) (RB_fT hR fT_u (by decide) (by decide)) (sI_s _ _ _ _) fT_u
    rw [if_pos q]
    simp only [if_pos q, decide_eq_true q]
    exact this
  · have := core p false σ hp hR h4 (fT_refl σ)
    rw [if_neg q]
    simp only [if_neg q, decide_eq_false q]
    exact this
