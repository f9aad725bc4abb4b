/-! ===== the reference parses a number, a name ===== -/
def P109 (b k : Nat) : Prop := b = 1101 ∧ k = 109
theorem LR_P {σ τ : SG} {S : List Nat} {P : Nat → Nat → Prop} (h : LR σ S) (hf : fP P σ τ) (h1 : ¬ P 1101 73) (h2 : ∀ k, ¬ P 1102 k) : LR τ S := ⟨((hf 1101 73 h1).1).trans h.1, RI_P h.2.1 hf h2, h.2.2⟩
theorem N_digH_L {U : Nat} {S : List Nat} {K : Int64 → Int32 → SG → Option SG} {v1 v2 v3 v4 : Int32} : ∀ (j p U1 : Nat) (y : Int64) (σ : SG), p + j = S.length → j < U1 → LR σ S → sI σ 1101 109 = nI p → ∃ y' τ, x_X12_parseNumber_L45 U 1101 K v1 v2 v3 v4 U1 y 1 σ = K y' 1 τ ∧ fP P109 σ τ ∧ sI τ 1101 109 = nI (p + rn pD S p) := by
  intro j
  induction j with
  | zero =>
    intro p U1 y σ hj hu hL h9
    obtain ⟨V, rfl⟩ : ∃ V, U1 = V + 1 := ⟨U1 - 1, by omega⟩
    have hl := hL.2.2.1
    have h0 : S[p]? = none := List.getElem?_eq_none (by omega)
    have hb : bP pD S p = false := by unfold bP; rw [h0]
    refine ⟨y, σ, ?_, fP_refl _ σ, by rw [rn_no hb]; exact h9⟩
    rw [x_X12_parseNumber_L45, h9, hL.at (by omega), b1_eq, V_isDigit hL.2.2.2, b1_eq, ifz, hb, if_neg (show ¬ false = true by decide)]
  | succ j ih =>
    intro p U1 y σ hj hu hL h9
    obtain ⟨V, rfl⟩ : ∃ V, U1 = V + 1 := ⟨U1 - 1, by omega⟩
    have hl := hL.2.2.1
    rw [x_X12_parseNumber_L45, h9, hL.at (by omega), b1_eq, V_isDigit hL.2.2.2, b1_eq, ifz, b1_eq]
    cases hb : bP pD S p with
    | false =>
      rw [if_neg (show ¬ false = true by decide), rn_no hb]
      exact ⟨y, σ, rfl, fP_refl _ σ, h9⟩
    | true =>
      rw [if_pos (show true = true from rfl), (rn_yes hb).2]
      have hF : fP P109 σ (uI σ 1101 109 (nI (p + 1))) := fP_u ⟨rfl, rfl⟩
      have go : ∀ y2 : Int64, ∃ y' τ, x_X12_parseNumber_L45 U 1101 K v1 v2 v3 v4 V y2 1 (uI σ 1101 109 (nI (p + 1))) = K y' 1 τ ∧ fP P109 σ τ ∧ sI τ 1101 109 = nI (p + (rn pD S (p + 1) + 1)) := by
        intro y2
        obtain ⟨y', τ, t1, t2, t3⟩ := ih (p + 1) V y2 (uI σ 1101 109 (nI (p + 1))) (by omega) (by omega) (LR_P hL hF (by unfold P109; omega) (fun k => by unfold P109; omega)) (sI_s _ _ _ _)
        exact ⟨y', τ, t1, fP_trans hF t2, by rw [t3]; congr 1; omega⟩
      obtain ⟨a, ha⟩ : ∃ a, x_X12_above y 1844674407370955161 σ = some a := by
        unfold x_X12_above x_X12_above_11 x_X12_above_22
        repeat' split
        all_goals exact ⟨_, rfl⟩
      rw [ha, b1_eq]
      unfold x_X12_parseNumber_98 x_X12_parseNumber_101
      rw [sb_eq, h9, nI_1]
      repeat' split
      all_goals exact go _
theorem N_dig_L {U : Nat} {S : List Nat} {K : Int64 → Int32 → SG → Option SG} {v1 v2 v3 v4 : Int32} : ∀ (j p a U1 : Nat) (σ : SG), p + j = S.length → j < U1 → a < 2 ^ 64 → LR σ S → sI σ 1101 109 = nI p → ∃ τ, fP P109 σ τ ∧ sI τ 1101 109 = nI (p + rn pD S p) ∧ (nmF (rl pD S p) a = none → ∃ y', x_X12_parseNumber_L45 U 1101 K v1 v2 v3 v4 U1 (lN a) 0 σ = K y' 1 τ) ∧ ∀ x, nmF (rl pD S p) a = some x → x_X12_parseNumber_L45 U 1101 K v1 v2 v3 v4 U1 (lN a) 0 σ = K (lN x) 0 τ := by
  intro j
  induction j with
  | zero =>
    intro p a U1 σ hj hu ha hL h9
    obtain ⟨V, rfl⟩ : ∃ V, U1 = V + 1 := ⟨U1 - 1, by omega⟩
    have hl := hL.2.2.1
    have h0 : S[p]? = none := List.getElem?_eq_none (by omega)
    have hb : bP pD S p = false := by unfold bP; rw [h0]
    refine ⟨σ, fP_refl _ σ, by rw [rn_no hb]; exact h9, fun z => ?_, fun x z => ?_⟩
    · rw [rl_no hb] at z; cases z
    · rw [rl_no hb] at z
      cases z
      rw [x_X12_parseNumber_L45, h9, hL.at (by omega), b1_eq, V_isDigit hL.2.2.2, b1_eq, ifz, hb, if_neg (show ¬ false = true by decide)]
  | succ j ih =>
    intro p a U1 σ hj hu ha hL h9
    obtain ⟨V, rfl⟩ : ∃ V, U1 = V + 1 := ⟨U1 - 1, by omega⟩
    have hl := hL.2.2.1
    have hpl : p < S.length := by omega
    have hS := List.getElem?_eq_getElem hpl
    have hc : S[p] < 256 := hL.2.2.2 _ (List.getElem_mem hpl)
    have hA : bA S p = nI S[p] := by unfold bA; rw [hS]
    have lL : (1844674407370955161 : Int64) = lN 1844674407370955161 := by decide
    rw [x_X12_parseNumber_L45, h9, hL.at (by omega), b1_eq, V_isDigit hL.2.2.2, b1_eq, ifz, b1_eq, hA, lL, N_above ha (by decide), b1_eq, ifz]
    cases hb : bP pD S p with
    | false =>
      rw [if_neg (show ¬ false = true by decide), rn_no hb, rl_no hb]
      exact ⟨σ, fP_refl _ σ, h9, fun z => (by cases z), fun x z => by cases z; rfl⟩
    | true =>
      have hd : pD S[p] = true := by unfold bP at hb; rw [hS] at hb; exact hb
      obtain ⟨d1, d2⟩ := pD_le hd
      have es : nI S[p] - 48 = nI (S[p] - 48) := nI_sub (b := 48) d1
      have e5 : (5 : Int32) < nI (S[p] - 48) ↔ 5 < S[p] - 48 := ltI (a := 5) (by decide) (by omega)
      have eq1 : lN a = lN 1844674407370955161 ↔ a = 1844674407370955161 := lN_inj ha (by decide)
      rw [if_pos (show true = true from rfl), (rn_yes hb).2, rl_yes hS hd, nmF, es, ifd e5, ifd eq1]
      unfold x_X12_parseNumber_98 x_X12_parseNumber_101
      rw [sb_eq, sb_eq, h9, nI_1]
      have hF : fP P109 σ (uI σ 1101 109 (nI (p + 1))) := fP_u ⟨rfl, rfl⟩
      have L1 := LR_P hL hF (by unfold P109; omega) (fun k => by unfold P109; omega)
      have a9 : sI (uI σ 1101 109 (nI (p + 1))) 1101 109 = nI (p + 1) := sI_s _ _ _ _
      have ep : p + (rn pD S (p + 1) + 1) = p + 1 + rn pD S (p + 1) := by omega
      have hst : 10 * lN a + Int32.toInt64 (nI (S[p] - 48)) = lN (a * 10 + (S[p] - 48)) := by
        rw [Int64.mul_comm]
        exact (lN_step (a := a) (d := S[p] - 48)).elim id (fun z => by omega)
      rw [hst, ep]
      by_cases q : 1844674407370955161 < a ∨ (a = 1844674407370955161 ∧ 5 < S[p] - 48)
      · rw [if_pos q]
        obtain ⟨y', τ, t1, t2, t3⟩ := N_digH_L (U := U) (S := S) (K := K) (v1 := v1) (v2 := v2) (v3 := v3) (v4 := v4) j (p + 1) V (lN (a * 10 + (S[p] - 48))) (uI σ 1101 109 (nI (p + 1))) (by omega) (by omega) L1 a9
        refine ⟨τ, fP_trans hF t2, t3, fun _ => ⟨y', ?_⟩, fun x z => by cases z⟩
        by_cases q1 : 1844674407370955161 < a
        · rw [decide_eq_true q1, if_pos (show true = true from rfl)]; exact t1
        · have q2 := q.elim (fun z => absurd z q1) id
          rw [decide_eq_false q1, if_neg (show ¬ false = true by decide), if_pos q2.1, if_pos q2.2]; exact t1
      · rw [if_neg q]
        have ha' : a * 10 + (S[p] - 48) < 2 ^ 64 := by omega
        obtain ⟨τ, t1, t2, t3, t4⟩ := ih (p + 1) (a * 10 + (S[p] - 48)) V (uI σ 1101 109 (nI (p + 1))) (by omega) (by omega) ha' L1 a9
        have same : (if decide (1844674407370955161 < a) = true then x_X12_parseNumber_L45 U 1101 K v1 v2 v3 v4 V (lN (a * 10 + (S[p] - 48))) 1 (uI σ 1101 109 (nI (p + 1))) else if a = 1844674407370955161 then if 5 < S[p] - 48 then x_X12_parseNumber_L45 U 1101 K v1 v2 v3 v4 V (lN (a * 10 + (S[p] - 48))) 1 (uI σ 1101 109 (nI (p + 1))) else x_X12_parseNumber_L45 U 1101 K v1 v2 v3 v4 V (lN (a * 10 + (S[p] - 48))) 0 (uI σ 1101 109 (nI (p + 1))) else x_X12_parseNumber_L45 U 1101 K v1 v2 v3 v4 V (lN (a * 10 + (S[p] - 48))) 0 (uI σ 1101 109 (nI (p + 1)))) = x_X12_parseNumber_L45 U 1101 K v1 v2 v3 v4 V (lN (a * 10 + (S[p] - 48))) 0 (uI σ 1101 109 (nI (p + 1))) := by
          rw [decide_eq_false (fun z => q (Or.inl z)), if_neg (show ¬ false = true by decide)]
          by_cases q9 : a = 1844674407370955161
          · rw [if_pos q9, if_neg (fun z => q (Or.inr ⟨q9, z⟩))]
          · rw [if_neg q9]
        rw [same]
        exact ⟨τ, fP_trans hF t1, t2, t3, t4⟩
/-- an outcome of reading a value -/
def OV (s : Nat) (T : List Nat) (D : List Dc) (S : List Nat) (lm : Nat) (A : AV) (H : Rh) (tl : Tl) (n f : Nat) (d : Dc) (σ : SG) (o : Option (Int64 × List Nat × Nat)) (x : Option SG) : Prop := ∃ τ, x = some τ ∧ fP PDn σ τ ∧ (o = none → ¬ sI τ 1101 107 = 0) ∧ ∀ v t q, o = some (v, t, q) → ∃ H', DR τ s T D S lm (aPut T D A n f d v t) H' q q ∧ zX A H (aPut T D A n f d v t) H' ∧ TLr H' ((n, f) :: tl)
theorem OV_no {s lm n f : Nat} {T S : List Nat} {D : List Dc} {A : AV} {H : Rh} {tl : Tl} {d : Dc} {σ τ : SG} (hf : fP PDn σ τ) (h7 : ¬ sI τ 1101 107 = 0) : OV s T D S lm A H tl n f d σ none (some τ) := ⟨τ, rfl, hf, fun _ => h7, fun _ _ _ z => by cases z⟩
/-- a number is put, and told -/
theorem OV_num {U s n f lm p b q : Nat} {σ υ : SG} {T S : List Nat} {D : List Dc} {A : AV} {H : Rh} {d : Dc} {tl : Tl} {v : Int64} (hU4 : 4000 < U) (hs : s < 2) (hg : GSc T D) (hD : DR σ s T D S lm A H p b) (hn : n < aC A) (hF : isF D (aN A n) f d) (h13 : fty T D d ≠ 13) (hnm : nmr (fty T D d) = true) (htl : TLr H tl) (htk : tk D tl n f d = false) (hf : fP P109 σ υ) (h9 : sI υ 1101 109 = nI q) (hb : b < q) (hpq : p ≤ q) (hq : q ≤ S.length) : OV s T D S lm A H tl n f d σ (some (v, [], q)) (x_X12_putNumber U 1101 (nI n) (nI (fx D s f)) v υ) := by
  have F : fP PN σ υ := fP_mono hf (fun b k z => by unfold P109 at z; unfold PN; omega)
  have D1 : DR υ s T D S lm A H q b := DR_N hD F h9 (((hf 1101 107 (by unfold P109; omega)).1).trans hD.2.2.2.2.2.1) hpq hq
  have hSl := hD.2.2.2.1.2.2.1
  have hbb := D1.2.2.2.2.2.2.2.1.1
  have hbp := D1.2.2.2.2.2.2.2.2.1
  obtain ⟨τ, H', t1, t2, t3, t4⟩ := DR_num (x := v) hU4 hs hg D1 hn hF h13 hnm hb
  refine ⟨τ, t1, fP_trans (PDn_N F) t3, fun z => (by cases z), fun v' t' q' z => ?_⟩
  cases z
  exact ⟨H', t2, t4, TLr_put hU4 hs hg D1.1 D1.2.1 hn hF.1 hF.2.1 (by omega) t2.2.1 htl htk (inv_num t1)⟩
theorem mx_r : ∀ t, t < 15 → t ≠ 10 → t ≠ 11 → t ≠ 12 → t ≠ 13 → x_X12_mostOf (nI t) = some (lN (mxO t false)) ∧ ∃ y, x_X12_leastOf (nI t) = some y ∧ -y = lN (mxO t true) := by
  intro t h1 h2 h3 h4 h5
  have key : ∀ t, t < 15 → (t = 10 ∨ t = 11 ∨ t = 12 ∨ t = 13) ∨ (x_X12_mostOf (nI t) = some (lN (mxO t false)) ∧ (x_X12_leastOf (nI t)).map (fun y => -y) = some (lN (mxO t true))) := by decide +kernel
  obtain ⟨k1, k2⟩ := (key t h1).elim (fun z => by omega) id
  refine ⟨k1, ?_⟩
  cases hl : x_X12_leastOf (nI t) with
  | none => rw [hl] at k2; cases k2
  | some y => rw [hl] at k2; exact ⟨y, rfl, Option.some.inj k2⟩
theorem mx_lt (t : Nat) (neg : Bool) : mxO t neg < 2 ^ 64 := by
  unfold mxO
  repeat' split
  all_goals omega
theorem mx_10 : ∃ y z, x_X12_mostOf (nI 10) = some y ∧ x_X12_leastOf (nI 10) = some z := ⟨_, _, rfl, rfl⟩
theorem N_number {U s n f lm p b : Nat} {σ : SG} {T S : List Nat} {D : List Dc} {A : AV} {H : Rh} {d : Dc} {tl : Tl} (hU4 : 4000 < U) (hs : s < 2) (hg : GSc T D) (hD : DR σ s T D S lm A H p b) (hb : b < p) (hn : n < aC A) (hF : isF D (aN A n) f d) (hnm : nmr (fty T D d) = true) (htl : TLr H tl) (htk : tk D tl n f d = false) : OV s T D S lm A H tl n f d σ (if fty T D d = 10 then none else (numS S (fty T D d) p).map (fun y => (y.1, [], y.2))) (x_X12_parseNumber U 1101 (nI n) (nI (fx D s f)) σ) := by
  have hD' := hD
  obtain ⟨a1, a2, a3, a4, a5, a6, a7, a8, a9, a10⟩ := hD'
  have hSl := a4.2.2.1
  have h8 := a4.2.2.2
  have hft : fty T D d ≤ 14 := dTy_lt (hg.fld hF.1 hF.2.1).2.2.2.1
  have h13 : fty T D d ≠ 13 := fun z => by rw [z] at hnm; cases hnm
  have h11 : fty T D d ≠ 11 := fun z => by rw [z] at hnm; cases hnm
  have h12 : fty T D d ≠ 12 := fun z => by rw [z] at hnm; cases hnm
  unfold x_X12_parseNumber x_X12_parseNumber_18
  rw [a5, a4.at (by omega), b1_eq, show (45 : Int32) = nI 45 from rfl, ifA h8 (by decide), if_pos (show (0 : Int32) = 0 from rfl), if_neg (show ¬ (1 : Int32) = 0 by decide), sb_eq, nI_1]
  -- from the sign on
  have core : ∀ (p1 : Nat) (neg : Bool) (υ : SG), p ≤ p1 → p1 ≤ S.length → fP P109 σ υ → sI υ 1101 109 = nI p1 → OV s T D S lm A H tl n f d σ (if fty T D d = 10 then none else (if rn pD S p1 = 0 ∨ bP pW S (p1 + rn pD S p1) = true then none else match nmF (rl pD S p1) 0 with
    | none => none
    | some x => if x ≤ mxO (fty T D d) neg then some (if neg then -(lN x) else lN x, p1 + rn pD S p1) else none).map (fun y => (y.1, [], y.2))) (x_X12_parseNumber_33 U 1101 (nI n) (nI (fx D s f)) (zI neg) υ) := by
    intro p1 neg υ hpp hp1 hf h9
    unfold x_X12_parseNumber_33
    have hrl := rn_le' (f := pD) hp1
    have L1 := LR_P a4 hf (by unfold P109; omega) (fun k => by unfold P109; omega)
    have key := N_dig_L (U := U) (S := S) (K := fun w18 w19 σ20 => ix (nI (fx D s f)) 120 fun j21 => if zI neg = 0 then (b1 (x_X12_mostOf (sI σ20 1118 j21)) fun v27 => x_X12_parseNumber_152 U 1101 (nI n) (nI (fx D s f)) (zI neg) (sI υ 1101 109) w18 w19 (sI σ20 1118 j21) v27 σ20) else (b1 (x_X12_leastOf (sI σ20 1118 j21)) fun v45 => x_X12_parseNumber_152 U 1101 (nI n) (nI (fx D s f)) (zI neg) (sI υ 1101 109) w18 w19 (sI σ20 1118 j21) (-v45) σ20)) (v1 := nI n) (v2 := nI (fx D s f)) (v3 := zI neg) (v4 := sI υ 1101 109) (S.length - p1) p1 0 U υ (by omega) (by omega) (by decide) L1 h9
    obtain ⟨τ, t1, t2, t3, t4⟩ := key
    have z0 : lN 0 = (0 : Int64) := rfl
    rw [z0] at t3 t4
    have FA := fP_trans hf t1
    have L2 := LR_P L1 t1 (by unfold P109; omega) (fun k => by unfold P109; omega)
    have S2 : RS τ s T D := RS_keep a1 (fun b k hb => (FA b k (by unfold PKP at hb; unfold P109; omega)).1)
    obtain ⟨f1, _, _, f4, _⟩ := S2.f hF.1 hF.2.1
    have e10 : nI (fty T D d) = 10 ↔ fty T D d = 10 := nI_eq (b := 10) (by omega) (by decide)
    have e0 : nI (p1 + rn pD S p1) = nI p1 ↔ rn pD S p1 = 0 := by
      rw [nI_eq (by omega) (by omega)]
      omega
    have FD : fP PDn σ τ := fP_mono FA (fun b k z => by unfold P109 at z; unfold PDn; omega)
    have c7 : sI τ 1101 107 = 0 := ((FA 1101 107 (by unfold P109; omega)).1).trans a6
    -- a wrong one
    have bad : ∀ y : Int64, OV s T D S lm A H tl n f d σ none (x_X12_parseNumber_199 U 1101 (nI n) (nI (fx D s f)) (zI neg) y τ) := by
      intro y
      unfold x_X12_parseNumber_199 x_X12_parseNumber_204
      rw [sb_eq, sI_s, if_neg (show ¬ (1 : Int32) = 0 by decide)]
      exact OV_no (fP_trans FD (fP_u (by unfold PDn; omega))) (by rw [sI_s]; decide)
    -- from the digits on, whatever the most
    have at152 : ∀ (y : Int64) (h : Int32) (mx : Int64), (h ≠ 0 ∨ fty T D d = 10) → OV s T D S lm A H tl n f d σ none (x_X12_parseNumber_152 U 1101 (nI n) (nI (fx D s f)) (zI neg) (sI υ 1101 109) y h (sI τ 1118 (fx D s f)) mx τ) := by
      intro y h mx hh
      obtain ⟨w, hw⟩ : ∃ w, x_X12_above y mx τ = some w := by
        unfold x_X12_above x_X12_above_11 x_X12_above_22
        repeat' split
        all_goals exact ⟨_, rfl⟩
      have eb : x_X12_byteAt 1101 (sI τ 1101 109) τ = some (bA S (p1 + rn pD S p1)) := by rw [t2]; exact L2.at (by omega)
      unfold x_X12_parseNumber_152
      rw [eb, b1_eq, V_isPart h8, b1_eq, ifz, hw, b1_eq, f4, ifd e10]
      by_cases q0 : sI τ 1101 109 = sI υ 1101 109
      · rw [if_pos q0]; exact bad y
      rw [if_neg q0]
      cases bP pW S (p1 + rn pD S p1) with
      | true => rw [if_pos (show true = true from rfl)]; exact bad y
      | false =>
        rw [if_neg (show ¬ false = true by decide)]
        by_cases qh : h = 0
        · rw [if_pos qh]
          by_cases qw : w = 0
          · rw [if_pos qw, if_pos (hh.elim (fun z => absurd qh z) id)]; exact bad y
          · rw [if_neg qw]; exact bad y
        · rw [if_neg qh]; exact bad y
    -- both mosts
    have both : ∀ (y : Int64) (h : Int32), (h ≠ 0 ∨ fty T D d = 10) → OV s T D S lm A H tl n f d σ none (ix (nI (fx D s f)) 120 fun j21 => if zI neg = 0 then (b1 (x_X12_mostOf (sI τ 1118 j21)) fun v27 => x_X12_parseNumber_152 U 1101 (nI n) (nI (fx D s f)) (zI neg) (sI υ 1101 109) y h (sI τ 1118 j21) v27 τ) else (b1 (x_X12_leastOf (sI τ 1118 j21)) fun v45 => x_X12_parseNumber_152 U 1101 (nI n) (nI (fx D s f)) (zI neg) (sI υ 1101 109) y h (sI τ 1118 j21) (-v45) τ)) := by
      intro y h hh
      have ht : ∃ u w, x_X12_mostOf (sI τ 1118 (fx D s f)) = some u ∧ x_X12_leastOf (sI τ 1118 (fx D s f)) = some w := by
        rw [f4]
        by_cases q : fty T D d = 10
        · rw [q]; obtain ⟨u, w, h1, h2⟩ := mx_10; exact ⟨u, w, h1, h2⟩
        · obtain ⟨h1, w, h2, _⟩ := mx_r (fty T D d) (by omega) q h11 h12 h13
          exact ⟨_, w, h1, h2⟩
      obtain ⟨u, w, h1, h2⟩ := ht
      rw [ix_in (by omega) (by decide), h1, h2, b1_eq, b1_eq]
      split
      · exact at152 y h u hh
      · exact at152 y h (-w) hh
    by_cases q10 : fty T D d = 10
    · rw [if_pos q10]
      cases hn' : nmF (rl pD S p1) 0 with
      | none =>
        obtain ⟨y', e⟩ := t3 hn'
        rw [e]
        exact both y' 1 (Or.inr q10)
      | some x =>
        rw [t4 x hn']
        exact both _ 0 (Or.inr q10)
    · rw [if_neg q10]
      cases hn' : nmF (rl pD S p1) 0 with
      | none =>
        obtain ⟨y', e⟩ := t3 hn'
        rw [e]
        simp only
        rw [ite_self]
        exact both y' 1 (Or.inl (by decide))
      | some x =>
        have hx : x < 2 ^ 64 := nmF_lt _ _ _ (fun c hc => by have := pD_le (rl_mem hc); omega) (by decide) hn'
        obtain ⟨h1, w, h2, h3⟩ := mx_r (fty T D d) (by omega) q10 h11 h12 h13
        rw [t4 x hn']
        simp only
        rw [ix_in (by omega) (by decide), f4, h1, h2, b1_eq, b1_eq, h3]
        have one : ∀ (mx : Int64), mx = lN (mxO (fty T D d) neg) → OV s T D S lm A H tl n f d σ ((if rn pD S p1 = 0 ∨ bP pW S (p1 + rn pD S p1) = true then none else if x ≤ mxO (fty T D d) neg then some (if neg then -(lN x) else lN x, p1 + rn pD S p1) else none).map (fun y => (y.1, [], y.2))) (x_X12_parseNumber_152 U 1101 (nI n) (nI (fx D s f)) (zI neg) (sI υ 1101 109) (lN x) 0 (nI (fty T D d)) mx τ) := by
          intro mx hmx
          unfold x_X12_parseNumber_152
          rw [t2, h9, ifd e0, L2.at (by omega), b1_eq, V_isPart h8, b1_eq, ifz, hmx, N_above hx (mx_lt _ _), b1_eq, ifz, ifd e10, if_neg q10, if_pos (show (0 : Int32) = 0 from rfl)]
          by_cases q0 : rn pD S p1 = 0
          · rw [if_pos q0, if_pos (Or.inl q0)]; exact bad _
          rw [if_neg q0]
          cases hw : bP pW S (p1 + rn pD S p1) with
          | true => rw [if_pos (show true = true from rfl), if_pos (Or.inr rfl)]; exact bad _
          | false =>
            rw [if_neg (show ¬ false = true by decide), if_neg (fun z => z.elim q0 (fun y => by cases y))]
            by_cases qx : x ≤ mxO (fty T D d) neg
            · rw [decide_eq_false (show ¬ mxO (fty T D d) neg < x by omega), if_neg (show ¬ false = true by decide), if_pos qx]
              unfold x_X12_parseNumber_204 x_X12_parseNumber_226
              rw [if_pos c7, ifz, b1_id, b1_id]
              have hput := OV_num (U := U) (q := p1 + rn pD S p1) (v := if neg then -(lN x) else lN x) hU4 hs hg hD hn hF h13 hnm htl htk FA t2 (by omega) (by omega) hrl
              cases neg with
              | true => rw [if_pos (show true = true from rfl)]; exact hput
              | false => rw [if_neg (show ¬ false = true by decide)]; exact hput
            · rw [decide_eq_true (show mxO (fty T D d) neg < x by omega), if_pos (show true = true from rfl), if_neg qx]
              exact bad _
        cases neg with
        | true => rw [if_neg (show ¬ zI true = 0 by decide)]; exact one _ rfl
        | false => rw [if_pos (show zI false = 0 from rfl)]; exact one _ rfl
  unfold numS
  by_cases q : S[p]? = some 45
  · have hpl := (List.getElem?_eq_some_iff.mp q).1
    have := core (p + 1) true (uI σ 1101 109 (nI (p + 1))) (by omega) (by omega) (fP_u ⟨rfl, rfl⟩) (sI_s _ _ _ _)
    rw [if_pos q]
    simp only [if_pos q, decide_eq_true q]
    exact this
  · have := core p false σ (Nat.le_refl _) a10 (fP_refl _ σ) a5
    rw [if_neg q]
    simp only [if_neg q, decide_eq_false q]
    exact this
