/-! ===== parse: blanks and words of a text form ===== -/
/-- behind blanks and comments -/
def tb (S : List Nat) : Nat → Nat → Nat
  | 0, p => p
  | j + 1, p => if bP pB S p then tb S j (p + 1) else if S[p]? = some 35 then tb S j (p + rn pN S p) else p
theorem rn35 {S : List Nat} {p : Nat} (h : S[p]? = some 35) : p < S.length ∧ 1 ≤ rn pN S p ∧ rn pN S p = rn pN S (p + 1) + 1 := by
  have hb : bP pN S p = true := by unfold bP; rw [h]; rfl
  have := rn_yes hb
  omega
theorem tb_fuel {S : List Nat} : ∀ (n m p : Nat), S.length < p + n → S.length < p + m → tb S n p = tb S m p := by
  intro n
  induction n with
  | zero =>
    intro m p h h'
    have h0 : S[p]? = none := List.getElem?_eq_none (by omega)
    have hb : bP pB S p = false := by unfold bP; rw [h0]
    cases m with
    | zero => rfl
    | succ m => rw [tb, tb, hb, if_neg (show ¬ false = true by decide), if_neg (by rw [h0]; intro z; cases z)]
  | succ n ih =>
    intro m p h h'
    cases m with
    | zero =>
      have h0 : S[p]? = none := List.getElem?_eq_none (by omega)
      have hb : bP pB S p = false := by unfold bP; rw [h0]
      rw [tb, tb, hb, if_neg (show ¬ false = true by decide), if_neg (by rw [h0]; intro z; cases z)]
    | succ m =>
      rw [tb, tb, ih m (p + 1) (by omega) (by omega)]
      by_cases q : S[p]? = some 35
      · have := rn35 q
        rw [if_pos q, if_pos q, ih m (p + rn pN S p) (by omega) (by omega)]
      · rw [if_neg q, if_neg q]
def tbS (S : List Nat) (p : Nat) : Nat := tb S (S.length + 1) p
theorem tbS_eq (S : List Nat) (p : Nat) : tbS S p = if bP pB S p then tbS S (p + 1) else if S[p]? = some 35 then tbS S (p + rn pN S p) else p := by
  unfold tbS
  rw [tb]
  by_cases hb : bP pB S p = true
  · have hp : p < S.length := (rn_yes hb).1
    rw [if_pos hb, if_pos hb]
    exact tb_fuel _ _ _ (by omega) (by omega)
  · rw [if_neg hb, if_neg hb]
    by_cases q : S[p]? = some 35
    · have := rn35 q
      rw [if_pos q, if_pos q]
      exact tb_fuel _ _ _ (by omega) (by omega)
    · rw [if_neg q, if_neg q]
theorem tbS_le {S : List Nat} : ∀ (j p : Nat), S.length ≤ p + j → p ≤ S.length → p ≤ tbS S p ∧ tbS S p ≤ S.length := by
  intro j
  induction j using Nat.strongRecOn with
  | ind j ih =>
    intro p hj hp
    rw [tbS_eq]
    by_cases hb : bP pB S p = true
    · have h1 := (rn_yes hb).1
      rw [if_pos hb]
      have := ih (j - 1) (by omega) (p + 1) (by omega) (by omega)
      omega
    · rw [if_neg hb]
      by_cases q : S[p]? = some 35
      · have h1 := rn35 q
        have h2 := rn_le' (f := pN) hp
        rw [if_pos q]
        have := ih (j - rn pN S p) (by omega) (p + rn pN S p) (by omega) (by omega)
        omega
      · rw [if_neg q]; omega
theorem tbS_le' {S : List Nat} {p : Nat} (h : p ≤ S.length) : p ≤ tbS S p ∧ tbS S p ≤ S.length := tbS_le (S.length - p) p (by omega) h
def weS (S : List Nat) (p : Nat) : Nat := p + rn pW S p
theorem weS_le {S : List Nat} {p : Nat} (h : p ≤ S.length) : p ≤ weS S p ∧ weS S p ≤ S.length := ⟨Nat.le_add_right _ _, rn_le' h⟩
/-! the class -/
/-- its place in the text form -/
def fT (σ τ : SG) : Prop := (∀ b, b ≠ 1095 → sm σ τ b) ∧ (∀ k, k ≠ 4 → sI τ 1095 k = sI σ 1095 k) ∧ (∀ k, k ≠ 6 → sL τ 1095 k = sL σ 1095 k) ∧ ∀ k, sP τ 1095 k = sP σ 1095 k
theorem fT_refl (σ : SG) : fT σ σ := ⟨fun b _ => sm_refl σ b, fun _ _ => rfl, fun _ _ => rfl, fun _ => rfl⟩
theorem fT_trans {σ τ υ : SG} (h : fT σ τ) (h' : fT τ υ) : fT σ υ := ⟨fun b hb => sm_trans (h.1 b hb) (h'.1 b hb), fun k hk => (h'.2.1 k hk).trans (h.2.1 k hk), fun k hk => (h'.2.2.1 k hk).trans (h.2.2.1 k hk), fun k => (h'.2.2.2 k).trans (h.2.2.2 k)⟩
theorem fT_u {σ : SG} {v : Int32} : fT σ (uI σ 1095 4 v) := ⟨fun b hb => sm_uI hb, fun k hk => sI_o (Or.inr hk), fun _ _ => rfl, fun _ => rfl⟩
theorem fT_L {σ : SG} {v : Int64} : fT σ (uL σ 1095 6 v) := ⟨fun b hb => sm_uL hb, fun _ _ => rfl, fun k hk => by rw [sL_uL, if_neg (fun z => hk z.2)], fun _ => rfl⟩
theorem RB_fT {σ τ : SG} {a : Nat} {T : List Nat} {z : Int32} (h : RB σ a T z) (hf : fT σ τ) (h1 : a ≠ 1095) (h2 : a + 1 ≠ 1095) : RB τ a T z := h.sm (hf.1 a h1) (hf.1 (a + 1) h2)
theorem C_skipB_L {U : Nat} {S : List Nat} (hSl : S.length ≤ 700) : ∀ (j p U1 : Nat) (cm : Bool) (σ : SG), S.length ≤ p + j → j + 1 < U1 → p ≤ S.length → RB σ 1 S 0 → sI σ 1095 4 = nI p → ∃ τ, x_X7_skipBlanks_L2 U 1095 U1 (zI cm) σ = some τ ∧ sI τ 1095 4 = nI (if cm then tbS S (p + rn pN S p) else tbS S p) ∧ fT σ τ := by
  intro j
  induction j with
  | zero =>
    intro p U1 cm σ hj hu hp hR h4
    obtain ⟨V, rfl⟩ : ∃ V, U1 = V + 1 := ⟨U1 - 1, by omega⟩
    have h0 : S[p]? = none := List.getElem?_eq_none (by omega)
    have hb : bP pB S p = false := by unfold bP; rw [h0]
    have e1 : tbS S p = p := by rw [tbS_eq, hb, if_neg (show ¬ false = true by decide), if_neg (by rw [h0]; intro z; cases z)]
    have e2 : rn pN S p = 0 := rn_ge (by omega)
    refine ⟨σ, ?_, ?_, fT_refl σ⟩
    · rw [x_X7_skipBlanks_L2, X0_size hR, b1_eq, h4, if_neg (fun z => by have := (ltI (by omega) (by omega)).mp z; omega)]
    · rw [e2, Nat.add_zero, e1, ite_self]; exact h4
  | succ j ih =>
    intro p U1 cm σ hj hu hp hR h4
    obtain ⟨V, rfl⟩ : ∃ V, U1 = V + 1 := ⟨U1 - 1, by omega⟩
    by_cases hpe : p = S.length
    · exact ih p (V + 1) cm σ (by omega) (by omega) hp hR h4
    have hpl : p < S.length := by omega
    have h8 : ok8 S := hR.2.2.2.2
    have hS := List.getElem?_eq_getElem hpl
    have hc : S[p] < 256 := h8 _ (List.getElem_mem hpl)
    have hA : bA S p = nI S[p] := by unfold bA; rw [hS]
    have e10 : nI S[p] = 10 ↔ S[p] = 10 := nI_eq (b := 10) (by omega) (by decide)
    have e35 : nI S[p] = 35 ↔ S[p] = 35 := nI_eq (b := 35) (by omega) (by decide)
    -- one byte on
    have go : ∀ cm' : Bool, ∃ τ, x_X7_skipBlanks_67 U 1095 (x_X7_skipBlanks_L2 U 1095 V) (zI cm') σ = some τ ∧ sI τ 1095 4 = nI (if cm' then tbS S (p + 1 + rn pN S (p + 1)) else tbS S (p + 1)) ∧ fT σ τ := by
      intro cm'
      unfold x_X7_skipBlanks_67
      rw [sb_eq, h4, nI_1]
      obtain ⟨τ, t1, t2, t3⟩ := ih (p + 1) V cm' (uI σ 1095 4 (nI (p + 1))) (by omega) (by omega) (by omega) (RB_fT hR fT_u (by decide) (by decide)) (sI_s _ _ _ _)
      exact ⟨τ, t1, t2, fT_trans fT_u t3⟩
    have g0 : ∃ τ, x_X7_skipBlanks_66 U 1095 (x_X7_skipBlanks_L2 U 1095 V) σ = some τ ∧ sI τ 1095 4 = nI (tbS S (p + 1)) ∧ fT σ τ := go false
    have g1 : ∃ τ, x_X7_skipBlanks_62 U 1095 (x_X7_skipBlanks_L2 U 1095 V) σ = some τ ∧ sI τ 1095 4 = nI (tbS S (p + 1 + rn pN S (p + 1))) ∧ fT σ τ := go true
    have hbB : bP pB S p = pB S[p] := by unfold bP; rw [hS]
    have h46 : ∀ v1 : Int32, x_X7_skipBlanks_46 U 1095 (x_X7_skipBlanks_L2 U 1095 V) v1 (nI S[p]) σ = if S[p] = 10 then x_X7_skipBlanks_66 U 1095 (x_X7_skipBlanks_L2 U 1095 V) σ else if v1 = 0 then (if S[p] = 35 then x_X7_skipBlanks_62 U 1095 (x_X7_skipBlanks_L2 U 1095 V) σ else x_X7_skipBlanks_66 U 1095 (x_X7_skipBlanks_L2 U 1095 V) σ) else x_X7_skipBlanks_62 U 1095 (x_X7_skipBlanks_L2 U 1095 V) σ := by
      intro v1
      unfold x_X7_skipBlanks_46
      rw [ifd e10, ifd e35]
    rw [x_X7_skipBlanks_L2, X0_size hR, b1_eq, h4, if_pos ((ltI (by omega) (by omega)).mpr hpl), X0_at hR (by omega), b1_eq, W_isBlank h8, b1_eq, hA, hbB, h46, ifd e35]
    cases cm with
    | true =>
      rw [if_neg (show ¬ zI true = 0 by decide), if_neg (show ¬ zI true = 0 by decide), if_pos (show true = true from rfl)]
      by_cases q : S[p] = 10
      · rw [if_pos q]
        have hn : bP pN S p = false := by unfold bP; rw [hS, q]; rfl
        have hbl : bP pB S p = true := by rw [hbB, q]; rfl
        rw [rn_no hn, Nat.add_zero, tbS_eq, hbl, if_pos (show true = true from rfl)]
        exact g0
      · rw [if_neg q]
        have hn : bP pN S p = true := by unfold bP pN; rw [hS]; simp [q]
        rw [(rn_yes hn).2, show p + (rn pN S (p + 1) + 1) = p + 1 + rn pN S (p + 1) by omega]
        exact g1
    | false =>
      rw [if_pos (show zI false = 0 from rfl), if_neg (show ¬ false = true by decide), tbS_eq, hbB, hS, ifz]
      cases hq : pB S[p] with
      | true =>
        rw [if_pos (show true = true from rfl), if_pos (show true = true from rfl), if_pos (show zI false = 0 from rfl)]
        have n35 : S[p] ≠ 35 := fun z => by rw [z] at hq; cases hq
        rw [if_neg n35, ite_self]
        exact g0
      | false =>
        rw [if_neg (show ¬ false = true by decide), if_neg (show ¬ false = true by decide), if_pos (show zI false = 0 from rfl)]
        by_cases q : S[p] = 35
        · have n10 : S[p] ≠ 10 := fun z => by omega
          rw [if_pos q, if_neg n10, if_pos q, if_pos (by rw [q])]
          have h35 : S[p]? = some 35 := by rw [hS, q]
          rw [(rn35 h35).2.2, show p + (rn pN S (p + 1) + 1) = p + 1 + rn pN S (p + 1) by omega]
          exact g1
        · rw [if_neg q, if_neg (fun z => q (Option.some.inj z))]
          exact ⟨σ, rfl, h4, fT_refl σ⟩
theorem C_skipB {U p : Nat} {S : List Nat} {σ : SG} (hU4 : 4000 < U) (hSl : S.length ≤ 700) (hp : p ≤ S.length) (hR : RB σ 1 S 0) (h4 : sI σ 1095 4 = nI p) : ∃ τ, x_X7_skipBlanks U 1095 σ = some τ ∧ sI τ 1095 4 = nI (tbS S p) ∧ fT σ τ := by
  have := C_skipB_L (U := U) hSl (S.length - p) p U false σ (by omega) (by omega) hp hR h4
  exact this
theorem C_skipW_L {U : Nat} {S : List Nat} (hSl : S.length ≤ 700) : ∀ (j p U1 : Nat) (σ : SG), p + j = S.length → j < U1 → RB σ 1 S 0 → sI σ 1095 4 = nI p → ∃ τ, x_X7_skipWord_L0 U 1095 U1 σ = some τ ∧ sI τ 1095 4 = nI (weS S p) ∧ fT σ τ := by
  intro j
  induction j with
  | zero =>
    intro p U1 σ hj hu hR h4
    obtain ⟨V, rfl⟩ : ∃ V, U1 = V + 1 := ⟨U1 - 1, by omega⟩
    refine ⟨σ, ?_, ?_, fT_refl σ⟩
    · rw [x_X7_skipWord_L0, X0_size hR, b1_eq, h4, if_neg (fun z => by have := (ltI (by omega) (by omega)).mp z; omega)]
    · unfold weS; rw [rn_ge (by omega), Nat.add_zero]; exact h4
  | succ j ih =>
    intro p U1 σ hj hu hR h4
    obtain ⟨V, rfl⟩ : ∃ V, U1 = V + 1 := ⟨U1 - 1, by omega⟩
    rw [x_X7_skipWord_L0, X0_size hR, b1_eq, h4, if_pos ((ltI (by omega) (by omega)).mpr (by omega)), X0_at hR (by omega), b1_eq, W_isWordByte hR.2.2.2.2, b1_eq, ifz]
    cases hb : bP pW S p with
    | false =>
      rw [if_neg (show ¬ false = true by decide)]
      exact ⟨σ, rfl, by unfold weS; rw [rn_no hb, Nat.add_zero]; exact h4, fT_refl σ⟩
    | true =>
      rw [if_pos (show true = true from rfl), sb_eq, nI_1]
      obtain ⟨τ, t1, t2, t3⟩ := ih (p + 1) V (uI σ 1095 4 (nI (p + 1))) (by omega) (by omega) (RB_fT hR fT_u (by decide) (by decide)) (sI_s _ _ _ _)
      refine ⟨τ, t1, ?_, fT_trans fT_u t3⟩
      rw [t2]
      unfold weS
      rw [(rn_yes hb).2]
      congr 1
      omega
theorem C_skipW {U p : Nat} {S : List Nat} {σ : SG} (hU4 : 4000 < U) (hSl : S.length ≤ 700) (hp : p ≤ S.length) (hR : RB σ 1 S 0) (h4 : sI σ 1095 4 = nI p) : ∃ τ, x_X7_skipWord U 1095 σ = some τ ∧ sI τ 1095 4 = nI (weS S p) ∧ fT σ τ := C_skipW_L (U := U) hSl (S.length - p) p U σ (by omega) (by omega) hR h4
/-! the reference -/
theorem N_line_L {U : Nat} {S : List Nat} {σ : SG} {K : Int32 → Option Int32} (h : LR σ S) : ∀ (j p U1 : Nat), p + j = S.length → j < U1 → x_X12_textBlanks_L33 U 1101 K σ U1 (nI p) = K (nI (p + rn pN S p)) := by
  have hl := h.2.2.1
  intro j
  induction j with
  | zero =>
    intro p U1 hp hu
    obtain ⟨V, rfl⟩ : ∃ V, U1 = V + 1 := ⟨U1 - 1, by omega⟩
    rw [x_X12_textBlanks_L33, h.1, if_neg (fun z => by have := (ltI (by omega) (by omega)).mp z; omega), rn_ge (by omega)]; rfl
  | succ j ih =>
    intro p U1 hp hu
    obtain ⟨V, rfl⟩ : ∃ V, U1 = V + 1 := ⟨U1 - 1, by omega⟩
    have hpl : p < S.length := by omega
    rw [x_X12_textBlanks_L33, h.1, if_pos ((ltI (by omega) (by omega)).mpr hpl), h.at (by omega), b1_eq, l10, ifA h.2.2.2 (by decide)]
    cases hb : bP pN S p with
    | false => rw [rn_no hb, if_pos ((bP_pN hpl).mpr hb)]; rfl
    | true =>
      rw [(rn_yes hb).2, if_neg (fun q => by rw [(bP_pN hpl).mp q] at hb; cases hb), nI_1, ih (p + 1) V (by omega) (by omega)]
      congr 2; omega
theorem N_blk_L {U : Nat} {S : List Nat} {σ : SG} (hU4 : 4000 < U) (h : LR σ S) : ∀ (j p U1 : Nat), S.length ≤ p + j → j < U1 → p ≤ S.length → x_X12_textBlanks_L2 U 1101 σ U1 (nI p) = some (nI (tbS S p)) := by
  have hl := h.2.2.1
  have l35 : (35 : Int32) = nI 35 := rfl
  intro j
  induction j using Nat.strongRecOn with
  | ind j ih =>
    intro p U1 hj hu hp
    obtain ⟨V, rfl⟩ : ∃ V, U1 = V + 1 := ⟨U1 - 1, by omega⟩
    rw [x_X12_textBlanks_L2, h.at (by omega), b1_eq, V_isBlank h.2.2.2, b1_eq, ifz, b1_eq]
    unfold x_X12_textBlanks_23
    rw [h.at (by omega), b1_eq, l35, ifA h.2.2.2 (by decide), ifA h.2.2.2 (by decide), nI_1, tbS_eq]
    have cmt : S[p]? = some 35 → x_X12_textBlanks_L33 U 1101 (fun w16 => x_X12_textBlanks_L2 U 1101 σ V w16) σ U (nI p) = some (nI (tbS S (p + rn pN S p))) := by
      intro q
      have h1 := rn35 q
      have h2 := rn_le' (f := pN) hp
      rw [N_line_L h (S.length - p) p U (by omega) (by omega)]
      exact ih (j - 1) (by omega) (p + rn pN S p) V (by omega) (by omega) h2
    cases hb : bP pB S p with
    | true =>
      have h1 := (rn_yes hb).1
      have n35 : S[p]? ≠ some 35 := fun z => by unfold bP at hb; rw [z] at hb; cases hb
      rw [if_pos (show true = true from rfl), if_pos (show true = true from rfl), if_neg n35]
      exact ih (j - 1) (by omega) (p + 1) V (by omega) (by omega) (by omega)
    | false =>
      rw [if_neg (show ¬ false = true by decide), if_neg (show ¬ false = true by decide)]
      by_cases q : S[p]? = some 35
      · rw [if_pos q, if_pos q, if_pos q]; exact cmt q
      · rw [if_neg q, if_neg q]
theorem N_tblanks {U p : Nat} {S : List Nat} {σ : SG} (hU4 : 4000 < U) (h : LR σ S) (hp : p ≤ S.length) : x_X12_textBlanks U 1101 (nI p) σ = some (nI (tbS S p)) := by
  have hl := h.2.2.1
  exact N_blk_L hU4 h (S.length - p) p U (by omega) (by omega) hp
theorem N_nend_L {U : Nat} {S : List Nat} {σ : SG} (h : LR σ S) : ∀ (j p U1 : Nat), p + j = S.length → j < U1 → x_X12_nameEnd_L13 U 1101 σ U1 (nI p) = some (nI (weS S p)) := by
  have hl := h.2.2.1
  intro j
  induction j with
  | zero =>
    intro p U1 hp hu
    obtain ⟨V, rfl⟩ : ∃ V, U1 = V + 1 := ⟨U1 - 1, by omega⟩
    have h0 : S[p]? = none := List.getElem?_eq_none (by omega)
    have hb : bP pW S p = false := by unfold bP; rw [h0]
    unfold weS
    rw [x_X12_nameEnd_L13, h.at (by omega), b1_eq, V_isPart h.2.2.2, b1_eq, ifz, hb, if_neg (show ¬ false = true by decide), rn_no hb]; rfl
  | succ j ih =>
    intro p U1 hp hu
    obtain ⟨V, rfl⟩ : ∃ V, U1 = V + 1 := ⟨U1 - 1, by omega⟩
    unfold weS
    rw [x_X12_nameEnd_L13, h.at (by omega), b1_eq, V_isPart h.2.2.2, b1_eq, ifz]
    cases hb : bP pW S p with
    | false => rw [if_neg (show ¬ false = true by decide), rn_no hb]; rfl
    | true =>
      rw [if_pos (show true = true from rfl), nI_1, ih (p + 1) V (by omega) (by omega), (rn_yes hb).2]
      unfold weS
      congr 2; omega
/-- a name's end, as the reference sees it -/
def neS (S : List Nat) (p : Nat) : Nat := if bP pL S p then weS S p else p
theorem N_nend {U p : Nat} {S : List Nat} {σ : SG} (hU4 : 4000 < U) (h : LR σ S) (hp : p ≤ S.length) : x_X12_nameEnd U 1101 (nI p) σ = some (nI (neS S p)) := by
  have hl := h.2.2.1
  unfold x_X12_nameEnd neS
  rw [h.at (by omega), b1_eq, V_isLetter h.2.2.2, b1_eq, ifz]
  cases bP pL S p with
  | true => rw [if_pos (show true = true from rfl), if_pos (show true = true from rfl)]; exact N_nend_L h (S.length - p) p U (by omega) (by omega)
  | false => rw [if_neg (show ¬ false = true by decide), if_neg (show ¬ false = true by decide)]
