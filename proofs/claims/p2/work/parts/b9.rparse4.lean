/-! ===== the reference parses a text, a value ===== -/
def P84 (b k : Nat) : Prop := (b = 1101 ∧ (k = 84 ∨ k = 107 ∨ k = 109)) ∨ b = 1175
/-- the texts so far -/
def TXT (σ : SG) (P : List Nat) : Prop := sI σ 1101 84 = nI P.length ∧ RI σ 1175 P
theorem N_eight {S : List Nat} {σ : SG} {p : Nat} (hL : LR σ S) (hp : p < 2 ^ 31) : x_X12_isEight 1101 (nI p) σ = some (zI (o8 S p)) := by
  unfold x_X12_isEight
  rw [hL.at hp, b1_eq, b1_eq]
  have h8 := hL.2.2.2
  cases ho : o8 S p with
  | true =>
    obtain ⟨o1, o2, o3⟩ := o8_lt ho
    rw [bA_some o2, if_neg (show ¬ nI (byt0 S p + 48) < 48 from fun z => by have := (ltI (b := 48) (by omega) (by decide)).mp z; omega), if_neg (show ¬ (55 : Int32) < nI (byt0 S p + 48) from fun z => by have := (ltI (a := 55) (by decide) (by omega)).mp z; omega)]; rfl
  | false =>
    rcases o8_no ho with z | ⟨c, z, hc⟩
    · rw [bA_none z, if_pos (by decide)]; rfl
    · have hc256 : c < 256 := h8 c (List.mem_of_getElem? z)
      rw [bA_some z]
      by_cases q : c < 48
      · rw [if_pos (show nI c < 48 from (ltI (b := 48) (by omega) (by decide)).mpr q)]; rfl
      · rw [if_neg (show ¬ nI c < 48 from fun z => q ((ltI (b := 48) (by omega) (by decide)).mp z)), if_pos (show (55 : Int32) < nI c from (ltI (a := 55) (by decide) (by omega)).mpr (by omega))]; rfl
/-- what an escape gives the reference -/
def RXo (σ : SG) (P : List Nat) (o : Option (Nat × Nat)) (x : Option SG) : Prop := ∃ τ, x = some τ ∧ fP P84 σ τ ∧ (o = none → ¬ sI τ 1101 107 = 0) ∧ ∀ b q, o = some (b, q) → sI τ 1101 107 = 0 ∧ sI τ 1101 109 = nI q ∧ TXT τ (P ++ [b])
theorem TXT_app {σ : SG} {P : List Nat} {c : Nat} (h : TXT σ P) : RI (uI σ 1175 P.length (nI c)) 1175 (P ++ [c]) := RI_app h.2 rfl
theorem N_escape {p : Nat} {S P : List Nat} {σ : SG} (hL : LR σ S) (hp : p ≤ S.length) (hP : P.length < 1400) (hT : TXT σ P) (h9 : sI σ 1101 109 = nI p) (h7 : sI σ 1101 107 = 0) : RXo σ P (esS S p) (x_X12_parseEscape 1101 σ) := by
  have h8 := hL.2.2.2
  have hSl := hL.2.2.1
  -- what is added
  have add : ∀ (v m : Int32) (υ : SG), TXT υ P → ∃ τ, x_X12_parseEscape_163 1101 v m υ = some τ ∧ fP P84 υ τ ∧ sI τ 1101 107 = sI υ 1101 107 ∧ sI τ 1101 109 = sI υ 1101 109 + m ∧ ∀ b, v = nI b → TXT τ (P ++ [b]) := by
    intro v m υ hυ
    unfold x_X12_parseEscape_163
    rw [hυ.1, ix_in (by omega) (by decide), sb_eq, sb_eq, sI_o (Or.inl (by decide)), hυ.1, nI_1, sb_eq, sI_o (Or.inr (by decide)), sI_o (Or.inl (by decide))]
    refine ⟨_, rfl, fP_trans (fP_trans (fP_u (by unfold P84; omega)) (fP_u (by unfold P84; omega))) (fP_u (by unfold P84; omega)), ?_, sI_s _ _ _ _, fun b hb => ⟨?_, ?_⟩⟩
    · rw [sI_o (Or.inr (by decide)), sI_o (Or.inr (by decide)), sI_o (Or.inl (by decide))]
    · rw [sI_o (Or.inr (by decide)), sI_s, List.length_append, List.length_singleton]
    · intro i c hi
      rw [sI_o (Or.inl (by decide)), sI_o (Or.inl (by decide)), hb]
      exact TXT_app hυ i c hi
  have bad : ∀ (v m : Int32), v = -1 ∨ 255 < v → ∃ τ, x_X12_parseEscape_146 1101 v m σ = some τ ∧ fP P84 σ τ ∧ ¬ sI τ 1101 107 = 0 := by
    intro v m hv
    have go : ∃ τ, x_X12_parseEscape_158 1101 v m σ = some τ ∧ fP P84 σ τ ∧ ¬ sI τ 1101 107 = 0 := by
      unfold x_X12_parseEscape_158
      rw [sb_eq]
      obtain ⟨τ, t1, t2, t3, _⟩ := add v m (uI σ 1101 107 1) ⟨(sI_o (Or.inr (by decide))).trans hT.1, fun i c hi => (sI_o (Or.inl (by decide))).trans (hT.2 i c hi)⟩
      exact ⟨τ, t1, fP_trans (fP_u (by unfold P84; omega)) t2, by rw [t3, sI_s]; decide⟩
    unfold x_X12_parseEscape_146
    by_cases q : v = -1
    · rw [if_pos q]; exact go
    · rw [if_neg q, if_pos (hv.elim (fun z => absurd z q) id)]; exact go
  have good : ∀ (b m : Nat), b ≤ 255 → m < 10 → ∃ τ, x_X12_parseEscape_146 1101 (nI b) (nI m) σ = some τ ∧ fP P84 σ τ ∧ sI τ 1101 107 = 0 ∧ sI τ 1101 109 = nI (p + m) ∧ TXT τ (P ++ [b]) := by
    intro b m hb hm
    unfold x_X12_parseEscape_146
    have n1 : ¬ nI b = -1 := fun z => nI_neg (by omega : b < 2 ^ 31) (by rw [z]; decide)
    have n2 : ¬ (255 : Int32) < nI b := fun z => by have := (ltI (a := 255) (by decide) (by omega)).mp z; omega
    rw [if_neg n1, if_neg n2]
    obtain ⟨τ, t1, t2, t3, t4, t5⟩ := add (nI b) (nI m) σ hT
    exact ⟨τ, t1, t2, t3.trans h7, by rw [t4, h9, nI_add], t5 b rfl⟩
  unfold x_X12_parseEscape x_X12_parseEscape_60
  rw [h9, hL.at (by omega), b1_eq, show (110 : Int32) = nI 110 from rfl, ifA h8 (by decide), show (114 : Int32) = nI 114 from rfl, ifA h8 (by decide), show (116 : Int32) = nI 116 from rfl, ifA h8 (by decide), show (34 : Int32) = nI 34 from rfl, ifA h8 (by decide), show (92 : Int32) = nI 92 from rfl, ifA h8 (by decide), show (39 : Int32) = nI 39 from rfl, ifA h8 (by decide)]
  -- a letter is no digit
  have lit : ∀ (c y : Nat), S[p]? = some c → (c < 48 ∨ 55 < c) → y ≤ 255 → ∃ τ, x_X12_parseEscape_65 1101 (bA S p) (nI y) σ = some τ ∧ fP P84 σ τ ∧ sI τ 1101 107 = 0 ∧ sI τ 1101 109 = nI (p + 1) ∧ TXT τ (P ++ [y]) := by
    intro c y hc hcr hy
    have ho : o8 S p = false := by
      unfold o8 bP
      rw [hc]
      exact decide_eq_false (by omega)
    unfold x_X12_parseEscape_65
    rw [h9, N_eight hL (by omega), b1_eq, ifz, ho, if_neg (show ¬ false = true by decide)]
    exact good y 1 hy (by decide)
  have fin : ∀ (c y : Nat), S[p]? = some c → (c < 48 ∨ 55 < c) → y ≤ 255 → esS S p = some (y, p + 1) → RXo σ P (esS S p) (x_X12_parseEscape_65 1101 (bA S p) (nI y) σ) := by
    intro c y hc hcr hy he
    obtain ⟨τ, t1, t2, t3, t4, t5⟩ := lit c y hc hcr hy
    rw [he]
    refine ⟨τ, t1, t2, fun z => (by cases z), fun b q z => ?_⟩
    cases z
    exact ⟨t3, t4, t5⟩
  have eA : ∀ c, S[p]? = some c → bA S p = nI c := fun c hc => bA_some hc
  by_cases q0 : S[p]? = some 110
  · rw [if_pos q0]; exact fin 110 10 q0 (by decide) (by decide) (by unfold esS; rw [if_pos q0])
  rw [if_neg q0]
  by_cases q1 : S[p]? = some 114
  · rw [if_pos q1]; exact fin 114 13 q1 (by decide) (by decide) (by unfold esS; rw [q1]; rfl)
  rw [if_neg q1]
  by_cases q2 : S[p]? = some 116
  · rw [if_pos q2]; exact fin 116 9 q2 (by decide) (by decide) (by unfold esS; rw [q2]; rfl)
  rw [if_neg q2]
  by_cases q3 : S[p]? = some 34
  · rw [if_pos q3]
    have := fin 34 34 q3 (by decide) (by decide) (by unfold esS; rw [q3]; rfl)
    rw [← eA 34 q3] at this
    exact this
  rw [if_neg q3]
  by_cases q4 : S[p]? = some 92
  · rw [if_pos q4]
    have := fin 92 92 q4 (by decide) (by decide) (by unfold esS; rw [q4]; rfl)
    rw [← eA 92 q4] at this
    exact this
  rw [if_neg q4]
  by_cases q5 : S[p]? = some 39
  · rw [if_pos q5]
    have := fin 39 39 q5 (by decide) (by decide) (by unfold esS; rw [q5]; rfl)
    rw [← eA 39 q5] at this
    exact this
  rw [if_neg q5]
  have ee : esS S p = if o8 S p && o8 S (p + 1) && o8 S (p + 2) && decide (byt0 S p * 64 + byt0 S (p + 1) * 8 + byt0 S (p + 2) ≤ 255) then some (byt0 S p * 64 + byt0 S (p + 1) * 8 + byt0 S (p + 2), p + 3) else none := by
    unfold esS
    rw [if_neg q0, if_neg q1, if_neg q2, if_neg q3, if_neg q4, if_neg q5]
  rw [ee]
  unfold x_X12_parseEscape_65
  have n1 : nI p + 1 = nI (p + 1) := nI_1 p
  have n2 : nI p + 2 = nI (p + 2) := nI_add p 2
  rw [h9, N_eight hL (by omega), b1_eq, ifz, n1, N_eight hL (by omega), b1_eq, ifz, n2, N_eight hL (by omega), b1_eq, ifz]
  have none' : ∃ τ, x_X12_parseEscape_146 1101 (-1) 1 σ = some τ ∧ fP P84 σ τ ∧ ¬ sI τ 1101 107 = 0 := bad (-1) 1 (Or.inl rfl)
  have rno : RXo σ P none (x_X12_parseEscape_146 1101 (-1) 1 σ) := by
    obtain ⟨τ, t1, t2, t3⟩ := none'
    exact ⟨τ, t1, t2, fun _ => t3, fun b q z => by cases z⟩
  cases o0 : o8 S p with
  | false => rw [if_neg (show ¬ false = true by decide), Bool.false_and, Bool.false_and, Bool.false_and, if_neg (show ¬ false = true by decide)]; exact rno
  | true =>
    rw [if_pos (show true = true from rfl), Bool.true_and]
    cases o1 : o8 S (p + 1) with
    | false => rw [if_neg (show ¬ false = true by decide), Bool.false_and, Bool.false_and, if_neg (show ¬ false = true by decide)]; exact rno
    | true =>
      rw [if_pos (show true = true from rfl), Bool.true_and]
      cases o2 : o8 S (p + 2) with
      | false => rw [if_neg (show ¬ false = true by decide), Bool.false_and, if_neg (show ¬ false = true by decide)]; exact rno
      | true =>
        obtain ⟨x1, x2, x3⟩ := o8_lt o0
        obtain ⟨y1, y2, y3⟩ := o8_lt o1
        obtain ⟨z1, z2, z3⟩ := o8_lt o2
        rw [if_pos (show true = true from rfl), Bool.true_and, hL.at (by omega), b1_eq, hL.at (by omega), b1_eq, bA_some x2, bA_some y2, bA_some z2]
        have ev : ((nI (byt0 S p + 48) - 48) * 64 + (nI (byt0 S (p + 1) + 48) - 48) * 8) + nI (byt0 S (p + 2) + 48) - 48 = nI (byt0 S p * 64 + byt0 S (p + 1) * 8 + byt0 S (p + 2)) := by
          have e48 : ∀ x, nI (x + 48) - 48 = nI x := fun x => (nI_sub (a := x + 48) (b := 48) (by omega)).trans (by rw [Nat.add_sub_cancel])
          have e1 : nI (byt0 S p) * 64 = nI (byt0 S p * 64) := pk_mul _ 64
          have e2 : nI (byt0 S (p + 1)) * 8 = nI (byt0 S (p + 1) * 8) := pk_mul _ 8
          rw [e48, e48, e1, e2, nI_add, nI_add]
          exact (nI_sub (a := byt0 S p * 64 + byt0 S (p + 1) * 8 + (byt0 S (p + 2) + 48)) (b := 48) (by omega)).trans (by congr 1)
        rw [ev]
        by_cases q : byt0 S p * 64 + byt0 S (p + 1) * 8 + byt0 S (p + 2) ≤ 255
        · rw [decide_eq_true q, if_pos (show true = true from rfl)]
          obtain ⟨τ, t1, t2, t3, t4, t5⟩ := good (byt0 S p * 64 + byt0 S (p + 1) * 8 + byt0 S (p + 2)) 3 q (by decide)
          refine ⟨τ, t1, t2, fun z => (by cases z), fun b q z => ?_⟩
          cases z
          exact ⟨t3, t4, t5⟩
        · rw [decide_eq_false q, if_neg (show ¬ false = true by decide)]
          obtain ⟨τ, t1, t2, t3⟩ := bad (nI (byt0 S p * 64 + byt0 S (p + 1) * 8 + byt0 S (p + 2))) 3 (Or.inr ((ltI (a := 255) (by decide) (by omega)).mpr (by omega)))
          exact ⟨τ, t1, t2, fun _ => t3, fun b q z => by cases z⟩
theorem N_tx_L {U qt : Nat} {S : List Nat} (hq : qt < 256) (hq2 : qt ≠ 92) {K : SG → Option SG} {v1 v2 v4 : Int32} : ∀ (j p U1 : Nat) (P : List Nat) (σ : SG), S.length < p + j → j + 1 < U1 → p ≤ S.length → P.length + (S.length - p) < 1400 → LR σ S → TXT σ P → sI σ 1101 109 = nI p → sI σ 1101 107 = 0 → ∃ τ, x_X12_parseText_L25 U 1101 K v1 v2 (nI qt) v4 U1 σ = K τ ∧ fP P84 σ τ ∧ (txS S qt j p = none → ¬ sI τ 1101 107 = 0) ∧ ∀ t q, txS S qt j p = some (t, q) → sI τ 1101 107 = 0 ∧ sI τ 1101 109 = nI (q - 1) ∧ TXT τ (P ++ t) ∧ ok8 t := by
  intro j
  induction j with
  | zero => intro p U1 P σ hj hu hp; omega
  | succ j ih =>
    intro p U1 P σ hj hu hp hl hL hT h9 h7
    obtain ⟨V, rfl⟩ : ∃ V, U1 = V + 1 := ⟨U1 - 1, by omega⟩
    have h8 := hL.2.2.2
    have hSl := hL.2.2.1
    -- once it is wrong the loop ends
    have ends : ∀ (ψ : SG), fP P84 σ ψ → ¬ sI ψ 1101 107 = 0 → ∃ τ, x_X12_parseText_L25 U 1101 K v1 v2 (nI qt) v4 V ψ = K τ ∧ fP P84 σ τ ∧ ¬ sI τ 1101 107 = 0 := by
      intro ψ hf h
      obtain ⟨W, rfl⟩ : ∃ W, V = W + 1 := ⟨V - 1, by omega⟩
      rw [x_X12_parseText_L25, if_neg h]
      exact ⟨ψ, rfl, hf, h⟩
    have wrong : ∀ (x : Option SG) (o : Option (List Nat × Nat)), o = none → (∃ τ, x = some τ ∧ True) → True := fun _ _ _ _ => trivial
    rw [x_X12_parseText_L25, if_pos h7, h9, hL.at (by omega), b1_eq, ifA h8 hq, b1_eq, txS]
    -- a wrong byte
    have bad68 : ∀ (c : Int32), c ≠ 92 → ∃ τ, x_X12_parseText_68 U 1101 (x_X12_parseText_L25 U 1101 K v1 v2 (nI qt) v4 V) K v1 v2 (nI qt) v4 c σ = K τ ∧ fP P84 σ τ ∧ ¬ sI τ 1101 107 = 0 := by
      intro c hc
      unfold x_X12_parseText_68 x_X12_parseText_73 x_X12_parseText_125
      rw [sb_eq, sb_eq, if_neg hc]
      have h107 : ¬ sI (uI (uI σ 1101 107 1) 1101 109 (sI (uI σ 1101 107 1) 1101 109 + 1)) 1101 107 = 0 := by
        rw [sI_o (Or.inr (by decide)), sI_s]
        decide
      rw [if_neg h107]
      exact ends _ (fP_trans (fP_u (by unfold P84; omega)) (fP_u (by unfold P84; omega))) h107
    cases hs : S[p]? with
    | none =>
      rw [if_neg (show ¬ (none : Option Nat) = some qt by intro z; cases z), bA_none hs, if_pos (show (-1 : Int32) < 32 by decide)]
      obtain ⟨τ, t1, t2, t3⟩ := bad68 (-1) (by decide)
      exact ⟨τ, t1, t2, fun _ => t3, fun t q z => by cases z⟩
    | some c =>
      have hpl := (List.getElem?_eq_some_iff.mp hs).1
      have hc : c < 256 := h8 c (List.mem_of_getElem? hs)
      have ecq : some c = some qt ↔ c = qt := ⟨fun z => Option.some.inj z, fun z => by rw [z]⟩
      have e32 : nI c < 32 ↔ c < 32 := ltI (b := 32) (by omega) (by decide)
      have e126 : (126 : Int32) < nI c ↔ 126 < c := ltI (a := 126) (by decide) (by omega)
      have e92 : nI c = 92 ↔ c = 92 := nI_eq (b := 92) (by omega) (by decide)
      rw [ifd ecq, bA_some hs, ifd e32, ifd e126]
      simp only
      by_cases cq : c = qt
      · rw [if_pos cq, if_pos cq]
        refine ⟨σ, rfl, fP_refl _ σ, fun z => (by cases z), fun t q z => ?_⟩
        cases z
        exact ⟨h7, by rw [Nat.add_sub_cancel]; exact h9, by rw [List.append_nil]; exact hT, fun x hx => by cases hx⟩
      rw [if_neg cq, if_neg cq]
      have F1 : fP P84 σ (uI σ 1101 109 (nI (p + 1))) := fP_u (by unfold P84; omega)
      have L1 := LR_P hL F1 (by unfold P84; omega) (fun k => by unfold P84; omega)
      have T1 : TXT (uI σ 1101 109 (nI (p + 1))) P := ⟨(sI_o (Or.inr (by decide))).trans hT.1, fun i x hi => (sI_o (Or.inl (by decide))).trans (hT.2 i x hi)⟩
      have a9 : sI (uI σ 1101 109 (nI (p + 1))) 1101 109 = nI (p + 1) := sI_s _ _ _ _
      have a7 : sI (uI σ 1101 109 (nI (p + 1))) 1101 107 = 0 := (sI_o (Or.inr (by decide))).trans h7
      -- one byte more
      have more : ∀ (b q : Nat) (υ : SG), b < 256 → p < q → q ≤ S.length → fP P84 σ υ → TXT υ (P ++ [b]) → sI υ 1101 109 = nI q → sI υ 1101 107 = 0 → ∃ τ, x_X12_parseText_L25 U 1101 K v1 v2 (nI qt) v4 V υ = K τ ∧ fP P84 σ τ ∧ (txS S qt j q = none → ¬ sI τ 1101 107 = 0) ∧ ∀ t r, txS S qt j q = some (t, r) → sI τ 1101 107 = 0 ∧ sI τ 1101 109 = nI (r - 1) ∧ TXT τ (P ++ b :: t) ∧ ok8 (b :: t) := by
        intro b q υ hb hpq hqS hfυ hTυ h9υ h7υ
        obtain ⟨τ, t1, t2, t3, t4⟩ := ih q V (P ++ [b]) υ (by omega) (by omega) hqS (by rw [List.length_append, List.length_singleton]; omega) (LR_P hL hfυ (by unfold P84; omega) (fun k => by unfold P84; omega)) hTυ h9υ h7υ
        refine ⟨τ, t1, fP_trans hfυ t2, t3, fun t r z => ?_⟩
        obtain ⟨u1, u2, u3, u4⟩ := t4 t r z
        refine ⟨u1, u2, by rw [List.append_assoc] at u3; exact u3, fun x hx => ?_⟩
        rcases List.mem_cons.mp hx with w | w
        · rw [w]; exact hb
        · exact u4 x w
      unfold x_X12_parseText_73 x_X12_parseText_125
      rw [sb_eq, h9, nI_1, ifd e92]
      by_cases c92 : c = 92
      · rw [if_neg (show ¬ c < 32 by omega), if_neg (show ¬ 126 < c by omega), if_pos c92, if_pos c92]
        obtain ⟨τ, e1, e2, e3, e4⟩ := N_escape (p := p + 1) L1 (by omega) (by omega) T1 a9 a7
        rw [e1, b1_eq]
        cases hes : esS S (p + 1) with
        | none =>
          simp only
          obtain ⟨υ, u1, u2, u3⟩ := ends τ (fP_trans F1 e2) (e3 hes)
          exact ⟨υ, u1, u2, fun _ => u3, fun t q z => by cases z⟩
        | some y =>
          obtain ⟨b, q⟩ := y
          obtain ⟨f1, f2, f3⟩ := e4 b q hes
          obtain ⟨l1, l2, l3⟩ := esS_lt hes
          simp only
          obtain ⟨υ, u1, u2, u3, u4⟩ := more b q τ l3 (by omega) l2 (fP_trans F1 e2) f3 f2 f1
          refine ⟨υ, u1, u2, fun z => ?_, fun t r z => ?_⟩
          · exact u3 (by cases h : txS S qt j q with | none => rfl | some y => rw [h] at z; cases z)
          · cases h : txS S qt j q with
            | none => rw [h] at z; cases z
            | some y =>
              rw [h] at z
              cases z
              exact u4 _ _ h
      · rw [if_neg c92, if_neg c92, if_pos a7]
        have n92 : nI c ≠ 92 := fun z => c92 (e92.mp z)
        by_cases c32 : c < 32
        · rw [if_pos c32, if_pos (Or.inl c32)]
          obtain ⟨τ, t1, t2, t3⟩ := bad68 (nI c) n92
          exact ⟨τ, t1, t2, fun _ => t3, fun t q z => by cases z⟩
        rw [if_neg c32]
        by_cases c126 : 126 < c
        · rw [if_pos c126, if_pos (Or.inr c126)]
          obtain ⟨τ, t1, t2, t3⟩ := bad68 (nI c) n92
          exact ⟨τ, t1, t2, fun _ => t3, fun t q z => by cases z⟩
        rw [if_neg c126, if_neg (fun z => z.elim c32 c126), T1.1, ix_in (by omega) (by decide), sb_eq, sb_eq, sI_o (Or.inl (by decide)), T1.1, nI_1]
        obtain ⟨υ, u1, u2, u3, u4⟩ := more c (p + 1) (uI (uI (uI σ 1101 109 (nI (p + 1))) 1175 P.length (nI c)) 1101 84 (nI (P.length + 1))) hc (by omega) (by omega) (fP_trans (fP_trans F1 (fP_u (by unfold P84; omega))) (fP_u (by unfold P84; omega))) ⟨by rw [sI_s, List.length_append, List.length_singleton], fun i x hi => by rw [sI_o (Or.inl (by decide))]; exact TXT_app T1 i x hi⟩ (by rw [sI_o (Or.inr (by decide)), sI_o (Or.inl (by decide))]; exact a9) (by rw [sI_o (Or.inr (by decide)), sI_o (Or.inl (by decide))]; exact a7)
        refine ⟨υ, u1, u2, fun z => ?_, fun t r z => ?_⟩
        · exact u3 (by cases h : txS S qt j (p + 1) with | none => rfl | some y => rw [h] at z; cases z)
        · cases h : txS S qt j (p + 1) with
          | none => rw [h] at z; cases z
          | some y =>
            rw [h] at z
            cases z
            exact u4 _ _ h
