/-! ===== the reference's look ===== -/
/-- of the reference's object alone, ints at K and the long at 77 -/
def fq (K : List Nat) (σ τ : SG) : Prop := (∀ b, b ≠ 1101 → sm σ τ b) ∧ (∀ k, k ∉ K → sI τ 1101 k = sI σ 1101 k) ∧ (∀ k, k ≠ 77 → sL τ 1101 k = sL σ 1101 k) ∧ ∀ k, sP τ 1101 k = sP σ 1101 k
theorem fq_refl (K : List Nat) (σ : SG) : fq K σ σ := ⟨fun b _ => sm_refl σ b, fun _ _ => rfl, fun _ _ => rfl, fun _ => rfl⟩
theorem fq_trans {K : List Nat} {σ τ υ : SG} (h : fq K σ τ) (h' : fq K τ υ) : fq K σ υ := ⟨fun b hb => sm_trans (h.1 b hb) (h'.1 b hb), fun k hk => (h'.2.1 k hk).trans (h.2.1 k hk), fun k hk => (h'.2.2.1 k hk).trans (h.2.2.1 k hk), fun k => (h'.2.2.2 k).trans (h.2.2.2 k)⟩
theorem fq_mono {K J : List Nat} {σ τ : SG} (h : fq K σ τ) (hs : ∀ k ∈ K, k ∈ J) : fq J σ τ := ⟨h.1, fun k hk => h.2.1 k (fun q => hk (hs k q)), h.2.2⟩
theorem fq_u {k : Nat} {K : List Nat} {σ : SG} {v : Int32} (hk : k ∈ K) : fq K σ (uI σ 1101 k v) := ⟨fun b hb => sm_uI hb, fun j hj => sI_o (Or.inr (fun q => hj (q ▸ hk))), fun _ _ => rfl, fun _ => rfl⟩
theorem fq_L {K : List Nat} {σ : SG} {v : Int64} : fq K σ (uL σ 1101 77 v) := ⟨fun b hb => sm_uL hb, fun _ _ => rfl, fun _ hk => sL_o (Or.inr hk), fun _ => rfl⟩
theorem fq_f1 {K : List Nat} {σ τ : SG} (h : f1 1101 K σ τ) : fq K σ τ := ⟨h.1, h.2.1, fun k _ => h.2.2.1 k, h.2.2.2⟩
theorem LR.fq {σ τ : SG} {T : List Nat} {K : List Nat} (h : LR σ T) (hf : fq K σ τ) (h6 : 73 ∉ K) : LR τ T := ⟨(hf.2.1 73 h6).trans h.1, h.2.1.sm (hf.1 _ (by decide)), h.2.2⟩
/-- a number's worth as the reference holds it -/
def rf (b : Nat) (A : Nat) (L : List Nat) : Nat := L.foldl (fun a c => if a < 10 ^ 15 then a * b + hexV c else a) A
/-- the two ways to hold a number: the same below 2^40 -/
def NV (v w : Nat) : Prop := (v = w ∧ w < 2 ^ 40) ∨ (2 ^ 40 ≤ v ∧ w = 2 ^ 40)
theorem NV_fold {b : Nat} (hb : 1 ≤ b) : ∀ (L : List Nat) (v w : Nat), NV v w → NV (rf b v L) (cf b w L) := by
  intro L
  induction L with
  | nil => intro v w h; exact h
  | cons c L ih =>
    intro v w h
    show NV (rf b (if v < 10 ^ 15 then v * b + hexV c else v) L) (cf b (min (w * b + hexV c) (2 ^ 40)) L)
    apply ih
    rcases h with ⟨rfl, h2⟩ | ⟨h1, rfl⟩
    · rw [if_pos (by omega)]
      by_cases q : v * b + hexV c < 2 ^ 40
      · left; rw [Nat.min_eq_left (by omega)]; exact ⟨rfl, q⟩
      · right; rw [Nat.min_eq_right (by omega)]; exact ⟨by omega, rfl⟩
    · have h3 : v ≤ v * b := Nat.le_mul_of_pos_right v hb
      have h4 : 2 ^ 40 ≤ 2 ^ 40 * b := Nat.le_mul_of_pos_right _ hb
      right
      refine ⟨?_, by rw [Nat.min_eq_right (by omega)]⟩
      split <;> omega
theorem V_sixteenth {T : List Nat} (hT : ok8 T) (p : Nat) (σ : SG) : x_X12_sixteenth (bA T p) σ = some (match T[p]? with | some c => dV true c | none => -1) := by
  have key : ∀ c, c < 256 → x_X12_sixteenth (nI c) σ0 = some (dV true c) := by decide +kernel
  have key2 : x_X12_sixteenth (-1) σ0 = some (-1) := by decide +kernel
  cases e : T[p]? with
  | none => rw [bA_none e]; exact key2
  | some c => rw [bA_some e]; exact key c (hT c (List.mem_of_getElem? e))
theorem dg_H {h : Bool} {c : Nat} (hc : dg h c = true) : dg true c = true := by
  cases h with
  | true => exact hc
  | false => show pH c = true; unfold pH; have : pD c = true := hc; rw [this]; rfl
theorem l15 : (1000000000000000 : Int64) = lN (10 ^ 15) := rfl
theorem X12_digits_L {U : Nat} {T : List Nat} {k : Int32 → SG → Option SG} {v3 : Int32} {h : Bool} : ∀ (j p U1 : Nat) (σ : SG) (A : Nat), p + j = T.length → j < U1 → A < 2 ^ 54 → LR σ T → sL σ 1101 77 = lN A →
    ∃ τ, x_X12_readNumber_L52 U 1101 k (zI h) v3 U1 (nI p) σ = k (nI (p + rn (dg h) T p)) τ ∧ sL τ 1101 77 = lN (rf (bs h) A (rl (dg h) T p)) ∧ rf (bs h) A (rl (dg h) T p) < 2 ^ 54 ∧ fq [] σ τ := by
  intro j
  induction j with
  | zero =>
    intro p U1 σ A hp hU hA hR hv
    have hl := hR.2.2.1
    obtain ⟨V, rfl⟩ : ∃ V, U1 = V + 1 := ⟨U1 - 1, by omega⟩
    have e : T[p]? = none := List.getElem?_eq_none (by omega)
    have hb : bP (dg h) T p = false := by unfold bP; rw [e]
    refine ⟨σ, ?_, by rw [rl_no hb]; exact hv, by rw [rl_no hb]; exact hA, fq_refl _ _⟩
    rw [x_X12_readNumber_L52, hR.at (by omega), b1_eq, b1_eq, V_isDigit hR.2.2.2, b1_eq, V_sixteenth hR.2.2.2, e, rn_no hb, ifz]
    simp only
    rw [b1_eq, ifz, show bP pD T p = false by unfold bP; rw [e], if_pos (show (-1 : Int32) < 0 by decide)]
    cases h <;> rfl
  | succ j ih =>
    intro p U1 σ A hp hU hA hR hv
    have hl := hR.2.2.1
    obtain ⟨V, rfl⟩ : ∃ V, U1 = V + 1 := ⟨U1 - 1, by omega⟩
    have hpl : p < T.length := by omega
    have e := List.getElem?_eq_getElem hpl
    rw [x_X12_readNumber_L52, hR.at (by omega), b1_eq, b1_eq, V_isDigit hR.2.2.2, b1_eq, V_sixteenth hR.2.2.2, e, ifz]
    simp only
    rw [b1_eq, ifz]
    have hbD : bP pD T p = pD T[p] := by unfold bP; rw [e]
    rw [hbD]
    cases hd : dg h T[p] with
    | false =>
      have hb : bP (dg h) T p = false := by unfold bP; rw [e]; exact hd
      refine ⟨σ, ?_, by rw [rl_no hb]; exact hv, by rw [rl_no hb]; exact hA, fq_refl _ _⟩
      rw [rn_no hb, Nat.add_zero]
      cases h with
      | true => rw [if_pos rfl, if_pos (dV_neg hd)]
      | false => rw [if_neg (by decide), show pD T[p] = false from hd, if_neg (by decide)]
    | true =>
      have hb : bP (dg h) T p = true := by unfold bP; rw [e]; exact hd
      have hvv := hexV_lt hd
      have hbs := bs_le h
      -- one more digit
      have step : ∃ τ, x_X12_readNumber_81 U 1101 (x_X12_readNumber_L52 U 1101 k (zI h) v3 V) k (nI p) (zI h) v3 σ = k (nI (p + rn (dg h) T p)) τ ∧ sL τ 1101 77 = lN (rf (bs h) A (rl (dg h) T p)) ∧ rf (bs h) A (rl (dg h) T p) < 2 ^ 54 ∧ fq [] σ τ := by
        rw [(rn_yes hb).2, rl_yes e hd]
        unfold x_X12_readNumber_81
        rw [hv, l15]
        show ∃ τ, _ = _ ∧ sL τ 1101 77 = lN (rf (bs h) (if A < 10 ^ 15 then A * bs h + hexV T[p] else A) (rl (dg h) T (p + 1))) ∧ rf (bs h) (if A < 10 ^ 15 then A * bs h + hexV T[p] else A) (rl (dg h) T (p + 1)) < 2 ^ 54 ∧ _
        by_cases q : A < 10 ^ 15
        · have hm : A * bs h ≤ 10 ^ 15 * 16 := Nat.mul_le_mul (by omega) hbs
          rw [if_pos ((pk_lLT (by omega) (by omega)).mpr q), if_pos q]
          have go : x_X12_readNumber_108 U 1101 (x_X12_readNumber_L52 U 1101 k (zI h) v3 V) k (nI p) (zI h) v3 (nI (bs h)) (lN A) σ = x_X12_readNumber_L52 U 1101 k (zI h) v3 V (nI (p + 1)) (uL σ 1101 77 (lN (A * bs h + hexV T[p]))) := by
            unfold x_X12_readNumber_108 x_X12_readNumber_123
            rw [hR.at (by omega), b1_eq, V_sixteenth hR.2.2.2, e]
            simp only
            rw [b1_eq, sb_eq, dV_pos (dg_H hd), nI_l (by omega), nI_l (by omega), lN_mul, lN_add, nI_1]
          have fr : fq [] σ (uL σ 1101 77 (lN (A * bs h + hexV T[p]))) := fq_L
          obtain ⟨τ, g1, g2, g3, g4⟩ := ih (p + 1) V _ (A * bs h + hexV T[p]) (by omega) (by omega) (by omega) (hR.fq fr (by decide)) (sL_s _ _ _ _)
          refine ⟨τ, ?_, g2, g3, fq_trans fr g4⟩
          rw [ifz]
          have e2 : p + (rn (dg h) T (p + 1) + 1) = p + 1 + rn (dg h) T (p + 1) := by omega
          rw [e2, ← g1, ← go]
          cases h <;> rfl
        · rw [if_neg (fun z => q ((pk_lLT (by omega) (by omega)).mp z)), if_neg q]
          unfold x_X12_readNumber_123
          obtain ⟨τ, g1, g2, g3, g4⟩ := ih (p + 1) V σ A (by omega) (by omega) hA hR hv
          refine ⟨τ, ?_, g2, g3, g4⟩
          rw [nI_1, g1]
          congr 2; omega
      cases h with
      | true => rw [if_pos rfl, dV_pos hd, if_neg (nI_neg (by omega))]; exact step
      | false => rw [if_neg (by decide), show pD T[p] = true from hd, if_pos rfl]; exact step
def nvR (T : List Nat) (p : Nat) : Nat := rf (bs (hx T p)) 0 (rl (dg (hx T p)) T (nbg T p))
theorem NV_num (T : List Nat) (p : Nat) : NV (nvR T p) (nvC T p) := NV_fold (by cases hx T p <;> decide) _ 0 0 (Or.inl ⟨rfl, by decide⟩)
theorem X12_readNumber {U p : Nat} {σ : SG} {T : List Nat} (hU : 4000 < U) (h : LR σ T) (hp : p < T.length) (h71 : sI σ 1101 71 = nI p) : ∃ τ, x_X12_readNumber U 1101 σ = some τ ∧ sI τ 1101 70 = nI (if nok T p then 2 else 5) ∧ sI τ 1101 72 = nI (nen T p) ∧ sL τ 1101 77 = lN (nvR T p) ∧ nvR T p < 2 ^ 54 ∧ fq [70, 72] σ τ := by
  have hl := h.2.2.1
  have hok := h.2.2.2
  obtain ⟨hb1, hb2⟩ := nbg_le hp
  obtain ⟨he1, he2⟩ := nen_le hp
  let σ2 := uL (uI σ 1101 70 2) 1101 77 0
  have f2 : fq [70, 72] σ σ2 := fq_trans (fq_u (by decide)) fq_L
  have hR2 : LR σ2 T := h.fq f2 (by decide)
  have h71' : sI σ2 1101 71 = nI p := (f2.2.1 71 (by decide)).trans h71
  obtain ⟨τ, g1, g2, g3, g4⟩ := X12_digits_L (U := U) (k := fun w28 σ29 => x_X12_readNumber_129 U 1101 w28 (zI (hx T p)) (nI (nbg T p)) σ29) (v3 := nI (nbg T p)) (h := hx T p) (T.length - nbg T p) (nbg T p) U σ2 0 (by omega) (by omega) (by decide) hR2 (sL_s _ _ _ _)
  have hRτ : LR τ T := hR2.fq g4 (by decide)
  have h71τ : sI τ 1101 71 = nI p := (g4.2.1 71 (by decide)).trans h71'
  have e1 : x_X12_readNumber U 1101 σ = x_X12_readNumber_50 U 1101 (nI (nbg T p)) (zI (hx T p)) σ2 := by
    unfold x_X12_readNumber
    rw [sb_eq, sb_eq]
    show b1 (x_X12_byteAt 1101 (sI σ2 1101 71) σ2) (fun v4 => if v4 = 48 then b1 (x_X12_byteAt 1101 (sI σ2 1101 71 + 1) σ2) (fun v7 => if v7 = 120 then x_X12_readNumber_42 U 1101 (sI σ2 1101 71) 1 σ2 else x_X12_readNumber_41 U 1101 (sI σ2 1101 71) σ2) else x_X12_readNumber_41 U 1101 (sI σ2 1101 71) σ2) = _
    unfold x_X12_readNumber_41 x_X12_readNumber_42
    rw [h71', hR2.at (by omega), b1_eq, l48, ifA hok (by decide), nI_1, hR2.at (by omega), b1_eq, l120, ifA hok (by decide)]
    have e2 : nI p + 2 = nI (p + 2) := nI_add p 2
    have nh : hx T p = false → nbg T p = p := fun q => by unfold nbg; rw [q, if_neg (by decide)]
    have yh : hx T p = true → nbg T p = p + 2 := fun q => by unfold nbg; rw [q, if_pos rfl]
    by_cases c1 : T[p]? = some 48
    · rw [if_pos c1]
      by_cases c2 : T[p + 1]? = some 120
      · have hh : hx T p = true := by unfold hx; exact decide_eq_true ⟨c1, c2⟩
        rw [if_pos c2, if_neg (by decide), e2, yh hh, hh, zI1]
      · have hh : hx T p = false := by unfold hx; exact decide_eq_false (fun z => c2 z.2)
        rw [if_neg c2, if_pos rfl, nh hh, hh, zI0]
    · have hh : hx T p = false := by unfold hx; exact decide_eq_false (fun z => c1 z.1)
      rw [if_neg c1, if_pos rfl, nh hh, hh, zI0]
  have good : ∃ υ, x_X12_readNumber_177 U 1101 (nI (nen T p)) τ = some υ ∧ sI υ 1101 70 = 2 ∧ sI υ 1101 72 = nI (nen T p) ∧ sL υ 1101 77 = lN (nvR T p) ∧ fq [70, 72] σ υ := by
    refine ⟨uI τ 1101 72 (nI (nen T p)), rfl, ?_, sI_s _ _ _ _, g2, fq_trans f2 (fq_trans (fq_mono g4 (by simp)) (fq_u (by decide)))⟩
    rw [sI_o (by decide), g4.2.1 70 (by simp)]
    show sI (uL (uI σ 1101 70 2) 1101 77 0) 1101 70 = 2
    rw [sI_uL, sI_s]
  have badd : ∃ υ, x_X12_readNumber_172 U 1101 (nI (nen T p)) τ = some υ ∧ sI υ 1101 70 = 5 ∧ sI υ 1101 72 = nI (nen T p) ∧ sL υ 1101 77 = lN (nvR T p) ∧ fq [70, 72] σ υ := by
    refine ⟨uI (uI τ 1101 70 5) 1101 72 (nI (nen T p)), rfl, ?_, sI_s _ _ _ _, g2, fq_trans f2 (fq_trans (fq_mono g4 (by simp)) (fq_trans (fq_u (by decide)) (fq_u (by decide))))⟩
    rw [sI_o (by decide), sI_s]
  have e3 : x_X12_readNumber U 1101 σ = if nok T p then x_X12_readNumber_177 U 1101 (nI (nen T p)) τ else x_X12_readNumber_172 U 1101 (nI (nen T p)) τ := by
    rw [e1]
    unfold x_X12_readNumber_50
    refine g1.trans ?_
    show x_X12_readNumber_129 U 1101 (nI (nen T p)) (zI (hx T p)) (nI (nbg T p)) τ = _
    unfold x_X12_readNumber_129
    rw [hRτ.at (by omega), b1_eq, V_isPart hok, b1_eq, ifz, ifz, h71τ, hRτ.at (by omega), b1_eq, l48, ifA hok (by decide), nI_1]
    unfold nok
    by_cases c0 : nbg T p < nen T p
    · rw [if_neg (fun z => by have := (nI_eq (by omega) (by omega)).mp z; omega), decide_eq_true c0]
      cases bP pW T (nen T p) with
      | true => rw [if_pos rfl]; simp
      | false =>
        rw [if_neg (by decide)]
        cases hx T p with
        | true => rw [if_pos rfl]; simp
        | false =>
          rw [if_neg (by decide)]
          by_cases c1 : T[p]? = some 48
          · rw [if_pos c1]
            by_cases c2 : p + 1 < nen T p
            · rw [if_pos ((ltI (by omega) (by omega)).mpr c2)]; simp [c1, c2]
            · rw [if_neg (fun z => c2 ((ltI (by omega) (by omega)).mp z))]; simp [c1, c2]
          · rw [if_neg c1]; simp [c1]
    · have : nen T p = nbg T p := by omega
      rw [if_pos (by rw [this]), decide_eq_false c0]; simp
  rw [e3]
  cases nok T p with
  | true => obtain ⟨υ, k1, k2, k3, k4, k5⟩ := good; exact ⟨υ, k1, k2, k3, k4, g3, k5⟩
  | false => obtain ⟨υ, k1, k2, k3, k4, k5⟩ := badd; exact ⟨υ, k1, k2, k3, k4, g3, k5⟩
