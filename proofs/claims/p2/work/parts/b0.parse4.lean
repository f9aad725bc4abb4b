/-! ===== parse: texts, names, a value of the class ===== -/
def o8 (S : List Nat) (p : Nat) : Bool := bP (fun c => decide (48 ≤ c ∧ c ≤ 55)) S p
def byt0 (S : List Nat) (p : Nat) : Nat := (S[p]?.getD 0) - 48
/-- an escape behind its backslash -/
def esS (S : List Nat) (p : Nat) : Option (Nat × Nat) := if S[p]? = some 110 then some (10, p + 1) else if S[p]? = some 114 then some (13, p + 1) else if S[p]? = some 116 then some (9, p + 1) else if S[p]? = some 34 then some (34, p + 1) else if S[p]? = some 92 then some (92, p + 1) else if S[p]? = some 39 then some (39, p + 1) else if o8 S p && o8 S (p + 1) && o8 S (p + 2) && decide (byt0 S p * 64 + byt0 S (p + 1) * 8 + byt0 S (p + 2) ≤ 255) then some (byt0 S p * 64 + byt0 S (p + 1) * 8 + byt0 S (p + 2), p + 3) else none
theorem o8_lt {S : List Nat} {p : Nat} (h : o8 S p = true) : p < S.length ∧ S[p]? = some (byt0 S p + 48) ∧ byt0 S p ≤ 7 := by
  unfold o8 bP at h
  cases hs : S[p]? with
  | none => rw [hs] at h; cases h
  | some c =>
    rw [hs] at h
    have hc := of_decide_eq_true h
    have hb : byt0 S p = c - 48 := by unfold byt0; rw [hs]; rfl
    have := (List.getElem?_eq_some_iff.mp hs).1
    refine ⟨this, by rw [hb]; congr 1; omega, by omega⟩
theorem o8_no {S : List Nat} {p : Nat} (h : o8 S p = false) : (S[p]? = none) ∨ ∃ c, S[p]? = some c ∧ (c < 48 ∨ 55 < c) := by
  unfold o8 bP at h
  cases hs : S[p]? with
  | none => exact Or.inl rfl
  | some c =>
    rw [hs] at h
    have hc := of_decide_eq_false h
    exact Or.inr ⟨c, rfl, by omega⟩
theorem esS_lt {S : List Nat} {p b q : Nat} (h : esS S p = some (b, q)) : p < q ∧ q ≤ S.length ∧ b < 256 := by
  unfold esS at h
  have lit : ∀ c, S[p]? = some c → p < S.length := fun c hc => (List.getElem?_eq_some_iff.mp hc).1
  split at h
  · rename_i h1; have := lit _ h1; cases h; omega
  split at h
  · rename_i h1; have := lit _ h1; cases h; omega
  split at h
  · rename_i h1; have := lit _ h1; cases h; omega
  split at h
  · rename_i h1; have := lit _ h1; cases h; omega
  split at h
  · rename_i h1; have := lit _ h1; cases h; omega
  split at h
  · rename_i h1; have := lit _ h1; cases h; omega
  split at h
  · rename_i h1
    rw [Bool.and_eq_true, Bool.and_eq_true, decide_eq_true_iff] at h1
    have := (o8_lt h1.1.2).1
    cases h
    omega
  · cases h
def txS (S : List Nat) (qt : Nat) : Nat → Nat → Option (List Nat × Nat)
  | 0, _ => none
  | j + 1, p => match S[p]? with
    | none => none
    | some c => if c = qt then some ([], p + 1) else if c = 92 then (match esS S (p + 1) with
      | none => none
      | some (b, p') => (txS S qt j p').map (fun y => (b :: y.1, y.2))) else if c < 32 ∨ 126 < c then none else (txS S qt j (p + 1)).map (fun y => (c :: y.1, y.2))
/-- the class's place in the text form and its texts -/
def fU (σ τ : SG) : Prop := (∀ b, b ≠ 1095 → b ≠ 1092 → b ≠ 1093 → sm σ τ b) ∧ (∀ k, k ≠ 4 → sI τ 1095 k = sI σ 1095 k) ∧ sI τ 1092 2 = sI σ 1092 2
theorem fU_refl (σ : SG) : fU σ σ := ⟨fun b _ _ _ => sm_refl σ b, fun _ _ => rfl, rfl⟩
theorem fU_trans {σ τ υ : SG} (h : fU σ τ) (h' : fU τ υ) : fU σ υ := ⟨fun b h1 h2 h3 => sm_trans (h.1 b h1 h2 h3) (h'.1 b h1 h2 h3), fun k hk => (h'.2.1 k hk).trans (h.2.1 k hk), h'.2.2.trans h.2.2⟩
theorem fT_fU {σ τ : SG} (h : fT σ τ) : fU σ τ := ⟨fun b h1 _ _ => h.1 b h1, h.2.1, (h.1 1092 (by decide) 2).1⟩
theorem fU_RB1 {σ τ : SG} {S : List Nat} (h : RB σ 1 S 0) (hf : fU σ τ) : RB τ 1 S 0 := h.sm (hf.1 1 (by decide) (by decide) (by decide)) (hf.1 2 (by decide) (by decide) (by decide))
theorem tch10 : tchr 10 0 = nI 110 ∧ tchr 10 1 = nI 114 ∧ tchr 10 2 = nI 116 ∧ tchr 10 3 = nI 34 ∧ tchr 10 4 = nI 92 ∧ tchr 10 5 = nI 39 := by decide
theorem tch11 : tchr 11 0 = nI 10 ∧ tchr 11 1 = nI 13 ∧ tchr 11 2 = nI 9 ∧ tchr 11 3 = nI 34 ∧ tchr 11 4 = nI 92 ∧ tchr 11 5 = nI 39 := by decide
/-- what reading an escape gives the class -/
def REo (σ : SG) (o : Option (Nat × Nat)) (x : Option (Int32 × SG)) : Prop := ∃ v τ, x = some (v, τ) ∧ fT σ τ ∧ (o = none → v < 0) ∧ ∀ b q, o = some (b, q) → v = nI b ∧ sI τ 1095 4 = nI q
theorem C_escape {U p : Nat} {S : List Nat} {σ : SG} (hU4 : 4000 < U) (hSl : S.length ≤ 700) (hp : p ≤ S.length) (hR : RB σ 1 S 0) (h4 : sI σ 1095 4 = nI p) : REo σ (esS S p) (x_X7_readEscape U 1095 σ) := by
  have h8 : ok8 S := hR.2.2.2.2
  unfold x_X7_readEscape
  rw [h4, X0_at hR (by omega), b1_eq, nI_1]
  obtain ⟨V, hV⟩ : ∃ V, U = V + 7 := ⟨U - 7, by omega⟩
  have t6 : tlen 10 = 6 := by decide
  have t6' : tlen 11 = 6 := by decide
  -- the escapes one after the other
  have go : ∀ (k42 : Int32 → Option (Int32 × SG)) (k65 : Option (Int32 × SG)), (S[p]? = some 110 → REo σ (esS S p) (k42 (nI 0))) → (S[p]? = some 114 → REo σ (esS S p) (k42 (nI 1))) → (S[p]? = some 116 → REo σ (esS S p) (k42 (nI 2))) → (S[p]? = some 34 → REo σ (esS S p) (k42 (nI 3))) → (S[p]? = some 92 → REo σ (esS S p) (k42 (nI 4))) → (S[p]? = some 39 → REo σ (esS S p) (k42 (nI 5))) → (S[p]? ≠ some 110 → S[p]? ≠ some 114 → S[p]? ≠ some 116 → S[p]? ≠ some 34 → S[p]? ≠ some 92 → S[p]? ≠ some 39 → REo σ (esS S p) k65) → REo σ (esS S p) (x_X7_readEscape_L14 U 1095 k42 k65 (bA S p) σ (V + 7) (nI 0)) := by
    intro k42 k65 g0 g1 g2 g3 g4 g5 g6
    have step : ∀ (j W e : Nat), j < 6 → tchr 10 j = nI e → e < 256 → (S[p]? = some e → REo σ (esS S p) (k42 (nI j))) → (S[p]? ≠ some e → REo σ (esS S p) (x_X7_readEscape_L14 U 1095 k42 k65 (bA S p) σ W (nI (j + 1)))) → REo σ (esS S p) (x_X7_readEscape_L14 U 1095 k42 k65 (bA S p) σ (W + 1) (nI j)) := by
      intro j W e hj ht he h1 h2
      rw [x_X7_readEscape_L14, t6, t6', if_pos ((ltI (by omega) (by decide)).mpr hj), if_pos ((ltI (by omega) (by decide)).mpr hj), ix_in hj (by decide), ht, nI_1]
      by_cases q : S[p]? = some e
      · rw [if_pos ((bA_is h8 he).mpr q).symm]; exact h1 q
      · rw [if_neg (fun z => q ((bA_is h8 he).mp z.symm))]; exact h2 q
    obtain ⟨c0, c1, c2, c3, c4, c5⟩ := tch10
    refine step 0 (V + 6) 110 (by decide) c0 (by decide) g0 (fun n0 => ?_)
    refine step 1 (V + 5) 114 (by decide) c1 (by decide) g1 (fun n1 => ?_)
    refine step 2 (V + 4) 116 (by decide) c2 (by decide) g2 (fun n2 => ?_)
    refine step 3 (V + 3) 34 (by decide) c3 (by decide) g3 (fun n3 => ?_)
    refine step 4 (V + 2) 92 (by decide) c4 (by decide) g4 (fun n4 => ?_)
    refine step 5 (V + 1) 39 (by decide) c5 (by decide) g5 (fun n5 => ?_)
    rw [x_X7_readEscape_L14, t6, if_neg (show ¬ nI (5 + 1) < nI 6 by decide)]
    exact g6 n0 n1 n2 n3 n4 n5
  have two : ∀ (j y : Nat), j < 6 → tchr 11 j = nI y → esS S p = some (y, p + 1) → REo σ (esS S p) ((fun w10 => sb (uI σ 1095 4 (nI (p + 1))) fun σ11 => ix w10 (tlen 11) fun j12 => some (tchr 11 j12, σ11)) (nI j)) := by
    intro j y hj ht he
    rw [he]
    refine ⟨nI y, uI σ 1095 4 (nI (p + 1)), ?_, fT_u, fun z => (by cases z), fun b q z => by cases z; exact ⟨rfl, sI_s _ _ _ _⟩⟩
    show sb (uI σ 1095 4 (nI (p + 1))) (fun σ11 => ix (nI j) (tlen 11) fun j12 => some (tchr 11 j12, σ11)) = _
    rw [sb_eq, t6', ix_in hj (by decide), ht]
  obtain ⟨d0, d1, d2, d3, d4, d5⟩ := tch11
  have key := go (fun w10 => sb (uI σ 1095 4 (nI (p + 1))) fun σ11 => ix w10 (tlen 11) fun j12 => some (tchr 11 j12, σ11)) (x_X7_readEscape_65 U 1095 σ)
    (fun q => two 0 10 (by decide) d0 (by unfold esS; rw [if_pos q]))
    (fun q => two 1 13 (by decide) d1 (by unfold esS; rw [q]; rfl))
    (fun q => two 2 9 (by decide) d2 (by unfold esS; rw [q]; rfl))
    (fun q => two 3 34 (by decide) d3 (by unfold esS; rw [q]; rfl))
    (fun q => two 4 92 (by decide) d4 (by unfold esS; rw [q]; rfl))
    (fun q => two 5 39 (by decide) d5 (by unfold esS; rw [q]; rfl))
    (fun n0 n1 n2 n3 n4 n5 => by
      have ee : esS S p = if o8 S p && o8 S (p + 1) && o8 S (p + 2) && decide (byt0 S p * 64 + byt0 S (p + 1) * 8 + byt0 S (p + 2) ≤ 255) then some (byt0 S p * 64 + byt0 S (p + 1) * 8 + byt0 S (p + 2), p + 3) else none := by
        unfold esS
        rw [if_neg n0, if_neg n1, if_neg n2, if_neg n3, if_neg n4, if_neg n5]
      rw [ee]
      unfold x_X7_readEscape_65
      generalize hK : (fun (w22 : Int32) (σ23 : SG) => if 255 < w22 then (some ((-1 : Int32), σ23)) else (some (w22, σ23))) = K
      -- one digit
      have dig : ∀ (m v W q : Nat) (υ : SG), m < 3 → q < 2 ^ 20 → RB υ 1 S 0 → sI υ 1095 4 = nI q → x_X7_readEscape_L69 U 1095 K (W + 1) (nI v) (nI m) υ = if o8 S q then x_X7_readEscape_L69 U 1095 K W (nI (v * 8 + byt0 S q)) (nI (m + 1)) (uI υ 1095 4 (nI (q + 1))) else some (-1, υ) := by
        intro m v W q υ hm hq hRυ h4υ
        rw [x_X7_readEscape_L69, if_pos (show nI m < 3 from (ltI (b := 3) (by omega) (by decide)).mpr hm), h4υ, X0_at hRυ (by omega), b1_eq, sb_eq, nI_1, nI_1]
        cases ho : o8 S q with
        | true =>
          obtain ⟨o1, o2, o3⟩ := o8_lt ho
          have eA : bA S q - 48 = nI (byt0 S q) := by
            rw [bA_some o2]
            exact nI_sub (a := byt0 S q + 48) (b := 48) (by omega) |>.trans (by rw [Nat.add_sub_cancel])
          rw [if_pos (show true = true from rfl), eA, if_neg (nI_neg (by omega)), if_neg (show ¬ (7 : Int32) < nI (byt0 S q) from fun z => by have := (ltI (a := 7) (by decide) (by omega)).mp z; omega), show (8 : Int32) = nI 8 from rfl, pk_mul, nI_add]
        | false =>
          rw [if_neg (show ¬ false = true by decide)]
          rcases o8_no ho with z | ⟨c, z, hc⟩
          · rw [bA_none z, if_pos (by decide)]
          · have hc256 : c < 256 := h8 c (List.mem_of_getElem? z)
            rw [bA_some z]
            rcases hc with y | y
            · rw [if_pos ((by decide +kernel : ∀ c, c < 48 → nI c - 48 < 0) c y)]
            · have e1 : nI c - 48 = nI (c - 48) := nI_sub (b := 48) (by omega)
              rw [e1, if_neg (nI_neg (by omega)), if_pos (show (7 : Int32) < nI (c - 48) from (ltI (a := 7) (by decide) (by omega)).mpr (by omega))]
      have no : ∀ (υ : SG), fT σ υ → REo σ none (some (-1, υ)) := fun υ h => ⟨-1, υ, rfl, h, fun _ => by decide, fun b q z => by cases z⟩
      have hz : x_X7_readEscape_L69 U 1095 K U 0 0 σ = x_X7_readEscape_L69 U 1095 K (V + 7) (nI 0) (nI 0) σ := by rw [← hV]; rfl
      rw [hz, dig 0 0 (V + 6) p σ (by decide) (by omega) hR h4]
      cases o0 : o8 S p with
      | false => rw [if_neg (show ¬ false = true by decide), Bool.false_and, Bool.false_and, Bool.false_and, if_neg (show ¬ false = true by decide)]; exact no σ (fT_refl σ)
      | true =>
        rw [if_pos (show true = true from rfl), dig (0 + 1) _ (V + 5) (p + 1) _ (by decide) (by omega) (RB_fT hR fT_u (by decide) (by decide)) (sI_s _ _ _ _), Bool.true_and]
        cases o1 : o8 S (p + 1) with
        | false => rw [if_neg (show ¬ false = true by decide), Bool.false_and, Bool.false_and, if_neg (show ¬ false = true by decide)]; exact no _ fT_u
        | true =>
          rw [if_pos (show true = true from rfl), dig (0 + 1 + 1) _ (V + 4) (p + 2) _ (by decide) (by omega) (RB_fT (RB_fT hR fT_u (by decide) (by decide)) fT_u (by decide) (by decide)) (sI_s _ _ _ _), Bool.true_and]
          cases o2 : o8 S (p + 2) with
          | false => rw [if_neg (show ¬ false = true by decide), Bool.false_and, if_neg (show ¬ false = true by decide)]; exact no _ (fT_trans fT_u fT_u)
          | true =>
            have b0 := (o8_lt o0).2.2
            have b1' := (o8_lt o1).2.2
            have b2' := (o8_lt o2).2.2
            rw [if_pos (show true = true from rfl), Bool.true_and, x_X7_readEscape_L69, if_neg (show ¬ nI (0 + 1 + 1 + 1) < 3 by decide), ← hK]
            have ev : ((0 * 8 + byt0 S p) * 8 + byt0 S (p + 1)) * 8 + byt0 S (p + 2) = byt0 S p * 64 + byt0 S (p + 1) * 8 + byt0 S (p + 2) := by omega
            simp only
            have e255 : (255 : Int32) < nI (byt0 S p * 64 + byt0 S (p + 1) * 8 + byt0 S (p + 2)) ↔ 255 < byt0 S p * 64 + byt0 S (p + 1) * 8 + byt0 S (p + 2) := ltI (a := 255) (by decide) (by omega)
            rw [ev, ifd e255]
            by_cases q : byt0 S p * 64 + byt0 S (p + 1) * 8 + byt0 S (p + 2) ≤ 255
            · rw [if_neg (show ¬ 255 < byt0 S p * 64 + byt0 S (p + 1) * 8 + byt0 S (p + 2) by omega), decide_eq_true q, if_pos (show true = true from rfl)]
              exact ⟨_, _, rfl, fT_trans (fT_trans fT_u fT_u) fT_u, fun z => (by cases z), fun b q z => by cases z; exact ⟨rfl, sI_s _ _ _ _⟩⟩
            · rw [if_pos (show 255 < byt0 S p * 64 + byt0 S (p + 1) * 8 + byt0 S (p + 2) by omega), decide_eq_false q, if_neg (show ¬ false = true by decide)]
              exact no _ (fT_trans (fT_trans fT_u fT_u) fT_u))
  have hz : x_X7_readEscape_L14 U 1095 (fun w10 => sb (uI σ 1095 4 (nI (p + 1))) fun σ11 => ix w10 (tlen 11) fun j12 => some (tchr 11 j12, σ11)) (x_X7_readEscape_65 U 1095 σ) (bA S p) σ U 0 = x_X7_readEscape_L14 U 1095 (fun w10 => sb (uI σ 1095 4 (nI (p + 1))) fun σ11 => ix w10 (tlen 11) fun j12 => some (tchr 11 j12, σ11)) (x_X7_readEscape_65 U 1095 σ) (bA S p) σ (V + 7) (nI 0) := by rw [← hV]; rfl
  rw [hz]
  exact key
theorem C_tx_L {U a v2 qt : Nat} {S : List Nat} (hU4 : 4000 < U) (hSl : S.length ≤ 700) (hq : qt < 256) (hq2 : qt ≠ 92) {K : SG → Option (Int32 × SG)} : ∀ (j p U1 : Nat) (P : List Nat) (σ : SG), S.length < p + j → j < U1 → p ≤ S.length → P.length + (S.length - p) ≤ 1000 → RB σ 1 S 0 → RB σ 1092 P 0 → sI σ 1095 4 = nI p →
    (txS S qt j p = none → (∃ τ, x_X7_readText_L50 U 1095 K (some a) (nI v2) (nI qt) U1 σ = some (0, τ) ∧ fU σ τ) ∨ ∃ τ P', x_X7_readText_L50 U 1095 K (some a) (nI v2) (nI qt) U1 σ = K τ ∧ fU σ τ ∧ sI τ 1095 4 = nI S.length ∧ RB τ 1092 P' 0) ∧
    ∀ t q, txS S qt j p = some (t, q) → ∃ τ, x_X7_readText_L50 U 1095 K (some a) (nI v2) (nI qt) U1 σ = K τ ∧ fU σ τ ∧ sI τ 1095 4 = nI (q - 1) ∧ RB τ 1092 (P ++ t) 0 ∧ p + t.length < q ∧ q ≤ S.length ∧ ok8 t := by
  intro j
  induction j with
  | zero => intro p U1 P σ hj hu hp; omega
  | succ j ih =>
    intro p U1 P σ hj hu hp hl hR hP h4
    obtain ⟨V, rfl⟩ : ∃ V, U1 = V + 1 := ⟨U1 - 1, by omega⟩
    have h8 : ok8 S := hR.2.2.2.2
    rw [x_X7_readText_L50, X0_size hR, b1_eq, h4, txS]
    by_cases hpe : p = S.length
    · have h0 : S[p]? = none := List.getElem?_eq_none (by omega)
      rw [if_neg (fun z => by have := (ltI (by omega) (by omega)).mp z; omega), h0]
      exact ⟨fun _ => Or.inr ⟨σ, P, rfl, fU_refl σ, by rw [h4, hpe], hP⟩, fun t q z => by cases z⟩
    have hpl : p < S.length := by omega
    have hS := List.getElem?_eq_getElem hpl
    have hc : S[p] < 256 := h8 _ (List.getElem_mem hpl)
    have hA : bA S p = nI S[p] := by unfold bA; rw [hS]
    rw [if_pos ((ltI (by omega) (by omega)).mpr hpl), X0_at hR (by omega), b1_eq, hA, ifd (nI_eq (by omega) (by omega)), b1_eq, sb_eq, nI_1, hS]
    simp only
    by_cases cq : S[p] = qt
    · rw [if_pos cq, if_pos cq]
      refine ⟨fun z => (by cases z), fun t q z => ?_⟩
      cases z
      exact ⟨σ, rfl, fU_refl σ, by rw [Nat.add_sub_cancel]; exact h4, by rw [List.append_nil]; exact hP, by simp, by omega, fun c hc => by cases hc⟩
    rw [if_neg cq, if_neg cq]
    have R1 := RB_fT hR (fT_u (v := nI (p + 1))) (by decide) (by decide)
    have P1 := RB_fT hP (fT_u (v := nI (p + 1))) (by decide) (by decide)
    have a4 : sI (uI σ 1095 4 (nI (p + 1))) 1095 4 = nI (p + 1) := sI_s _ _ _ _
    have F1 : fU σ (uI σ 1095 4 (nI (p + 1))) := fT_fU fT_u
    generalize uI σ 1095 4 (nI (p + 1)) = σ1 at *
    have e92 : nI S[p] = 92 ↔ S[p] = 92 := nI_eq (b := 92) (by omega) (by decide)
    have e32 : nI S[p] < 32 ↔ S[p] < 32 := ltI (b := 32) (by omega) (by decide)
    have e126 : (126 : Int32) < nI S[p] ↔ 126 < S[p] := ltI (a := 126) (by decide) (by omega)
    rw [ifd e92, ifd e32, ifd e126]
    -- one byte more
    have more : ∀ (b q : Nat) (υ : SG), b < 256 → p < q → q ≤ S.length → fU σ υ → RB υ 1 S 0 → RB υ 1092 P 0 → sI υ 1095 4 = nI q →
        (txS S qt j q = none → (∃ τ, x_X7_readText_136 U 1095 (x_X7_readText_L50 U 1095 K (some a) (nI v2) (nI qt) V) K (some a) (nI v2) (nI qt) (nI b) υ = some (0, τ) ∧ fU σ τ) ∨ ∃ τ P', x_X7_readText_136 U 1095 (x_X7_readText_L50 U 1095 K (some a) (nI v2) (nI qt) V) K (some a) (nI v2) (nI qt) (nI b) υ = K τ ∧ fU σ τ ∧ sI τ 1095 4 = nI S.length ∧ RB τ 1092 P' 0) ∧
        ∀ t r, txS S qt j q = some (t, r) → ∃ τ, x_X7_readText_136 U 1095 (x_X7_readText_L50 U 1095 K (some a) (nI v2) (nI qt) V) K (some a) (nI v2) (nI qt) (nI b) υ = K τ ∧ fU σ τ ∧ sI τ 1095 4 = nI (r - 1) ∧ RB τ 1092 (P ++ b :: t) 0 ∧ p + (b :: t).length < r ∧ r ≤ S.length ∧ ok8 (b :: t) := by
      intro b q υ hb hpq hqS hfυ hRυ hPυ h4υ
      unfold x_X7_readText_136
      have ln93 : ln (1092 + 1) = 1000 := by decide
      obtain ⟨ψ, y1, y2, y3⟩ := X0_add (σ := υ) (a := 1092) (x := nI b) hPυ (by rw [ln93]; omega)
      rw [lo8_nI hb] at y2
      have Fψ : fU υ ψ := ⟨fun b h1 h2 h3 => y3 b h2 h3, fun k _ => (y3 1095 (by decide) (by decide) k).1, y2.2.1.trans hPυ.2.1.symm⟩
      rw [if_neg (nI_neg (by omega)), y1, b1_eq]
      have hRψ := hRυ.sm (y3 1 (by decide) (by decide)) (y3 2 (by decide) (by decide))
      have h4ψ : sI ψ 1095 4 = nI q := ((y3 1095 (by decide) (by decide) 4).1).trans h4υ
      obtain ⟨k1, k2⟩ := ih q V (P ++ [b]) ψ (by omega) (by omega) hqS (by rw [List.length_append, List.length_singleton]; omega) hRψ y2 h4ψ
      have FA := fU_trans hfυ Fψ
      refine ⟨fun z => ?_, fun t r z => ?_⟩
      · rcases k1 z with ⟨τ, t1, t2⟩ | ⟨τ, P', t1, t2, t3, t4⟩
        · exact Or.inl ⟨τ, t1, fU_trans FA t2⟩
        · exact Or.inr ⟨τ, P', t1, fU_trans FA t2, t3, t4⟩
      · obtain ⟨τ, t1, t2, t3, t4, t5, t6, t7⟩ := k2 t r z
        refine ⟨τ, t1, fU_trans FA t2, t3, ?_, by rw [List.length_cons]; omega, t6, fun c hc => ?_⟩
        · rw [List.append_assoc] at t4; exact t4
        · rcases List.mem_cons.mp hc with w | w
          · rw [w]; exact hb
          · exact t7 c w
    by_cases c92 : S[p] = 92
    · rw [if_pos c92, if_pos c92]
      obtain ⟨v, τ, e1, e2, e3, e4⟩ := C_escape (U := U) (p := p + 1) hU4 hSl (by omega) R1 a4
      rw [e1, b2_eq]
      cases hes : esS S (p + 1) with
      | none =>
        simp only
        refine ⟨fun _ => Or.inl ⟨τ, ?_, fU_trans F1 (fT_fU e2)⟩, fun t q z => by cases z⟩
        unfold x_X7_readText_136
        rw [if_pos (e3 hes)]
      | some y =>
        obtain ⟨b, q⟩ := y
        obtain ⟨f1, f2⟩ := e4 b q hes
        obtain ⟨l1, l2, l3⟩ := esS_lt hes
        simp only
        have m := more b q τ l3 (by omega) l2 (fU_trans F1 (fT_fU e2)) (RB_fT R1 e2 (by decide) (by decide)) (RB_fT P1 e2 (by decide) (by decide)) f2
        rw [f1]
        refine ⟨fun z => ?_, fun t r z => ?_⟩
        · exact m.1 (by cases h : txS S qt j q with | none => rfl | some y => rw [h] at z; cases z)
        · cases h : txS S qt j q with
          | none => rw [h] at z; cases z
          | some y =>
            rw [h] at z
            cases z
            exact m.2 _ _ h
    · rw [if_neg c92, if_neg c92]
      by_cases c32 : S[p] < 32
      · rw [if_pos c32, if_pos (Or.inl c32)]
        unfold x_X7_readText_135 x_X7_readText_136
        rw [if_pos (by decide)]
        exact ⟨fun _ => Or.inl ⟨σ1, rfl, F1⟩, fun t q z => by cases z⟩
      rw [if_neg c32]
      by_cases c126 : 126 < S[p]
      · rw [if_pos c126, if_pos (Or.inr c126)]
        unfold x_X7_readText_135 x_X7_readText_136
        rw [if_pos (by decide)]
        exact ⟨fun _ => Or.inl ⟨σ1, rfl, F1⟩, fun t q z => by cases z⟩
      rw [if_neg c126, if_neg (fun z => z.elim c32 c126)]
      have m := more S[p] (p + 1) σ1 hc (by omega) (by omega) F1 R1 P1 a4
      refine ⟨fun z => ?_, fun t r z => ?_⟩
      · exact m.1 (by cases h : txS S qt j (p + 1) with | none => rfl | some y => rw [h] at z; cases z)
      · cases h : txS S qt j (p + 1) with
        | none => rw [h] at z; cases z
        | some y =>
          rw [h] at z
          cases z
          exact m.2 _ _ h
