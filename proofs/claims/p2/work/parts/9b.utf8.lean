/-! ===== UTF-8: the spec, the class, the reference ===== -/
def mor (b : Nat) : Nat := if 194 ≤ b ∧ b ≤ 223 then 1 else if 224 ≤ b ∧ b ≤ 239 then 2 else if 240 ≤ b ∧ b ≤ 244 then 3 else 0
def lw2 (b : Nat) : Nat := if b = 224 then 160 else if b = 240 then 144 else 128
def hg2 (b : Nat) : Nat := if b = 237 then 159 else if b = 244 then 143 else 191
def byt (S : List Nat) (p : Nat) : Nat := S.getD p 0
def cnB (c : Nat) : Bool := decide (c / 64 = 2)
/-- what stands at a place begins a character -/
def chr8 (S : List Nat) (q p : Nat) : Bool := decide (mor (byt S p) ≠ 0 ∧ p + mor (byt S p) < q ∧ lw2 (byt S p) ≤ byt S (p + 1) ∧ byt S (p + 1) ≤ hg2 (byt S p) ∧ (2 ≤ mor (byt S p) → cnB (byt S (p + 2)) = true) ∧ (3 ≤ mor (byt S p) → cnB (byt S (p + 3)) = true))
def u8S (S : List Nat) (q : Nat) : Nat → Nat → Bool
  | 0, _ => true
  | j + 1, p => if p < q then (if byt S p < 128 then u8S S q j (p + 1) else if chr8 S q p then u8S S q j (p + mor (byt S p) + 1) else false) else true
theorem bA_byt {S : List Nat} {p : Nat} (h : p < S.length) : bA S p = nI (byt S p) := by
  unfold byt
  rw [bA_some (List.getElem?_eq_getElem h), List.getD_eq_getElem?_getD, List.getElem?_eq_getElem h]
  rfl
theorem byt_lt {S : List Nat} (h8 : ok8 S) {p : Nat} (h : p < S.length) : byt S p < 256 := by
  unfold byt
  rw [List.getD_eq_getElem?_getD, List.getElem?_eq_getElem h]
  exact h8 _ (List.getElem_mem h)
theorem and192 : ∀ c, c < 256 → (nI c &&& 192 = 128 ↔ cnB c = true) := by decide +kernel
theorem mor_le (b : Nat) : mor b ≤ 3 := by
  unfold mor
  split
  · decide
  · split
    · decide
    · split <;> decide
theorem X0_u8_in {U a p q m : Nat} {σ : SG} {S : List Nat} {z : Int32} {K : Option Int32} {v2 : Int32} (hS : RB σ a S z) (hm : m ≤ 3) (hq : p + m < q) (hqS : q ≤ S.length) (hl : S.length ≤ 4000) : ∀ (j k U1 : Nat), k + j = m + 1 → j < U1 → 2 ≤ k →
    ((∀ i, k ≤ i → i ≤ m → cnB (byt S (p + i)) = true) → x_X0_isUtf8_L201 U a K v2 (nI p) (nI m) σ U1 (nI k) = K) ∧ (¬ (∀ i, k ≤ i → i ≤ m → cnB (byt S (p + i)) = true) → x_X0_isUtf8_L201 U a K v2 (nI p) (nI m) σ U1 (nI k) = some 0) := by
  have h8 : ok8 S := hS.2.2.2.2
  intro j
  induction j with
  | zero =>
    intro k U1 hk hu h2
    obtain ⟨V, rfl⟩ : ∃ V, U1 = V + 1 := ⟨U1 - 1, by omega⟩
    rw [x_X0_isUtf8_L201, if_pos ((ltI (by omega) (by omega)).mpr (by omega))]
    exact ⟨fun _ => rfl, fun z => absurd (fun i h1 h3 => by omega) z⟩
  | succ j ih =>
    intro k U1 hk hu h2
    obtain ⟨V, rfl⟩ : ∃ V, U1 = V + 1 := ⟨U1 - 1, by omega⟩
    have hpk : p + k < S.length := by omega
    rw [x_X0_isUtf8_L201, if_neg (fun q => by have := (ltI (by omega) (by omega)).mp q; omega), nI_add, X0_at hS (by omega), b1_eq, bA_byt hpk, ifd (and192 _ (byt_lt h8 hpk)), nI_1]
    by_cases w : cnB (byt S (p + k)) = true
    · rw [if_pos w]
      obtain ⟨i1, i2⟩ := ih (k + 1) V (by omega) (by omega) (by omega)
      refine ⟨fun h => i1 (fun i h1 h3 => h i (by omega) h3), fun h => i2 (fun z => h (fun i h1 h3 => ?_))⟩
      by_cases y : i = k
      · rw [y]; exact w
      · exact z i (by omega) h3
    · rw [if_neg w]
      exact ⟨fun h => absurd (h k (Nat.le_refl _) (by omega)) w, fun _ => rfl⟩
theorem X0_u8_L {U a q : Nat} {σ : SG} {S : List Nat} {z : Int32} (hU : 4000 < U) (hS : RB σ a S z) (hq : q ≤ S.length) : ∀ (j p U1 : Nat), q ≤ p + j → j < U1 → p ≤ q + 4 → x_X0_isUtf8_L2 U a (nI q) σ U1 (nI p) = some (zI (u8S S q j p)) := by
  have h8 : ok8 S := hS.2.2.2.2
  have hl : S.length ≤ 4000 := Nat.le_trans hS.2.2.1 (ln_small _)
  intro j
  induction j with
  | zero =>
    intro p U1 hp hu hpq
    obtain ⟨V, rfl⟩ : ∃ V, U1 = V + 1 := ⟨U1 - 1, by omega⟩
    rw [x_X0_isUtf8_L2, if_neg (fun q => by have := (ltI (by omega) (by omega)).mp q; omega)]
    rfl
  | succ j ih =>
    intro p U1 hp hu hpq
    obtain ⟨V, rfl⟩ : ∃ V, U1 = V + 1 := ⟨U1 - 1, by omega⟩
    rw [x_X0_isUtf8_L2, ifd (ltI (by omega) (by omega)), u8S]
    by_cases hlt : p < q
    · have hpS : p < S.length := by omega
      have hb := byt_lt h8 hpS
      rw [if_pos hlt, if_pos hlt, X0_at hS (by omega), b1_eq, bA_byt hpS, if_neg (nI_neg (by omega)), show (128 : Int32) = nI 128 from rfl, ifd (ltI (by omega) (by decide))]
      by_cases w : byt S p < 128
      · rw [if_pos w, if_pos w]
        unfold x_X0_isUtf8_239
        rw [nI_1]
        exact ih (p + 1) V (by omega) (by omega) (by omega)
      · rw [if_neg w, if_neg w]
        -- the three ends
        have fin : ∀ m lo hi, m = mor (byt S p) → lo = lw2 (byt S p) → hi = hg2 (byt S p) → lo < 256 → hi < 256 → x_X0_isUtf8_157 U a (x_X0_isUtf8_L2 U a (nI q) σ V) (nI q) (nI p) (nI m) (nI lo) (nI hi) σ = some (zI (if chr8 S q p then u8S S q j (p + mor (byt S p) + 1) else false)) := by
          intro m lo hi hm hlo hhi l1 l2
          have hm3 := mor_le (byt S p)
          unfold x_X0_isUtf8_157 x_X0_isUtf8_239
          by_cases m0 : m = 0
          · rw [if_pos (show nI m = 0 by rw [m0]; rfl), if_neg (show ¬ chr8 S q p = true from fun z => (of_decide_eq_true z).1 (by omega))]
            rfl
          rw [if_neg (show ¬ nI m = 0 from fun z => m0 ((nI_eq (b := 0) (by omega) (by decide)).mp z)), nI_add, ifd (ltI (by omega) (by omega))]
          by_cases m1 : p + m < q
          · have hp1 : p + 1 < S.length := by omega
            have hb1 := byt_lt h8 hp1
            rw [if_pos m1, nI_1, X0_at hS (by omega), b1_eq, b1_eq, bA_byt hp1, ifd (ltI (by omega) (by omega)), ifd (ltI (by omega) (by omega))]
            by_cases c1 : byt S (p + 1) < lo
            · rw [if_pos c1, if_neg (show ¬ chr8 S q p = true from fun z => by have := (of_decide_eq_true z).2.2.1; omega)]; rfl
            rw [if_neg c1]
            by_cases c2 : hi < byt S (p + 1)
            · rw [if_pos c2, if_neg (show ¬ chr8 S q p = true from fun z => by have := (of_decide_eq_true z).2.2.2.1; omega)]; rfl
            rw [if_neg c2]
            have hin := X0_u8_in (U := U) (K := x_X0_isUtf8_L2 U a (nI q) σ V (nI (p + m + 1))) (v2 := nI q) hS (show m ≤ 3 by omega) m1 hq hl
            have eq : (∀ i, 2 ≤ i → i ≤ m → cnB (byt S (p + i)) = true) ↔ chr8 S q p = true := by
              unfold chr8
              rw [decide_eq_true_iff]
              constructor
              · intro h
                exact ⟨by omega, by omega, by omega, by omega, fun z => h 2 (by omega) (by omega), fun z => h 3 (by omega) (by omega)⟩
              · rintro ⟨_, _, _, _, k2, k3⟩ i h1 h2
                have : i = 2 ∨ i = 3 := by omega
                rcases this with z | z <;> subst z
                · exact k2 (by omega)
                · exact k3 (by omega)
            have base : ((∀ i, 2 ≤ i → i ≤ m → cnB (byt S (p + i)) = true) → x_X0_isUtf8_L201 U a (x_X0_isUtf8_L2 U a (nI q) σ V (nI (p + m + 1))) (nI q) (nI p) (nI m) σ U 2 = x_X0_isUtf8_L2 U a (nI q) σ V (nI (p + m + 1))) ∧ (¬ (∀ i, 2 ≤ i → i ≤ m → cnB (byt S (p + i)) = true) → x_X0_isUtf8_L201 U a (x_X0_isUtf8_L2 U a (nI q) σ V (nI (p + m + 1))) (nI q) (nI p) (nI m) σ U 2 = some 0) := by
              by_cases m2 : 2 ≤ m
              · exact hin (m - 1) 2 U (by omega) (by omega) (Nat.le_refl _)
              · obtain ⟨V2, hV2⟩ : ∃ V2, U = V2 + 1 := ⟨U - 1, by omega⟩
                rw [hV2, x_X0_isUtf8_L201, if_pos (show nI m < 2 from (ltI (b := 2) (by omega) (by decide)).mpr (by omega))]
                exact ⟨fun _ => rfl, fun z => absurd (fun i h1 h2 => by omega) z⟩
            rw [nI_1]
            by_cases y : chr8 S q p = true
            · rw [base.1 (eq.mpr y), ih (p + m + 1) V (by omega) (by omega) (by omega), if_pos y, hm]
            · rw [base.2 (fun z => y (eq.mp z)), if_neg y]; rfl
          · rw [if_neg m1, if_neg (show ¬ chr8 S q p = true from fun z => by have := (of_decide_eq_true z).2.1; omega)]; rfl
        have f91 : ∀ m, m = mor (byt S p) → x_X0_isUtf8_91 U a (x_X0_isUtf8_L2 U a (nI q) σ V) (nI q) (nI p) (nI (byt S p)) (nI m) σ = some (zI (if chr8 S q p then u8S S q j (p + mor (byt S p) + 1) else false)) := by
          intro m hm
          unfold x_X0_isUtf8_91 x_X0_isUtf8_124
          have e1 : ∀ k, k < 256 → (nI (byt S p) = nI k ↔ byt S p = k) := fun k hk => nI_eq (by omega) (by omega)
          have a1 := e1 224 (by decide)
          have a2 := e1 240 (by decide)
          have a3 := e1 237 (by decide)
          have a4 := e1 244 (by decide)
          unfold lw2 hg2 at fin
          by_cases b1 : byt S p = 224
          · rw [if_pos (show nI (byt S p) = 224 from a1.mpr b1), if_neg (show ¬ nI (byt S p) = 237 from fun z => by have := a3.mp z; omega), if_neg (show ¬ nI (byt S p) = 244 from fun z => by have := a4.mp z; omega)]
            exact fin m 160 191 hm (by rw [if_pos b1]) (by rw [if_neg (by omega), if_neg (by omega)]) (by decide) (by decide)
          rw [if_neg (show ¬ nI (byt S p) = 224 from fun z => b1 (a1.mp z))]
          by_cases b2 : byt S p = 240
          · rw [if_pos (show nI (byt S p) = 240 from a2.mpr b2), if_neg (show ¬ nI (byt S p) = 237 from fun z => by have := a3.mp z; omega), if_neg (show ¬ nI (byt S p) = 244 from fun z => by have := a4.mp z; omega)]
            exact fin m 144 191 hm (by rw [if_neg b1, if_pos b2]) (by rw [if_neg (by omega), if_neg (by omega)]) (by decide) (by decide)
          rw [if_neg (show ¬ nI (byt S p) = 240 from fun z => b2 (a2.mp z))]
          by_cases b3 : byt S p = 237
          · rw [if_pos (show nI (byt S p) = 237 from a3.mpr b3)]
            exact fin m 128 159 hm (by rw [if_neg b1, if_neg b2]) (by rw [if_pos b3]) (by decide) (by decide)
          rw [if_neg (show ¬ nI (byt S p) = 237 from fun z => b3 (a3.mp z))]
          by_cases b4 : byt S p = 244
          · rw [if_pos (show nI (byt S p) = 244 from a4.mpr b4)]
            exact fin m 128 143 hm (by rw [if_neg b1, if_neg b2]) (by rw [if_neg b3, if_pos b4]) (by decide) (by decide)
          · rw [if_neg (show ¬ nI (byt S p) = 244 from fun z => b4 (a4.mp z))]
            exact fin m 128 191 hm (by rw [if_neg b1, if_neg b2]) (by rw [if_neg b3, if_neg b4]) (by decide) (by decide)
        unfold x_X0_isUtf8_30 x_X0_isUtf8_50 x_X0_isUtf8_70 x_X0_isUtf8_90
        have l1 : ∀ k, k < 256 → (nI (byt S p) < nI k ↔ byt S p < k) := fun k hk => ltI (by omega) (by omega)
        have l2 : ∀ k, k < 256 → (nI k < nI (byt S p) ↔ k < byt S p) := fun k hk => ltI (by omega) (by omega)
        have c1 : nI (byt S p) < 194 ↔ byt S p < 194 := l1 194 (by decide)
        have c2 : (223 : Int32) < nI (byt S p) ↔ 223 < byt S p := l2 223 (by decide)
        have c3 : nI (byt S p) < 224 ↔ byt S p < 224 := l1 224 (by decide)
        have c4 : (239 : Int32) < nI (byt S p) ↔ 239 < byt S p := l2 239 (by decide)
        have c5 : nI (byt S p) < 240 ↔ byt S p < 240 := l1 240 (by decide)
        have c6 : (244 : Int32) < nI (byt S p) ↔ 244 < byt S p := l2 244 (by decide)
        by_cases d1 : byt S p < 194
        · rw [if_pos (c1.mpr d1), if_pos (c3.mpr (by omega)), if_pos (c5.mpr (by omega))]
          exact f91 0 (by unfold mor; rw [if_neg (by omega), if_neg (by omega), if_neg (by omega)])
        rw [if_neg (fun z => d1 (c1.mp z))]
        by_cases d2 : 223 < byt S p
        · rw [if_pos (c2.mpr d2), if_neg (fun z => by have := c3.mp z; omega)]
          by_cases d3 : 239 < byt S p
          · rw [if_pos (c4.mpr d3), if_neg (fun z => by have := c5.mp z; omega)]
            by_cases d4 : 244 < byt S p
            · rw [if_pos (c6.mpr d4)]; exact f91 0 (by unfold mor; rw [if_neg (by omega), if_neg (by omega), if_neg (by omega)])
            · rw [if_neg (fun z => d4 (c6.mp z))]; exact f91 3 (by unfold mor; rw [if_neg (by omega), if_neg (by omega), if_pos (by omega)])
          · rw [if_neg (fun z => d3 (c4.mp z))]; exact f91 2 (by unfold mor; rw [if_neg (by omega), if_pos (by omega)])
        · rw [if_neg (fun z => d2 (c2.mp z))]; exact f91 1 (by unfold mor; rw [if_pos (by omega)])
    · rw [if_neg hlt, if_neg hlt]; rfl
/-- a text is UTF-8 -/
def u8T (S : List Nat) (p q : Nat) : Bool := u8S S q (q - p) p
theorem X0_isUtf8 {U a p q : Nat} {σ : SG} {S : List Nat} {z : Int32} (hU : 4000 < U) (hS : RB σ a S z) (hpq : p ≤ q) (hq : q ≤ S.length) : x_X0_isUtf8 U a (nI p) (nI q) σ = some (zI (u8T S p q)) := by
  have hl : S.length ≤ 4000 := Nat.le_trans hS.2.2.1 (ln_small _)
  unfold x_X0_isUtf8 u8T
  exact X0_u8_L hU hS hq (q - p) p U (by omega) (by omega) (by omega)
