/-! ===== the reference reads numbers of the wire ===== -/
/-- what reading a number touches -/
def PN (b k : Nat) : Prop := b = 1101 ∧ (k = 107 ∨ k = 108 ∨ k = 109)
/-- the outcome of the reference's reading -/
def OR9 (σ : SG) (o : Option (Int64 × Nat)) (x : Option SG) : Prop := ∃ τ, x = some τ ∧ fP PN σ τ ∧ (∀ v p, o = some (v, p) → sI τ 1101 107 = 0 ∧ sL τ 1101 108 = v ∧ sI τ 1101 109 = nI p) ∧ (o = none → ¬ sI τ 1101 107 = 0)
theorem OR9_from {σ τ : SG} {o : Option (Int64 × Nat)} {x : Option SG} (hf : fP PN σ τ) (h : OR9 τ o x) : OR9 σ o x := by obtain ⟨υ, a, b, c⟩ := h; exact ⟨υ, a, fP_trans hf b, c⟩
theorem sh63 : ∀ b, b < 256 → lshl9 (lN (b % 128)) (nI 63) = if nI b &&& 1 = 0 then 0 else lshl9 (Int32.toInt64 (nI b &&& 1)) (nI 63) := by decide +kernel
theorem and127' : ∀ b, b < 256 → Int32.toInt64 (nI b &&& 127) = lN (b % 128) := by decide +kernel
theorem N_var_L {U e : Nat} {S : List Nat} (he : e ≤ S.length) (h8 : ok8 S) (hSl : S.length ≤ 700) : ∀ (j k p U1 : Nat) (σ : SG) (x : Int64), j + k = 10 → j < U1 → p ≤ e → RI σ 1102 S → sI σ 1101 109 = nI p → sL σ 1101 108 = x → sI σ 1101 107 = 0 →
    OR9 σ (vrN S e j k p x) (x_X12_takeVarint_L7 U 1101 (fun σ14 => sb (uI σ14 1101 107 1) fun σ15 => some σ15) (fun σ16 => sb (uI σ16 1101 107 1) fun σ17 => some σ17) (nI e) U1 (nI k) σ) := by
  have bad : ∀ σ, OR9 σ none (sb (uI σ 1101 107 1) fun σ15 => some σ15) := fun σ => ⟨_, rfl, fP_u ⟨rfl, Or.inl rfl⟩, fun v p h => (by cases h), fun _ => by rw [sI_s]; decide⟩
  intro j
  induction j with
  | zero =>
    intro k p U1 σ x hk hu hp hS h9 h8' h7
    obtain ⟨V, rfl⟩ : ∃ V, U1 = V + 1 := ⟨U1 - 1, by omega⟩
    rw [x_X12_takeVarint_L7, show (10 : Int32) = nI 10 from rfl, if_neg (fun z => by have := (ltI (by omega) (by decide)).mp z; omega)]
    exact bad σ
  | succ j ih =>
    intro k p U1 σ x hk hu hp hS h9 h8' h7
    obtain ⟨V, rfl⟩ : ∃ V, U1 = V + 1 := ⟨U1 - 1, by omega⟩
    rw [x_X12_takeVarint_L7, show (10 : Int32) = nI 10 from rfl, if_pos ((ltI (by omega) (by decide)).mpr (by omega)), h9, ifd (ltI (by omega) (by omega)), vrN]
    by_cases q : p < e
    · have hpl : p < S.length := by omega
      have hb := List.getElem?_eq_getElem hpl
      have h256 := h8 _ (List.getElem_mem hpl)
      rw [if_pos q, if_pos q, ix_in (by omega) (by decide), sb_eq, nI_1, hS _ _ hb, hb]
      simp only
      have lt : nI S[p] < 128 ↔ S[p] < 128 := ltI (b := 128) (by omega) (by decide)
      -- the number then
      have fin : ∀ (υ : SG), fP PN σ υ → RI υ 1102 S → sI υ 1101 109 = nI (p + 1) → sL υ 1101 108 = x ||| lshl9 (lN (S[p] % 128)) (nI (7 * k)) → sI υ 1101 107 = 0 → OR9 σ (if S[p] < 128 then some (x ||| lshl9 (lN (S[p] % 128)) (nI (7 * k)), p + 1) else vrN S e j (k + 1) (p + 1) (x ||| lshl9 (lN (S[p] % 128)) (nI (7 * k)))) (x_X12_takeVarint_88 U 1101 (x_X12_takeVarint_L7 U 1101 (fun σ14 => sb (uI σ14 1101 107 1) fun σ15 => some σ15) (fun σ16 => sb (uI σ16 1101 107 1) fun σ17 => some σ17) (nI e) V) (fun σ14 => sb (uI σ14 1101 107 1) fun σ15 => some σ15) (fun σ16 => sb (uI σ16 1101 107 1) fun σ17 => some σ17) (nI e) (nI k) (nI S[p]) υ) := by
        intro υ f1 r1 a9 a8 a7
        unfold x_X12_takeVarint_88
        rw [ifd lt, nI_1]
        by_cases w : S[p] < 128
        · rw [if_pos w, if_pos w]
          exact ⟨υ, rfl, f1, fun v p' h => (by cases h; exact ⟨a7, a8, a9⟩), fun h => by cases h⟩
        · rw [if_neg w, if_neg w]
          exact OR9_from f1 (ih (k + 1) (p + 1) V υ _ (by omega) (by omega) (by omega) r1 a9 a8 a7)
      have f0 : fP PN σ (uI σ 1101 109 (nI (p + 1))) := fP_u ⟨rfl, Or.inr (Or.inr rfl)⟩
      have r0 : RI (uI σ 1101 109 (nI (p + 1))) 1102 S := hS.sm (sm_uI (by decide))
      have st : ∀ (m : Int32), m = 127 ∧ k < 9 ∨ (m = 1 ∧ k = 9 ∧ ¬ nI S[p] &&& 1 = 0) → OR9 σ (if S[p] < 128 then some (x ||| lshl9 (lN (S[p] % 128)) (nI (7 * k)), p + 1) else vrN S e j (k + 1) (p + 1) (x ||| lshl9 (lN (S[p] % 128)) (nI (7 * k)))) (x_X12_takeVarint_77 U 1101 (x_X12_takeVarint_L7 U 1101 (fun σ14 => sb (uI σ14 1101 107 1) fun σ15 => some σ15) (fun σ16 => sb (uI σ16 1101 107 1) fun σ17 => some σ17) (nI e) V) (fun σ14 => sb (uI σ14 1101 107 1) fun σ15 => some σ15) (fun σ16 => sb (uI σ16 1101 107 1) fun σ17 => some σ17) (nI e) (nI k) (nI S[p]) m (nI S[p]) x (uI σ 1101 109 (nI (p + 1)))) := by
        intro m hm
        unfold x_X12_takeVarint_77
        rw [sb_eq, show (7 : Int32) = nI 7 from rfl, pk_mul]
        refine fin _ (fP_trans f0 (fP_L ⟨rfl, Or.inr (Or.inl rfl)⟩)) (r0.sm (sm_uL (by decide))) (by rw [sI_uL, sI_s]) ?_ (by rw [sI_uL, sI_o (Or.inr (by decide))]; exact h7)
        rw [sL_s]
        rcases hm with ⟨m1, m2⟩ | ⟨m1, m2, m3⟩
        · rw [m1, and127' _ h256]
        · have := sh63 _ h256
          rw [if_neg m3] at this
          rw [m1, m2, show 7 * 9 = 63 from rfl, this]
      have k9 : nI k < 9 ↔ k < 9 := ltI (b := 9) (by omega) (by decide)
      unfold x_X12_takeVarint_59
      rw [sL_uI, h8']
      by_cases hk9 : k < 9
      · rw [if_pos (k9.mpr hk9), if_pos (k9.mpr hk9)]
        exact st 127 (Or.inl ⟨rfl, hk9⟩)
      · have hk9' : k = 9 := by omega
        rw [if_neg (fun z => hk9 (k9.mp z)), if_neg (fun z => hk9 (k9.mp z))]
        by_cases hodd : nI S[p] &&& 1 = 0
        · rw [if_pos hodd]
          refine fin _ f0 r0 (sI_s _ _ _ _) ?_ (by rw [sI_o (Or.inr (by decide))]; exact h7)
          have := sh63 _ h256
          rw [if_pos hodd] at this
          rw [sL_uI, h8', hk9', show 7 * 9 = 63 from rfl, this, Int64.or_zero]
        · rw [if_neg hodd]
          exact st 1 (Or.inr ⟨rfl, hk9', hodd⟩)
    · rw [if_neg q, if_neg q]
      exact bad σ
theorem N_var {U p e : Nat} {S : List Nat} {σ : SG} (hU4 : 4000 < U) (hL : LR σ S) (he : e ≤ S.length) (hp : p ≤ e) (h9 : sI σ 1101 109 = nI p) (h7 : sI σ 1101 107 = 0) : OR9 σ (rdN S 0 p e) (x_X12_takeVarint U 1101 (nI e) σ) := by
  unfold x_X12_takeVarint rdN
  rw [sb_eq, if_pos rfl]
  exact OR9_from (fP_L ⟨rfl, Or.inr (Or.inl rfl)⟩) (N_var_L he hL.2.2.2 hL.2.2.1 10 0 p U (uL σ 1101 108 0) 0 (by omega) (by omega) hp (hL.2.1.sm (sm_uL (by decide))) h9 (sL_s _ _ _ _) h7)
theorem fxN_no {S : List Nat} {e : Nat} : ∀ (j k p : Nat) (x : Int64), 0 < j → e < p + j → p ≤ e → fxN S e j k p x = none := by
  intro j
  induction j with
  | zero => intro k p x h; omega
  | succ j ih =>
    intro k p x _ h hp
    rw [fxN]
    by_cases q : p < e
    · rw [if_pos q]
      cases S[p]? with
      | none => rfl
      | some b =>
        simp only
        rw [if_neg (by omega)]
        exact ih (k + 1) (p + 1) _ (by omega) (by omega) (by omega)
    · rw [if_neg q]
theorem N_fix_L {U e w p : Nat} {S : List Nat} {K : SG → Option SG} (he : e ≤ S.length) (h8 : ok8 S) (hSl : S.length ≤ 700) (hpw : p + w ≤ e) (hw : w < 10) : ∀ (j k U1 : Nat) (σ : SG) (x : Int64), j + k = w → 0 < j → j < U1 → RI σ 1102 S → sI σ 1101 109 = nI p → sL σ 1101 108 = x →
    ∃ v τ, fxN S e j k (p + k) x = some (v, p + w) ∧ x_X12_takeFixed_L23 U 1101 K (nI w) U1 (nI k) σ = K τ ∧ fP (fun b k => b = 1101 ∧ k = 108) σ τ ∧ sL τ 1101 108 = v := by
  intro j
  induction j with
  | zero => intro k U1 σ x hk h; omega
  | succ j ih =>
    intro k U1 σ x hk _ hu hS h9 hx
    obtain ⟨V, rfl⟩ : ∃ V, U1 = V + 1 := ⟨U1 - 1, by omega⟩
    have hpl : p + k < S.length := by omega
    have hb := List.getElem?_eq_getElem hpl
    have h256 := h8 _ (List.getElem_mem hpl)
    rw [x_X12_takeFixed_L23, if_pos ((ltI (by omega) (by omega)).mpr (by omega)), h9, nI_add, ix_in (by omega) (by decide), sb_eq, hS _ _ hb, hx, nI_l (by omega), show (8 : Int32) = nI 8 from rfl, pk_mul, nI_1, fxN, if_pos (by omega), hb]
    simp only
    have f1 : fP (fun b k => b = 1101 ∧ k = 108) σ (uL σ 1101 108 (x ||| lshl9 (lN S[p + k]) (nI (8 * k)))) := fP_L ⟨rfl, rfl⟩
    by_cases z : j = 0
    · subst z
      rw [if_pos rfl]
      obtain ⟨V2, hV2⟩ : ∃ V2, V = V2 + 1 := ⟨V - 1, by omega⟩
      refine ⟨_, _, ?_, ?_, f1, sL_s _ _ _ _⟩
      · rw [show p + k + 1 = p + w by omega]
      · rw [hV2, x_X12_takeFixed_L23, if_neg (fun q => by have := (ltI (by omega) (by omega)).mp q; omega)]
    · rw [if_neg z]
      obtain ⟨v, τ, t1, t2, t3, t4⟩ := ih (k + 1) V (uL σ 1101 108 (x ||| lshl9 (lN S[p + k]) (nI (8 * k)))) _ (by omega) (by omega) (by omega) (hS.sm (sm_uL (by decide))) h9 (sL_s _ _ _ _)
      exact ⟨v, τ, t1, t2, fP_trans f1 t3, t4⟩
theorem N_fix {U p e w q : Nat} {S : List Nat} {σ : SG} (hU4 : 4000 < U) (hL : LR σ S) (he : e ≤ S.length) (hp : p ≤ e) (h9 : sI σ 1101 109 = nI p) (h7 : sI σ 1101 107 = 0) (hq : q = 1 ∧ w = 8 ∨ q = 5 ∧ w = 4) : OR9 σ (rdN S q p e) (x_X12_takeFixed U 1101 (nI w) (nI e) σ) := by
  have hSl := hL.2.2.1
  have er : rdN S q p e = fxN S e w 0 p 0 := by
    unfold rdN
    rcases hq with ⟨a, b⟩ | ⟨a, b⟩ <;> subst a <;> subst b <;> rfl
  rw [er]
  unfold x_X12_takeFixed
  rw [sb_eq, sI_uL, h9, nI_add, ifd (ltI (by omega) (by omega))]
  have f0 : fP PN σ (uL σ 1101 108 0) := fP_L ⟨rfl, Or.inr (Or.inl rfl)⟩
  by_cases z : e < p + w
  · rw [if_pos z, sb_eq, fxN_no w 0 p 0 (by omega) z hp]
    exact ⟨_, rfl, fP_trans f0 (fP_u ⟨rfl, Or.inl rfl⟩), fun v p h => (by cases h), fun _ => by rw [sI_s]; decide⟩
  · rw [if_neg z]
    obtain ⟨v, τ, t1, t2, t3, t4⟩ := N_fix_L (U := U) (p := p) (w := w) (K := fun σ10 => sb (uI σ10 1101 109 ((sI σ10 1101 109) + nI w)) fun σ11 => some σ11) he hL.2.2.2 hSl (by omega) (by omega) w 0 U (uL σ 1101 108 0) 0 (by omega) (by omega) (by omega) (hL.2.1.sm (sm_uL (by decide))) h9 (sL_s _ _ _ _)
    have t2' := t2
    rw [show nI 0 = 0 from rfl] at t2'
    have a9 : sI τ 1101 109 = nI p := ((t3 1101 109 (by decide)).1).trans h9
    have a7 : sI τ 1101 107 = 0 := ((t3 1101 107 (by decide)).1).trans h7
    rw [t2', sb_eq, a9, nI_add]
    have t1' : fxN S e w 0 p 0 = some (v, p + w) := t1
    rw [t1']
    refine ⟨_, rfl, fP_trans f0 (fP_trans (fP_mono t3 (fun b k y => ⟨y.1, Or.inr (Or.inl y.2)⟩)) (fP_u ⟨rfl, Or.inr (Or.inr rfl)⟩)), fun v' p' h => ?_, fun h => by cases h⟩
    cases h
    exact ⟨by rw [sI_o (Or.inr (by decide))]; exact a7, t4, sI_s _ _ _ _⟩
theorem N_one {U p e q : Nat} {S : List Nat} {σ : SG} (hU4 : 4000 < U) (hL : LR σ S) (he : e ≤ S.length) (hp : p ≤ e) (h9 : sI σ 1101 109 = nI p) (h7 : sI σ 1101 107 = 0) (hq : q = 0 ∨ q = 1 ∨ q = 5) : OR9 σ (rdN S q p e) (x_X12_takeOne U 1101 (nI q) (nI e) σ) := by
  unfold x_X12_takeOne x_X12_takeOne_24
  rcases hq with z | z | z <;> subst z
  · rw [if_pos (show nI 0 = 0 from rfl), b1_id]
    exact N_var hU4 hL he hp h9 h7
  · rw [if_neg (show ¬ nI 1 = 0 by decide), if_pos (show nI 1 = 1 from rfl), b1_id]
    exact N_fix hU4 hL he hp h9 h7 (Or.inl ⟨rfl, rfl⟩)
  · rw [if_neg (show ¬ nI 5 = 0 by decide), if_neg (show ¬ nI 5 = 1 by decide), b1_id]
    exact N_fix hU4 hL he hp h9 h7 (Or.inr ⟨rfl, rfl⟩)
theorem N_valueFor {t : Nat} (ht : t ≤ 14) (x : Int64) : x_X12_valueFor (nI t) x = some (mng t x) := by
  rw [← X9_meaning ht x]
  have : t = 0 ∨ t = 1 ∨ t = 2 ∨ t = 3 ∨ t = 4 ∨ t = 5 ∨ t = 6 ∨ t = 7 ∨ t = 8 ∨ t = 9 ∨ t = 10 ∨ t = 11 ∨ t = 12 ∨ t = 13 ∨ t = 14 := by omega
  rcases this with z | z | z | z | z | z | z | z | z | z | z | z | z | z | z <;> subst z <;> rfl
/-! ===== UTF-8: the reference ===== -/
theorem and63 {c : Nat} (h : c < 256) : nI c &&& 63 = nI (c % 64) := pk_andN (by omega) 6 (by decide)
/-- the code of a character, from its first byte's bits on -/
def cdU (S : List Nat) (p : Nat) : Nat → Nat → Nat → Nat
  | 0, _, x => x
  | j + 1, k, x => cdU S p j (k + 1) (64 * x + byt S (p + k) % 64)
theorem N_u8_in {U m : Nat} {σ : SG} {P : List Nat} {p : Nat} {K : Int32 → Option Int32} {v1 v2 : Int32} (hP : RI σ 1175 P) (h8 : ok8 P) (hl : P.length ≤ 700) (hpm : p + m < P.length) : ∀ (j k U1 x : Nat), k + j = m + 1 → j < U1 → j ≤ 3 → x < 2 ^ (30 - 6 * j) →
    ((∀ i, k ≤ i → i ≤ m → cnB (byt P (p + i)) = true) → x_X12_isUtf8_L133 U 1101 K v1 v2 (nI p) (nI m) σ U1 (nI x) (nI k) = K (nI (cdU P p j k x))) ∧ (¬ (∀ i, k ≤ i → i ≤ m → cnB (byt P (p + i)) = true) → x_X12_isUtf8_L133 U 1101 K v1 v2 (nI p) (nI m) σ U1 (nI x) (nI k) = some 0) := by
  intro j
  induction j with
  | zero =>
    intro k U1 x hk hu h3 hx
    obtain ⟨V, rfl⟩ : ∃ V, U1 = V + 1 := ⟨U1 - 1, by omega⟩
    rw [x_X12_isUtf8_L133, if_pos ((ltI (by omega) (by omega)).mpr (by omega))]
    exact ⟨fun _ => rfl, fun z => absurd (fun i h1 h3 => by omega) z⟩
  | succ j ih =>
    intro k U1 x hk hu h3 hx
    obtain ⟨V, rfl⟩ : ∃ V, U1 = V + 1 := ⟨U1 - 1, by omega⟩
    have hpk : p + k < P.length := by omega
    have hb := byt_lt h8 hpk
    have hcell : sI σ 1175 (p + k) = nI (byt P (p + k)) := by
      unfold byt
      rw [hP _ _ (List.getElem?_eq_getElem hpk), List.getD_eq_getElem?_getD, List.getElem?_eq_getElem hpk]
      try rfl
    rw [x_X12_isUtf8_L133, if_neg (fun q => by have := (ltI (by omega) (by omega)).mp q; omega), nI_add, ix_in (by omega) (by decide), ix_in (by omega) (by decide), hcell, ifd (and192 _ hb), and63 hb, show (64 : Int32) = nI 64 from rfl, pk_mul, nI_add, nI_1]
    by_cases w : cnB (byt P (p + k)) = true
    · rw [if_pos w]
      have hx' : 64 * x + byt P (p + k) % 64 < 2 ^ (30 - 6 * j) := by
        have e1 : 2 ^ (30 - 6 * j) = 2 ^ (30 - 6 * (j + 1)) * 64 := by
          rw [show 30 - 6 * j = (30 - 6 * (j + 1)) + 6 by omega, Nat.pow_add]
        have := Nat.mod_lt (byt P (p + k)) (show 0 < 64 by decide)
        omega
      obtain ⟨i1, i2⟩ := ih (k + 1) V (64 * x + byt P (p + k) % 64) (by omega) (by omega) (by omega) hx'
      refine ⟨fun h => ?_, fun h => i2 (fun z => h (fun i h1 h3 => ?_))⟩
      · rw [i1 (fun i h1 h3 => h i (by omega) h3), cdU]
      · by_cases y : i = k
        · rw [y]; exact w
        · exact z i (by omega) h3
    · rw [if_neg w]
      exact ⟨fun h => absurd (h k (Nat.le_refl _) (by omega)) w, fun _ => rfl⟩
/-- which codes are characters, by the first two bytes -/
theorem code2 {b c e : Nat} (hb : 224 ≤ b ∧ b ≤ 239) (hc : 128 ≤ c ∧ c ≤ 191) (he : 128 ≤ e ∧ e ≤ 191) : (¬ 64 * (64 * (b % 16) + c % 64) + e % 64 < 2048 ∧ (64 * (64 * (b % 16) + c % 64) + e % 64 < 55296 ∨ 57343 < 64 * (64 * (b % 16) + c % 64) + e % 64)) ↔ lw2 b ≤ c ∧ c ≤ hg2 b := by
  unfold lw2 hg2
  split
  · rw [if_neg (by omega), if_neg (by omega)]; omega
  · rw [if_neg (by omega)]
    split
    · omega
    · rw [if_neg (by omega)]; omega
theorem code3 {b c e g : Nat} (hb : 240 ≤ b ∧ b ≤ 244) (hc : 128 ≤ c ∧ c ≤ 191) (he : 128 ≤ e ∧ e ≤ 191) (hg : 128 ≤ g ∧ g ≤ 191) : (¬ 64 * (64 * (64 * (b % 8) + c % 64) + e % 64) + g % 64 < 65536 ∧ ¬ 1114111 < 64 * (64 * (64 * (b % 8) + c % 64) + e % 64) + g % 64) ↔ lw2 b ≤ c ∧ c ≤ hg2 b := by
  unfold lw2 hg2
  rw [if_neg (by omega)]
  split
  · rw [if_neg (by omega), if_neg (by omega)]; omega
  · rw [if_neg (by omega)]
    split
    · omega
    · omega
theorem cnB_of {c : Nat} (h : cnB c = true) : 128 ≤ c ∧ c ≤ 191 := by
  have := of_decide_eq_true h
  omega
theorem of_cnB {c : Nat} (h : 128 ≤ c ∧ c ≤ 191) : cnB c = true := decide_eq_true (by omega)
theorem lw_hg {b c : Nat} (h1 : lw2 b ≤ c) (h2 : c ≤ hg2 b) : 128 ≤ c ∧ c ≤ 191 := by
  unfold lw2 at h1
  unfold hg2 at h2
  split at h1 <;> split at h2 <;> (try split at h1) <;> (try split at h2) <;> omega
theorem N_u8_L {U f q : Nat} {σ : SG} {P : List Nat} (hU4 : 4000 < U) (hP : RI σ 1175 P) (h8 : ok8 P) (hl : P.length ≤ 700) (hf : f ≤ q) (hq : q ≤ P.length) : ∀ (j p U1 : Nat), q ≤ p + j → j < U1 → p ≤ q + 4 → x_X12_isUtf8_L2 U 1101 (nI f) (nI (q - f)) σ U1 (nI p) = some (zI (u8S P q j p)) := by
  intro j
  induction j with
  | zero =>
    intro p U1 hp hu hpq
    obtain ⟨V, rfl⟩ : ∃ V, U1 = V + 1 := ⟨U1 - 1, by omega⟩
    rw [x_X12_isUtf8_L2, nI_add, show f + (q - f) = q by omega, if_neg (fun q => by have := (ltI (by omega) (by omega)).mp q; omega)]
    try rfl
  | succ j ih =>
    intro p U1 hp hu hpq
    obtain ⟨V, rfl⟩ : ∃ V, U1 = V + 1 := ⟨U1 - 1, by omega⟩
    rw [x_X12_isUtf8_L2, nI_add, show f + (q - f) = q by omega, ifd (ltI (by omega) (by omega)), u8S]
    by_cases hlt : p < q
    · have hpS : p < P.length := by omega
      have hb := byt_lt h8 hpS
      have hcell : sI σ 1175 p = nI (byt P p) := by
        unfold byt
        rw [hP _ _ (List.getElem?_eq_getElem hpS), List.getD_eq_getElem?_getD, List.getElem?_eq_getElem hpS]
        try rfl
      have l1 : ∀ k, k < 256 → (nI (byt P p) < nI k ↔ byt P p < k) := fun k hk => ltI (by omega) (by omega)
      have l2 : ∀ k, k < 256 → (nI k < nI (byt P p) ↔ k < byt P p) := fun k hk => ltI (by omega) (by omega)
      rw [if_pos hlt, if_pos hlt, ix_in (by omega) (by decide), hcell]
      -- a character of m more bytes
      have go : ∀ m x0, m ≤ 3 → x0 < 128 → (nI p + nI m < nI f + nI (q - f) ↔ p + m < q) → ((p + m < q) → ((∀ i, 1 ≤ i → i ≤ m → cnB (byt P (p + i)) = true) → x_X12_isUtf8_128 U 1101 (x_X12_isUtf8_L2 U 1101 (nI f) (nI (q - f)) σ V) (nI f) (nI (q - f)) (nI p) (nI m) (nI x0) σ = (if m < 2 then (x_X12_isUtf8_213 U 1101 (x_X12_isUtf8_L2 U 1101 (nI f) (nI (q - f)) σ V) (nI f) (nI (q - f)) (nI p) (nI m) (nI (cdU P p m 1 x0)) σ) else if m = 2 then (x_X12_isUtf8_210 U 1101 (x_X12_isUtf8_L2 U 1101 (nI f) (nI (q - f)) σ V) (nI f) (nI (q - f)) (nI p) (nI m) (nI (cdU P p m 1 x0)) 2048 (nI (cdU P p m 1 x0)) σ) else (x_X12_isUtf8_210 U 1101 (x_X12_isUtf8_L2 U 1101 (nI f) (nI (q - f)) σ V) (nI f) (nI (q - f)) (nI p) (nI m) (nI (cdU P p m 1 x0)) 65536 (nI (cdU P p m 1 x0)) σ))) ∧ (¬ (∀ i, 1 ≤ i → i ≤ m → cnB (byt P (p + i)) = true) → x_X12_isUtf8_128 U 1101 (x_X12_isUtf8_L2 U 1101 (nI f) (nI (q - f)) σ V) (nI f) (nI (q - f)) (nI p) (nI m) (nI x0) σ = some 0)) := by
        intro m x0 hm hx0 _ hpm
        unfold x_X12_isUtf8_128
        obtain ⟨i1, i2⟩ := N_u8_in (U := U) (K := fun w20 => if nI m < 2 then (x_X12_isUtf8_213 U 1101 (x_X12_isUtf8_L2 U 1101 (nI f) (nI (q - f)) σ V) (nI f) (nI (q - f)) (nI p) (nI m) w20 σ) else (if nI m = 2 then (x_X12_isUtf8_210 U 1101 (x_X12_isUtf8_L2 U 1101 (nI f) (nI (q - f)) σ V) (nI f) (nI (q - f)) (nI p) (nI m) w20 2048 w20 σ) else (x_X12_isUtf8_210 U 1101 (x_X12_isUtf8_L2 U 1101 (nI f) (nI (q - f)) σ V) (nI f) (nI (q - f)) (nI p) (nI m) w20 65536 w20 σ))) (v1 := nI f) (v2 := nI (q - f)) hP h8 hl (show p + m < P.length by omega) m 1 U x0 (by omega) (by omega) hm (by
          have : 2 ^ 12 ≤ 2 ^ (30 - 6 * m) := Nat.pow_le_pow_right (by decide) (by omega)
          omega)
        have m2 : nI m < 2 ↔ m < 2 := ltI (b := 2) (by omega) (by decide)
        have e2 : nI m = 2 ↔ m = 2 := nI_eq (b := 2) (by omega) (by decide)
        refine ⟨fun h => ?_, fun h => ?_⟩
        · have := i1 h
          rw [ifd m2, ifd e2] at this
          exact this
        · exact i2 h
      -- the last tests
      have k2 : ∀ m, m ≤ 3 → x_X12_isUtf8_L2 U 1101 (nI f) (nI (q - f)) σ V (nI p + (nI m + 1)) = x_X12_isUtf8_L2 U 1101 (nI f) (nI (q - f)) σ V (nI (p + m + 1)) := fun m hm => by rw [nI_1, nI_add, show p + (m + 1) = p + m + 1 by omega]
      have t241 : ∀ m x, m ≤ 3 → x < 2 ^ 31 → x_X12_isUtf8_241 U 1101 (x_X12_isUtf8_L2 U 1101 (nI f) (nI (q - f)) σ V) (nI f) (nI (q - f)) (nI p) (nI m) (nI x) σ = if 1114111 < x then some 0 else x_X12_isUtf8_L2 U 1101 (nI f) (nI (q - f)) σ V (nI (p + m + 1)) := fun m x hm hx => by
        unfold x_X12_isUtf8_241
        rw [ifd (show (1114111 : Int32) < nI x ↔ 1114111 < x from ltI (a := 1114111) (by decide) hx), k2 m hm]
      have t213 : ∀ m x, m ≤ 3 → x < 2 ^ 31 → x_X12_isUtf8_213 U 1101 (x_X12_isUtf8_L2 U 1101 (nI f) (nI (q - f)) σ V) (nI f) (nI (q - f)) (nI p) (nI m) (nI x) σ = if (x < 55296 ∨ 57343 < x) ∧ ¬ 1114111 < x then x_X12_isUtf8_L2 U 1101 (nI f) (nI (q - f)) σ V (nI (p + m + 1)) else some 0 := fun m x hm hx => by
        unfold x_X12_isUtf8_213 x_X12_isUtf8_218
        rw [if_neg (show ¬ (1 : Int32) = 0 by decide), t241 m x hm hx, ifd (show nI x < 55296 ↔ x < 55296 from ltI (b := 55296) hx (by decide)), ifd (show (57343 : Int32) < nI x ↔ 57343 < x from ltI (a := 57343) (by decide) hx)]
        by_cases q1 : x < 55296
        · rw [if_pos q1, if_neg (by omega), if_pos (by omega)]
        · rw [if_neg q1]
          by_cases q2 : 57343 < x
          · rw [if_pos q2]
            by_cases q3 : 1114111 < x
            · rw [if_pos q3, if_neg (fun z => z.2 q3)]
            · rw [if_neg q3, if_pos ⟨Or.inr q2, q3⟩]
          · rw [if_neg q2, if_neg (by omega)]
      have t210 : ∀ m x lo, m ≤ 3 → x < 2 ^ 31 → lo < 2 ^ 31 → x_X12_isUtf8_210 U 1101 (x_X12_isUtf8_L2 U 1101 (nI f) (nI (q - f)) σ V) (nI f) (nI (q - f)) (nI p) (nI m) (nI x) (nI lo) (nI x) σ = if ¬ x < lo ∧ (x < 55296 ∨ 57343 < x) ∧ ¬ 1114111 < x then x_X12_isUtf8_L2 U 1101 (nI f) (nI (q - f)) σ V (nI (p + m + 1)) else some 0 := fun m x lo hm hx hlo => by
        unfold x_X12_isUtf8_210
        rw [ifd (ltI hx hlo)]
        by_cases q1 : x < lo
        · rw [if_pos q1, if_neg (fun z => z.1 q1)]
          unfold x_X12_isUtf8_218
          rw [if_pos rfl]
        · rw [if_neg q1, t213 m x hm hx]
          exact ifd ⟨fun z => ⟨q1, z⟩, fun z => z.2⟩
      have more : ∀ m, 1 ≤ m → m ≤ 3 → mor (byt P p) = m → x_X12_isUtf8_90 U 1101 (x_X12_isUtf8_L2 U 1101 (nI f) (nI (q - f)) σ V) (nI f) (nI (q - f)) (nI p) (nI (byt P p)) (nI m) σ = some (zI (if chr8 P q p then u8S P q j (p + mor (byt P p) + 1) else false)) := by
        intro m h1 h3 hm
        unfold x_X12_isUtf8_90
        have hsm : nI p + nI m < nI f + nI (q - f) ↔ p + m < q := by rw [nI_add, nI_add, show f + (q - f) = q by omega]; exact ltI (by omega) (by omega)
        rw [if_neg (show ¬ nI m = -1 from fun z => nI_neg (a := m) (by omega) (by rw [z]; decide)), ifd hsm, if_neg (show ¬ nI m = 0 from fun z => by have := (nI_eq (b := 0) (by omega) (by decide)).mp z; omega)]
        by_cases hpm : p + m < q
        · rw [if_pos hpm]
          have hp1 : p + 1 < P.length := by omega
          have hxm : nI (byt P p) &&& ishr9 63 (nI m) = nI (byt P p % 2 ^ (6 - m)) := by
            have : m = 1 ∨ m = 2 ∨ m = 3 := by omega
            rcases this with z | z | z <;> subst z
            · exact pk_andN (by omega) 5 (by decide)
            · exact pk_andN (by omega) 4 (by decide)
            · exact pk_andN (by omega) 3 (by decide)
          have hx0 : byt P p % 2 ^ (6 - m) < 128 := by
            have : m = 1 ∨ m = 2 ∨ m = 3 := by omega
            rcases this with z | z | z <;> subst z <;> (have := Nat.mod_lt (byt P p) (show 0 < 32 by decide); have := Nat.mod_lt (byt P p) (show 0 < 16 by decide); have := Nat.mod_lt (byt P p) (show 0 < 8 by decide); omega)
          rw [hxm]
          obtain ⟨g1, g2⟩ := go m (byt P p % 2 ^ (6 - m)) h3 hx0 hsm hpm
          have nx := ih (p + m + 1) V (by omega) (by omega) (by omega)
          have hm' := hm
          unfold mor at hm'
          by_cases hall : ∀ i, 1 ≤ i → i ≤ m → cnB (byt P (p + i)) = true
          · rw [g1 hall]
            have c1 := cnB_of (hall 1 (Nat.le_refl _) h1)
            have : m = 1 ∨ m = 2 ∨ m = 3 := by omega
            rcases this with z | z | z
            · subst z
              have hr : 194 ≤ byt P p ∧ byt P p ≤ 223 := by
                split at hm'
                · assumption
                · split at hm'
                  · omega
                  · split at hm' <;> omega
              have hcx : cdU P p 1 1 (byt P p % 32) = 64 * (byt P p % 32) + byt P (p + 1) % 64 := rfl
              have hlt1 := Nat.mod_lt (byt P p) (show 0 < 32 by decide)
              have hlt2 := Nat.mod_lt (byt P (p + 1)) (show 0 < 64 by decide)
              have hch : chr8 P q p = true := by
                unfold chr8
                rw [decide_eq_true_iff, hm]
                refine ⟨by decide, hpm, ?_, ?_, fun z => by omega, fun z => by omega⟩
                · unfold lw2; rw [if_neg (by omega), if_neg (by omega)]; omega
                · unfold hg2; rw [if_neg (by omega), if_neg (by omega)]; omega
              rw [if_pos (by decide), show (2 : Nat) ^ (6 - 1) = 32 from rfl, hcx, t213 1 _ (by decide) (by omega), if_pos (by omega), nx, hch, hm]; try rfl
            · subst z
              have hr : 224 ≤ byt P p ∧ byt P p ≤ 239 := by
                split at hm'
                · omega
                · split at hm'
                  · assumption
                  · split at hm' <;> omega
              have c2 := cnB_of (hall 2 (by decide) (Nat.le_refl _))
              have hcx : cdU P p 2 1 (byt P p % 16) = 64 * (64 * (byt P p % 16) + byt P (p + 1) % 64) + byt P (p + 2) % 64 := rfl
              have hlt1 := Nat.mod_lt (byt P p) (show 0 < 16 by decide)
              have hlt2 := Nat.mod_lt (byt P (p + 1)) (show 0 < 64 by decide)
              have hlt3 := Nat.mod_lt (byt P (p + 2)) (show 0 < 64 by decide)
              have hcode := code2 hr c1 c2
              have e48 : (2048 : Int32) = nI 2048 := rfl
              rw [if_neg (by decide), if_pos rfl, show (2 : Nat) ^ (6 - 2) = 16 from rfl, hcx, e48, t210 2 _ 2048 (by decide) (by omega) (by decide), nx]
              have hch : chr8 P q p = true ↔ (¬ 64 * (64 * (byt P p % 16) + byt P (p + 1) % 64) + byt P (p + 2) % 64 < 2048 ∧ (64 * (64 * (byt P p % 16) + byt P (p + 1) % 64) + byt P (p + 2) % 64 < 55296 ∨ 57343 < 64 * (64 * (byt P p % 16) + byt P (p + 1) % 64) + byt P (p + 2) % 64) ∧ ¬ 1114111 < 64 * (64 * (byt P p % 16) + byt P (p + 1) % 64) + byt P (p + 2) % 64) := by
                unfold chr8
                rw [decide_eq_true_iff, hm]
                constructor
                · rintro ⟨_, _, w1, w2, _, _⟩
                  have := hcode.mpr ⟨w1, w2⟩
                  exact ⟨this.1, this.2, by omega⟩
                · rintro ⟨w1, w2, _⟩
                  have := hcode.mp ⟨w1, w2⟩
                  exact ⟨by decide, hpm, this.1, this.2, fun _ => hall 2 (by decide) (Nat.le_refl _), fun z => by omega⟩
              rw [← ifd hch, hm]
              by_cases y : chr8 P q p = true
              · rw [if_pos y, if_pos y]
              · rw [if_neg y, if_neg y]; try rfl
            · subst z
              have hr : 240 ≤ byt P p ∧ byt P p ≤ 244 := by
                split at hm'
                · omega
                · split at hm'
                  · omega
                  · split at hm'
                    · assumption
                    · omega
              have c2 := cnB_of (hall 2 (by decide) (by decide))
              have c3 := cnB_of (hall 3 (by decide) (Nat.le_refl _))
              have hcx : cdU P p 3 1 (byt P p % 8) = 64 * (64 * (64 * (byt P p % 8) + byt P (p + 1) % 64) + byt P (p + 2) % 64) + byt P (p + 3) % 64 := rfl
              have hlt1 := Nat.mod_lt (byt P p) (show 0 < 8 by decide)
              have hlt2 := Nat.mod_lt (byt P (p + 1)) (show 0 < 64 by decide)
              have hlt3 := Nat.mod_lt (byt P (p + 2)) (show 0 < 64 by decide)
              have hlt4 := Nat.mod_lt (byt P (p + 3)) (show 0 < 64 by decide)
              have hcode := code3 hr c1 c2 c3
              have e65 : (65536 : Int32) = nI 65536 := rfl
              rw [if_neg (by decide), if_neg (by decide), show (2 : Nat) ^ (6 - 3) = 8 from rfl, hcx, e65, t210 3 _ 65536 (by decide) (by omega) (by decide), nx]
              have hch : chr8 P q p = true ↔ (¬ 64 * (64 * (64 * (byt P p % 8) + byt P (p + 1) % 64) + byt P (p + 2) % 64) + byt P (p + 3) % 64 < 65536 ∧ (64 * (64 * (64 * (byt P p % 8) + byt P (p + 1) % 64) + byt P (p + 2) % 64) + byt P (p + 3) % 64 < 55296 ∨ 57343 < 64 * (64 * (64 * (byt P p % 8) + byt P (p + 1) % 64) + byt P (p + 2) % 64) + byt P (p + 3) % 64) ∧ ¬ 1114111 < 64 * (64 * (64 * (byt P p % 8) + byt P (p + 1) % 64) + byt P (p + 2) % 64) + byt P (p + 3) % 64) := by
                unfold chr8
                rw [decide_eq_true_iff, hm]
                constructor
                · rintro ⟨_, _, w1, w2, _, _⟩
                  have := hcode.mpr ⟨w1, w2⟩
                  exact ⟨this.1, Or.inr (by omega), this.2⟩
                · rintro ⟨w1, _, w3⟩
                  have := hcode.mp ⟨w1, w3⟩
                  exact ⟨by decide, hpm, this.1, this.2, fun _ => hall 2 (by decide) (by decide), fun _ => hall 3 (by decide) (Nat.le_refl _)⟩
              rw [← ifd hch, hm]
              by_cases y : chr8 P q p = true
              · rw [if_pos y, if_pos y]
              · rw [if_neg y, if_neg y]; try rfl
          · rw [g2 hall, if_neg (show ¬ chr8 P q p = true from fun z => hall (fun i i1 i2 => ?_))]
            · rfl
            · have zz := of_decide_eq_true z
              rw [hm] at zz
              obtain ⟨_, _, z1, z2, z3, z4⟩ := zz
              have : i = 1 ∨ i = 2 ∨ i = 3 := by omega
              rcases this with y | y | y <;> subst y
              · exact of_cnB (lw_hg z1 z2)
              · exact z3 (by omega)
              · exact z4 (by omega)
        · rw [if_neg hpm, if_neg (show ¬ chr8 P q p = true from fun z => by have := (of_decide_eq_true z).2.1; omega)]; try rfl
      have no : mor (byt P p) = 0 → x_X12_isUtf8_89 U 1101 (x_X12_isUtf8_L2 U 1101 (nI f) (nI (q - f)) σ V) (nI f) (nI (q - f)) (nI p) (nI (byt P p)) σ = some (zI (if chr8 P q p then u8S P q j (p + mor (byt P p) + 1) else false)) := by
        intro hm
        unfold x_X12_isUtf8_89 x_X12_isUtf8_90
        rw [if_pos rfl, if_neg (show ¬ chr8 P q p = true from fun z => (of_decide_eq_true z).1 hm)]; try rfl
      by_cases w : byt P p < 128
      · rw [if_pos (show nI (byt P p) < 128 from (l1 128 (by decide)).mpr w), if_pos w]
        unfold x_X12_isUtf8_90
        have hsm : nI p + nI 0 < nI f + nI (q - f) ↔ p + 0 < q := by rw [nI_add, nI_add, show f + (q - f) = q by omega]; exact ltI (by omega) (by omega)
        obtain ⟨g1, _⟩ := go 0 (byt P p) (by decide) w hsm (by omega)
        have hsm0 : nI p + 0 < nI f + nI (q - f) := hsm.mpr (by omega)
        have g1' := g1 (fun i h1 h2 => by omega)
        rw [if_pos (by decide), t213 0 _ (by decide) (show cdU P p 0 1 (byt P p) < 2 ^ 31 from Nat.lt_trans w (by decide)), if_pos (show (cdU P p 0 1 (byt P p) < 55296 ∨ 57343 < cdU P p 0 1 (byt P p)) ∧ ¬ 1114111 < cdU P p 0 1 (byt P p) from ⟨Or.inl (Nat.lt_trans w (by decide)), fun z => by have : 1114111 < byt P p := z; omega⟩)] at g1'
        have g1'' : x_X12_isUtf8_128 U 1101 (x_X12_isUtf8_L2 U 1101 (nI f) (nI (q - f)) σ V) (nI f) (nI (q - f)) (nI p) 0 (nI (byt P p)) σ = x_X12_isUtf8_L2 U 1101 (nI f) (nI (q - f)) σ V (nI (p + 1)) := g1'
        rw [if_neg (by decide), if_pos hsm0, if_pos rfl, g1'']
        exact ih (p + 1) V (by omega) (by omega) (by omega)
      · rw [if_neg (show ¬ nI (byt P p) < 128 from fun z => w ((l1 128 (by decide)).mp z)), if_neg w]
        unfold x_X12_isUtf8_49 x_X12_isUtf8_69
        have c1 : nI (byt P p) < 194 ↔ byt P p < 194 := l1 194 (by decide)
        have c2 : (223 : Int32) < nI (byt P p) ↔ 223 < byt P p := l2 223 (by decide)
        have c3 : nI (byt P p) < 224 ↔ byt P p < 224 := l1 224 (by decide)
        have c4 : (239 : Int32) < nI (byt P p) ↔ 239 < byt P p := l2 239 (by decide)
        have c5 : nI (byt P p) < 240 ↔ byt P p < 240 := l1 240 (by decide)
        have c6 : (244 : Int32) < nI (byt P p) ↔ 244 < byt P p := l2 244 (by decide)
        by_cases d1 : byt P p < 194
        · rw [if_pos (c1.mpr d1), if_pos (c3.mpr (by omega)), if_pos (c5.mpr (by omega))]
          exact no (by unfold mor; rw [if_neg (by omega), if_neg (by omega), if_neg (by omega)])
        rw [if_neg (fun z => d1 (c1.mp z))]
        by_cases d2 : 223 < byt P p
        · rw [if_pos (c2.mpr d2), if_neg (fun z => by have := c3.mp z; omega)]
          by_cases d3 : 239 < byt P p
          · rw [if_pos (c4.mpr d3), if_neg (fun z => by have := c5.mp z; omega)]
            by_cases d4 : 244 < byt P p
            · rw [if_pos (c6.mpr d4)]; exact no (by unfold mor; rw [if_neg (by omega), if_neg (by omega), if_neg (by omega)])
            · rw [if_neg (fun z => d4 (c6.mp z))]; exact more 3 (by decide) (by decide) (by unfold mor; rw [if_neg (by omega), if_neg (by omega), if_pos (by omega)])
          · rw [if_neg (fun z => d3 (c4.mp z))]; exact more 2 (by decide) (by decide) (by unfold mor; rw [if_neg (by omega), if_pos (by omega)])
        · rw [if_neg (fun z => d2 (c2.mp z))]; exact more 1 (by decide) (by decide) (by unfold mor; rw [if_pos (by omega)])
    · rw [if_neg hlt, if_neg hlt]; try rfl
theorem N_isUtf8 {U f q : Nat} {σ : SG} {P : List Nat} (hU4 : 4000 < U) (hP : RI σ 1175 P) (h8 : ok8 P) (hl : P.length ≤ 700) (hf : f ≤ q) (hq : q ≤ P.length) : x_X12_isUtf8 U 1101 (nI f) (nI (q - f)) σ = some (zI (u8T P f q)) := by
  unfold x_X12_isUtf8 u8T
  exact N_u8_L hU4 hP h8 hl hf hq (q - f) f U (by omega) (by omega) (by omega)
/-! ===== the reference decodes one field ===== -/
theorem RI_P {σ τ : SG} {P : Nat → Nat → Prop} {b : Nat} {S : List Nat} (h : RI σ b S) (hf : fP P σ τ) (hb : ∀ k, ¬ P b k) : RI τ b S := fun i c hi => ((hf b i (hb i)).1).trans (h i c hi)
/-- what decoding touches, its stack aside -/
def PDn (b k : Nat) : Prop := (b = 1101 ∧ (k = 81 ∨ k = 82 ∨ k = 83 ∨ k = 84 ∨ k = 107 ∨ k = 108 ∨ k = 109)) ∨ (1160 ≤ b ∧ b ≤ 1175)
def PDc (b k : Nat) : Prop := PDn b k ∨ (b = 1101 ∧ k = 106) ∨ b = 1176 ∨ b = 1177
theorem PDn_V {σ τ : SG} (h : fP PV σ τ) : fP PDn σ τ := fP_mono h (fun b k z => by unfold PV at z; unfold PDn; omega)
theorem PDn_N {σ τ : SG} (h : fP PN σ τ) : fP PDn σ τ := fP_mono h (fun b k z => by unfold PN at z; unfold PDn; omega)
theorem PDc_n {σ τ : SG} (h : fP PDn σ τ) : fP PDc σ τ := fP_mono h (fun b k z => Or.inl z)
theorem VR_keep {σ τ : SG} {s : Nat} {T : List Nat} {D : List Dc} {A : AV} {H : Rh} (h : VR σ s T D A H) (ci : ∀ b k, (b = 1101 ∧ 80 ≤ k ∧ k ≤ 84) ∨ (1160 ≤ b ∧ b ≤ 1162) ∨ (1165 ≤ b ∧ b ≤ 1175) → sI τ b k = sI σ b k ∧ sL τ b k = sL σ b k) : VR τ s T D A H := by
  obtain ⟨g1, g2, g3, g4, g5, g6, g7⟩ := h
  refine ⟨((ci 1101 80 (by omega)).1).trans g1, ⟨((ci 1101 82 (by omega)).1).trans g2.1, g2.2.1, fun i r hi => ?_⟩, ⟨((ci 1101 84 (by omega)).1).trans g3.1, fun i c hi => ((ci 1175 i (by omega)).1).trans (g3.2.1 i c hi), g3.2.2⟩, ⟨((ci 1101 83 (by omega)).1).trans g4.1, g4.2.1, fun i u hu => ?_⟩, ⟨((ci 1101 81 (by omega)).1).trans g5.1, g5.2.1, g5.2.2.1, fun m hm => ?_⟩, g6, g7⟩
  · obtain ⟨y1, y2⟩ := g2.2.2 i r hi
    exact ⟨RWs_sm y1 (fun b h1 h2 => ci b i (by omega)), ((ci 1171 i (by omega)).1).trans y2⟩
  · obtain ⟨u1, u2, a, u3, u4, u5⟩ := g4.2.2 i u hu
    exact ⟨u1, ((ci 1172 i (by omega)).1).trans u2, a, ((ci 1173 i (by omega)).1).trans u3, ((ci 1174 i (by omega)).1).trans u4, u5⟩
  · obtain ⟨n1, n2, n3, n4, n5⟩ := g5.2.2.2 m hm
    exact ⟨n1, ((ci 1160 m (by omega)).1).trans n2, ((ci 1161 m (by omega)).1).trans n3, ((ci 1162 m (by omega)).1).trans n4, n5⟩
/-- how much of the reference's room is used -/
def BDd (A : AV) (H : Rh) (b : Nat) : Prop := (zR H).length ≤ b ∧ 2 * (zU H).length ≤ b ∧ (zP H).length ≤ b ∧ 2 * aC A ≤ b + 2 ∧ zT H ≤ (zP H).length
/-- the reference while it decodes, at place p; its room is used up to b -/
def DR (σ : SG) (s : Nat) (T : List Nat) (D : List Dc) (S : List Nat) (lm : Nat) (A : AV) (H : Rh) (p b : Nat) : Prop := RS σ s T D ∧ VR σ s T D A H ∧ DPk T D lm A H ∧ LR σ S ∧ sI σ 1101 109 = nI p ∧ sI σ 1101 107 = 0 ∧ sI σ 1101 85 = nI lm ∧ BDd A H b ∧ b ≤ p ∧ p ≤ S.length
theorem DR_N {σ τ : SG} {s lm p b p' : Nat} {T S : List Nat} {D : List Dc} {A : AV} {H : Rh} (h : DR σ s T D S lm A H p b) (hf : fP PN σ τ) (h9 : sI τ 1101 109 = nI p') (h7 : sI τ 1101 107 = 0) (hp : p ≤ p') (hp' : p' ≤ S.length) : DR τ s T D S lm A H p' b := by
  obtain ⟨a1, a2, a3, a4, a5, a6, a7, a8, a9, a10⟩ := h
  exact ⟨RS_keep a1 (fun b k hb => (hf b k (by unfold PN; unfold PKP at hb; omega)).1), VR_keep a2 (fun b k hb => ⟨(hf b k (by unfold PN; omega)).1, (hf b k (by unfold PN; omega)).2.1⟩), a3, ⟨((hf 1101 73 (by unfold PN; omega)).1).trans a4.1, RI_P a4.2.1 hf (fun k => by unfold PN; omega), a4.2.2⟩, h9, h7, ((hf 1101 85 (by unfold PN; omega)).1).trans a7, a8, by omega, hp'⟩
theorem DR_V {σ τ : SG} {s lm p b b' : Nat} {T S : List Nat} {D : List Dc} {A A' : AV} {H H' : Rh} (h : DR σ s T D S lm A H p b) (hf : fP PV σ τ) (hV : VR τ s T D A' H') (h7 : sI τ 1101 107 = 0) (hd : DPk T D lm A' H') (hb : BDd A' H' b') (hbp : b' ≤ p) : DR τ s T D S lm A' H' p b' := by
  obtain ⟨a1, a2, a3, a4, a5, a6, a7, a8, a9, a10⟩ := h
  exact ⟨RS_PV a1 hf, hV, hd, ⟨((hf 1101 73 (by unfold PV; omega)).1).trans a4.1, RI_P a4.2.1 hf (fun k => by unfold PV; omega), a4.2.2⟩, ((hf 1101 109 (by unfold PV; omega)).1).trans a5, h7, ((hf 1101 85 (by unfold PV; omega)).1).trans a7, hb, hbp, a10⟩
theorem DR_b {σ : SG} {s lm p b b' : Nat} {T S : List Nat} {D : List Dc} {A : AV} {H : Rh} (h : DR σ s T D S lm A H p b) (h1 : b ≤ b') (h2 : b' ≤ p) : DR σ s T D S lm A H p b' := by
  obtain ⟨a1, a2, a3, a4, a5, a6, a7, ⟨e1, e2, e3, e4⟩, a9, a10⟩ := h
  exact ⟨a1, a2, a3, a4, a5, a6, a7, ⟨by omega, by omega, by omega, by omega, e4.2⟩, h2, a10⟩
/-- what was opened stays -/
def zX (A : AV) (H : Rh) (A' : AV) (H' : Rh) : Prop := aC A ≤ aC A' ∧ ∀ m, m < aC A → aN A' m = aN A m ∧ zD H' m = zD H m
theorem zX_refl (A : AV) (H : Rh) : zX A H A H := ⟨Nat.le_refl _, fun _ _ => ⟨rfl, rfl⟩⟩
theorem zX_trans {A A' A2 : AV} {H H' H2 : Rh} (h : zX A H A' H') (h' : zX A' H' A2 H2) : zX A H A2 H2 := ⟨Nat.le_trans h.1 h'.1, fun m hm => ⟨(h'.2 m (by have := h.1; omega)).1.trans (h.2 m hm).1, (h'.2 m (by have := h.1; omega)).2.trans (h.2 m hm).2⟩⟩
/-- an outcome of the reference's decoding that leaves the stack -/
def OQ (s : Nat) (T : List Nat) (D : List Dc) (S : List Nat) (lm : Nat) (A : AV) (H : Rh) (σ : SG) (o : Option (AV × Nat)) (x : Option SG) : Prop := ∃ τ, x = some τ ∧ fP PDn σ τ ∧ (o = none → ¬ sI τ 1101 107 = 0) ∧ ∀ A' p', o = some (A', p') → ∃ H', DR τ s T D S lm A' H' p' p' ∧ zX A H A' H'
theorem OQ_from {s lm : Nat} {T S : List Nat} {D : List Dc} {A A1 : AV} {H H1 : Rh} {σ τ : SG} {o : Option (AV × Nat)} {x : Option SG} (hf : fP PDn σ τ) (hx : zX A H A1 H1) (h : OQ s T D S lm A1 H1 τ o x) : OQ s T D S lm A H σ o x := by
  obtain ⟨υ, a, b, c, d⟩ := h
  refine ⟨υ, a, fP_trans hf b, c, fun A' p' z => ?_⟩
  obtain ⟨H', w1, w2⟩ := d A' p' z
  exact ⟨H', w1, zX_trans hx w2⟩
theorem OQ_no {s lm : Nat} {T S : List Nat} {D : List Dc} {A : AV} {H : Rh} {σ τ : SG} (hf : fP PDn σ τ) (h7 : ¬ sI τ 1101 107 = 0) : OQ s T D S lm A H σ none (some τ) := ⟨τ, rfl, hf, fun _ => h7, fun _ _ z => by cases z⟩
/-- a number is put -/
theorem DR_num {U s n f lm p b : Nat} {σ : SG} {T S : List Nat} {D : List Dc} {A : AV} {H : Rh} {d : Dc} {x : Int64} (hU4 : 4000 < U) (hs : s < 2) (hg : GSc T D) (hD : DR σ s T D S lm A H p b) (hn : n < aC A) (hF : isF D (aN A n) f d) (h13 : fty T D d ≠ 13) (hnm : nmr (fty T D d) = true) (hb : b < p) : ∃ τ H', x_X12_putNumber U 1101 (nI n) (nI (fx D s f)) x σ = some τ ∧ DR τ s T D S lm (aPut T D A n f d x []) H' p p ∧ fP PDn σ τ ∧ zX A H (aPut T D A n f d x []) H' := by
  have hD' := hD
  obtain ⟨a1, a2, a3, a4, a5, a6, a7, ⟨e1, e2, e3, e4⟩, a9, a10⟩ := hD'
  have hSl := a4.2.2.1
  obtain ⟨τ, H', t1, t2, t3, t4, t5, t6, t7, t8, t9⟩ := V_num (x := x) hU4 hs hg a1 a2 hn hF h13 hnm (by omega)
  refine ⟨τ, H', t1, DR_V hD t3 t2 (t4.trans a6) (t9 lm a3).1 ⟨by omega, by rw [t6]; omega, by rw [t7]; omega, ?_, by rw [(t9 lm a3).2, t7]; exact e4.2⟩ (Nat.le_refl _), PDn_V t3, Nat.le_refl _, fun m _ => ⟨rfl, by rw [t8]⟩⟩
  show 2 * aC A ≤ p + 2
  omega
theorem kdO_n {t : Nat} (h : t ≤ 14) (hn : nmr t = true) : kdO t = 0 ∨ kdO t = 1 ∨ kdO t = 5 := (by decide +kernel : ∀ t, t < 15 → nmr t = true → kdO t = 0 ∨ kdO t = 1 ∨ kdO t = 5) t (by omega) hn
theorem N_row {U s n f e lm : Nat} {T S : List Nat} {D : List Dc} {d : Dc} (hU4 : 4000 < U) (hs : s < 2) (hg : GSc T D) (he : e ≤ S.length) (h13 : fty T D d ≠ 13) (hnm : nmr (fty T D d) = true) : ∀ (j p U1 : Nat) (σ : SG) (A : AV) (H : Rh), e < j + p → j < U1 → p ≤ e → DR σ s T D S lm A H p p → n < aC A → isF D (aN A n) f d →
    OQ s T D S lm A H σ ((dRow T D S n f d e j A p).map (fun A => (A, e))) (x_X12_takeLength_L197 U 1101 (nI n) (nI (fx D s f)) (nI e) U1 σ) := by
  intro j
  induction j with
  | zero => intro p U1 σ A H hj hu hp; omega
  | succ j ih =>
    intro p U1 σ A H hj hu hp hD hn hF
    obtain ⟨V, rfl⟩ : ∃ V, U1 = V + 1 := ⟨U1 - 1, by omega⟩
    have hD' := hD
    obtain ⟨a1, a2, a3, a4, a5, a6, a7, _, a9, a10⟩ := hD'
    have hSl := a4.2.2.1
    obtain ⟨f1, _, _, f4, _⟩ := a1.f hF.1 hF.2.1
    have hft : fty T D d ≤ 14 := dTy_lt (hg.fld hF.1 hF.2.1).2.2.2.1
    rw [x_X12_takeLength_L197, a5, ifd (ltI (by omega) (by omega)), dRow]
    by_cases q : p < e
    · have hkd := kdO_n hft hnm
      rw [if_pos q, if_pos q, if_pos a6, ix_in (by omega) (by decide), f4, N_kindOf hft, b1_eq]
      obtain ⟨τ, t1, t2, t3, t4⟩ := N_one (U := U) hU4 a4 he hp a5 a6 hkd
      rw [t1, b1_eq]
      cases hr : rdN S (kdO (fty T D d)) p e with
      | none =>
        have h7 := t4 hr
        rw [if_neg h7]
        obtain ⟨V2, rfl⟩ : ∃ V2, V = V2 + 1 := ⟨V - 1, by omega⟩
        rw [x_X12_takeLength_L197, if_neg h7, ite_self]
        exact OQ_no (PDn_N t2) h7
      | some y =>
        obtain ⟨x, p'⟩ := y
        obtain ⟨v1, v2, v3⟩ := t3 x p' hr
        have hlt := rdN_lt hr
        have D1 := DR_N hD t2 v3 v1 (by omega) (by omega)
        obtain ⟨_, _, _, f4', _⟩ := D1.1.f hF.1 hF.2.1
        rw [if_pos v1, ix_in (by omega) (by decide), f4', v2, N_valueFor hft, b1_eq]
        obtain ⟨υ, H', u1, u2, u3, u4⟩ := DR_num (x := mng (fty T D d) x) hU4 hs hg D1 hn hF h13 hnm (by omega)
        rw [u1, b1_eq]
        exact OQ_from (fP_trans (PDn_N t2) u3) u4 (ih p' V υ _ H' (by omega) (by omega) (by omega) u2 hn hF)
    · rw [if_neg q, if_neg q]
      have : p = e := by omega
      subst this
      exact ⟨σ, rfl, fP_refl _ _, fun z => (by cases z), fun A' p' z => by cases z; exact ⟨H, hD, zX_refl _ _⟩⟩
/-! ===== the reference decodes one field: skipping, lengths ===== -/
theorem u8_shift {S1 S2 : List Nat} {x y n : Nat} (h : ∀ i, i < n → byt S1 (x + i) = byt S2 (y + i)) : ∀ j i, u8S S1 (x + n) j (x + i) = u8S S2 (y + n) j (y + i) := by
  intro j
  induction j with
  | zero => intro i; try rfl
  | succ j ih =>
    intro i
    rw [u8S, u8S]
    by_cases q : i < n
    · rw [if_pos (show x + i < x + n by omega), if_pos (show y + i < y + n by omega), h i q]
      have hc : chr8 S1 (x + n) (x + i) = chr8 S2 (y + n) (y + i) := by
        unfold chr8
        rw [h i q]
        by_cases q2 : i + mor (byt S2 (y + i)) < n
        · have h0 : mor (byt S2 (y + i)) ≠ 0 → byt S1 (x + i + 1) = byt S2 (y + i + 1) := fun z => h (i + 1) (by omega)
          have h2 : 2 ≤ mor (byt S2 (y + i)) → byt S1 (x + i + 2) = byt S2 (y + i + 2) := fun z => h (i + 2) (by omega)
          have h3 : 3 ≤ mor (byt S2 (y + i)) → byt S1 (x + i + 3) = byt S2 (y + i + 3) := fun z => h (i + 3) (by omega)
          apply decide_eq_decide.mpr
          constructor
          · rintro ⟨a, b, c, d, e, f⟩
            exact ⟨a, by omega, by rw [← h0 a]; exact c, by rw [← h0 a]; exact d, fun z => by rw [← h2 z]; exact e z, fun z => by rw [← h3 z]; exact f z⟩
          · rintro ⟨a, b, c, d, e, f⟩
            exact ⟨a, by omega, by rw [h0 a]; exact c, by rw [h0 a]; exact d, fun z => by rw [h2 z]; exact e z, fun z => by rw [h3 z]; exact f z⟩
        · rw [decide_eq_false (fun z => q2 (by have := z.2.1; omega)), decide_eq_false (fun z => q2 (by have := z.2.1; omega))]
      rw [hc, show x + i + 1 = x + (i + 1) from rfl, show y + i + 1 = y + (i + 1) from rfl, ih (i + 1), show x + i + mor (byt S2 (y + i)) + 1 = x + (i + mor (byt S2 (y + i)) + 1) by omega, show y + i + mor (byt S2 (y + i)) + 1 = y + (i + mor (byt S2 (y + i)) + 1) by omega, ih (i + mor (byt S2 (y + i)) + 1)]
    · rw [if_neg (show ¬ x + i < x + n by omega), if_neg (show ¬ y + i < y + n by omega)]
theorem u8_pool {P S : List Nat} {a e : Nat} (hae : a ≤ e) (he : e ≤ S.length) : u8T (P ++ slc S a e) P.length (P.length + (e - a)) = u8T S a e := by
  unfold u8T
  have := u8_shift (S1 := P ++ slc S a e) (S2 := S) (x := P.length) (y := a) (n := e - a) (fun i hi => by
    unfold byt
    rw [List.getD_eq_getElem?_getD, List.getD_eq_getElem?_getD, List.getElem?_append_right (Nat.le_add_right _ _), Nat.add_sub_cancel_left, slc_get hi]) (e - a) 0
  rw [Nat.add_zero, Nat.add_zero, show a + (e - a) = e by omega] at this
  rw [show P.length + (e - a) - P.length = e - a by omega]
  exact this
/-- one field, a message's bytes left to be read -/
noncomputable def dSx (T : List Nat) (D : List Dc) (S : List Nat) (n m e p w p1 : Nat) (A : AV) : Option (AV × Nat × Option (Nat × Nat × Nat)) :=
  if w % 8 = 2 then (match lnS S p1 e with
    | none => none
    | some (l, p2) => match fOf D m (w / 8) with
      | none => some (aUnk A n (slc S p (p2 + l)), p2 + l, none)
      | some f => match D[f]? with
        | none => none
        | some d => if dR d && nmr (fty T D d) then (match dRow T D S n f d (p2 + l) 701 A p2 with | none => none | some A' => some (A', p2 + l, none))
          else if nmr (fty T D d) then some (aUnk A n (slc S p (p2 + l)), p2 + l, none)
          else if fty T D d = 11 ∧ u8T S p2 (p2 + l) = false then none
          else if fty T D d = 13 then (match ftg T D d with
            | none => none
            | some t => some ((aMsg D A n f d t).1, p2, some ((aMsg D A n f d t).2, t, p2 + l)))
          else some (aPut T D A n f d 0 (slc S p2 (p2 + l)), p2 + l, none))
  else (match rdN S (w % 8) p1 e with
    | none => none
    | some (x, p2) => match fOf D m (w / 8) with
      | none => some (aUnk A n (slc S p p2), p2, none)
      | some f => match D[f]? with
        | none => none
        | some d => if kdO (fty T D d) = w % 8 then some (aPut T D A n f d (mng (fty T D d) x) [], p2, none) else some (aUnk A n (slc S p p2), p2, none))
def dFn (rc : AV → Nat → Nat → Nat → Nat → Option AV) (o : Option (AV × Nat × Option (Nat × Nat × Nat))) : Option (AV × Nat) := match o with
  | none => none
  | some (A', p', none) => some (A', p')
  | some (A1, p2, some (k, t, q)) => match rc A1 k t q p2 with | none => none | some A' => some (A', q)
theorem dSt_x {T : List Nat} {D : List Dc} {S : List Nat} {rc : AV → Nat → Nat → Nat → Nat → Option AV} {n m e p w p1 : Nat} {A : AV} : dSt T D S rc n m e p w p1 A = dFn rc (dSx T D S n m e p w p1 A) := by
  unfold dSt dSx
  by_cases hw : w % 8 = 2
  · rw [if_pos hw, if_pos hw]
    cases lnS S p1 e with
    | none => rfl
    | some y =>
      obtain ⟨l, p2⟩ := y
      simp only
      cases fOf D m (w / 8) with
      | none => rfl
      | some f =>
        simp only
        cases D[f]? with
        | none => rfl
        | some d =>
          simp only
          split
          · cases dRow T D S n f d (p2 + l) 701 A p2 <;> rfl
          · split
            · rfl
            · split
              · rfl
              · split
                · cases ftg T D d <;> rfl
                · rfl
  · rw [if_neg hw, if_neg hw]
    cases rdN S (w % 8) p1 e with
    | none => rfl
    | some y =>
      obtain ⟨x, p2⟩ := y
      simp only
      cases fOf D m (w / 8) with
      | none => rfl
      | some f =>
        simp only
        cases D[f]? with
        | none => rfl
        | some d =>
          simp only
          split <;> rfl
def sk1 (o : Option (Int64 × Nat)) : Option Nat := match o with
  | none => none
  | some y => some y.2
/-- where a field ends that is skipped -/
noncomputable def skS (S : List Nat) (q p e : Nat) : Option Nat := if q = 2 then (match lnS S p e with | none => none | some (l, p2) => some (p2 + l)) else sk1 (rdN S q p e)
theorem skS_lt {S : List Nat} {q p e p' : Nat} (h : skS S q p e = some p') (he : e ≤ 700) : p < p' ∧ p' ≤ e := by
  unfold skS at h
  by_cases hq : q = 2
  · rw [if_pos hq] at h
    cases hl : lnS S p e with
    | none => rw [hl] at h; cases h
    | some y =>
      obtain ⟨l, p2⟩ := y
      rw [hl] at h
      cases h
      have := lnS_le hl he
      omega
  · rw [if_neg hq] at h
    cases hl : rdN S q p e with
    | none => rw [hl] at h; cases h
    | some y =>
      obtain ⟨l, p2⟩ := y
      rw [hl] at h
      cases h
      exact rdN_lt hl
/-- the length, as the reference reads it -/
theorem N_len {U s e p b lm : Nat} {σ : SG} {T S : List Nat} {D : List Dc} {A : AV} {H : Rh} (hU4 : 4000 < U) (he : e ≤ S.length) (hp : p ≤ e) (hD : DR σ s T D S lm A H p b) : ∃ τ, x_X12_takeVarint U 1101 (nI e) σ = some τ ∧ fP PN σ τ ∧ (lnS S p e = none → (¬ sI τ 1101 107 = 0) ∨ sL τ 1101 108 < 0 ∨ (¬ sL τ 1101 108 < 0 ∧ Int32.toInt64 (nI e - (sI τ 1101 109)) < sL τ 1101 108)) ∧ ∀ l p2, lnS S p e = some (l, p2) → sI τ 1101 107 = 0 ∧ ¬ sL τ 1101 108 < 0 ∧ ¬ Int32.toInt64 (nI e - (sI τ 1101 109)) < sL τ 1101 108 ∧ DR τ s T D S lm A H p2 b ∧ sI τ 1101 109 = nI p2 ∧ (sI τ 1101 109) + (Int64.toInt32 (sL τ 1101 108)) = nI (p2 + l) := by
  have hSl := hD.2.2.2.1.2.2.1
  obtain ⟨τ, t1, t2, t3, t4⟩ := N_var (U := U) hU4 hD.2.2.2.1 he hp hD.2.2.2.2.1 hD.2.2.2.2.2.1
  refine ⟨τ, t1, t2, ?_⟩
  unfold lnS
  cases hr : rdN S 0 p e with
  | none => exact ⟨fun _ => Or.inl (t4 hr), fun l p2 h => by cases h⟩
  | some y =>
    obtain ⟨x, q⟩ := y
    obtain ⟨v1, v2, v3⟩ := t3 x q hr
    have hlt := rdN_lt hr
    simp only
    rw [v2, v3, nI_sub (by omega), nI_l (by omega)]
    by_cases z0 : x < 0
    · rw [if_pos (Or.inl z0)]
      exact ⟨fun _ => Or.inr (Or.inl z0), fun l p2 h => by cases h⟩
    · by_cases z1 : lN (e - q) < x
      · rw [if_pos (Or.inr z1)]
        exact ⟨fun _ => Or.inr (Or.inr ⟨z0, z1⟩), fun l p2 h => by cases h⟩
      · rw [if_neg (show ¬ (x < 0 ∨ lN (e - q) < x) from fun z => z.elim z0 z1)]
        refine ⟨fun h => (by cases h), fun l p2 h => ?_⟩
        cases h
        refine ⟨v1, z0, z1, DR_N hD t2 v3 v1 (by omega) (by omega), rfl, ?_⟩
        obtain ⟨w, hw, rfl⟩ := pk_lOf z0
        rw [pk_lT hw, lN_i, nI_add]
        try rfl
theorem N_skip {U s e p b q lm : Nat} {σ : SG} {T S : List Nat} {D : List Dc} {A : AV} {H : Rh} (hU4 : 4000 < U) (he : e ≤ S.length) (hp : p ≤ e) (hD : DR σ s T D S lm A H p b) (hq : q = 0 ∨ q = 1 ∨ q = 2 ∨ q = 5) : ∃ τ, x_X12_skip U 1101 (nI q) (nI e) σ = some τ ∧ fP PN σ τ ∧ (skS S q p e = none → ¬ sI τ 1101 107 = 0) ∧ ∀ p', skS S q p e = some p' → DR τ s T D S lm A H p' b := by
  have hSl := hD.2.2.2.1.2.2.1
  have one : ∀ (o : Option (Int64 × Nat)) (x : Option SG), OR9 σ o x → (∀ v p', o = some (v, p') → p < p' ∧ p' ≤ e) → ∃ τ, (b1 x fun σ3 => some σ3) = some τ ∧ fP PN σ τ ∧ ((sk1 o) = none → ¬ sI τ 1101 107 = 0) ∧ ∀ p', (sk1 o) = some p' → DR τ s T D S lm A H p' b := by
    intro o x h ho
    obtain ⟨τ, t1, t2, t3, t4⟩ := h
    refine ⟨τ, by rw [t1, b1_eq], t2, ?_⟩
    cases o with
    | none => exact ⟨fun _ => t4 rfl, fun p' z => by cases z⟩
    | some y =>
      obtain ⟨v, p2⟩ := y
      refine ⟨fun z => (by cases z), fun p' z => ?_⟩
      cases z
      obtain ⟨v1, v2, v3⟩ := t3 v p2 rfl
      have := ho v p2 rfl
      exact DR_N hD t2 v3 v1 (by omega) (by omega)
  unfold x_X12_skip skS
  rcases hq with z | z | z | z <;> subst z
  · rw [if_pos (show nI 0 = 0 from rfl), if_neg (show ¬ 0 = 2 by decide)]
    exact one _ _ (N_var hU4 hD.2.2.2.1 he hp hD.2.2.2.2.1 hD.2.2.2.2.2.1) (fun v p' h => rdN_lt h)
  · rw [if_neg (show ¬ nI 1 = 0 by decide), if_pos (show nI 1 = 1 from rfl), if_neg (show ¬ 1 = 2 by decide)]
    exact one _ _ (N_fix hU4 hD.2.2.2.1 he hp hD.2.2.2.2.1 hD.2.2.2.2.2.1 (Or.inl ⟨rfl, rfl⟩)) (fun v p' h => rdN_lt h)
  · rw [if_neg (show ¬ nI 2 = 0 by decide), if_neg (show ¬ nI 2 = 1 by decide), if_neg (show ¬ nI 2 = 5 by decide), if_pos rfl]
    obtain ⟨τ, t1, t2, t3, t4⟩ := N_len (U := U) hU4 he hp hD
    rw [t1, b1_eq]
    unfold x_X12_skip_70
    have bad : ∃ υ, (sb (uI τ 1101 107 1) fun σ13 => some σ13) = some υ ∧ fP PN σ υ ∧ ¬ sI υ 1101 107 = 0 := ⟨_, rfl, fP_trans t2 (fP_u ⟨rfl, Or.inl rfl⟩), by rw [sI_s]; decide⟩
    cases hl : lnS S p e with
    | none =>
      have h9 := t3 hl
      simp only
      by_cases z0 : sL τ 1101 108 < 0
      · rw [if_pos z0]
        obtain ⟨υ, u1, u2, u3⟩ := bad
        exact ⟨υ, u1, u2, fun _ => u3, fun p' z => by cases z⟩
      · rw [if_neg z0]
        by_cases z1 : Int32.toInt64 (nI e - (sI τ 1101 109)) < sL τ 1101 108
        · rw [if_pos z1]
          obtain ⟨υ, u1, u2, u3⟩ := bad
          exact ⟨υ, u1, u2, fun _ => u3, fun p' z => by cases z⟩
        · rw [if_neg z1, sb_eq]
          refine ⟨_, rfl, fP_trans t2 (fP_u ⟨rfl, Or.inr (Or.inr rfl)⟩), fun _ => ?_, fun p' z => by cases z⟩
          rw [sI_o (Or.inr (by decide))]
          rcases h9 with h9 | h9 | h9
          · exact h9
          · exact absurd h9 z0
          · exact absurd h9.2 z1
    | some y =>
      obtain ⟨l, p2⟩ := y
      obtain ⟨v1, v2, v3, v4, v5, v6⟩ := t4 l p2 hl
      have hle := lnS_le hl (by omega)
      rw [if_neg v2, if_neg v3, sb_eq, v6]
      refine ⟨_, rfl, fP_trans t2 (fP_u ⟨rfl, Or.inr (Or.inr rfl)⟩), fun z => (by cases z), fun p' z => ?_⟩
      cases z
      exact DR_N v4 (fP_u ⟨rfl, Or.inr (Or.inr rfl)⟩) (sI_s _ _ _ _) (by rw [sI_o (Or.inr (by decide))]; exact v1) (by omega) (by omega)
  · rw [if_neg (show ¬ nI 5 = 0 by decide), if_neg (show ¬ nI 5 = 1 by decide), if_pos (show nI 5 = 5 from rfl), if_neg (show ¬ 5 = 2 by decide)]
    exact one _ _ (N_fix hU4 hD.2.2.2.1 he hp hD.2.2.2.2.1 hD.2.2.2.2.2.1 (Or.inr ⟨rfl, rfl⟩)) (fun v p' h => rdN_lt h)
def unO (S : List Nat) (A : AV) (n p : Nat) (o : Option Nat) : Option (AV × Nat) := match o with
  | none => none
  | some p' => some (aUnk A n (slc S p p'), p')
/-- a field is kept as it is -/
theorem N_unk {U s e n p p1 q lm : Nat} {σ : SG} {T S : List Nat} {D : List Dc} {A : AV} {H : Rh} (hU4 : 4000 < U) (he : e ≤ S.length) (hp : p < p1) (hp1 : p1 ≤ e) (hD : DR σ s T D S lm A H p1 p) (hn : n < aC A) (hq : q = 0 ∨ q = 1 ∨ q = 2 ∨ q = 5) : OQ s T D S lm A H σ (unO S A n p (skS S q p1 e)) (x_X12_takeNext_209 U 1101 (nI n) (nI e) (nI p) (nI q) σ) := by
  have hSl := hD.2.2.2.1.2.2.1
  unfold x_X12_takeNext_209
  obtain ⟨τ, t1, t2, t3, t4⟩ := N_skip hU4 he hp1 hD hq
  rw [t1, b1_eq]
  cases hs : skS S q p1 e with
  | none =>
    rw [if_neg (t3 hs)]
    exact OQ_no (PDn_N t2) (t3 hs)
  | some p' =>
    have D1 := t4 p' hs
    have hlt := skS_lt hs (by omega)
    have D1' := D1
    obtain ⟨a1, a2, a3, a4, a5, a6, a7, ⟨e1, e2, e3, e4⟩, a9, a10⟩ := D1'
    rw [if_pos a6, a5]
    obtain ⟨υ, H', u1, u2, u3, u4, u5, u6, u7, u8, u8w, u9⟩ := V_unk (U := U) (p := p) (e := p') hU4 a2 hn a4.2.1 a4.2.2.2 hSl (by omega) (by omega) (by omega) (by omega)
    rw [u1, b1_eq]
    refine ⟨υ, rfl, fP_trans (PDn_N t2) (PDn_V u3), fun z => (by cases z), fun A' p9 z => ?_⟩
    cases z
    refine ⟨H', DR_V D1 u3 u2 (u4.trans a6) ⟨fun m hm => ?_, fun r hr d hd h13 => ?_, (by rw [u5, u8w]; exact a3.2.2)⟩ ⟨by rw [u5]; omega, by omega, by omega, ?_, by omega⟩ (Nat.le_refl _), Nat.le_refl _, fun m _ => ⟨rfl, by rw [u8]⟩⟩
    · rw [u8]; exact a3.1 m hm
    · rw [u5] at hr; rw [u8]; exact a3.2.1 r hr d hd h13
    · show 2 * aC A ≤ p' + 2
      omega
/-! ===== the reference decodes one field: texts, messages ===== -/
theorem aMsg_N {σ : SG} {s n f t : Nat} {T : List Nat} {D : List Dc} {A : AV} {H : Rh} {d : Dc} (h : VR σ s T D A H) (hn : n < aC A) (hF : isF D (aN A n) f d) (h13 : fty T D d = 13) (ht : ftg T D d = some t) : aC A ≤ aC (aMsg D A n f d t).1 ∧ (∀ m, m < aC A → aN (aMsg D A n f d t).1 m = aN A m) ∧ aN (aMsg D A n f d t).1 (aMsg D A n f d t).2 = t := by
  have new : aMsg D A n f d t = (aNew D A n f d t, aC A) → aC A ≤ aC (aMsg D A n f d t).1 ∧ (∀ m, m < aC A → aN (aMsg D A n f d t).1 m = aN A m) ∧ aN (aMsg D A n f d t).1 (aMsg D A n f d t).2 = t := fun e => by
    rw [e]
    exact ⟨Nat.le_succ _, fun m hm => up_o (by omega), up_s _ _ _⟩
  cases hR : dR d with
  | true => exact new (by unfold aMsg; rw [hR])
  | false =>
    cases hE : aE A n f with
    | nil => exact new (by unfold aMsg; rw [hR, hE])
    | cons it K =>
      have e : aMsg D A n f d t = (aOld D A n f d, it.2.2) := by unfold aMsg; rw [hR, hE]
      rw [e]
      refine ⟨Nat.le_refl _, fun m _ => rfl, ?_⟩
      have h7 := (h.2.2.2.2.2.2 n hn).1 f d hF
      rw [hE] at h7
      cases hL : (zR H).filter (pRw n f) with
      | nil => rw [hL] at h7; cases h7
      | cons r L =>
        rw [hL, List.map_cons] at h7
        have hr : r ∈ (zR H).filter (pRw n f) := by rw [hL]; exact List.mem_cons_self ..
        obtain ⟨r1, r2⟩ := List.mem_filter.mp hr
        obtain ⟨r3, r4⟩ := pRw_of r2
        obtain ⟨o1, d2, o2, o3⟩ := h.2.2.2.2.2.1 r r1
        have : d2 = d := by have := o2.1; rw [r4, hF.1] at this; exact (Option.some.inj this).symm
        subst this
        have hit : itR T D d2 r = it := (List.cons.inj h7).1
        unfold itR at hit
        rw [if_pos h13] at hit
        have := (o3 h13).2.2
        rw [ht] at this
        show aN A it.2.2 = t
        rw [← hit]
        exact (Option.some.inj this).symm
/-- the outcome of taking one field -/
def OT (s : Nat) (T : List Nat) (D : List Dc) (S : List Nat) (lm : Nat) (A : AV) (H : Rh) (dp : Nat) (σ : SG) (o : Option (AV × Nat × Option (Nat × Nat × Nat))) (x : Option SG) : Prop := ∃ τ, x = some τ ∧ fP PDc σ τ ∧ (o = none → ¬ sI τ 1101 107 = 0) ∧ (∀ A' p', o = some (A', p', none) → ∃ H', DR τ s T D S lm A' H' p' p' ∧ zX A H A' H' ∧ fP PDn σ τ) ∧ ∀ A' p' k t q, o = some (A', p', some (k, t, q)) → (lm < dp + 1 → ¬ sI τ 1101 107 = 0) ∧ (dp + 1 ≤ lm → ∃ H', DR τ s T D S lm A' H' p' p' ∧ zX A H A' H' ∧ k < aC A' ∧ aN A' k = t ∧ zD H' k = dp + 1 ∧ sI τ 1101 106 = nI (dp + 1) ∧ sI τ 1176 dp = nI k ∧ sI τ 1177 dp = nI q ∧ ∀ i, i < dp → sI τ 1176 i = sI σ 1176 i ∧ sI τ 1177 i = sI σ 1177 i)
theorem OT_Q {s lm dp : Nat} {T S : List Nat} {D : List Dc} {A : AV} {H : Rh} {σ : SG} {o : Option (AV × Nat)} {x : Option SG} (h : OQ s T D S lm A H σ o x) : OT s T D S lm A H dp σ (o.map (fun y => (y.1, y.2, none))) x := by
  obtain ⟨τ, t1, t2, t3, t4⟩ := h
  refine ⟨τ, t1, PDc_n t2, fun z => t3 ?_, fun A' p' z => ?_, fun A' p' k t q z => ?_⟩
  · cases o with
    | none => rfl
    | some y => cases z
  · cases o with
    | none => cases z
    | some y =>
      obtain ⟨A1, p1⟩ := y
      cases z
      obtain ⟨H', w1, w2⟩ := t4 A1 p1 rfl
      exact ⟨H', w1, w2, t2⟩
  · cases o with
    | none => cases z
    | some y => cases z
theorem OT_from {s lm dp : Nat} {T S : List Nat} {D : List Dc} {A : AV} {H : Rh} {σ τ : SG} {o : Option (AV × Nat × Option (Nat × Nat × Nat))} {x : Option SG} (hf : fP PDn σ τ) (h : OT s T D S lm A H dp τ o x) : OT s T D S lm A H dp σ o x := by
  obtain ⟨υ, a, b, c, d, e⟩ := h
  refine ⟨υ, a, fP_trans (PDc_n hf) b, c, fun A' p' z => ?_, fun A' p' k t q z => ?_⟩
  · obtain ⟨H', w1, w2, w3⟩ := d A' p' z
    exact ⟨H', w1, w2, fP_trans hf w3⟩
  · obtain ⟨e1, e2⟩ := e A' p' k t q z
    refine ⟨e1, fun hl => ?_⟩
    obtain ⟨H', w1, w2, w3, w4, w5, w6, w7, w8, w9⟩ := e2 hl
    exact ⟨H', w1, w2, w3, w4, w5, w6, w7, w8, fun i hi => ⟨((w9 i hi).1).trans ((hf 1176 i (by unfold PDn; omega)).1), ((w9 i hi).2).trans ((hf 1177 i (by unfold PDn; omega)).1)⟩⟩
theorem OT_no {s lm dp : Nat} {T S : List Nat} {D : List Dc} {A : AV} {H : Rh} {σ τ : SG} (hf : fP PDn σ τ) (h7 : ¬ sI τ 1101 107 = 0) : OT s T D S lm A H dp σ none (some τ) := ⟨τ, rfl, PDc_n hf, fun _ => h7, fun _ _ z => (by cases z), fun _ _ _ _ _ z => by cases z⟩
theorem N_tlen {U s e n f p p1 lm dp m w : Nat} {σ : SG} {T S : List Nat} {D : List Dc} {A : AV} {H : Rh} {d : Dc} (hU4 : 4000 < U) (hs : s < 2) (hg : GSc T D) (hlm : lm ≤ 20) (he : e ≤ S.length) (hp : p < p1) (hp1 : p1 ≤ e) (hD : DR σ s T D S lm A H p1 p) (hn : n < aC A) (hm : aN A n = m) (hzn : zD H n = dp) (h106 : sI σ 1101 106 = nI dp) (hF : isF D m f d) (hf : fOf D m (w / 8) = some f) (hw : w % 8 = 2) (hk : kdO (fty T D d) = 2 ∨ dR d = true) :
    OT s T D S lm A H dp σ (dSx T D S n m e p w p1 A) (x_X12_takeLength U 1101 (nI n) (nI (fx D s f)) (nI e) σ) := by
  have hSl := hD.2.2.2.1.2.2.1
  have hdl := hD.2.2.1.1 n hn
  rw [hzn] at hdl
  unfold x_X12_takeLength x_X12_takeLength_36 dSx
  rw [if_pos hw]
  obtain ⟨τ, t1, t2, t3, t4⟩ := N_len (U := U) hU4 he hp1 hD
  rw [t1, b1_eq]
  have bad : OT s T D S lm A H dp σ none (sb (uI τ 1101 107 1) fun σ5 => some σ5) := OT_no (fP_trans (PDn_N t2) (fP_u (Or.inl ⟨rfl, by omega⟩))) (by rw [sI_s]; decide)
  cases hl : lnS S p1 e with
  | none =>
    simp only
    by_cases z7 : sI τ 1101 107 = 0
    · rw [if_pos z7]
      rcases t3 hl with z | z | ⟨z, z'⟩
      · exact absurd z7 z
      · rw [if_pos z]; exact bad
      · rw [if_neg z, if_pos z']; exact bad
    · rw [if_neg z7]; exact bad
  | some y =>
    obtain ⟨l, p2⟩ := y
    obtain ⟨v1, v2, v3, D1, v5, v6⟩ := t4 l p2 hl
    have hle := lnS_le hl (by omega)
    have D1' := D1
    obtain ⟨a1, a2, a3, a4, a5, a6, a7, ⟨e1, e2, e3, e4⟩, a9, a10⟩ := D1'
    obtain ⟨f1, _, _, f4, _⟩ := a1.f hF.1 hF.2.1
    have hft : fty T D d ≤ 14 := dTy_lt (hg.fld hF.1 hF.2.1).2.2.2.1
    have hF' : isF D (aN A n) f d := by rw [hm]; exact hF
    rw [if_pos v1, if_neg v2, if_neg v3, ix_in (by omega) (by decide), f4, v6, v5, a2.2.2.1.1]
    simp only
    rw [hf]
    simp only
    rw [hF.1]
    simp only
    have e13 : nI (fty T D d) = 13 ↔ fty T D d = 13 := nI_eq (b := 13) (by omega) (by decide)
    have e2k : nI (kdO (fty T D d)) = 2 ↔ kdO (fty T D d) = 2 := nI_eq (b := 2) (by have := (kdO_nmr hft).2; omega) (by decide)
    rw [ifd e13]
    by_cases q13 : fty T D d = 13
    · have hnm : nmr (fty T D d) = false := by rw [q13]; try rfl
      obtain ⟨t, ht, hMt⟩ := (ftg_msg hg hF.1 hF.2.1).1 q13
      rw [if_pos q13, hnm, Bool.and_false, if_neg (show ¬ false = true by decide), if_neg (show ¬ false = true by decide), if_neg (show ¬ (fty T D d = 11 ∧ u8T S p2 (p2 + l) = false) from fun z => by omega), if_pos q13, ht]
      obtain ⟨υ, H', u1, u2, u3, u4, u5, u6, u7, u8, u9, u10, u11, u12⟩ := V_msg hU4 hs hg a1 a2 a3 hlm a7 hn hF' q13 ht (by omega) (by omega) a6
      obtain ⟨m1, m2, m3⟩ := aMsg_N a2 hn hF' q13 ht
      rw [hzn] at u4 u5
      rw [u1, b2_eq]
      simp only
      have fnu : fP PDn σ υ := fP_trans (PDn_N t2) (PDn_V u3)
      have c106 : sI υ 1101 106 = nI dp := ((fnu 1101 106 (by unfold PDn; omega)).1).trans h106
      by_cases z7 : sI υ 1101 107 = 0
      · have hle2 := u4.mp z7
        obtain ⟨w1, w2, w3⟩ := u5 hle2
        rw [if_pos z7, c106, ix_in (by omega) (by decide), sb_eq, sI_o (Or.inl (by decide)), c106, ix_in (by omega) (by decide), sb_eq, sb_eq, sI_o (Or.inl (by decide)), sI_o (Or.inl (by decide)), c106, nI_1]
        have F2 : fP (fun b k => (b = 1101 ∧ k = 106) ∨ b = 1176 ∨ b = 1177) υ (uI (uI (uI υ 1176 dp (nI (aMsg D A n f d t).2)) 1177 dp (nI (p2 + l))) 1101 106 (nI (dp + 1))) := fP_trans (fP_trans (fP_u (Or.inr (Or.inl rfl))) (fP_u (Or.inr (Or.inr rfl)))) (fP_u (Or.inl ⟨rfl, rfl⟩))
        refine ⟨_, rfl, fP_trans (PDc_n fnu) (fP_mono F2 (fun b k z => Or.inr z)), fun z => (by cases z), fun A' p' z => (by cases z), fun A' p' k t' q z => ⟨fun h => by omega, fun _ => ?_⟩⟩
        cases z
        have D2 : DR υ s T D S lm (aMsg D A n f d t).1 H' p2 p2 := DR_V D1 u3 u2 z7 w1 ⟨by omega, by rw [u7]; omega, by rw [u8]; omega, by omega, by rw [u12, u8]; exact e4.2⟩ (Nat.le_refl _)
        obtain ⟨c1, c2, c3, c4, c5, c6, c7, c8, c9, c10⟩ := D2
        refine ⟨H', ⟨RS_keep c1 (fun b k hb => (F2 b k (by unfold PKP at hb; omega)).1), VR_keep c2 (fun b k hb => ⟨(F2 b k (by omega)).1, (F2 b k (by omega)).2.1⟩), c3, ⟨((F2 1101 73 (by omega)).1).trans c4.1, RI_P c4.2.1 F2 (fun k => by omega), c4.2.2⟩, ((F2 1101 109 (by omega)).1).trans c5, ((F2 1101 107 (by omega)).1).trans c6, ((F2 1101 85 (by omega)).1).trans c7, c8, c9, c10⟩, ⟨m1, fun m' hm' => ⟨m2 m' hm', u11 m' hm'⟩⟩, u10, m3, w2, sI_s _ _ _ _, ?_, ?_, fun i hi => ⟨?_, ?_⟩⟩
        · rw [sI_o (Or.inl (by decide)), sI_o (Or.inl (by decide)), sI_s]
        · rw [sI_o (Or.inl (by decide)), sI_s]
        · rw [sI_o (Or.inl (by decide)), sI_o (Or.inl (by decide)), sI_o (Or.inr (by omega))]
          exact (fnu 1176 i (by unfold PDn; omega)).1
        · rw [sI_o (Or.inl (by decide)), sI_o (Or.inr (by omega)), sI_o (Or.inl (by decide))]
          exact (fnu 1177 i (by unfold PDn; omega)).1
      · rw [if_neg z7]
        refine ⟨υ, rfl, PDc_n fnu, fun z => (by cases z), fun A' p' z => (by cases z), fun A' p' k t' q z => ⟨fun _ => z7, fun h => ?_⟩⟩
        exact absurd (u4.mpr h) z7
    · rw [if_neg q13, ix_in (by omega) (by decide), f4, N_kindOf hft, b1_eq, ifd e2k]
      by_cases q2 : kdO (fty T D d) = 2
      · have hnm : nmr (fty T D d) = false := (kdO_nmr hft).1.mp q2
        rw [if_pos q2, hnm, Bool.and_false, if_neg (show ¬ false = true by decide), if_neg (show ¬ false = true by decide), if_neg q13]
        obtain ⟨υ, u1, u2, u3⟩ := N_cp_txt (U := U) (e := p2 + l) (K := fun σ45 => sb (uI σ45 1101 109 (nI (p2 + l))) fun σ46 => b1 (x_X12_putText U 1101 (nI n) (nI (fx D s f)) (nI (zP H).length) σ46) fun σ48 => some σ48) (v1 := nI n) (v2 := nI (fx D s f)) (v5 := nI (zP H).length) hSl (by omega) l p2 U τ (zP H) rfl (by omega) a4.2.1 ⟨a2.2.2.1.1, a2.2.2.1.2.1⟩ (by omega)
        rw [u1, sb_eq]
        have hsl : (slc S p2 (p2 + l)).length = l := by rw [slc_len (Nat.le_add_right _ _) (by omega)]; omega
        have hPl : (zP H ++ slc S p2 (p2 + l)).length = (zP H).length + l := by rw [List.length_append, hsl]
        have V1 := VR_pool (τ := υ) a2 u2.1 u2.2 (ok8_slc a4.2.2.2) (by omega) u3
        have F3 : fP PN υ (uI υ 1101 109 (nI (p2 + l))) := fP_u ⟨rfl, Or.inr (Or.inr rfl)⟩
        have F4 : fP PV τ υ := fP_mono u3 (fun b k z => by unfold PV; omega)
        have D2 : DR υ s T D S lm A (zR H, zU H, zP H ++ slc S p2 (p2 + l), zW H, zD H) p2 p2 → True := fun _ => trivial
        have c7 : sI υ 1101 107 = 0 := ((u3 1101 107 (by omega)).1).trans a6
        -- the state with the text, at the end of it
        generalize hψ : uI υ 1101 109 (nI (p2 + l)) = ψ at *
        have V2 : VR ψ s T D A (zR H, zU H, zP H ++ slc S p2 (p2 + l), zW H, zD H) := VR_keep V1 (fun b k hb => ⟨(F3 b k (by unfold PN; omega)).1, (F3 b k (by unfold PN; omega)).2.1⟩)
        have S2 : RS ψ s T D := RS_keep (RS_PV a1 F4) (fun b k hb => (F3 b k (by unfold PN; unfold PKP at hb; omega)).1)
        have c9 : sI ψ 1101 109 = nI (p2 + l) := by rw [← hψ, sI_s]
        have c77 : sI ψ 1101 107 = 0 := by rw [← hψ, sI_o (Or.inr (by decide))]; exact c7
        have fψ : fP PDn σ ψ := fP_trans (fP_trans (PDn_N t2) (PDn_V F4)) (PDn_N F3)
        obtain ⟨_, _, _, f4', _⟩ := S2.f hF.1 hF.2.1
        have e11 : nI (fty T D d) = 11 ↔ fty T D d = 11 := nI_eq (b := 11) (by omega) (by decide)
        have c84 : sI ψ 1101 84 = nI (zP H ++ slc S p2 (p2 + l)).length := V2.2.2.1.1
        unfold x_X12_putText
        rw [ix_in (by omega) (by decide), f4', ifd e11, c84, nI_sub (by omega)]
        have hRl : (zR H).length < 700 := by omega
        -- the row is put
        have put : ∀ (ω : SG), fP (fun b k => b = 1101 ∧ k = 107) ψ ω → ∃ ρ H', x_X12_putText_34 U 1101 (nI n) (nI (fx D s f)) (nI (zP H).length) (nI ((zP H ++ slc S p2 (p2 + l)).length - (zP H).length)) ω = some ρ ∧ fP PDn σ ρ ∧ sI ρ 1101 107 = sI ω 1101 107 ∧ (sI ω 1101 107 = 0 → DR ρ s T D S lm (aPut T D A n f d 0 (slc S p2 (p2 + l))) H' (p2 + l) (p2 + l)) ∧ zX A H (aPut T D A n f d 0 (slc S p2 (p2 + l))) H' := by
          intro ω fω
          have V3 : VR ω s T D A (zR H, zU H, zP H ++ slc S p2 (p2 + l), zW H, zD H) := VR_keep V2 (fun b k hb => ⟨(fω b k (by omega)).1, (fω b k (by omega)).2.1⟩)
          have S3 : RS ω s T D := RS_keep S2 (fun b k hb => (fω b k (by unfold PKP at hb; omega)).1)
          obtain ⟨ρ, H', r1, r2, r3, r4, r5, r6, r7, r8, r9⟩ := V_txt (U := U) (a := (zP H).length) hU4 hs hg S3 V3 hn hF' q13 hnm hRl (by show (zP H).length ≤ (zP H ++ _).length; omega)
          have hcut : slc (zP H ++ slc S p2 (p2 + l)) (zP H).length (zP H ++ slc S p2 (p2 + l)).length = slc S p2 (p2 + l) := by
            show ((zP H ++ slc S p2 (p2 + l)).drop (zP H).length).take _ = _
            rw [List.drop_left, hPl, List.take_of_length_le (by omega)]
          have r2' : VR ρ s T D (aPut T D A n f d 0 (slc S p2 (p2 + l))) H' := by
            have := r2
            show VR ρ s T D (aPut T D A n f d 0 (slc S p2 (p2 + l))) H'
            rw [← hcut]; exact this
          have r9' : DPk T D lm (aPut T D A n f d 0 (slc S p2 (p2 + l))) H' := by
            have := (r9 lm a3).1
            rw [← hcut]; exact this
          have fρ : fP PDn σ ρ := fP_trans (fP_trans fψ (fP_mono fω (fun b k z => Or.inl ⟨z.1, by omega⟩))) (PDn_V r3)
          refine ⟨ρ, H', r1, fρ, r4, fun h0 => ?_, Nat.le_refl _, fun m' _ => ⟨rfl, by rw [r8]; rfl⟩⟩
          have k1 : ∀ b k, ¬ (b = 1101 ∧ (k = 81 ∨ k = 82 ∨ k = 83 ∨ k = 84 ∨ k = 107)) → ¬ (1160 ≤ b ∧ b ≤ 1175) → sI ρ b k = sI ψ b k := fun b k y1 y2 => ((r3 b k (by unfold PV; omega)).1).trans ((fω b k (by omega)).1)
          have k2 : ∀ b k, ¬ (b = 1101 ∧ (k = 81 ∨ k = 82 ∨ k = 83 ∨ k = 84 ∨ k = 107 ∨ k = 108 ∨ k = 109)) → ¬ (1160 ≤ b ∧ b ≤ 1175) → sI ρ b k = sI τ b k := fun b k y1 y2 => (k1 b k (by omega) y2).trans (((F3 b k (by unfold PN; omega)).1).trans ((F4 b k (by unfold PV; omega)).1))
          refine ⟨RS_PV S3 r3, r2', r9', ⟨(k2 1101 73 (by omega) (by omega)).trans a4.1, fun i c hi => (k2 1102 i (by omega) (by omega)).trans (a4.2.1 i c hi), a4.2.2⟩, (k1 1101 109 (by omega) (by omega)).trans c9, r4.trans h0, (k2 1101 85 (by omega) (by omega)).trans a7, ⟨?_, ?_, ?_, ?_, ?_⟩, Nat.le_refl _, by omega⟩
          · rw [r5]; show (zR H).length + 1 ≤ p2 + l; omega
          · rw [r6]; show 2 * (zU H).length ≤ p2 + l; omega
          · rw [r7]; show (zP H ++ slc S p2 (p2 + l)).length ≤ p2 + l; omega
          · show 2 * aC A ≤ p2 + l + 2; omega
          · rw [(r9 lm a3).2, r7]; show zT H + ((zP H ++ slc S p2 (p2 + l)).length - (zP H).length) ≤ (zP H ++ slc S p2 (p2 + l)).length; omega
        have good : OT s T D S lm A H dp σ (some (aPut T D A n f d 0 (slc S p2 (p2 + l)), p2 + l, none)) (b1 (x_X12_putText_34 U 1101 (nI n) (nI (fx D s f)) (nI (zP H).length) (nI ((zP H ++ slc S p2 (p2 + l)).length - (zP H).length)) ψ) fun σ48 => some σ48) := by
          obtain ⟨ρ, H', r1, r2, r3, r4, r5⟩ := put ψ (fP_refl _ _)
          rw [r1, b1_eq]
          refine ⟨ρ, rfl, PDc_n r2, fun z => (by cases z), fun A' p' z => ?_, fun A' p' k t q z => by cases z⟩
          cases z
          exact ⟨H', r4 c77, r5, r2⟩
        by_cases q11 : fty T D d = 11
        · have hu := N_isUtf8 (U := U) (f := (zP H).length) (q := (zP H ++ slc S p2 (p2 + l)).length) hU4 V2.2.2.1.2.1 V2.2.2.1.2.2.1 V2.2.2.1.2.2.2 (by omega) (Nat.le_refl _)
          have hu2 : u8T (zP H ++ slc S p2 (p2 + l)) (zP H).length (zP H ++ slc S p2 (p2 + l)).length = u8T S p2 (p2 + l) := by
            rw [hPl]
            have := u8_pool (P := zP H) (S := S) (a := p2) (e := p2 + l) (Nat.le_add_right _ _) (by omega)
            rw [show p2 + l - p2 = l by omega] at this
            exact this
          have hu' : x_X12_isUtf8 U 1101 (nI (zP H).length) (nI ((zP H ++ slc S p2 (p2 + l)).length - (zP H).length)) ψ = some (zI (u8T S p2 (p2 + l))) := by rw [← hu2]; exact hu
          rw [if_pos q11, hu', b1_eq, ifz]
          cases h8 : u8T S p2 (p2 + l) with
          | true =>
            rw [if_pos (show true = true from rfl), if_neg (show ¬ (fty T D d = 11 ∧ true = false) from fun z => by cases z.2)]
            exact good
          | false =>
            rw [if_neg (show ¬ false = true by decide), if_pos (show fty T D d = 11 ∧ false = false from ⟨q11, rfl⟩), sb_eq]
            obtain ⟨ρ, H', r1, r2, r3, r4, r5⟩ := put (uI ψ 1101 107 1) (fP_u ⟨rfl, rfl⟩)
            rw [r1, b1_eq]
            exact OT_no r2 (by rw [r3, sI_s]; decide)
        · rw [if_neg q11, if_neg (show ¬ (fty T D d = 11 ∧ u8T S p2 (p2 + l) = false) from fun z => q11 z.1)]
          exact good
      · have hnm : nmr (fty T D d) = true := by
          cases h : nmr (fty T D d) with
          | true => rfl
          | false => exact absurd ((kdO_nmr hft).1.mpr h) q2
        have hR : dR d = true := hk.elim (fun z => absurd z q2) id
        rw [if_neg q2, hnm, hR, Bool.and_self, if_pos (show true = true from rfl), if_neg q13]
        have key := N_row (U := U) (e := p2 + l) (lm := lm) hU4 hs hg (by omega) q13 hnm 701 p2 U τ A H (by omega) (by omega) (Nat.le_add_right _ _) (DR_b D1 (by omega) (Nat.le_refl _)) hn hF'
        have key2 := OT_from (dp := dp) (PDn_N t2) (OT_Q key)
        cases hrow : dRow T D S n f d (p2 + l) 701 A p2 with
        | none => rw [hrow] at key2; exact key2
        | some A2 => rw [hrow] at key2; exact key2
/-! ===== the reference takes the next field ===== -/
theorem and7 (w : Nat) : nI w &&& 7 = nI (w % 8) := by
  apply Int32.toBitVec_inj.mp
  apply BitVec.eq_of_toNat_eq
  rw [Int32.toBitVec_and, BitVec.toNat_and]
  have h1 : (nI w).toBitVec.toNat = w % 2 ^ 32 := by show (BitVec.ofNat 32 w).toNat = _; rw [BitVec.toNat_ofNat]
  have h2 : (nI (w % 8)).toBitVec.toNat = w % 8 := by show (BitVec.ofNat 32 (w % 8)).toNat = _; rw [BitVec.toNat_ofNat]; omega
  have h3 : (7 : Int32).toBitVec.toNat = 2 ^ 3 - 1 := rfl
  rw [h1, h2, h3, Nat.and_two_pow_sub_one_eq_mod]
  omega
theorem rdN_no {S : List Nat} {q p e : Nat} (h : ¬ (q = 0 ∨ q = 1 ∨ q = 5)) : rdN S q p e = none := by
  unfold rdN
  rw [if_neg (fun z => h (by omega)), if_neg (fun z => h (by omega)), if_neg (fun z => h (by omega))]
/-- a field kept as it is, as one field -/
noncomputable def unX (S : List Nat) (A : AV) (n p q p1 e : Nat) : Option (AV × Nat × Option (Nat × Nat × Nat)) := (unO S A n p (skS S q p1 e)).map (fun y => (y.1, y.2, none))
theorem unX_2 {S : List Nat} {A : AV} {n p p1 e : Nat} : (∀ y, lnS S p1 e = some y → unX S A n p 2 p1 e = some (aUnk A n (slc S p (y.2 + y.1)), y.2 + y.1, none)) ∧ (lnS S p1 e = none → unX S A n p 2 p1 e = none) := by
  unfold unX skS
  rw [if_pos rfl]
  exact ⟨fun y h => by rw [h]; rfl, fun h => by rw [h]; rfl⟩
theorem unX_n {S : List Nat} {A : AV} {n p q p1 e : Nat} (hq : q ≠ 2) : (∀ y, rdN S q p1 e = some y → unX S A n p q p1 e = some (aUnk A n (slc S p y.2), y.2, none)) ∧ (rdN S q p1 e = none → unX S A n p q p1 e = none) := by
  unfold unX skS
  rw [if_neg hq]
  exact ⟨fun y h => by rw [h]; rfl, fun h => by rw [h]; rfl⟩
theorem dSx_no {T : List Nat} {D : List Dc} {S : List Nat} {n m e p w p1 : Nat} {A : AV} (hf : fOf D m (w / 8) = none) : dSx T D S n m e p w p1 A = unX S A n p (w % 8) p1 e := by
  unfold dSx
  rw [hf]
  by_cases hw : w % 8 = 2
  · rw [if_pos hw, hw]
    cases h : lnS S p1 e with
    | none => rw [unX_2.2 h]
    | some y => rw [unX_2.1 y h]
  · rw [if_neg hw]
    cases h : rdN S (w % 8) p1 e with
    | none => rw [(unX_n hw).2 h]
    | some y => rw [(unX_n hw).1 y h]
theorem dSx_un2 {T : List Nat} {D : List Dc} {S : List Nat} {n m e p w p1 f : Nat} {A : AV} {d : Dc} (hf : fOf D m (w / 8) = some f) (hd : D[f]? = some d) (hw : w % 8 = 2) (hR : dR d = false) (hnm : nmr (fty T D d) = true) : dSx T D S n m e p w p1 A = unX S A n p (w % 8) p1 e := by
  unfold dSx
  rw [if_pos hw, hf, hw]
  cases h : lnS S p1 e with
  | none => rw [unX_2.2 h]
  | some y =>
    rw [unX_2.1 y h]
    simp only
    rw [hd]
    simp only
    rw [hR, hnm]
    try rfl
theorem dSx_un {T : List Nat} {D : List Dc} {S : List Nat} {n m e p w p1 f : Nat} {A : AV} {d : Dc} (hf : fOf D m (w / 8) = some f) (hd : D[f]? = some d) (hw : w % 8 ≠ 2) (hk : kdO (fty T D d) ≠ w % 8) : dSx T D S n m e p w p1 A = unX S A n p (w % 8) p1 e := by
  unfold dSx
  rw [if_neg hw, hf]
  cases h : rdN S (w % 8) p1 e with
  | none => rw [(unX_n hw).2 h]
  | some y =>
    rw [(unX_n hw).1 y h]
    simp only
    rw [hd]
    simp only
    rw [if_neg hk]
theorem dSx_num {T : List Nat} {D : List Dc} {S : List Nat} {n m e p w p1 f : Nat} {A : AV} {d : Dc} (hf : fOf D m (w / 8) = some f) (hd : D[f]? = some d) (hw : w % 8 ≠ 2) (hk : kdO (fty T D d) = w % 8) : (rdN S (w % 8) p1 e = none → dSx T D S n m e p w p1 A = none) ∧ ∀ y, rdN S (w % 8) p1 e = some y → dSx T D S n m e p w p1 A = some (aPut T D A n f d (mng (fty T D d) y.1) [], y.2, none) := by
  unfold dSx
  rw [if_neg hw, hf]
  refine ⟨fun h => by rw [h], fun y h => ?_⟩
  rw [h]
  simp only
  rw [hd]
  simp only
  rw [if_pos hk]
theorem N_tnext {U s e n p lm dp m : Nat} {σ : SG} {T S : List Nat} {D : List Dc} {A : AV} {H : Rh} (hU4 : 4000 < U) (hs : s < 2) (hg : GSc T D) (hlm : lm ≤ 20) (he : e ≤ S.length) (hp : p < e) (hD : DR σ s T D S lm A H p p) (hn : n < aC A) (hm : aN A n = m) (hzn : zD H n = dp) (h106 : sI σ 1101 106 = nI dp) :
    OT s T D S lm A H dp σ (match tgS S p e with | none => none | some (w, p1) => dSx T D S n m e p w p1 A) (x_X12_takeNext U 1101 (nI n) (nI e) σ) := by
  have hSl := hD.2.2.2.1.2.2.1
  have hnd := hD.2.1.2.2.2.2.1.2.2.2 n hn
  have hmM : isM D m := by rw [← hm]; exact hnd.1
  have hc351 := hD.2.1.2.2.2.2.1.2.2.1
  unfold x_X12_takeNext x_X12_takeNext_72 tgS
  obtain ⟨τ, t1, t2, t3, t4⟩ := N_var (U := U) hU4 hD.2.2.2.1 he (by omega) hD.2.2.2.2.1 hD.2.2.2.2.2.1
  rw [t1, b1_eq]
  have bad : OT s T D S lm A H dp σ none (sb (uI τ 1101 107 1) fun σ5 => some σ5) := OT_no (fP_trans (PDn_N t2) (fP_u (Or.inl ⟨rfl, by omega⟩))) (by rw [sI_s]; decide)
  cases hr : rdN S 0 p e with
  | none =>
    rw [if_neg (t4 hr)]
    exact bad
  | some y =>
    obtain ⟨x, p1⟩ := y
    obtain ⟨v1, v2, v3⟩ := t3 x p1 hr
    have hlt := rdN_lt hr
    rw [if_pos v1, v2]
    simp only
    by_cases hx : x < 8 ∨ 4294967295 < x
    · rw [if_pos hx]
      by_cases z0 : x < 8
      · rw [if_pos z0]; exact bad
      · rw [if_neg z0, if_pos (hx.elim (fun z => absurd z z0) id)]; exact bad
    · rw [if_neg hx, if_neg (fun z => hx (Or.inl z)), if_neg (fun z => hx (Or.inr z))]
      obtain ⟨w, rfl, hw1, hw2, hw3⟩ := tag_of hx
      simp only
      rw [hw3, lN_i, and7, hD.2.2.2.2.1]
      have hw8 : w % 8 < 8 := Nat.mod_lt _ (by decide)
      have D1 := DR_N hD t2 v3 v1 (by omega) (by omega)
      have D1' := D1
      obtain ⟨a1, a2, a3, a4, a5, a6, a7, ⟨e1, e2, e3, e4⟩, a9, a10⟩ := D1'
      have c106 : sI τ 1101 106 = nI dp := ((t2 1101 106 (by unfold PN; omega)).1).trans h106
      -- the kind is one of the four
      have main : (w % 8 = 0 ∨ w % 8 = 1 ∨ w % 8 = 2 ∨ w % 8 = 5) → OT s T D S lm A H dp σ (dSx T D S n m e p w p1 A) (x_X12_takeNext_78 U 1101 (nI n) (nI e) (nI p) (nI (w % 8)) τ) := by
        intro hk4
        apply OT_from (PDn_N t2)
        unfold x_X12_takeNext_78
        have fnd : (chF D m).find? (fun i => decide (nI (nmn D i) = nI (w / 8))) = fOf D m (w / 8) := by
          unfold fOf
          apply find_congr
          intro i hi
          obtain ⟨d, hd⟩ := (chF_mem hg hmM).mp hi
          have hnu := hg.nu hd.1 hd.2.1
          have : nI (nmn D i) = nI (w / 8) ↔ nmn D i = w / 8 := nI_eq (by omega) (by omega)
          by_cases y : nmn D i = w / 8
          · rw [decide_eq_true y, decide_eq_true (this.mpr y)]
          · rw [decide_eq_false y, decide_eq_false (fun z => y (this.mp z))]
        have e3' : lush (lN w) 3 = lN (w / 8) := lush_N (k := 3) (by omega) (by decide)
        have e60 : sI τ 1160 n = nI (cnt (D.take m) 0) := by rw [(t2 1160 n (by unfold PN; omega)).1, hnd.2.1, hm]
        rw [ix_in (by omega) (by decide), v2, e3', lN_i, e60, N_fieldNumbered hU4 hs a2.1 hg a1 hmM, b1_eq, fnd]
        have unk : OT s T D S lm A H dp τ (unX S A n p (w % 8) p1 e) (x_X12_takeNext_209 U 1101 (nI n) (nI e) (nI p) (nI (w % 8)) τ) := by
          exact OT_Q (dp := dp) (N_unk (U := U) (n := n) (q := w % 8) hU4 he hlt.1 hlt.2 D1 hn hk4)
        cases hf : fOf D m (w / 8) with
        | none =>
          rw [if_pos (show fIx D s none = -1 from rfl)]
          unfold x_X12_takeNext_117 x_X12_takeNext_158
          rw [if_pos (show fIx D s none = -1 from rfl), if_pos (show fIx D s none = -1 from rfl)]
          rw [dSx_no hf]
          exact unk
        | some f =>
          obtain ⟨d, hd⟩ := fOf_isF hg hmM hf
          have hF : isF D (aN A n) f d := by rw [hm]; exact hd
          have hft : fty T D d ≤ 14 := dTy_lt (hg.fld hd.1 hd.2.1).2.2.2.1
          have hk8 := (kdO_nmr hft).2
          obtain ⟨f1, _, _, f4, _, f6, _⟩ := a1.f hd.1 hd.2.1
          have hne : ¬ nI (fx D s f) = -1 := fun z => nI_neg (by omega : fx D s f < 2 ^ 31) (by rw [z]; decide)
          rw [show fIx D s (some f) = nI (fx D s f) from rfl, if_neg hne, ix_in (by omega) (by decide), f4, N_kindOf hft, b1_eq]
          unfold x_X12_takeNext_117 x_X12_takeNext_147 x_X12_takeNext_158
          have ek : nI (kdO (fty T D d)) = nI (w % 8) ↔ kdO (fty T D d) = w % 8 := nI_eq (by omega) (by omega)
          have ek2 : nI (kdO (fty T D d)) = 2 ↔ kdO (fty T D d) = 2 := nI_eq (b := 2) (by omega) (by decide)
          have ew2 : nI (w % 8) = 2 ↔ w % 8 = 2 := nI_eq (b := 2) (by omega) (by decide)
          rw [if_neg hne, if_neg hne, ix_in (by omega) (by decide), f6, ifz, b1_id]
          by_cases hw : w % 8 = 2
          · rw [if_pos (ew2.mpr hw)]
            by_cases q2 : kdO (fty T D d) = 2
            · rw [if_pos (ek2.mpr q2)]
              exact N_tlen hU4 hs hg hlm he hlt.1 hlt.2 D1 hn hm hzn c106 hd hf hw (Or.inl q2)
            · rw [if_neg (fun z => q2 (ek2.mp z))]
              cases hR : dR d with
              | true =>
                rw [if_pos (show true = true from rfl)]
                exact N_tlen hU4 hs hg hlm he hlt.1 hlt.2 D1 hn hm hzn c106 hd hf hw (Or.inr hR)
              | false =>
                rw [if_neg (show ¬ false = true by decide), if_neg (show ¬ nI (kdO (fty T D d)) = nI (w % 8) from fun z => q2 ((ek.mp z).trans hw))]
                have hnm : nmr (fty T D d) = true := by
                  cases h : nmr (fty T D d) with
                  | true => rfl
                  | false => exact absurd ((kdO_nmr hft).1.mpr h) q2
                rw [dSx_un2 hf hd.1 hw hR hnm]
                exact unk
          · rw [if_neg (fun z => hw (ew2.mp z)), ifd ek]
            by_cases qk : kdO (fty T D d) = w % 8
            · rw [if_pos qk]
              have hnm : nmr (fty T D d) = true := by
                cases h : nmr (fty T D d) with
                | true => rfl
                | false => exact absurd (qk.symm.trans ((kdO_nmr hft).1.mpr h)) hw
              have h13 : fty T D d ≠ 13 := fun z => by rw [z] at hnm; cases hnm
              obtain ⟨υ, u1, u2, u3, u4⟩ := N_one (U := U) (q := w % 8) hU4 a4 he hlt.2 a5 a6 (by omega)
              rw [u1, b1_eq]
              cases hr2 : rdN S (w % 8) p1 e with
              | none =>
                rw [if_neg (u4 hr2), (dSx_num hf hd.1 hw qk).1 hr2]
                exact OT_no (PDn_N u2) (u4 hr2)
              | some y =>
                obtain ⟨x, p2⟩ := y
                obtain ⟨x1, x2, x3⟩ := u3 x p2 hr2
                have hlt2 := rdN_lt hr2
                rw [(dSx_num hf hd.1 hw qk).2 _ hr2]
                have D2 := DR_N D1 u2 x3 x1 (by omega) (by omega)
                obtain ⟨_, _, _, g4, _⟩ := D2.1.f hd.1 hd.2.1
                rw [if_pos x1, ix_in (by omega) (by decide), g4, x2, N_valueFor hft, b1_eq]
                obtain ⟨ψ, H', y1, y2, y3, y4⟩ := DR_num (U := U) (x := mng (fty T D d) x) hU4 hs hg D2 hn hF h13 hnm (by omega)
                rw [y1, b1_eq]
                refine ⟨ψ, rfl, PDc_n (fP_trans (PDn_N u2) y3), fun z => (by cases z), fun A' p' z => ?_, fun A' p' k t q z => by cases z⟩
                cases z
                exact ⟨H', y2, y4, fP_trans (PDn_N u2) y3⟩
            · rw [if_neg qk]
              rw [dSx_un hf hd.1 hw qk]
              exact unk
      have ew : ∀ k, k < 8 → (nI (w % 8) = nI k ↔ w % 8 = k) := fun k hk => nI_eq (by omega) (by omega)
      by_cases k0 : w % 8 = 0
      · rw [if_pos (show nI (w % 8) = 0 from (ew 0 (by decide)).mpr k0)]; exact main (by omega)
      · rw [if_neg (show ¬ nI (w % 8) = 0 from fun z => k0 ((ew 0 (by decide)).mp z))]
        by_cases k1 : w % 8 = 1
        · rw [if_pos (show nI (w % 8) = 1 from (ew 1 (by decide)).mpr k1)]; exact main (by omega)
        · rw [if_neg (show ¬ nI (w % 8) = 1 from fun z => k1 ((ew 1 (by decide)).mp z))]
          by_cases k2 : w % 8 = 2
          · rw [if_pos (show nI (w % 8) = 2 from (ew 2 (by decide)).mpr k2)]; exact main (by omega)
          · rw [if_neg (show ¬ nI (w % 8) = 2 from fun z => k2 ((ew 2 (by decide)).mp z))]
            by_cases k5 : w % 8 = 5
            · rw [if_pos (show nI (w % 8) = 5 from (ew 5 (by decide)).mpr k5)]; exact main (by omega)
            · rw [if_neg (show ¬ nI (w % 8) = 5 from fun z => k5 ((ew 5 (by decide)).mp z))]
              have : dSx T D S n m e p w p1 A = none := by
                unfold dSx
                rw [if_neg k2, rdN_no (by omega)]
              rw [this]
              exact bad
/-! ===== the reference decodes: the loop with its stack ===== -/
/-- the loop's outcome while a message is on top of the stack -/
def LO (U s : Nat) (T : List Nat) (D : List Dc) (S : List Nat) (lm : Nat) (K : SG → Option (Int32 × SG)) (dp e p : Nat) (A : AV) (H : Rh) (U1 : Nat) (σ : SG) (o : Option AV) : Prop :=
  (o = none → ∃ τ, x_X12_decode_L39 U 1101 K U1 σ = K τ ∧ fP PDc σ τ ∧ ¬ sI τ 1101 107 = 0) ∧
  ∀ A', o = some A' → ∃ τ H' U2, x_X12_decode_L39 U 1101 K U1 σ = x_X12_decode_L39 U 1101 K U2 τ ∧ U1 ≤ U2 + (e - p) + 1 ∧ DR τ s T D S lm A' H' e e ∧ fP PDc σ τ ∧ sI τ 1101 106 = nI (dp - 1) ∧ (∀ i, i < dp → sI τ 1176 i = sI σ 1176 i ∧ sI τ 1177 i = sI σ 1177 i) ∧ zX A H A' H'
theorem dSx_lt {T : List Nat} {D : List Dc} {S : List Nat} {n m e p w p1 : Nat} {A : AV} {A' : AV} {p' : Nat} {o : Option (Nat × Nat × Nat)} (h : dSx T D S n m e p w p1 A = some (A', p', o)) (he : e ≤ 700) : p1 < p' ∧ p' ≤ e ∧ ∀ k t q, o = some (k, t, q) → p' ≤ q ∧ q ≤ e := by
  unfold dSx at h
  by_cases hw : w % 8 = 2
  · rw [if_pos hw] at h
    cases hl : lnS S p1 e with
    | none => rw [hl] at h; cases h
    | some y =>
      obtain ⟨l, p2⟩ := y
      have hle := lnS_le hl he
      rw [hl] at h
      simp only at h
      have fin : ∀ (x : Option (AV × Nat × Option (Nat × Nat × Nat))) (B : AV), x = some (B, p2 + l, none) → x = some (A', p', o) → p1 < p' ∧ p' ≤ e ∧ ∀ k t q, o = some (k, t, q) → p' ≤ q ∧ q ≤ e := fun x B e1 e2 => by
        rw [e1] at e2
        cases e2
        exact ⟨by omega, by omega, fun k t q z => by cases z⟩
      cases hf : fOf D m (w / 8) with
      | none => rw [hf] at h; exact fin _ _ rfl h
      | some f =>
        rw [hf] at h
        simp only at h
        cases hd : D[f]? with
        | none => rw [hd] at h; cases h
        | some d =>
          rw [hd] at h
          simp only at h
          by_cases c1 : (dR d && nmr (fty T D d)) = true
          · rw [if_pos c1] at h
            cases hr : dRow T D S n f d (p2 + l) 701 A p2 with
            | none => rw [hr] at h; cases h
            | some A2 => rw [hr] at h; exact fin _ _ rfl h
          · rw [if_neg c1] at h
            by_cases c2 : nmr (fty T D d) = true
            · rw [if_pos c2] at h; exact fin _ _ rfl h
            · rw [if_neg c2] at h
              by_cases c3 : fty T D d = 11 ∧ u8T S p2 (p2 + l) = false
              · rw [if_pos c3] at h; cases h
              · rw [if_neg c3] at h
                by_cases c4 : fty T D d = 13
                · rw [if_pos c4] at h
                  cases ht : ftg T D d with
                  | none => rw [ht] at h; cases h
                  | some t =>
                    rw [ht] at h
                    cases h
                    exact ⟨by omega, by omega, fun k t q z => by cases z; omega⟩
                · rw [if_neg c4] at h; exact fin _ _ rfl h
  · rw [if_neg hw] at h
    cases hl : rdN S (w % 8) p1 e with
    | none => rw [hl] at h; cases h
    | some y =>
      obtain ⟨x, p2⟩ := y
      have hle := rdN_lt hl
      rw [hl] at h
      simp only at h
      have fin : ∀ (x : Option (AV × Nat × Option (Nat × Nat × Nat))) (B : AV), x = some (B, p2, none) → x = some (A', p', o) → p1 < p' ∧ p' ≤ e ∧ ∀ k t q, o = some (k, t, q) → p' ≤ q ∧ q ≤ e := fun x B e1 e2 => by
        rw [e1] at e2
        cases e2
        exact ⟨by omega, by omega, fun k t q z => by cases z⟩
      cases hf : fOf D m (w / 8) with
      | none => rw [hf] at h; exact fin _ _ rfl h
      | some f =>
        rw [hf] at h
        simp only at h
        cases hd : D[f]? with
        | none => rw [hd] at h; cases h
        | some d =>
          rw [hd] at h
          simp only at h
          by_cases c1 : kdO (fty T D d) = w % 8
          · rw [if_pos c1] at h; exact fin _ _ rfl h
          · rw [if_neg c1] at h; exact fin _ _ rfl h
theorem tgS_lt {S : List Nat} {p e w p1 : Nat} (h : tgS S p e = some (w, p1)) : p < p1 ∧ p1 ≤ e := by
  unfold tgS at h
  cases hr : rdN S 0 p e with
  | none => rw [hr] at h; cases h
  | some y =>
    obtain ⟨x, q⟩ := y
    rw [hr] at h
    simp only at h
    split at h
    · cases h
    · cases h; exact rdN_lt hr
theorem DR_106 {σ τ : SG} {s lm p b : Nat} {T S : List Nat} {D : List Dc} {A : AV} {H : Rh} (h : DR σ s T D S lm A H p b) (F2 : fP (fun b k => b = 1101 ∧ k = 106) σ τ) : DR τ s T D S lm A H p b := by
  obtain ⟨c1, c2, c3, c4, c5, c6, c7, c8, c9, c10⟩ := h
  exact ⟨RS_keep c1 (fun b k hb => (F2 b k (by unfold PKP at hb; omega)).1), VR_keep c2 (fun b k hb => ⟨(F2 b k (by omega)).1, (F2 b k (by omega)).2.1⟩), c3, ⟨((F2 1101 73 (by omega)).1).trans c4.1, RI_P c4.2.1 F2 (fun k => by omega), c4.2.2⟩, ((F2 1101 109 (by omega)).1).trans c5, ((F2 1101 107 (by omega)).1).trans c6, ((F2 1101 85 (by omega)).1).trans c7, c8, c9, c10⟩
theorem N_lp {U s lm n m e dp : Nat} {T S : List Nat} {D : List Dc} {K : SG → Option (Int32 × SG)} {rc : AV → Nat → Nat → Nat → Nat → Option AV} (hU4 : 4000 < U) (hs : s < 2) (hg : GSc T D) (hlm : lm ≤ 20) (he : e ≤ S.length) (hSl : S.length ≤ 700) (hdp : 0 < dp)
    (hno : lm < dp + 1 → ∀ A' k t q p', rc A' k t q p' = none)
    (hrc : dp + 1 ≤ lm → ∀ (τ : SG) (A' : AV) (H' : Rh) (k t q p' U1 : Nat), q ≤ S.length → p' ≤ q → DR τ s T D S lm A' H' p' p' → k < aC A' → aN A' k = t → zD H' k = dp + 1 → sI τ 1101 106 = nI (dp + 1) → sI τ 1176 dp = nI k → sI τ 1177 dp = nI q → (q - p') + 2 < U1 → LO U s T D S lm K (dp + 1) q p' A' H' U1 τ (rc A' k t q p')) :
    ∀ (j p U1 : Nat) (σ : SG) (A : AV) (H : Rh), e < j + p → p ≤ e → (e - p) + 2 < U1 → DR σ s T D S lm A H p p → n < aC A → aN A n = m → zD H n = dp → sI σ 1101 106 = nI dp → sI σ 1176 (dp - 1) = nI n → sI σ 1177 (dp - 1) = nI e → LO U s T D S lm K dp e p A H U1 σ (dLp T D S rc n m e j A p) := by
  intro j
  induction j with
  | zero => intro p U1 σ A H hj hp; omega
  | succ j ih =>
    intro p U1 σ A H hj hp hu hD hn hm hz h106 h76 h77
    obtain ⟨V, rfl⟩ : ∃ V, U1 = V + 1 := ⟨U1 - 1, by omega⟩
    have hdl := hD.2.2.1.1 n hn
    rw [hz] at hdl
    have h0 : (0 : Int32) < nI dp := (ltI (a := 0) (by decide) (by omega)).mpr hdp
    have e1 : nI dp - 1 = nI (dp - 1) := nI_sub (b := 1) (by omega)
    have hpe : nI p = nI e ↔ p = e := nI_eq (by omega) (by omega)
    have stp : x_X12_decode_L39 U 1101 K (V + 1) σ = if p = e then x_X12_decode_L39 U 1101 K V (uI σ 1101 106 (nI (dp - 1))) else b1 (x_X12_takeNext U 1101 (nI n) (nI e) σ) fun σ30 => x_X12_decode_L39 U 1101 K V σ30 := by
      rw [x_X12_decode_L39, h106, if_pos h0, if_pos hD.2.2.2.2.2.1, e1, ix_in (by omega) (by decide), h77, hD.2.2.2.2.1, ifd hpe, sb_eq, ix_in (by omega) (by decide), h76]
      try rfl
    unfold LO
    rw [stp, dLp]
    by_cases q : p = e
    · subst q
      rw [if_neg (Nat.lt_irrefl _), if_pos rfl]
      refine ⟨fun z => (by cases z), fun A' z => ?_⟩
      cases z
      have F2 : fP (fun b k => b = 1101 ∧ k = 106) σ (uI σ 1101 106 (nI (dp - 1))) := fP_u ⟨rfl, rfl⟩
      exact ⟨_, H, V, rfl, by omega, DR_106 hD F2, fP_mono F2 (fun b k z => Or.inr (Or.inl z)), sI_s _ _ _ _, fun i _ => ⟨sI_o (Or.inl (by decide)), sI_o (Or.inl (by decide))⟩, zX_refl _ _⟩
    · rw [if_pos (show p < e by omega), if_neg q]
      obtain ⟨τ, t1, t2, t3, t4, t5⟩ := N_tnext (U := U) hU4 hs hg hlm he (show p < e by omega) hD hn hm hz h106
      rw [t1, b1_eq]
      -- once something is wrong the loop ends
      have ends : ∀ (ψ : SG) (V : Nat), 0 < V → fP PDc σ ψ → ¬ sI ψ 1101 107 = 0 → ∃ τ, x_X12_decode_L39 U 1101 K V ψ = K τ ∧ fP PDc σ τ ∧ ¬ sI τ 1101 107 = 0 := by
        intro ψ V hV fψ h7
        obtain ⟨W, rfl⟩ : ∃ W, V = W + 1 := ⟨V - 1, by omega⟩
        rw [x_X12_decode_L39, if_neg h7, ite_self]
        exact ⟨ψ, rfl, fψ, h7⟩
      cases htg : tgS S p e with
      | none =>
        rw [htg] at t3
        simp only
        exact ⟨fun _ => ends τ V (by omega) t2 (t3 rfl), fun A' z => by cases z⟩
      | some y =>
        obtain ⟨w, p1⟩ := y
        have hlt := tgS_lt htg
        rw [htg] at t3 t4 t5
        simp only at t3 t4 t5 ⊢
        rw [dSt_x]
        cases hsx : dSx T D S n m e p w p1 A with
        | none =>
          exact ⟨fun _ => ends τ V (by omega) t2 (t3 hsx), fun A' z => by cases z⟩
        | some y =>
          obtain ⟨A1, p', o⟩ := y
          obtain ⟨s1, s2, s3⟩ := dSx_lt hsx (by omega)
          cases o with
          | none =>
            obtain ⟨H1, D1, x1, F1⟩ := t4 A1 p' hsx
            simp only [dFn]
            have cs : ∀ b k, (b = 1101 ∧ k = 106) ∨ b = 1176 ∨ b = 1177 → sI τ b k = sI σ b k := fun b k hb => (F1 b k (by unfold PDn; omega)).1
            have key := ih p' V τ A1 H1 (by omega) s2 (by omega) D1 (by have := x1.1; omega) ((x1.2 n hn).1.trans hm) ((x1.2 n hn).2.trans hz) ((cs 1101 106 (by omega)).trans h106) ((cs 1176 _ (by omega)).trans h76) ((cs 1177 _ (by omega)).trans h77)
            obtain ⟨k1, k2⟩ := key
            refine ⟨fun z => ?_, fun A' z => ?_⟩
            · obtain ⟨υ, u1, u2, u3⟩ := k1 z
              exact ⟨υ, u1, fP_trans t2 u2, u3⟩
            · obtain ⟨υ, H', U2, u1, u2, u3, u4, u5, u6, u7⟩ := k2 A' z
              exact ⟨υ, H', U2, u1, by omega, u3, fP_trans t2 u4, u5, fun i hi => ⟨(u6 i hi).1.trans (cs 1176 i (by omega)), (u6 i hi).2.trans (cs 1177 i (by omega))⟩, zX_trans x1 u7⟩
          | some c =>
            obtain ⟨k, t, q'⟩ := c
            obtain ⟨s4, s5⟩ := s3 k t q' rfl
            obtain ⟨y1, y2⟩ := t5 A1 p' k t q' hsx
            simp only [dFn]
            by_cases hl : dp + 1 ≤ lm
            · obtain ⟨H1, D1, x1, x2, x3, x4, x5, x6, x7, x8⟩ := y2 hl
              have key := hrc hl τ A1 H1 k t q' p' V (by omega) s4 D1 x2 x3 x4 x5 x6 x7 (by omega)
              obtain ⟨k1, k2⟩ := key
              cases hr : rc A1 k t q' p' with
              | none =>
                obtain ⟨υ, u1, u2, u3⟩ := k1 hr
                exact ⟨fun _ => ⟨υ, u1, fP_trans t2 u2, u3⟩, fun A' z => by cases z⟩
              | some A2 =>
                obtain ⟨υ, H2, U2, u1, u2, u3, u4, u5, u6, u7⟩ := k2 A2 hr
                simp only
                have x17 := zX_trans x1 u7
                have key2 := ih q' U2 υ A2 H2 (by omega) s5 (by omega) u3 (by have := x17.1; omega) ((x17.2 n hn).1.trans hm) ((x17.2 n hn).2.trans hz) u5 ((u6 (dp - 1) (by omega)).1.trans ((x8 (dp - 1) (by omega)).1.trans h76)) ((u6 (dp - 1) (by omega)).2.trans ((x8 (dp - 1) (by omega)).2.trans h77))
                obtain ⟨k3, k4⟩ := key2
                rw [u1]
                refine ⟨fun z => ?_, fun A' z => ?_⟩
                · obtain ⟨ω, o1, o2, o3⟩ := k3 z
                  exact ⟨ω, o1, fP_trans (fP_trans t2 u4) o2, o3⟩
                · obtain ⟨ω, H', U3, o1, o2, o3, o4, o5, o6, o7⟩ := k4 A' z
                  exact ⟨ω, H', U3, o1, by omega, o3, fP_trans (fP_trans t2 u4) o4, o5, fun i hi => ⟨(o6 i hi).1.trans ((u6 i (by omega)).1.trans (x8 i hi).1), (o6 i hi).2.trans ((u6 i (by omega)).2.trans (x8 i hi).2)⟩, zX_trans x17 o7⟩
            · rw [hno (by omega)]
              exact ⟨fun _ => ends τ V (by omega) t2 (y1 (by omega)), fun A' z => by cases z⟩
theorem N_ms {U s lm : Nat} {T S : List Nat} {D : List Dc} {K : SG → Option (Int32 × SG)} (hU4 : 4000 < U) (hs : s < 2) (hg : GSc T D) (hlm : lm ≤ 20) (hSl : S.length ≤ 700) : ∀ (j dp : Nat) (σ : SG) (A : AV) (H : Rh) (n m e p U1 : Nat), j + dp = 25 → 0 < dp → dp ≤ lm → e ≤ S.length → p ≤ e → DR σ s T D S lm A H p p → n < aC A → aN A n = m → zD H n = dp → sI σ 1101 106 = nI dp → sI σ 1176 (dp - 1) = nI n → sI σ 1177 (dp - 1) = nI e → (e - p) + 2 < U1 → LO U s T D S lm K dp e p A H U1 σ (dMs T D S lm j dp A n m e p) := by
  intro j
  induction j with
  | zero => intro dp σ A H n m e p U1 hj h0 hdp; omega
  | succ j ih =>
    intro dp σ A H n m e p U1 hj h0 hdp he hp hD hn hm hz h106 h76 h77 hu
    rw [dMs, if_neg (show ¬ lm < dp by omega)]
    refine N_lp hU4 hs hg hlm he hSl h0 (fun hl A' k t q p' => ?_) (fun hl τ A' H' k t q p' U1 hq hp' D' hk ht hz' y1 y2 y3 hu' => ih (dp + 1) τ A' H' k t q p' U1 (by omega) (by omega) hl hq hp' D' hk ht hz' y1 y2 y3 hu') 701 p U1 σ A H (by omega) hp hu hD hn hm hz h106 h76 h77
    obtain ⟨i, rfl⟩ : ∃ i, j = i + 1 := ⟨j - 1, by omega⟩
    rw [dMs, if_pos hl]
/-! ===== the reference begins a value, and decodes up to the end ===== -/
theorem lim_n {n : Int32} (h1 : ¬ n < 1) (h8 : ¬ 20 < n) : ∃ k, n = nI k ∧ 1 ≤ k ∧ k ≤ 20 := by
  obtain ⟨k, hk, rfl⟩ := nI_of (x := n) (fun z => h1 (Int32.lt_trans z (by decide)))
  refine ⟨k, rfl, ?_, ?_⟩
  · have : ¬ k < 1 := fun z => h1 ((ltI (b := 1) hk (by decide)).mpr z)
    omega
  · have : ¬ 20 < k := fun z => h8 ((ltI (a := 20) (by decide) hk).mpr z)
    omega
def r0 : Rh := ([], [], [], fun _ => 0, fun _ => 1)
def PBg (b k : Nat) : Prop := (b = 1101 ∧ (79 ≤ k ∧ k ≤ 85 ∨ k = 107)) ∨ (1160 ≤ b ∧ b ≤ 1162)
theorem N_beginV {s m lm : Nat} {σ : SG} {T : List Nat} {D : List Dc} (hm : isM D m) (h1 : 1 ≤ lm) (hlm : lm ≤ 20) : ∃ τ, x_X12_beginValue 1101 (nI s) (nI (cnt (D.take m) 0)) (nI lm) σ = some τ ∧ VR τ s T D (a0 m) r0 ∧ DPk T D lm (a0 m) r0 ∧ sI τ 1101 107 = 0 ∧ sI τ 1101 85 = nI lm ∧ sI τ 1101 79 = 0 ∧ fP PBg σ τ := by
  unfold x_X12_beginValue x_X12_addNode
  rw [sb_eq, sb_eq, sb_eq, sb_eq, sb_eq, sb_eq, sb_eq, sb_eq]
  have F8 : fP PBg σ (uI (uI (uI (uI (uI (uI (uI (uI σ 1101 80 (nI s)) 1101 79 0) 1101 107 0) 1101 81 0) 1101 82 0) 1101 83 0) 1101 84 0) 1101 85 (nI lm)) := by
    refine fP_trans (fP_trans (fP_trans (fP_trans (fP_trans (fP_trans (fP_trans (fP_u ?_) (fP_u ?_)) (fP_u ?_)) (fP_u ?_)) (fP_u ?_)) (fP_u ?_)) (fP_u ?_)) (fP_u ?_)
    all_goals exact Or.inl ⟨rfl, by omega⟩
  have c80 : sI (uI (uI (uI (uI (uI (uI (uI (uI σ 1101 80 (nI s)) 1101 79 0) 1101 107 0) 1101 81 0) 1101 82 0) 1101 83 0) 1101 84 0) 1101 85 (nI lm)) 1101 80 = nI s := rfl
  have c79 : sI (uI (uI (uI (uI (uI (uI (uI (uI σ 1101 80 (nI s)) 1101 79 0) 1101 107 0) 1101 81 0) 1101 82 0) 1101 83 0) 1101 84 0) 1101 85 (nI lm)) 1101 79 = 0 := rfl
  have c107 : sI (uI (uI (uI (uI (uI (uI (uI (uI σ 1101 80 (nI s)) 1101 79 0) 1101 107 0) 1101 81 0) 1101 82 0) 1101 83 0) 1101 84 0) 1101 85 (nI lm)) 1101 107 = 0 := rfl
  have c81 : sI (uI (uI (uI (uI (uI (uI (uI (uI σ 1101 80 (nI s)) 1101 79 0) 1101 107 0) 1101 81 0) 1101 82 0) 1101 83 0) 1101 84 0) 1101 85 (nI lm)) 1101 81 = 0 := rfl
  have c82 : sI (uI (uI (uI (uI (uI (uI (uI (uI σ 1101 80 (nI s)) 1101 79 0) 1101 107 0) 1101 81 0) 1101 82 0) 1101 83 0) 1101 84 0) 1101 85 (nI lm)) 1101 82 = 0 := rfl
  have c83 : sI (uI (uI (uI (uI (uI (uI (uI (uI σ 1101 80 (nI s)) 1101 79 0) 1101 107 0) 1101 81 0) 1101 82 0) 1101 83 0) 1101 84 0) 1101 85 (nI lm)) 1101 83 = 0 := rfl
  have c84 : sI (uI (uI (uI (uI (uI (uI (uI (uI σ 1101 80 (nI s)) 1101 79 0) 1101 107 0) 1101 81 0) 1101 82 0) 1101 83 0) 1101 84 0) 1101 85 (nI lm)) 1101 84 = 0 := rfl
  have c85 : sI (uI (uI (uI (uI (uI (uI (uI (uI σ 1101 80 (nI s)) 1101 79 0) 1101 107 0) 1101 81 0) 1101 82 0) 1101 83 0) 1101 84 0) 1101 85 (nI lm)) 1101 85 = nI lm := rfl
  generalize (uI (uI (uI (uI (uI (uI (uI (uI σ 1101 80 (nI s)) 1101 79 0) 1101 107 0) 1101 81 0) 1101 82 0) 1101 83 0) 1101 84 0) 1101 85 (nI lm)) = σ8 at *
  rw [c81, sb_eq, show (0 : Int32) = nI 0 from rfl, ix_in (by decide) (by decide), sb_eq, ix_in (by decide) (by decide), sb_eq, ix_in (by decide) (by decide), sb_eq]
  have F12 : fP (fun b k => (b = 1101 ∧ k = 81) ∨ (1160 ≤ b ∧ b ≤ 1162)) σ8 (uI (uI (uI (uI σ8 1101 81 (nI 0 + 1)) 1160 0 (nI (cnt (D.take m) 0))) 1161 0 (-1)) 1162 0 1) := by
    refine fP_trans (fP_trans (fP_trans (fP_u ?_) (fP_u ?_)) (fP_u ?_)) (fP_u ?_)
    · exact Or.inl ⟨rfl, rfl⟩
    all_goals exact Or.inr ⟨by decide, by decide⟩
  have d81 : sI (uI (uI (uI (uI σ8 1101 81 (nI 0 + 1)) 1160 0 (nI (cnt (D.take m) 0))) 1161 0 (-1)) 1162 0 1) 1101 81 = nI 1 := rfl
  have d60 : sI (uI (uI (uI (uI σ8 1101 81 (nI 0 + 1)) 1160 0 (nI (cnt (D.take m) 0))) 1161 0 (-1)) 1162 0 1) 1160 0 = nI (cnt (D.take m) 0) := rfl
  have d61 : sI (uI (uI (uI (uI σ8 1101 81 (nI 0 + 1)) 1160 0 (nI (cnt (D.take m) 0))) 1161 0 (-1)) 1162 0 1) 1161 0 = -1 := rfl
  have d62 : sI (uI (uI (uI (uI σ8 1101 81 (nI 0 + 1)) 1160 0 (nI (cnt (D.take m) 0))) 1161 0 (-1)) 1162 0 1) 1162 0 = nI 1 := rfl
  generalize (uI (uI (uI (uI σ8 1101 81 (nI 0 + 1)) 1160 0 (nI (cnt (D.take m) 0))) 1161 0 (-1)) 1162 0 1) = ω at *
  have e85 : sI ω 1101 85 = nI lm := ((F12 1101 85 (by omega)).1).trans c85
  have hlt : ¬ nI lm < 1 := fun z => by have := (ltI (b := 1) (by omega) (by decide)).mp z; omega
  rw [e85, if_neg hlt, b2_eq]
  refine ⟨ω, rfl, ⟨((F12 1101 80 (by omega)).1).trans c80, ⟨((F12 1101 82 (by omega)).1).trans c82, Nat.zero_le _, fun i r h => by cases h⟩, ⟨((F12 1101 84 (by omega)).1).trans c84, fun i c h => (by cases h), fun c h => (by cases h), Nat.zero_le _⟩, ⟨((F12 1101 83 (by omega)).1).trans c83, Nat.zero_le _, fun i u h => by cases h⟩, ⟨d81, Nat.one_pos, (by decide : 1 ≤ 351), fun n hn => ?_⟩, fun r hr => (by cases hr), fun n hn => ⟨fun f d _ => rfl, rfl⟩⟩, ⟨fun n _ => h1, fun r hr => (by cases hr), fun i r d hi => by cases hi⟩, ((F12 1101 107 (by omega)).1).trans c107, e85, ((F12 1101 79 (by omega)).1).trans c79, fP_trans F8 (fP_mono F12 (fun b k z => by unfold PBg; omega))⟩
  have : n = 0 := by have : n < 1 := hn; omega
  subst this
  exact ⟨hm, d60, d61, d62, fun z => absurd rfl z⟩
/-- what decoding may touch at all -/
def Pdec (b k : Nat) : Prop := PDc b k ∨ (b = 1101 ∧ (k = 1 ∨ k = 5 ∨ k = 73 ∨ k = 79 ∨ k = 80 ∨ k = 85))
/-- a value that is begun, or none -/
theorem N_begins {U s : Nat} {σ : SG} {T S : List Nat} {D : List Dc} {x y : Int32} (hs : s < 2) (hg : GSc T D) (hS : RS σ s T D) (hT : RTr σ S) (h8 : ok8 S) (hl : S.length ≤ 700) :
    ((msg D x = none ∨ y < 1 ∨ 20 < y) → ∃ τ, x_X12_begins 1101 (nI s) x y σ = some (0, τ) ∧ fP Pdec σ τ ∧ sI τ 1101 5 = 1 ∧ sI τ 1101 79 = 0 ∧ sI τ 1101 1 = 0) ∧
    ∀ m lm, msg D x = some m → y = nI lm → 1 ≤ lm → lm ≤ 20 → ∃ τ, x_X12_begins 1101 (nI s) x y σ = some (1, τ) ∧ fP Pdec σ τ ∧ sI τ 1101 79 = 0 ∧ sI τ 1101 1 = 0 ∧ RS τ s T D ∧ VR τ s T D (a0 m) r0 ∧ DPk T D lm (a0 m) r0 ∧ LR τ S ∧ sI τ 1101 107 = 0 ∧ sI τ 1101 85 = nI lm := by
  have hl9 := hg.2.1
  unfold x_X12_begins x_X12_begins_43 x_X12_begins_44
  rw [hT.1, sb_eq, sb_eq, sb_eq]
  have F3 : fP (fun b k => b = 1101 ∧ (k = 1 ∨ k = 73 ∨ k = 79)) σ (uI (uI (uI σ 1101 73 (nI S.length)) 1101 1 0) 1101 79 0) := by
    refine fP_trans (fP_trans (fP_u ?_) (fP_u ?_)) (fP_u ?_)
    all_goals exact ⟨rfl, by omega⟩
  have c73 : sI (uI (uI (uI σ 1101 73 (nI S.length)) 1101 1 0) 1101 79 0) 1101 73 = nI S.length := rfl
  have c1 : sI (uI (uI (uI σ 1101 73 (nI S.length)) 1101 1 0) 1101 79 0) 1101 1 = 0 := rfl
  have c79 : sI (uI (uI (uI σ 1101 73 (nI S.length)) 1101 1 0) 1101 79 0) 1101 79 = 0 := rfl
  generalize (uI (uI (uI σ 1101 73 (nI S.length)) 1101 1 0) 1101 79 0) = σ3 at *
  have S3 : RS σ3 s T D := RS_keep hS (fun b k hb => (F3 b k (by unfold PKP at hb; omega)).1)
  rw [N_isMessage hs hl9 S3, b1_eq, ifz, sb_eq, sb_eq, sI_s, sI_s, if_neg (show ¬ (1 : Int32) = 0 by decide), if_pos (show (0 : Int32) = 0 from rfl)]
  have bad : ∃ τ, some ((0 : Int32), uI σ3 1101 5 1) = some (0, τ) ∧ fP Pdec σ τ ∧ sI τ 1101 5 = 1 ∧ sI τ 1101 79 = 0 ∧ sI τ 1101 1 = 0 := ⟨_, rfl, fP_trans (fP_mono F3 (fun b k z => Or.inr ⟨z.1, by omega⟩)) (fP_u (Or.inr ⟨rfl, by omega⟩)), sI_s _ _ _ _, by rw [sI_o (Or.inr (by decide))]; exact c79, by rw [sI_o (Or.inr (by decide))]; exact c1⟩
  refine ⟨fun h => ?_, fun m lm hm hy h1 h20 => ?_⟩
  · cases hm : msg D x with
    | none => rw [Option.isSome_none, if_neg (show ¬ false = true by decide)]; exact bad
    | some m =>
      rw [Option.isSome_some, if_pos (show true = true from rfl)]
      by_cases q1 : y < 1
      · rw [if_pos q1]; exact bad
      · rw [if_neg q1]
        by_cases q2 : 20 < y
        · rw [if_pos q2]; exact bad
        · rcases h with z | z | z
          · rw [hm] at z; cases z
          · exact absurd z q1
          · exact absurd z q2
  · obtain ⟨hM, hx⟩ := msg_some hm
    obtain ⟨τ, t1, t2, t3, t4, t5, t6, t7⟩ := N_beginV (s := s) (σ := uI σ3 1101 5 0) (T := T) hM h1 h20
    subst hy
    rw [hm, Option.isSome_some, if_pos (show true = true from rfl), if_neg (show ¬ nI lm < 1 from fun z => by have := (ltI (b := 1) (by omega) (by decide)).mp z; omega), if_neg (show ¬ 20 < nI lm from fun z => by have := (ltI (a := 20) (by decide) (by omega)).mp z; omega), hx, t1, b1_eq]
    have F5 : fP (fun b k => b = 1101 ∧ k = 5) σ3 (uI σ3 1101 5 0) := fP_u ⟨rfl, rfl⟩
    have ci : ∀ b k, ¬ (b = 1101 ∧ (k = 1 ∨ k = 5 ∨ k = 73 ∨ k = 79)) → ¬ PBg b k → sI τ b k = sI σ b k := fun b k h1 h2 => ((t7 b k h2).1).trans (((F5 b k (by omega)).1).trans ((F3 b k (by omega)).1))
    refine ⟨τ, rfl, fP_trans (fP_trans (fP_mono F3 (fun b k z => Or.inr ⟨z.1, by omega⟩)) (fP_mono F5 (fun b k z => Or.inr ⟨z.1, by omega⟩))) (fP_mono t7 (fun b k z => by unfold PBg at z; unfold Pdec PDc PDn; omega)), t6, ?_, RS_keep hS (fun b k hb => ci b k (by unfold PKP at hb; omega) (by unfold PKP at hb; unfold PBg; omega)), t2, t3, ⟨?_, fun i c hi => (ci 1102 i (by omega) (by unfold PBg; omega)).trans (hT.2 i c hi), hl, h8⟩, t4, t5⟩
    · exact ((t7 1101 1 (by unfold PBg; omega)).1).trans (((F5 1101 1 (by omega)).1).trans c1)
    · exact ((t7 1101 73 (by unfold PBg; omega)).1).trans (((F5 1101 73 (by omega)).1).trans c73)
/-- the value that a tape decodes to -/
noncomputable def dcS (T : List Nat) (D : List Dc) (S : List Nat) (lm m : Nat) : Option AV := dMs T D S lm 24 1 (a0 m) 0 m S.length 0
theorem N_dec {U s : Nat} {σ : SG} {T S : List Nat} {D : List Dc} {x y : Int32} (hU4 : 4000 < U) (hs : s < 2) (hg : GSc T D) (hS : RS σ s T D) (hT : RTr σ S) (h8 : ok8 S) (hl : S.length ≤ 700) :
    ((msg D x = none ∨ y < 1 ∨ 20 < y) → ∃ τ, x_X12_decode U 1101 (nI s) x y σ = some (0, τ) ∧ fP Pdec σ τ ∧ sI τ 1101 5 = 1 ∧ sI τ 1101 79 = 0 ∧ sI τ 1101 1 = 0) ∧
    ∀ m lm, msg D x = some m → y = nI lm → 1 ≤ lm → lm ≤ 20 → ∃ τ, x_X12_decode U 1101 (nI s) x y σ = x_X12_finish U 1101 τ ∧ fP Pdec σ τ ∧ sI τ 1101 79 = 0 ∧ sI τ 1101 1 = 0 ∧ (dcS T D S lm m = none → ¬ sI τ 1101 107 = 0) ∧ ∀ A, dcS T D S lm m = some A → ∃ H, DR τ s T D S lm A H S.length S.length ∧ zD H 0 = 1 ∧ aN A 0 = m := by
  obtain ⟨b1', b2'⟩ := N_begins (U := U) (x := x) (y := y) hs hg hS hT h8 hl
  unfold x_X12_decode
  refine ⟨fun h => ?_, fun m lm hm hy h1 h20 => ?_⟩
  · obtain ⟨τ, t1, t2⟩ := b1' h
    rw [t1, b2_eq, if_pos rfl]
    exact ⟨τ, rfl, t2⟩
  · obtain ⟨τ, t1, t2, t3, t4, t5, t6, t7, t8, t9, t10⟩ := b2' m lm hm hy h1 h20
    rw [t1, b2_eq, if_neg (show ¬ (1 : Int32) = 0 by decide), sb_eq, show (0 : Int32) = nI 0 from rfl, ix_in (by decide) (by decide), sb_eq, ix_in (by decide) (by decide), sb_eq, sb_eq, sI_o (Or.inl (by decide)), sI_o (Or.inr (by decide)), t8.1]
    have F : fP (fun b k => (b = 1101 ∧ (k = 106 ∨ k = 109)) ∨ b = 1176 ∨ b = 1177) τ (uI (uI (uI (uI τ 1101 109 (nI 0)) 1176 0 (nI 0)) 1177 0 (nI S.length)) 1101 106 1) := by
      refine fP_trans (fP_trans (fP_trans (fP_u ?_) (fP_u ?_)) (fP_u ?_)) (fP_u ?_)
      · exact Or.inl ⟨rfl, by omega⟩
      · exact Or.inr (Or.inl rfl)
      · exact Or.inr (Or.inr rfl)
      · exact Or.inl ⟨rfl, by omega⟩
    have c9 : sI (uI (uI (uI (uI τ 1101 109 (nI 0)) 1176 0 (nI 0)) 1177 0 (nI S.length)) 1101 106 1) 1101 109 = nI 0 := rfl
    have c6 : sI (uI (uI (uI (uI τ 1101 109 (nI 0)) 1176 0 (nI 0)) 1177 0 (nI S.length)) 1101 106 1) 1101 106 = nI 1 := rfl
    have c76 : sI (uI (uI (uI (uI τ 1101 109 (nI 0)) 1176 0 (nI 0)) 1177 0 (nI S.length)) 1101 106 1) 1176 0 = nI 0 := rfl
    have c77 : sI (uI (uI (uI (uI τ 1101 109 (nI 0)) 1176 0 (nI 0)) 1177 0 (nI S.length)) 1101 106 1) 1177 0 = nI S.length := rfl
    generalize (uI (uI (uI (uI τ 1101 109 (nI 0)) 1176 0 (nI 0)) 1177 0 (nI S.length)) 1101 106 1) = ω at *
    have D0 : DR ω s T D S lm (a0 m) r0 0 0 := ⟨RS_keep t5 (fun b k hb => (F b k (by unfold PKP at hb; omega)).1), VR_keep t6 (fun b k hb => ⟨(F b k (by omega)).1, (F b k (by omega)).2.1⟩), t7, ⟨((F 1101 73 (by omega)).1).trans t8.1, RI_P t8.2.1 F (fun k => by omega), t8.2.2⟩, c9, ((F 1101 107 (by omega)).1).trans t9, ((F 1101 85 (by omega)).1).trans t10, ⟨Nat.zero_le _, Nat.zero_le _, Nat.zero_le _, Nat.le_refl _, Nat.zero_le _⟩, Nat.le_refl _, Nat.zero_le _⟩
    have Fd : fP Pdec σ ω := fP_trans t2 (fP_mono F (fun b k z => by unfold Pdec PDc PDn; omega))
    obtain ⟨k1, k2⟩ := N_ms (U := U) (K := fun σ31 => x_X12_decode_108 U 1101 σ31) hU4 hs hg h20 hl 24 1 ω (a0 m) r0 0 m S.length 0 U (by omega) (by decide) h1 (Nat.le_refl _) (Nat.zero_le _) D0 Nat.one_pos rfl rfl c6 c76 c77 (by omega)
    have ef : ∀ ψ, x_X12_decode_108 U 1101 ψ = x_X12_finish U 1101 ψ := fun ψ => b2_id _
    have i79 : ∀ ψ, fP PDc ω ψ → sI ψ 1101 79 = 0 ∧ sI ψ 1101 1 = 0 := fun ψ hψ => ⟨((hψ 1101 79 (by unfold PDc PDn; omega)).1).trans (((F 1101 79 (by omega)).1).trans t3), ((hψ 1101 1 (by unfold PDc PDn; omega)).1).trans (((F 1101 1 (by omega)).1).trans t4)⟩
    cases hd : dcS T D S lm m with
    | none =>
      obtain ⟨ψ, p1, p2, p3⟩ := k1 hd
      rw [p1]
      exact ⟨ψ, ef ψ, fP_trans Fd (fP_mono p2 (fun b k z => Or.inl z)), (i79 ψ p2).1, (i79 ψ p2).2, fun _ => p3, fun A z => by cases z⟩
    | some A =>
      obtain ⟨ψ, H', U2, p1, p2, p3, p4, p5, p6, p7⟩ := k2 A hd
      rw [p1]
      obtain ⟨V, rfl⟩ : ∃ V, U2 = V + 1 := ⟨U2 - 1, by omega⟩
      rw [x_X12_decode_L39, p5, if_neg (show ¬ (0 : Int32) < nI (1 - 1) by decide)]
      exact ⟨ψ, ef ψ, fP_trans Fd (fP_mono p4 (fun b k z => Or.inl z)), (i79 ψ p4).1, (i79 ψ p4).2, fun z => (by cases z), fun A' z => by cases z; exact ⟨H', p3, (p7.2 0 Nat.one_pos).2, (p7.2 0 Nat.one_pos).1⟩⟩
/-! ===== how many values a value holds ===== -/
def isT (T : List Nat) (D : List Dc) (f : Nat) : Bool := match D[f]? with
  | none => false
  | some d => decide (fty T D d = 13)
/-- what an opened message holds, field by field -/
def its (D : List Dc) (A : AV) (n : Nat) : List (Nat × It) := (chF D (aN A n)).flatMap (fun f => (aE A n f).map (fun it => (f, it)))
/-- the messages that it holds -/
def chN (T : List Nat) (D : List Dc) (A : AV) (n : Nat) : List Nat := ((its D A n).filter (fun y => isT T D y.1)).map (fun y => y.2.2.2)
def tc (T : List Nat) (D : List Dc) (A : AV) : Nat → Nat → Nat
  | 0, _ => 0
  | j + 1, n => (its D A n).length + ((chN T D A n).map (tc T D A j)).sum
/-- the opened messages are a forest: z tells how deep each is -/
def AW (T : List Nat) (D : List Dc) (A : AV) (z : Nat → Nat) : Prop := 0 < aC A ∧ z 0 = 1 ∧ (∀ n, n < aC A → z n ≤ 20 ∧ ∀ c ∈ chN T D A n, n < c ∧ c < aC A ∧ z c = z n + 1) ∧ ((List.range (aC A)).flatMap (chN T D A)).Nodup
/-- which messages are reached, of the first k -/
def alL (T : List Nat) (D : List Dc) (A : AV) : Nat → List Nat
  | 0 => []
  | k + 1 => if k = 0 ∨ k ∈ (alL T D A k).flatMap (chN T D A) then alL T D A k ++ [k] else alL T D A k
def tcf (T : List Nat) (D : List Dc) (A : AV) (z : Nat → Nat) (n : Nat) : Nat := tc T D A (21 - z n) n
/-- the number of values -/
def nV (T : List Nat) (D : List Dc) (A : AV) : Nat := ((alL T D A (aC A)).map (fun n => (its D A n).length)).sum
theorem tcf_eq {T : List Nat} {D : List Dc} {A : AV} {z : Nat → Nat} (h : AW T D A z) {n : Nat} (hn : n < aC A) : tcf T D A z n = (its D A n).length + ((chN T D A n).map (tcf T D A z)).sum := by
  obtain ⟨_, _, h2, _⟩ := h
  obtain ⟨a, b⟩ := h2 n hn
  unfold tcf
  rw [show 21 - z n = (20 - z n) + 1 by omega, tc]
  congr 2
  apply List.map_congr_left
  intro c hc
  rw [(b c hc).2.2, show 21 - (z n + 1) = 20 - z n by omega]
theorem alL_lt {T : List Nat} {D : List Dc} {A : AV} : ∀ k, (alL T D A k).Sublist (List.range k) := by
  intro k
  induction k with
  | zero => exact List.Sublist.refl _
  | succ k ih =>
    rw [alL, List.range_succ]
    split
    · exact List.Sublist.append ih (List.Sublist.refl _)
    · exact List.Sublist.trans ih (List.sublist_append_left _ _)
theorem flatMap_sub {α β : Type} {f : α → List β} : ∀ {L M : List α}, L.Sublist M → (L.flatMap f).Sublist (M.flatMap f) := by
  intro L M h
  induction h with
  | slnil => exact List.Sublist.refl _
  | cons a _ ih => rw [List.flatMap_cons]; exact List.Sublist.trans ih (List.sublist_append_right _ _)
  | cons_cons a _ ih => rw [List.flatMap_cons, List.flatMap_cons]; exact List.Sublist.append (List.Sublist.refl _) ih
theorem sum_from {g : Nat → Nat} {k : Nat} : ∀ (P : List Nat), P.Nodup → ((P.filter (fun c => decide (k ≤ c))).map g).sum = ((P.filter (fun c => decide (k + 1 ≤ c))).map g).sum + (if k ∈ P then g k else 0) := by
  intro P
  induction P with
  | nil => intro _; try rfl
  | cons c P ih =>
    intro h
    obtain ⟨h1, h2⟩ := List.nodup_cons.mp h
    have e := ih h2
    by_cases q : c = k
    · subst q
      rw [List.filter_cons, if_pos (decide_eq_true (Nat.le_refl _)), List.filter_cons, if_neg (by rw [decide_eq_true_iff]; omega), if_pos (List.mem_cons_self ..), List.map_cons, List.sum_cons, e, if_neg h1]
      omega
    · have hm : k ∈ c :: P ↔ k ∈ P := by
        rw [List.mem_cons]
        exact ⟨fun z => z.elim (fun y => absurd y.symm q) id, Or.inr⟩
      rw [show (if k ∈ c :: P then g k else 0) = (if k ∈ P then g k else 0) from ifd hm]
      by_cases q2 : k ≤ c
      · rw [List.filter_cons, if_pos (decide_eq_true q2), List.filter_cons, if_pos (decide_eq_true (by omega)), List.map_cons, List.map_cons, List.sum_cons, List.sum_cons, e]
        omega
      · rw [List.filter_cons, if_neg (by rw [decide_eq_true_iff]; omega), List.filter_cons, if_neg (by rw [decide_eq_true_iff]; omega), e]
theorem nV_step {T : List Nat} {D : List Dc} {A : AV} {z : Nat → Nat} (h : AW T D A z) : ∀ k, 1 ≤ k → k ≤ aC A → ((alL T D A k).map (fun n => (its D A n).length)).sum + ((((alL T D A k).flatMap (chN T D A)).filter (fun c => decide (k ≤ c))).map (tcf T D A z)).sum = tcf T D A z 0 := by
  intro k
  induction k with
  | zero => intro h1; omega
  | succ k ih =>
    intro _ hk
    by_cases q0 : k = 0
    · subst q0
      have e : alL T D A (0 + 1) = [0] := by rw [alL, if_pos (Or.inl rfl)]; try rfl
      rw [e, tcf_eq h (by omega)]
      have e2 : ([0].flatMap (chN T D A)).filter (fun c => decide (0 + 1 ≤ c)) = chN T D A 0 := by
        rw [List.flatMap_cons, List.flatMap_nil, List.append_nil, List.filter_eq_self]
        intro c hc
        have := ((h.2.2.1 0 h.1).2 c hc).1
        exact decide_eq_true (by omega)
      rw [e2]
      try rfl
    · have ih' := ih (by omega) (by omega)
      have nd : ((alL T D A k).flatMap (chN T D A)).Nodup := List.Nodup.sublist (flatMap_sub (List.Sublist.trans (alL_lt k) (List.range_sublist.mpr (by omega)))) h.2.2.2
      have e := sum_from (g := tcf T D A z) (k := k) _ nd
      rw [e] at ih'
      by_cases qm : k ∈ (alL T D A k).flatMap (chN T D A)
      · rw [if_pos qm] at ih'
        rw [alL, if_pos (Or.inr qm), List.map_append, List.sum_append, List.flatMap_append, List.filter_append, List.map_append, List.sum_append]
        have e2 : ([k].flatMap (chN T D A)).filter (fun c => decide (k + 1 ≤ c)) = chN T D A k := by
          rw [List.flatMap_cons, List.flatMap_nil, List.append_nil, List.filter_eq_self]
          intro c hc
          have := ((h.2.2.1 k (by omega)).2 c hc).1
          exact decide_eq_true (by omega)
        rw [e2]
        have e3 := tcf_eq h (show k < aC A by omega)
        show _ + ((its D A k).length + 0) + _ = _
        omega
      · rw [if_neg qm] at ih'
        rw [alL, if_neg (fun y => y.elim q0 qm)]
        exact ih'
theorem nV_tc {T : List Nat} {D : List Dc} {A : AV} {z : Nat → Nat} (h : AW T D A z) : tcf T D A z 0 = nV T D A := by
  have e := nV_step h (aC A) h.1 (Nat.le_refl _)
  have e2 : ((alL T D A (aC A)).flatMap (chN T D A)).filter (fun c => decide (aC A ≤ c)) = [] := by
    rw [List.filter_eq_nil_iff]
    intro c hc
    obtain ⟨n, hn, hc'⟩ := List.mem_flatMap.mp hc
    have hn' := List.mem_range.mp ((alL_lt (aC A)).subset hn)
    have := ((h.2.2.1 n hn').2 c hc').2.1
    rw [decide_eq_true_iff]
    omega
  rw [e2] at e
  unfold nV
  rw [← e]
  try rfl
theorem chN_mem {T : List Nat} {D : List Dc} {A : AV} {n c : Nat} : c ∈ chN T D A n ↔ ∃ f ∈ chF D (aN A n), isT T D f = true ∧ ∃ it ∈ aE A n f, it.2.2 = c := by
  unfold chN its
  rw [List.mem_map]
  constructor
  · rintro ⟨y, hy, rfl⟩
    obtain ⟨h1, h2⟩ := List.mem_filter.mp hy
    obtain ⟨f, hf, h3⟩ := List.mem_flatMap.mp h1
    obtain ⟨it, h4, h5⟩ := List.mem_map.mp h3
    subst h5
    exact ⟨f, hf, h2, it, h4, rfl⟩
  · rintro ⟨f, hf, h2, it, h4, rfl⟩
    exact ⟨(f, it), List.mem_filter.mpr ⟨List.mem_flatMap.mpr ⟨f, hf, List.mem_map.mpr ⟨it, h4, rfl⟩⟩, h2⟩, rfl⟩
/-- a sum over entries, field by field -/
theorem sum_part {L : List Eg} {g : Eg → Nat} {F : List Nat} (hF : F.Nodup) (h0 : ∀ e ∈ L, eF e = none → g e = 0) (h1 : ∀ e ∈ L, ∀ f, eF e = some f → f ∈ F) : (L.map g).sum = (F.map (fun f => ((flo (some f) L).map g).sum)).sum := by
  have add : ∀ (F : List Nat) (a b : Nat → Nat), (F.map (fun f => a f + b f)).sum = (F.map a).sum + (F.map b).sum := by
    intro F a b
    induction F with
    | nil => rfl
    | cons f F ih => rw [List.map_cons, List.sum_cons, List.map_cons, List.sum_cons, List.map_cons, List.sum_cons, ih]; omega
  have one : ∀ (F : List Nat) (o : Option Nat) (x : Nat), F.Nodup → (∀ f, o = some f → f ∈ F) → (o = none → x = 0) → (F.map (fun f => if o = some f then x else 0)).sum = x := by
    intro F
    induction F with
    | nil =>
      intro o x _ h1 h2
      cases o with
      | none => rw [h2 rfl]; try rfl
      | some f => exact absurd (h1 f rfl) (by simp)
    | cons f F ih =>
      intro o x hnd h1 h2
      obtain ⟨n1, n2⟩ := List.nodup_cons.mp hnd
      rw [List.map_cons, List.sum_cons]
      by_cases q : o = some f
      · rw [if_pos q]
        have : F.map (fun f' => if o = some f' then x else 0) = F.map (fun _ => 0) := by
          apply List.map_congr_left
          intro f' hf'
          rw [if_neg (fun y => n1 (by rw [q] at y; cases y; exact hf'))]
        rw [this]
        have z0 : ∀ (F : List Nat), (F.map (fun _ => 0)).sum = 0 := by intro F; induction F with | nil => rfl | cons a F ih => rw [List.map_cons, List.sum_cons, ih]
        rw [z0]; try rfl
      · rw [if_neg q, Nat.zero_add]
        exact ih o x n2 (fun f' hf' => (List.mem_cons.mp (h1 f' hf')).elim (fun y => absurd (by rw [hf', y]) q) id) h2
  induction L with
  | nil =>
    have z0 : ∀ (F : List Nat), (F.map (fun f => ((flo (some f) []).map g).sum)).sum = 0 := by intro F; induction F with | nil => rfl | cons a F ih => rw [List.map_cons, List.sum_cons, ih]; try rfl
    exact (z0 F).symm
  | cons e L ih =>
    rw [List.map_cons, List.sum_cons, ih (fun x hx => h0 x (List.mem_cons_of_mem _ hx)) (fun x hx => h1 x (List.mem_cons_of_mem _ hx))]
    have : F.map (fun f => ((flo (some f) (e :: L)).map g).sum) = F.map (fun f => (if eF e = some f then g e else 0) + ((flo (some f) L).map g).sum) := by
      apply List.map_congr_left
      intro f _
      rw [flo_cons, List.map_append, List.sum_append]
      by_cases q : eF e = some f
      · rw [if_pos q, if_pos q]; try rfl
      · rw [if_neg q, if_neg q]; try rfl
    rw [this, add, one F (eF e) (g e) hF (fun f hf => h1 e (List.mem_cons_self ..) f hf) (fun hn => h0 e (List.mem_cons_self ..) hn)]
/-- what one node's items add up to -/
theorem sum_its {T : List Nat} {D : List Dc} {A : AV} {n : Nat} {h : Nat → Nat} : (its D A n).length + ((chN T D A n).map h).sum = ((chF D (aN A n)).map (fun f => ((aE A n f).map (fun it => 1 + if isT T D f then h it.2.2 else 0)).sum)).sum := by
  unfold chN its
  have in1 : ∀ (f : Nat) (E : List It), (E.map (fun it => (f, it))).length + ((((E.map (fun it => (f, it))).filter (fun y => isT T D y.1)).map (fun y => y.2.2.2)).map h).sum = (E.map (fun it => 1 + if isT T D f then h it.2.2 else 0)).sum := by
    intro f E
    induction E with
    | nil => rfl
    | cons it E ih =>
      rw [List.map_cons, List.length_cons, List.filter_cons, List.map_cons, List.sum_cons, ← ih]
      cases hT : isT T D f with
      | true =>
        rw [if_pos (show true = true from rfl), if_pos (show true = true from rfl), List.map_cons, List.map_cons, List.sum_cons]
        show _ + 1 + (h it.2.2 + _) = _
        omega
      | false =>
        rw [if_neg (show ¬ false = true by decide), if_neg (show ¬ false = true by decide)]
        omega
  generalize chF D (aN A n) = F
  induction F with
  | nil => rfl
  | cons f F ih =>
    rw [List.flatMap_cons, List.length_append, List.filter_append, List.map_append, List.map_append, List.sum_append, List.map_cons, List.sum_cons, ← in1 f (aE A n f), ← ih]
    omega
/-! ===== the class counts ===== -/
theorem X4_isNothing {σ : SG} {c n f : Nat} {T : List Nat} {D : List Dc} {G : Gh} {e : Eg} {d : Dc} (hcb : cb c) (hg : GSc T D) (hC : CS σ c T D) (hV : VG σ c T D G) (hn : n < gC G) (he : e ∈ gL G n) (hf : eF e = some f) (hd : isF D (gN G n) f d) : x_X4_isNothing (eA e) σ = some (zI (noth T D d (eV e) (eT e))) := by
  obtain ⟨e1, e2, e3, e4, ⟨a, b, e5, e6, e7, e8, e9⟩, e10, e11⟩ := hV.e hn he
  have hl := hg.2.1
  have hfl := (List.getElem?_eq_some_iff.mp hd.1).1
  have hft : fty T D d ≤ 14 := dTy_lt (hg.fld hd.1 hd.2.1).2.2.2.1
  have hgl : (gP G).length ≤ 1000 := hV.2.2.1.2.2.1
  obtain ⟨i1, i2, _⟩ := hC.it hd.1
  have i2' : sI σ (c + 5 + f) 8 = nI (fty T D d) := i2
  unfold x_X4_isNothing
  rw [e3, hf, if_neg (show ¬ ad c (some f) = none by intro z; cases z), ad_some, ck_eq (it_sh hcb (by omega)), i1.2.2.2.2.2.2.2.2.1, i1.2.2.2.1, i2', X11_isNumeric (by omega), b1_eq, ifz, ifz, ifd ad_none, e5, e6, e4]
  have e13 : nI (fty T D d) = 13 ↔ fty T D d = 13 := nI_eq (b := 13) (by omega) (by decide)
  have hab : nI a = nI b ↔ eT e = [] := by
    rw [nI_eq (by omega) (by omega), ← e9]
    constructor
    · intro z; exact slc_nil (by omega)
    · intro z
      have := slc_len e7 e8
      rw [z] at this
      have : 0 = b - a := this
      omega
  rw [ifd e13, ifd hab]
  unfold noth
  cases hR : dR d with
  | true => rw [if_pos (show true = true from rfl)]; try rfl
  | false =>
    rw [if_neg (show ¬ false = true by decide)]
    by_cases q : dO d = none
    · rw [if_pos q, decide_eq_true q]
      by_cases q13 : fty T D d = 13
      · rw [if_pos q13, decide_eq_false (fun z => z q13)]; try rfl
      · rw [if_neg q13, decide_eq_true q13]
        cases hnm : nmr (fty T D d) with
        | true =>
          rw [if_pos (show true = true from rfl), if_pos (show true = true from rfl)]
          by_cases q0 : eV e = 0
          · rw [if_pos q0, decide_eq_true q0]; try rfl
          · rw [if_neg q0, decide_eq_false q0]; try rfl
        | false =>
          rw [if_neg (show ¬ false = true by decide), if_neg (show ¬ false = true by decide)]
          by_cases q0 : eT e = []
          · rw [if_pos q0, decide_eq_true q0]; try rfl
          · rw [if_neg q0, decide_eq_false q0]; try rfl
    · rw [if_neg q, decide_eq_false q]; try rfl
/-- what one entry counts for -/
def ceE (T : List Nat) (D : List Dc) (h : Nat → Nat) (e : Eg) : Nat := match eF e with
  | none => 0
  | some f => match D[f]? with
    | none => 0
    | some d => if live T D d e then 1 + (if isT T D f then h (eK e) else 0) else 0
theorem ce_sum {σ : SG} {c n : Nat} {T : List Nat} {D : List Dc} {G : Gh} {A : AV} {h : Nat → Nat} (hg : GSc T D) (hV : VG σ c T D G) (hE : VE T D G A) (hn : n < gC G) : ((gL G n).map (ceE T D h)).sum = (its D A n).length + ((chN T D A n).map h).sum := by
  have hM : isM D (gN G n) := hV.2.2.2.2.2.2.2.1 n hn
  rw [sum_its, ← hE.2.1 n hn]
  rw [sum_part (F := chF D (gN G n)) (chD_nodup _) (fun e _ hn' => by unfold ceE; rw [hn']) (fun e he f hf => ?_)]
  · congr 1
    apply List.map_congr_left
    intro f hf
    obtain ⟨d, hd⟩ := (chF_mem hg hM).mp hf
    rw [← (hE.2.2 n hn).1 f d hd, List.map_map]
    have key : ∀ (L : List Eg), (∀ e ∈ L, eF e = some f) → (L.map (ceE T D h)).sum = ((L.filter (live T D d)).map ((fun it => 1 + if isT T D f then h it.2.2 else 0) ∘ itm T D d)).sum := by
      intro L
      induction L with
      | nil => intro _; try rfl
      | cons e L ih =>
        intro hL
        have hef := hL e (List.mem_cons_self ..)
        rw [List.map_cons, List.sum_cons, ih (fun x hx => hL x (List.mem_cons_of_mem _ hx)), List.filter_cons]
        have e1 : ceE T D h e = if live T D d e then 1 + (if isT T D f then h (eK e) else 0) else 0 := by
          unfold ceE
          rw [hef]
          simp only
          rw [hd.1]
        rw [e1]
        cases hl : live T D d e with
        | true =>
          rw [if_pos (show true = true from rfl), if_pos (show true = true from rfl), List.map_cons, List.sum_cons]
          congr 1
          show _ = 1 + if isT T D f then h (itm T D d e).2.2 else 0
          have hT : isT T D f = decide (fty T D d = 13) := by unfold isT; rw [hd.1]
          by_cases q : fty T D d = 13
          · have : itm T D d e = (0, [], eK e) := by unfold itm; rw [if_pos q]
            rw [this]
          · rw [hT, decide_eq_false q, if_neg (show ¬ false = true by decide), if_neg (show ¬ false = true by decide)]
        | false =>
          rw [if_neg (show ¬ false = true by decide), if_neg (show ¬ false = true by decide), Nat.zero_add]
    exact key _ (fun e he => (flo_mem.mp he).2)
  · obtain ⟨d, hd, _⟩ := (hV.e hn he).2.2.2.2.2.2 f hf
    exact (chF_mem hg hM).mpr ⟨d, hd⟩
theorem C_cnt_L {U c n dp : Nat} {σ : SG} {T : List Nat} {D : List Dc} {G : Gh} {h : Nat → Nat} {rc : Option Nat → Int32 → SG → Option Int32} (hcb : cb c) (hg : GSc T D) (hC : CS σ c T D) (hV : VG σ c T D G) (hn : n < gC G) (hdp : dp ≤ 20)
    (hrc : ∀ k, k < gC G → (∃ e ∈ gL G n, ∃ f d, eF e = some f ∧ isF D (gN G n) f d ∧ fty T D d = 13 ∧ eK e = k) → rc (some (gH G k)) (nI (dp + 1)) σ = some (nI (h k)))
    (h0 : ∀ k, k < gC G → gL G k = [] → h k = 0) : ∀ (L : List Eg) (p : Option Nat) (v U1 : Nat), LN σ L p → (∀ e ∈ L, e ∈ gL G n) → L.length < U1 → x_X8_countIn_L8 U rc 389 (nI dp) σ U1 (nI v) p = some (nI (v + (L.map (ceE T D h)).sum)) := by
  intro L
  induction L with
  | nil =>
    intro p v U1 hp _ hu
    obtain ⟨V, rfl⟩ : ∃ V, U1 = V + 1 := ⟨U1 - 1, by omega⟩
    have hp' : p = none := hp
    rw [x_X8_countIn_L8, if_pos hp']
    try rfl
  | cons e L ih =>
    intro p v U1 hp hL hu
    have hul := hV.2.1
    obtain ⟨V, rfl⟩ : ∃ V, U1 = V + 1 := ⟨U1 - 1, by omega⟩
    have he := hL e (List.mem_cons_self ..)
    obtain ⟨e1, e2, e3, e4, e5, e10, e11⟩ := hV.e hn he
    have hsh : sh (eA e) = 4 := nd_sh e1 (by omega)
    rw [x_X8_countIn_L8, hp.1, if_neg (show ¬ some (eA e) = none by intro z; cases z), ck_eq hsh, e3, List.map_cons, List.sum_cons]
    have next : ∀ w, x_X8_countIn_58 U rc 389 (x_X8_countIn_L8 U rc 389 (nI dp) σ V) (nI dp) (nI w) (some (eA e)) σ = some (nI (w + (L.map (ceE T D h)).sum)) := fun w => by
      unfold x_X8_countIn_58
      rw [ck_eq hsh]
      exact ih _ w V hp.2 (fun x hx => hL x (List.mem_cons_of_mem _ hx)) (by rw [List.length_cons] at hu; omega)
    have hdn : ¬ (20 : Int32) < nI dp := fun z => by have := (ltI (a := 20) (by decide) (by omega)).mp z; omega
    cases hf : eF e with
    | none =>
      have hce : ceE T D h e = 0 := by unfold ceE; rw [hf]
      rw [if_pos (show ad c none = none from rfl)]
      unfold x_X8_countIn_32
      rw [ck_eq hsh, if_pos (e10 hf).1, next, hce, Nat.zero_add]
    | some f =>
      obtain ⟨d, hd, g1, g2⟩ := e11 f hf
      rw [if_neg (show ¬ ad c (some f) = none by intro z; cases z), X4_isNothing hcb hg hC hV hn he hf hd, b1_eq, ifz]
      have hT : isT T D f = decide (fty T D d = 13) := by unfold isT; rw [hd.1]
      have hce : ceE T D h e = if live T D d e then 1 + (if isT T D f then h (eK e) else 0) else 0 := by
        unfold ceE
        rw [hf]
        simp only
        rw [hd.1]
      have hlv : live T D d e = !noth T D d (eV e) (eT e) := rfl
      unfold x_X8_countIn_32
      rw [ck_eq hsh, ck_eq hsh]
      by_cases q13 : fty T D d = 13
      · have hno : noth T D d (eV e) (eT e) = false := by unfold noth; rw [decide_eq_false (show ¬ fty T D d ≠ 13 from fun z => z q13), Bool.and_false, Bool.false_and]
        obtain ⟨k1, k2, k3, k4⟩ := g2 q13
        rw [hno, if_neg (show ¬ false = true by decide), nI_1, hce, hlv, hno, hT, decide_eq_true q13, if_pos (show (!false) = true from rfl), if_pos (show true = true from rfl)]
        have hVk := (hV.2.2.2.2.2.2.2.2.2 (eK e) k2).1
        rw [k3] at hVk
        cases hgl : gL G (eK e) with
        | nil =>
          rw [hgl] at hVk
          have : sP σ (eA e) 2 = none := hVk
          rw [if_pos this, next, h0 _ k2 hgl]
          congr 2
          omega
        | cons x X =>
          rw [hgl] at hVk
          have : sP σ (eA e) 2 = some (eA x) := hVk.1
          have hr := hrc (eK e) k2 ⟨e, he, f, d, hf, hd, q13, rfl⟩
          rw [k3] at hr
          rw [if_neg (show ¬ sP σ (eA e) 2 = none by rw [this]; intro z; cases z), if_neg hdn, nI_1, hr, b1_eq, nI_add, next]
          congr 2
          omega
      · have hp2 := (g1 q13).1
        rw [if_pos hp2, if_pos hp2, nI_1, next, next, hce, hlv, hT, decide_eq_false q13, if_neg (show ¬ false = true by decide)]
        cases noth T D d (eV e) (eT e) with
        | true =>
          rw [if_pos (show true = true from rfl), if_neg (show ¬ (!true) = true by decide), Nat.zero_add]
        | false =>
          rw [if_neg (show ¬ false = true by decide), if_pos (show (!false) = true from rfl)]
          congr 2
          omega
theorem chN_e {σ : SG} {c n k : Nat} {T : List Nat} {D : List Dc} {G : Gh} {A : AV} (hg : GSc T D) (hV : VG σ c T D G) (hE : VE T D G A) (hn : n < gC G) : k ∈ chN T D A n ↔ ∃ e ∈ gL G n, ∃ f d, eF e = some f ∧ isF D (gN G n) f d ∧ fty T D d = 13 ∧ eK e = k := by
  have hM : isM D (gN G n) := hV.2.2.2.2.2.2.2.1 n hn
  rw [chN_mem, ← hE.2.1 n hn]
  constructor
  · rintro ⟨f, hf, hT, it, hit, rfl⟩
    obtain ⟨d, hd⟩ := (chF_mem hg hM).mp hf
    have q13 : fty T D d = 13 := by unfold isT at hT; rw [hd.1] at hT; exact of_decide_eq_true hT
    rw [← (hE.2.2 n hn).1 f d hd] at hit
    obtain ⟨e, he, rfl⟩ := List.mem_map.mp hit
    obtain ⟨e1, e2⟩ := flo_mem.mp (List.mem_filter.mp he).1
    exact ⟨e, e1, f, d, e2, hd, q13, by unfold itm; rw [if_pos q13]⟩
  · rintro ⟨e, he, f, d, hf, hd, q13, rfl⟩
    refine ⟨f, (chF_mem hg hM).mpr ⟨d, hd⟩, by unfold isT; rw [hd.1]; exact decide_eq_true q13, itm T D d e, ?_, by unfold itm; rw [if_pos q13]⟩
    rw [← (hE.2.2 n hn).1 f d hd]
    refine List.mem_map.mpr ⟨e, List.mem_filter.mpr ⟨flo_mem.mpr ⟨he, hf⟩, ?_⟩, rfl⟩
    unfold live noth
    rw [decide_eq_false (show ¬ fty T D d ≠ 13 from fun z => z q13), Bool.and_false, Bool.false_and]
    try rfl
theorem C_cnt {U c : Nat} {σ : SG} {T : List Nat} {D : List Dc} {G : Gh} {A : AV} {z : Nat → Nat} (hU4 : 4000 < U) (hcb : cb c) (hg : GSc T D) (hC : CS σ c T D) (hV : VG σ c T D G) (hE : VE T D G A) (hW : AW T D A z) : ∀ (j dp n : Nat), j + dp = 25 → n < gC G → z n = dp → x_X8_countIn U 389 j (some (gH G n)) (nI dp) σ = some (nI (tcf T D A z n)) := by
  intro j
  induction j with
  | zero =>
    intro dp n hj hn hz
    have := (hW.2.2.1 n (by rw [← hE.1]; exact hn)).1
    omega
  | succ j ih =>
    intro dp n hj hn hz
    obtain ⟨z1, z2⟩ := hW.2.2.1 n (by rw [← hE.1]; exact hn)
    obtain ⟨h1, h2, h3⟩ := hV.h hn
    rw [x_X8_countIn]
    unfold x_X8_countIn_b
    rw [ck_eq (nd_sh h1 h2)]
    have := C_cnt_L (U := U) (h := tcf T D A z) (rc := x_X8_countIn U 389 j) hcb hg hC hV hn (by omega) (fun k hk hke => ih (dp + 1) k (by omega) hk (by rw [(z2 k ((chN_e hg hV hE hn).mpr hke)).2.2, hz])) (fun k hk hgl => by
      rw [tcf_eq hW (by rw [← hE.1]; exact hk), ← ce_sum hg hV hE hk, hgl]; rfl) (gL G n) _ 0 U (hV.2.2.2.2.2.2.2.2.2 n hn).1 (fun e he => he) (by have := hV.len hn; omega)
    have e0 : x_X8_countIn_L8 U (x_X8_countIn U 389 j) 389 (nI dp) σ U 0 (sP σ (gH G n) 2) = some (nI (0 + ((gL G n).map (ceE T D (tcf T D A z))).sum)) := this
    rw [e0, Nat.zero_add, ce_sum hg hV hE hn, ← tcf_eq hW (by rw [← hE.1]; exact hn)]
theorem C_count {U c : Nat} {σ : SG} {T : List Nat} {D : List Dc} {G : Gh} {A : AV} {z : Nat → Nat} (hU4 : 4000 < U) (hcb : cb c) (hg : GSc T D) (hC : CS σ c T D) (hV : VG σ c T D G) (hE : VE T D G A) (hW : AW T D A z) : x_X8_count U 389 σ = some (nI (nV T D A)) := by
  unfold x_X8_count
  have := C_cnt hU4 hcb hg hC hV hE hW 24 1 0 (by omega) hV.2.2.2.1 hW.2.1
  rw [hV.2.2.2.2.1] at this
  have h' : x_X8_countIn U 389 24 (some 1091) 1 σ = some (nI (tcf T D A z 0)) := this
  rw [h', b1_eq, nV_tc hW]
theorem nd_fm {α : Type} {f : Nat → List α} : ∀ (L : List Nat), L.Nodup → (∀ x ∈ L, (f x).Nodup) → (∀ x ∈ L, ∀ y ∈ L, x ≠ y → ∀ c ∈ f x, c ∉ f y) → (L.flatMap f).Nodup := by
  intro L
  induction L with
  | nil => intro _ _ _; exact List.nodup_nil
  | cons a L ih =>
    intro h1 h2 h3
    obtain ⟨n1, n2⟩ := List.nodup_cons.mp h1
    rw [List.flatMap_cons, List.nodup_append]
    refine ⟨h2 a (List.mem_cons_self ..), ih n2 (fun x hx => h2 x (List.mem_cons_of_mem _ hx)) (fun x hx y hy => h3 x (List.mem_cons_of_mem _ hx) y (List.mem_cons_of_mem _ hy)), fun c hc b hb hcb => ?_⟩
    obtain ⟨y, hy, hy'⟩ := List.mem_flatMap.mp hb
    exact h3 a (List.mem_cons_self ..) y (List.mem_cons_of_mem _ hy) (fun q => n1 (by rw [q]; exact hy)) c hc (by rw [hcb]; exact hy')
theorem chN_fm {T : List Nat} {D : List Dc} {A : AV} {n : Nat} : chN T D A n = (chF D (aN A n)).flatMap (fun f => if isT T D f then (aE A n f).map (fun it => it.2.2) else []) := by
  unfold chN its
  generalize chF D (aN A n) = F
  induction F with
  | nil => rfl
  | cons f F ih =>
    rw [List.flatMap_cons, List.filter_append, List.map_append, ih, List.flatMap_cons]
    congr 1
    cases hT : isT T D f with
    | true =>
      rw [if_pos (show true = true from rfl), List.filter_eq_self.mpr]
      · rw [List.map_map]; try rfl
      · intro y hy
        obtain ⟨it, _, rfl⟩ := List.mem_map.mp hy
        exact hT
    | false =>
      rw [if_neg (show ¬ false = true by decide), List.filter_eq_nil_iff.mpr]
      · rfl
      · intro y hy
        obtain ⟨it, _, rfl⟩ := List.mem_map.mp hy
        rw [show isT T D (f, it).1 = isT T D f from rfl, hT]; decide
/-- the class's nodes are a forest -/
theorem C_forest {σ : SG} {c : Nat} {T : List Nat} {D : List Dc} {G : Gh} {A : AV} (hg : GSc T D) (hV : VG σ c T D G) (hE : VE T D G A) : (∀ n, n < aC A → ∀ k ∈ chN T D A n, n < k ∧ k < aC A) ∧ ((List.range (aC A)).flatMap (chN T D A)).Nodup := by
  rw [← hE.1]
  have ent : ∀ n, n < gC G → ∀ k ∈ chN T D A n, ∃ e ∈ gL G n, eK e = k ∧ eA e = gH G k ∧ n < k ∧ k < gC G := by
    intro n hn k hk
    obtain ⟨e, he, f, d, hf, hd, q13, rfl⟩ := (chN_e hg hV hE hn).mp hk
    obtain ⟨d', hd', _, g2⟩ := (hV.e hn he).2.2.2.2.2.2 f hf
    have : d' = d := by have := hd'.1; rw [hd.1] at this; exact (Option.some.inj this).symm
    subst this
    obtain ⟨k1, k2, k3, k4⟩ := g2 q13
    exact ⟨e, he, rfl, k3.symm, k1, k2⟩
  refine ⟨fun n hn k hk => ?_, nd_fm _ List.nodup_range (fun n hn => ?_) (fun n hn n' hn' hne k hk hk' => ?_)⟩
  · obtain ⟨e, _, _, _, h1, h2⟩ := ent n hn k hk
    exact ⟨h1, h2⟩
  · have hn := List.mem_range.mp hn
    have hM : isM D (gN G n) := hV.2.2.2.2.2.2.2.1 n hn
    have hnd := (hV.2.2.2.2.2.2.2.2.2 n hn).2.2.2.1
    rw [chN_fm, ← hE.2.1 n hn]
    have fld : ∀ f ∈ chF D (gN G n), ∀ k ∈ (if isT T D f then (aE A n f).map (fun it => it.2.2) else []), ∃ e ∈ gL G n, eF e = some f ∧ eA e = gH G k := by
      intro f hf k hk
      obtain ⟨d, hd⟩ := (chF_mem hg hM).mp hf
      cases hT : isT T D f with
      | false => rw [hT, if_neg (show ¬ false = true by decide)] at hk; cases hk
      | true =>
        rw [hT, if_pos (show true = true from rfl)] at hk
        have q13 : fty T D d = 13 := by unfold isT at hT; rw [hd.1] at hT; exact of_decide_eq_true hT
        obtain ⟨it, hit, rfl⟩ := List.mem_map.mp hk
        rw [← (hE.2.2 n hn).1 f d hd] at hit
        obtain ⟨e, he, rfl⟩ := List.mem_map.mp hit
        obtain ⟨e1, e2⟩ := flo_mem.mp (List.mem_filter.mp he).1
        obtain ⟨d', hd', _, g2⟩ := (hV.e hn e1).2.2.2.2.2.2 f e2
        have : d' = d := by have := hd'.1; rw [hd.1] at this; exact (Option.some.inj this).symm
        subst this
        obtain ⟨k1, k2, k3, k4⟩ := g2 q13
        refine ⟨e, e1, e2, ?_⟩
        show eA e = gH G (itm T D d' e).2.2
        unfold itm
        rw [if_pos q13]
        exact k3.symm
    refine nd_fm _ (chD_nodup _) (fun f hf => ?_) (fun f hf f' hf' hne k hk hk' => ?_)
    · obtain ⟨d, hd⟩ := (chF_mem hg hM).mp hf
      cases hT : isT T D f with
      | false => rw [if_neg (show ¬ false = true by decide)]; exact List.nodup_nil
      | true =>
        rw [if_pos (show true = true from rfl)]
        have q13 : fty T D d = 13 := by unfold isT at hT; rw [hd.1] at hT; exact of_decide_eq_true hT
        rw [← (hE.2.2 n hn).1 f d hd, List.map_map]
        have hS : ((flo (some f) (gL G n)).filter (live T D d)).Sublist (gL G n) := List.Sublist.trans List.filter_sublist List.filter_sublist
        have hA := List.Nodup.sublist (hS.map eA) hnd
        have hmap : ((flo (some f) (gL G n)).filter (live T D d)).map eA = (((flo (some f) (gL G n)).filter (live T D d)).map ((fun it : It => it.2.2) ∘ itm T D d)).map (gH G) := by
          rw [List.map_map]
          apply List.map_congr_left
          intro e he
          obtain ⟨e1, e2⟩ := flo_mem.mp (List.mem_filter.mp he).1
          obtain ⟨d', hd', _, g2⟩ := (hV.e hn e1).2.2.2.2.2.2 f e2
          have : d' = d := by have := hd'.1; rw [hd.1] at this; exact (Option.some.inj this).symm
          subst this
          show eA e = gH G (itm T D d' e).2.2
          unfold itm
          rw [if_pos q13]
          exact (g2 q13).2.2.1.symm
        rw [hmap] at hA
        exact (List.pairwise_map.mp hA).imp (fun h q => h (by rw [q]))
    · obtain ⟨e, he, h1, h2⟩ := fld f hf k hk
      obtain ⟨e', he', h1', h2'⟩ := fld f' hf' k hk'
      have : e = e' := by
        have hi : ∀ (L : List Eg), (L.map eA).Nodup → ∀ a ∈ L, ∀ b ∈ L, eA a = eA b → a = b := by
          intro L
          induction L with
          | nil => intro _ a ha; cases ha
          | cons x L ih =>
            intro hx a ha b hb hab
            rw [List.map_cons] at hx
            obtain ⟨x1, x2⟩ := List.nodup_cons.mp hx
            rcases List.mem_cons.mp ha with p | p <;> rcases List.mem_cons.mp hb with q | q
            · rw [p, q]
            · exact absurd (List.mem_map.mpr ⟨b, q, by rw [← hab, p]⟩) x1
            · exact absurd (List.mem_map.mpr ⟨a, p, by rw [hab, q]⟩) x1
            · exact ih x2 a p b q hab
        exact hi _ hnd e he e' he' (by rw [h2, h2'])
      subst this
      rw [h1] at h1'
      exact hne (Option.some.inj h1')
  · have hn := List.mem_range.mp hn
    have hn' := List.mem_range.mp hn'
    obtain ⟨e, he, _, h1, _⟩ := ent n hn k hk
    obtain ⟨e', he', _, h1', _⟩ := ent n' hn' k hk'
    exact hV.2.2.2.2.2.2.2.2.1 n n' hn hn' hne e he e' he' (by rw [h1, h1'])
/-! ===== the reference's end of a value: what is alive ===== -/
theorem alL_mem {T : List Nat} {D : List Dc} {A : AV} : ∀ (k i : Nat), i < k → (i ∈ alL T D A k ↔ i = 0 ∨ i ∈ (alL T D A i).flatMap (chN T D A)) := by
  intro k
  induction k with
  | zero => intro i h; omega
  | succ k ih =>
    intro i hi
    rw [alL]
    have hnk : k ∉ alL T D A k := fun z => by have := List.mem_range.mp ((alL_lt k).subset z); omega
    by_cases q : i = k
    · subst q
      split
      · rename_i h; exact ⟨fun _ => h, fun _ => List.mem_append.mpr (Or.inr (List.mem_singleton.mpr rfl))⟩
      · rename_i h; exact ⟨fun z => absurd z hnk, fun z => absurd z h⟩
    · rw [← ih i (by omega)]
      split
      · rw [List.mem_append, List.mem_singleton]
        exact ⟨fun z => z.elim id (fun y => absurd y q), Or.inl⟩
      · exact Iff.rfl
def al (T : List Nat) (D : List Dc) (A : AV) (n : Nat) : Bool := decide (n ∈ alL T D A (aC A))
theorem chN_r {σ : SG} {s n k : Nat} {T : List Nat} {D : List Dc} {A : AV} {H : Rh} (hg : GSc T D) (h : VR σ s T D A H) (hn : n < aC A) : k ∈ chN T D A n ↔ ∃ r ∈ zR H, rN r = n ∧ rA r = true ∧ ∃ d, D[rF r]? = some d ∧ fty T D d = 13 ∧ rK r = k := by
  have hM := (h.2.2.2.2.1.2.2.2 n hn).1
  rw [chN_mem]
  constructor
  · rintro ⟨f, hf, hT, it, hit, rfl⟩
    obtain ⟨d, hd⟩ := (chF_mem hg hM).mp hf
    have q13 : fty T D d = 13 := by unfold isT at hT; rw [hd.1] at hT; exact of_decide_eq_true hT
    rw [← (h.2.2.2.2.2.2 n hn).1 f d hd] at hit
    obtain ⟨r, hr, rfl⟩ := List.mem_map.mp hit
    obtain ⟨h1, h2⟩ := List.mem_filter.mp hr
    obtain ⟨h3, h4⟩ := pRw_of h2
    refine ⟨r, h1, h3, ?_, d, by rw [h4]; exact hd.1, q13, by unfold itR; rw [if_pos q13]⟩
    unfold pRw at h2
    rw [Bool.and_eq_true] at h2
    exact h2.2
  · rintro ⟨r, hr, h1, h2, d, hd, q13, rfl⟩
    obtain ⟨o1, d', o2, o3⟩ := h.2.2.2.2.2.1 r hr
    have : d' = d := by have := o2.1; rw [hd] at this; exact (Option.some.inj this).symm
    subst this
    rw [h1] at o2
    refine ⟨rF r, (chF_mem hg hM).mpr ⟨d', o2⟩, by unfold isT; rw [hd]; exact decide_eq_true q13, itR T D d' r, ?_, by unfold itR; rw [if_pos q13]⟩
    rw [← (h.2.2.2.2.2.2 n hn).1 (rF r) d' o2]
    refine List.mem_map.mpr ⟨r, List.mem_filter.mpr ⟨hr, ?_⟩, rfl⟩
    unfold pRw
    rw [h1, h2, decide_eq_true rfl, decide_eq_true rfl]
    try rfl
/-- a message is reached where its row and its holder are -/
theorem al_row {σ : SG} {s n lm : Nat} {T : List Nat} {D : List Dc} {A : AV} {H : Rh} {r : Rg} (hg : GSc T D) (h : VR σ s T D A H) (hdp : DPk T D lm A H) (hn : n < aC A) (h0 : n ≠ 0) (hr : (zR H)[zW H n]? = some r) (hk : rK r = n) (hrn : rN r < n) (h13 : ∃ d, D[rF r]? = some d ∧ fty T D d = 13) : al T D A n = (rA r && al T D A (rN r)) := by
  have e1 : al T D A n = true ↔ n ∈ (alL T D A n).flatMap (chN T D A) := by
    unfold al
    rw [decide_eq_true_iff, alL_mem _ _ hn]
    exact ⟨fun z => z.elim (fun y => absurd y h0) id, Or.inr⟩
  have e2 : ∀ p, p < n → (p ∈ alL T D A n ↔ al T D A p = true) := fun p hp => by
    unfold al
    rw [decide_eq_true_iff, alL_mem n p hp, alL_mem (aC A) p (by omega)]
  obtain ⟨d, hd, q13⟩ := h13
  have main : al T D A n = true ↔ (rA r && al T D A (rN r)) = true := by
    rw [e1, List.mem_flatMap, Bool.and_eq_true]
    constructor
    · rintro ⟨p, hp, hc⟩
      have hpn := List.mem_range.mp ((alL_lt n).subset hp)
      obtain ⟨x, hx, x1, x2, y, x3, x4, x5⟩ := (chN_r hg h (show p < aC A by omega)).mp hc
      obtain ⟨i, hi⟩ := List.getElem?_of_mem hx
      have := hdp.2.2 i x y hi x3 x4
      rw [x5] at this
      rw [this, hi] at hr
      cases hr
      exact ⟨x2, by rw [x1]; exact (e2 p hpn).mp hp⟩
    · rintro ⟨h1, h2⟩
      exact ⟨rN r, (e2 _ hrn).mpr h2, (chN_r hg h (show rN r < aC A by omega)).mpr ⟨r, List.mem_of_getElem? hr, rfl, h1, d, hd, q13, hk⟩⟩
  cases ha : al T D A n with
  | true => rw [main.mp ha]
  | false =>
    cases hb : (rA r && al T D A (rN r)) with
    | false => rfl
    | true => rw [main.mpr hb] at ha; cases ha
theorem nar1 : vp_nar .boolean 1 = zI true := by decide
def Pal (b _ : Nat) : Prop := b = 1164
theorem N_alive_L {U s lm : Nat} {T : List Nat} {D : List Dc} {A : AV} {H : Rh} {K : SG → Option (Int32 × SG)} {v1 : Int32} (hg : GSc T D) (hdp : DPk T D lm A H) : ∀ (j k U1 : Nat) (σ : SG), k + j = aC A → j < U1 → VR σ s T D A H → (∀ i, i < k → sI σ 1164 i = zI (al T D A i)) →
    ∃ τ, x_X12_liveValues_L4 U 1101 K v1 U1 (nI k) σ = K τ ∧ fP Pal σ τ ∧ VR τ s T D A H ∧ ∀ i, i < aC A → sI τ 1164 i = zI (al T D A i) := by
  intro j
  induction j with
  | zero =>
    intro k U1 σ hk hu h hal
    obtain ⟨V, rfl⟩ : ∃ V, U1 = V + 1 := ⟨U1 - 1, by omega⟩
    have hc := h.2.2.2.2.1
    rw [x_X12_liveValues_L4, hc.1, if_neg (fun q => by have := (ltI (by omega) (by omega)).mp q; omega)]
    exact ⟨σ, rfl, fP_refl _ _, h, fun i hi => hal i (by omega)⟩
  | succ j ih =>
    intro k U1 σ hk hu h hal
    obtain ⟨V, rfl⟩ : ∃ V, U1 = V + 1 := ⟨U1 - 1, by omega⟩
    have hc := h.2.2.2.2.1
    have hkc : k < aC A := by omega
    obtain ⟨n1, n2, n3, n4, n5⟩ := hc.2.2.2 k hkc
    rw [x_X12_liveValues_L4, hc.1, if_pos ((ltI (by omega) (by omega)).mpr hkc), ix_in (by omega) (by decide), n3]
    have step : ∀ (b : Bool), al T D A k = b → ∃ τ, x_X12_liveValues_65 U 1101 (x_X12_liveValues_L4 U 1101 K v1 V) K v1 (nI k) (zI b) (nI k) σ = K τ ∧ fP Pal σ τ ∧ VR τ s T D A H ∧ ∀ i, i < aC A → sI τ 1164 i = zI (al T D A i) := by
      intro b hb
      unfold x_X12_liveValues_65
      have nb : vp_nar .boolean (zI b) = zI b := by cases b <;> decide
      rw [ix_in (by omega) (by decide), nb, sb_eq, nI_1]
      have F : fP Pal σ (uI σ 1164 k (zI b)) := fP_u rfl
      obtain ⟨τ, t1, t2, t3, t4⟩ := ih (k + 1) V (uI σ 1164 k (zI b)) (by omega) (by omega) (VR_keep h (fun b' k' hb' => ⟨(F b' k' (by unfold Pal; omega)).1, (F b' k' (by unfold Pal; omega)).2.1⟩)) (fun i hi => by
        by_cases q : i = k
        · subst q; rw [sI_s, hb]
        · rw [sI_o (Or.inr q)]; exact hal i (by omega))
      exact ⟨τ, t1, fP_trans F t2, t3, t4⟩
    by_cases q0 : k = 0
    · subst q0
      rw [if_pos (show (if 0 = 0 then (-1 : Int32) else nI (zW H 0)) = -1 from rfl)]
      unfold x_X12_liveValues_60
      exact step true (by unfold al; exact decide_eq_true ((alL_mem _ _ hkc).mpr (Or.inl rfl)))
    · obtain ⟨r, d, r1, r2, r3, r4, r5⟩ := n5 q0
      have hil := (List.getElem?_eq_some_iff.mp r1).1
      have h7 := h.2.1.2.1
      obtain ⟨w1, w2⟩ := h.2.1.2.2 _ r r1
      rw [if_neg q0, if_neg (show ¬ nI (zW H k) = -1 from fun z => nI_neg (by omega : zW H k < 2 ^ 31) (by rw [z]; decide)), ix_in (by omega) (by decide), n3, if_neg q0, ix_in (by omega) (by decide), w2, ifz]
      have hal2 := al_row hg h hdp hkc q0 r1 r4 r5 ⟨d, r2, r3⟩
      unfold x_X12_liveValues_64 x_X12_liveValues_60
      cases hA : rA r with
      | false =>
        rw [if_neg (show ¬ false = true by decide)]
        exact step false (by rw [hal2, hA]; rfl)
      | true =>
        rw [if_pos (show true = true from rfl), ix_in (by omega) (by decide), n3, if_neg q0, ix_in (by omega) (by decide), w1.1, ix_in (by omega) (by decide), hal _ r5, ifz]
        cases hb : al T D A (rN r) with
        | false => rw [if_neg (show ¬ false = true by decide)]; exact step false (by rw [hal2, hA, hb]; rfl)
        | true => rw [if_pos (show true = true from rfl)]; exact step true (by rw [hal2, hA, hb]; rfl)
/-- the rows of what isn't reached go -/
def fnR (T : List Nat) (D : List Dc) (A : AV) (R : List Rg) : List Rg := R.map (fun r => if al T D A (rN r) then r else off r)
def Pr71 (b _ : Nat) : Prop := b = 1171
theorem N_rows_L {U s : Nat} {T : List Nat} {D : List Dc} {A : AV} {P : List Nat} {R : List Rg} (hc : aC A ≤ 351) (hR7 : R.length ≤ 700) (hRn : ∀ r ∈ R, rN r < aC A) : ∀ (j i v U1 : Nat) (σ : SG), i + j = R.length → v ≤ i → j < U1 → RT σ s T D P (fnR T D A (R.take i) ++ R.drop i) → (∀ i, i < aC A → sI σ 1164 i = zI (al T D A i)) →
    ∃ τ, x_X12_liveValues_L74 U 1101 U1 (nI v) (nI i) σ = some (nI (v + ((R.drop i).filter (fun r => rA r && al T D A (rN r))).length), τ) ∧ RT τ s T D P (fnR T D A R) ∧ fP Pr71 σ τ := by
  intro j
  induction j with
  | zero =>
    intro i v U1 σ hi hv hu hR hal
    obtain ⟨V, rfl⟩ : ∃ V, U1 = V + 1 := ⟨U1 - 1, by omega⟩
    have hl : (fnR T D A (R.take i) ++ R.drop i).length = R.length := by unfold fnR; rw [List.length_append, List.length_map, List.length_take, List.length_drop]; omega
    rw [x_X12_liveValues_L74, hR.1, hl, if_neg (fun q => by have := (ltI (by omega) (by omega)).mp q; omega), List.drop_eq_nil_of_le (by omega)]
    rw [List.drop_eq_nil_of_le (by omega), List.append_nil, List.take_of_length_le (by omega)] at hR
    exact ⟨σ, rfl, hR, fP_refl _ _⟩
  | succ j ih =>
    intro i v U1 σ hi hv hu hR hal
    obtain ⟨V, rfl⟩ : ∃ V, U1 = V + 1 := ⟨U1 - 1, by omega⟩
    have hl : (fnR T D A (R.take i) ++ R.drop i).length = R.length := by unfold fnR; rw [List.length_append, List.length_map, List.length_take, List.length_drop]; omega
    have hil : i < R.length := by omega
    have hti : (fnR T D A (R.take i)).length = i := by unfold fnR; rw [List.length_map, List.length_take]; omega
    have hdr : R.drop i = R[i] :: R.drop (i + 1) := List.drop_eq_getElem_cons hil
    have hri : (fnR T D A (R.take i) ++ R.drop i)[i]? = some R[i] := by
      rw [List.getElem?_append_right (by omega), hti, Nat.sub_self, hdr]; try rfl
    obtain ⟨w1, w2⟩ := hR.2.2 i R[i] hri
    have hrn := hRn R[i] (List.getElem_mem hil)
    have htk : fnR T D A (R.take (i + 1)) ++ R.drop (i + 1) = (fnR T D A (R.take i)) ++ (if al T D A (rN R[i]) then R[i] else off R[i]) :: R.drop (i + 1) := by
      unfold fnR
      rw [List.take_succ_eq_append_getElem hil, List.map_append, List.append_assoc]
      try rfl
    rw [x_X12_liveValues_L74, hR.1, hl, if_pos ((ltI (by omega) (by omega)).mpr hil), ix_in (by omega) (by decide), w1.1, ix_in (by omega) (by decide), hal _ hrn, ifz, hdr, List.filter_cons]
    unfold x_X12_liveValues_103 x_X12_liveValues_115
    cases ha : al T D A (rN R[i]) with
    | true =>
      rw [if_pos (show true = true from rfl), ix_in (by omega) (by decide), w2, ifz, nI_1, nI_1, Bool.and_true]
      rw [ha, if_pos (show true = true from rfl)] at htk
      have hR' : RT σ s T D P (fnR T D A (R.take (i + 1)) ++ R.drop (i + 1)) := by rw [htk, ← hdr]; exact hR
      cases hA : rA R[i] with
      | true =>
        rw [if_pos (show true = true from rfl), if_pos (show true = true from rfl)]
        obtain ⟨τ, t1, t2, t3⟩ := ih (i + 1) (v + 1) V σ (by omega) (by omega) (by omega) hR' hal
        refine ⟨τ, ?_, t2, t3⟩
        rw [t1, List.length_cons]
        congr 3
        omega
      | false =>
        rw [if_neg (show ¬ false = true by decide), if_neg (show ¬ false = true by decide)]
        exact ih (i + 1) v V σ (by omega) (by omega) (by omega) hR' hal
    | false =>
      rw [if_neg (show ¬ false = true by decide), ix_in (by omega) (by decide), nar0, sb_eq, ix_in (by omega) (by decide), sI_s, if_pos (show zI false = 0 from rfl), nI_1, Bool.and_false, if_neg (show ¬ false = true by decide)]
      rw [ha, if_neg (show ¬ false = true by decide)] at htk
      have F : fP Pr71 σ (uI σ 1171 i (zI false)) := fP_u rfl
      have hR' : RT (uI σ 1171 i (zI false)) s T D P (fnR T D A (R.take (i + 1)) ++ R.drop (i + 1)) := by
        rw [htk]
        refine ⟨?_, ?_, fun k r hk => ?_⟩
        · rw [sI_o (Or.inl (by decide)), hR.1, hl]
          congr 1
          rw [List.length_append, List.length_cons, hti, List.length_drop]
          omega
        · rw [List.length_append, List.length_cons, hti, List.length_drop]
          omega
        · by_cases q : k = i
          · subst q
            rw [List.getElem?_append_right (by omega), hti, Nat.sub_self] at hk
            have : off R[k] = r := Option.some.inj hk
            subst this
            exact ⟨RWs_sm (RWs_off w1) (fun b h1 h2 => ⟨(F b k (by unfold Pr71; omega)).1, (F b k (by unfold Pr71; omega)).2.1⟩), by rw [sI_s]; rfl⟩
          · have hk' : (fnR T D A (R.take i) ++ R.drop i)[k]? = some r := by
              rcases Nat.lt_or_gt_of_ne q with z | z
              · rw [List.getElem?_append_left (by omega)] at hk ⊢; exact hk
              · rw [List.getElem?_append_right (by omega), hti, show k - i = (k - i - 1) + 1 by omega, List.getElem?_cons_succ] at hk
                rw [List.getElem?_append_right (by omega), hti, hdr, show k - i = (k - i - 1) + 1 by omega, List.getElem?_cons_succ]
                exact hk
            obtain ⟨y1, y2⟩ := hR.2.2 k r hk'
            exact ⟨RWs_sm y1 (fun b h1 h2 => ⟨(F b k (by unfold Pr71; omega)).1, (F b k (by unfold Pr71; omega)).2.1⟩), by rw [sI_o (Or.inr q)]; exact y2⟩
      obtain ⟨τ, t1, t2, t3⟩ := ih (i + 1) v V _ (by omega) (by omega) (by omega) hR' (fun k hk => by rw [sI_o (Or.inl (by decide))]; exact hal k hk)
      exact ⟨τ, t1, t2, fP_trans F t3⟩
/-! ===== the reference's end of a value: its number of values, its bytes ===== -/
theorem sum_ind {v a : Nat} : ∀ (F : List Nat), F.Nodup → (F.map (fun x => if x = a then v else 0)).sum = if a ∈ F then v else 0 := by
  intro F
  induction F with
  | nil => intro _; try rfl
  | cons f F ih =>
    intro h
    obtain ⟨n1, n2⟩ := List.nodup_cons.mp h
    rw [List.map_cons, List.sum_cons, ih n2]
    by_cases q : f = a
    · subst q
      rw [if_pos rfl, if_neg n1, if_pos (List.mem_cons_self ..)]; try rfl
    · have : a ∈ f :: F ↔ a ∈ F := by
        rw [List.mem_cons]
        exact ⟨fun z => z.elim (fun y => absurd y.symm q) id, Or.inr⟩
      rw [if_neg q, Nat.zero_add, ifd this]
theorem sum_add (F : List Nat) (a b : Nat → Nat) : (F.map (fun f => a f + b f)).sum = (F.map a).sum + (F.map b).sum := by
  induction F with
  | nil => rfl
  | cons f F ih => rw [List.map_cons, List.sum_cons, List.map_cons, List.sum_cons, List.map_cons, List.sum_cons, ih]; omega
theorem sum_zero (F : List Nat) : (F.map (fun _ => 0)).sum = 0 := by
  induction F with
  | nil => rfl
  | cons f F ih => rw [List.map_cons, List.sum_cons, ih]
theorem its_len {D : List Dc} {A : AV} {n : Nat} : (its D A n).length = ((chF D (aN A n)).map (fun f => (aE A n f).length)).sum := by
  unfold its
  generalize chF D (aN A n) = F
  induction F with
  | nil => rfl
  | cons f F ih => rw [List.flatMap_cons, List.length_append, List.length_map, List.map_cons, List.sum_cons, ih]
/-- the number of rows that count is the number of values -/
theorem nV_rows {σ : SG} {s : Nat} {T : List Nat} {D : List Dc} {A : AV} {H : Rh} (hg : GSc T D) (h : VR σ s T D A H) : ((zR H).filter (fun r => rA r && al T D A (rN r))).length = nV T D A := by
  have hnd : (alL T D A (aC A)).Nodup := List.Nodup.sublist (alL_lt _) List.nodup_range
  have hlt : ∀ n ∈ alL T D A (aC A), n < aC A := fun n hn => List.mem_range.mp ((alL_lt _).subset hn)
  unfold nV
  have e1 : (alL T D A (aC A)).map (fun n => (its D A n).length) = (alL T D A (aC A)).map (fun n => ((chF D (aN A n)).map (fun f => ((zR H).filter (pRw n f)).length)).sum) := by
    apply List.map_congr_left
    intro n hn
    rw [its_len]
    congr 1
    apply List.map_congr_left
    intro f hf
    obtain ⟨d, hd⟩ := (chF_mem hg (h.2.2.2.2.1.2.2.2 n (hlt n hn)).1).mp hf
    rw [← (h.2.2.2.2.2.2 n (hlt n hn)).1 f d hd, List.length_map]
  rw [e1]
  have key : ∀ (R : List Rg), (∀ r ∈ R, RwOk T D A r) → (R.filter (fun r => rA r && al T D A (rN r))).length = ((alL T D A (aC A)).map (fun n => ((chF D (aN A n)).map (fun f => (R.filter (pRw n f)).length)).sum)).sum := by
    intro R
    induction R with
    | nil =>
      intro _
      have : ∀ n, ((chF D (aN A n)).map (fun f => (([] : List Rg).filter (pRw n f)).length)).sum = 0 := fun n => sum_zero _
      rw [show (fun n => ((chF D (aN A n)).map (fun f => (([] : List Rg).filter (pRw n f)).length)).sum) = fun _ => 0 from funext this, sum_zero]
      try rfl
    | cons r R ih =>
      intro hR
      have ih' := ih (fun x hx => hR x (List.mem_cons_of_mem _ hx))
      obtain ⟨o1, d, o2, _⟩ := hR r (List.mem_cons_self ..)
      have hM := (h.2.2.2.2.1.2.2.2 (rN r) o1).1
      have hfm : rF r ∈ chF D (aN A (rN r)) := (chF_mem hg hM).mpr ⟨d, o2⟩
      have c1 : ∀ n f, ((r :: R).filter (pRw n f)).length = (if rA r then (if n = rN r then (if f = rF r then 1 else 0) else 0) else 0) + (R.filter (pRw n f)).length := fun n f => by
        rw [List.filter_cons]
        unfold pRw
        cases hA : rA r with
        | false => rw [Bool.and_false, if_neg (show ¬ false = true by decide), if_neg (show ¬ false = true by decide), Nat.zero_add]
        | true =>
          rw [Bool.and_true, if_pos (show true = true from rfl)]
          by_cases q1 : n = rN r
          · by_cases q2 : f = rF r
            · rw [if_pos q1, if_pos q2, decide_eq_true q1.symm, decide_eq_true q2.symm, if_pos (show (true && true) = true from rfl), List.length_cons]
              omega
            · rw [if_pos q1, if_neg q2, decide_eq_false (show ¬ rF r = f from fun z => q2 z.symm), Bool.and_false, if_neg (show ¬ false = true by decide), Nat.zero_add]
          · rw [if_neg q1, decide_eq_false (fun z => q1 z.symm), Bool.false_and, if_neg (show ¬ false = true by decide), Nat.zero_add]
      have c2 : ∀ n, ((chF D (aN A n)).map (fun f => ((r :: R).filter (pRw n f)).length)).sum = (if n = rN r then (if rA r then 1 else 0) else 0) + ((chF D (aN A n)).map (fun f => (R.filter (pRw n f)).length)).sum := fun n => by
        rw [show (fun f => ((r :: R).filter (pRw n f)).length) = fun f => (if rA r then (if n = rN r then (if f = rF r then 1 else 0) else 0) else 0) + (R.filter (pRw n f)).length from funext (c1 n), sum_add]
        congr 1
        by_cases q1 : n = rN r
        · rw [if_pos q1]
          cases hA : rA r with
          | false => rw [if_neg (show ¬ false = true by decide)]; exact sum_zero _
          | true =>
            rw [if_pos (show true = true from rfl)]
            have := sum_ind (v := 1) (a := rF r) (chF D (aN A n)) (chD_nodup _)
            rw [if_pos (by rw [q1]; exact hfm)] at this
            refine Eq.trans ?_ this
            congr 1
            apply List.map_congr_left
            intro f _
            rw [if_pos (show true = true from rfl), if_pos q1]
        · rw [if_neg q1]
          rw [show (fun (f : Nat) => if rA r = true then (if n = rN r then (if f = rF r then 1 else 0) else 0) else 0) = fun _ => 0 from funext (fun f => by rw [if_neg q1, ite_self])]
          exact sum_zero _
      rw [show (fun n => ((chF D (aN A n)).map (fun f => ((r :: R).filter (pRw n f)).length)).sum) = fun n => (if n = rN r then (if rA r then 1 else 0) else 0) + ((chF D (aN A n)).map (fun f => (R.filter (pRw n f)).length)).sum from funext c2, sum_add, ← ih', sum_ind _ hnd, List.filter_cons]
      have ha : al T D A (rN r) = decide (rN r ∈ alL T D A (aC A)) := rfl
      rw [ha]
      by_cases q : rN r ∈ alL T D A (aC A)
      · rw [decide_eq_true q, Bool.and_true, if_pos q]
        cases hA : rA r with
        | true => rw [if_pos (show true = true from rfl), if_pos (show true = true from rfl), List.length_cons]; omega
        | false => rw [if_neg (show ¬ false = true by decide), if_neg (show ¬ false = true by decide), Nat.zero_add]
      · rw [decide_eq_false q, Bool.and_false, if_neg (show ¬ false = true by decide), if_neg q, Nat.zero_add]
  exact key _ h.2.2.2.2.2.1
/-- a value at rest, as the reference holds it -/
def VS (σ : SG) (s : Nat) (T : List Nat) (D : List Dc) (A : AV) (H : Rh) : Prop := sI σ 1101 80 = nI s ∧ RT σ s T D (zP H) (zR H) ∧ (sI σ 1101 84 = nI (zP H).length ∧ RI σ 1175 (zP H) ∧ ok8 (zP H) ∧ (zP H).length ≤ 700) ∧ (sI σ 1101 83 = nI (zU H).length ∧ (zU H).length ≤ 350 ∧ ∀ i u, (zU H)[i]? = some u → u.1 < aC A ∧ UKs σ (zP H) i u) ∧ (sI σ 1101 81 = nI (aC A) ∧ 0 < aC A ∧ aC A ≤ 351 ∧ ∀ n, n < aC A → NdOk σ T D A H n) ∧ (∀ r ∈ zR H, RwOk T D A r) ∧ (∀ n, al T D A n = true → (∀ f d, isF D (aN A n) f d → ((zR H).filter (pRw n f)).map (itR T D d) = aE A n f) ∧ (((zU H).filter (fun u => decide (u.1 = n))).map (fun u => u.2)).flatten = aU A n) ∧ ∀ r ∈ zR H, rA r = true → al T D A (rN r) = true
theorem fnR_get {T : List Nat} {D : List Dc} {A : AV} {R : List Rg} {i : Nat} {r : Rg} (h : R[i]? = some r) : ∃ x, (fnR T D A R)[i]? = some x ∧ rN x = rN r ∧ rF x = rF r ∧ rK x = rK r ∧ rT x = rT r := by
  refine ⟨if al T D A (rN r) then r else off r, by unfold fnR; rw [List.getElem?_map, h]; rfl, ?_, ?_, ?_, ?_⟩ <;> (split <;> rfl)
theorem fnR_fil {T : List Nat} {D : List Dc} {A : AV} {n f : Nat} (hn : al T D A n = true) : ∀ (R : List Rg), (fnR T D A R).filter (pRw n f) = R.filter (pRw n f) := by
  intro R
  induction R with
  | nil => rfl
  | cons r R ih =>
    unfold fnR at ih ⊢
    rw [List.map_cons, List.filter_cons, List.filter_cons, ih]
    cases ha : al T D A (rN r) with
    | true => rw [if_pos (show true = true from rfl)]
    | false =>
      have hne : rN r ≠ n := fun z => by rw [z, hn] at ha; cases ha
      have : pRw n f r = false := by unfold pRw; rw [decide_eq_false hne, Bool.false_and, Bool.false_and]
      rw [if_neg (show ¬ false = true by decide), pRw_off, this, if_neg (show ¬ false = true by decide), if_neg (show ¬ false = true by decide)]
theorem VS_of {σ τ : SG} {s : Nat} {T : List Nat} {D : List Dc} {A : AV} {H : Rh} (h : VR σ s T D A H) (hR : RT τ s T D (zP H) (fnR T D A (zR H))) (hf : fP Pr71 σ τ) : VS τ s T D A (fnR T D A (zR H), zU H, zP H, zW H, zD H) := by
  obtain ⟨g1, g2, g3, g4, g5, g6, g7⟩ := h
  have ci : ∀ b k, b ≠ 1171 → sI τ b k = sI σ b k := fun b k hb => (hf b k hb).1
  refine ⟨(ci 1101 80 (by decide)).trans g1, hR, ⟨(ci 1101 84 (by decide)).trans g3.1, fun i c hi => (ci 1175 i (by decide)).trans (g3.2.1 i c hi), g3.2.2⟩, ⟨(ci 1101 83 (by decide)).trans g4.1, g4.2.1, fun i u hu => ?_⟩, ⟨(ci 1101 81 (by decide)).trans g5.1, g5.2.1, g5.2.2.1, fun m hm => ?_⟩, fun r hr => ?_, fun n hn => ?_, fun r hr hA => ?_⟩
  · obtain ⟨u1, u2, a, u3, u4, u5⟩ := g4.2.2 i u hu
    exact ⟨u1, (ci 1172 i (by decide)).trans u2, a, (ci 1173 i (by decide)).trans u3, (ci 1174 i (by decide)).trans u4, u5⟩
  · obtain ⟨n1, n2, n3, n4, n5⟩ := g5.2.2.2 m hm
    refine ⟨n1, (ci 1160 m (by decide)).trans n2, (ci 1161 m (by decide)).trans n3, (ci 1162 m (by decide)).trans n4, fun z => ?_⟩
    obtain ⟨r, d, r1, r2, r3, r4, r5⟩ := n5 z
    obtain ⟨x, x1, x2, x3, x4, _⟩ := fnR_get (T := T) (D := D) (A := A) r1
    exact ⟨x, d, x1, by rw [x3]; exact r2, r3, x4.trans r4, by rw [x2]; exact r5⟩
  · obtain ⟨y, hy, e⟩ := List.mem_map.mp (show r ∈ (zR H).map (fun r => if al T D A (rN r) then r else off r) from hr)
    have := g6 y hy
    rw [← e]
    split
    · exact this
    · exact this
  · have hlt : n < aC A := List.mem_range.mp ((alL_lt _).subset (of_decide_eq_true hn))
    refine ⟨fun f d hF => ?_, (g7 n hlt).2⟩
    show ((fnR T D A (zR H)).filter (pRw n f)).map (itR T D d) = aE A n f
    rw [fnR_fil hn]
    exact (g7 n hlt).1 f d hF
  · obtain ⟨y, hy, e⟩ := List.mem_map.mp (show r ∈ (zR H).map (fun r => if al T D A (rN r) then r else off r) from hr)
    rw [← e] at hA ⊢
    cases ha : al T D A (rN y) with
    | true => rw [if_pos (show true = true from rfl)]; exact ha
    | false => rw [ha, if_neg (show ¬ false = true by decide)] at hA; cases hA
theorem N_bytes1 {U s : Nat} {σ : SG} {T : List Nat} {D : List Dc} {P : List Nat} {R : List Rg} {K : Int32 → Option Int32} (hR : RT σ s T D P R) : ∀ (j i v U1 : Nat), i + j = R.length → j < U1 → v ≤ ((R.take i).map (fun r => (rT r).length)).sum → ∃ w, w ≤ (R.map (fun r => (rT r).length)).sum ∧ x_X12_liveBytes_L4 U 1101 K σ U1 (nI v) (nI i) = K (nI w) := by
  have hR7 := hR.2.1
  intro j
  induction j with
  | zero =>
    intro i v U1 hi hu hv
    obtain ⟨V, rfl⟩ : ∃ V, U1 = V + 1 := ⟨U1 - 1, by omega⟩
    rw [x_X12_liveBytes_L4, hR.1, if_neg (fun q => by have := (ltI (by omega) (by omega)).mp q; omega)]
    rw [List.take_of_length_le (by omega)] at hv
    exact ⟨v, hv, rfl⟩
  | succ j ih =>
    intro i v U1 hi hu hv
    obtain ⟨V, rfl⟩ : ∃ V, U1 = V + 1 := ⟨U1 - 1, by omega⟩
    have hil : i < R.length := by omega
    obtain ⟨w1, w2⟩ := hR.2.2 i R[i] (List.getElem?_eq_getElem hil)
    obtain ⟨_, _, _, ⟨a, _, w3, _⟩, _⟩ := w1
    have hs : ((R.take (i + 1)).map (fun r => (rT r).length)).sum = ((R.take i).map (fun r => (rT r).length)).sum + (rT R[i]).length := by
      rw [List.take_succ_eq_append_getElem hil, List.map_append, List.sum_append]; try rfl
    rw [x_X12_liveBytes_L4, hR.1, if_pos ((ltI (by omega) (by omega)).mpr hil), ix_in (by omega) (by decide), w2, ifz]
    unfold x_X12_liveBytes_30
    rw [ix_in (by omega) (by decide), w3, nI_add, nI_1]
    cases rA R[i] with
    | true => rw [if_pos (show true = true from rfl)]; exact ih (i + 1) _ V (by omega) (by omega) (by omega)
    | false => rw [if_neg (show ¬ false = true by decide)]; exact ih (i + 1) _ V (by omega) (by omega) (by omega)
theorem N_bytes2 {U n : Nat} {σ : SG} {P : List Nat} {L : List (Nat × List Nat)} (h83 : sI σ 1101 83 = nI L.length) (hl : L.length ≤ 350) (hL : ∀ i u, L[i]? = some u → u.1 < n ∧ UKs σ P i u) (hn : n ≤ 351) (hal : ∀ i, i < n → ∃ b, sI σ 1164 i = zI b) : ∀ (j i v U1 x : Nat), i + j = L.length → j < U1 → v ≤ x + ((L.take i).map (fun u => u.2.length)).sum → ∃ w, w ≤ x + (L.map (fun u => u.2.length)).sum ∧ x_X12_liveBytes_L38 U 1101 σ U1 (nI v) (nI i) = some (nI w) := by
  intro j
  induction j with
  | zero =>
    intro i v U1 x hi hu hv
    obtain ⟨V, rfl⟩ : ∃ V, U1 = V + 1 := ⟨U1 - 1, by omega⟩
    rw [x_X12_liveBytes_L38, h83, if_neg (fun q => by have := (ltI (by omega) (by omega)).mp q; omega)]
    rw [List.take_of_length_le (by omega)] at hv
    exact ⟨v, hv, rfl⟩
  | succ j ih =>
    intro i v U1 x hi hu hv
    obtain ⟨V, rfl⟩ : ∃ V, U1 = V + 1 := ⟨U1 - 1, by omega⟩
    have hil : i < L.length := by omega
    obtain ⟨u1, u2, a, u3, u4, _⟩ := hL i L[i] (List.getElem?_eq_getElem hil)
    obtain ⟨b, hb⟩ := hal _ u1
    have hs : ((L.take (i + 1)).map (fun u => u.2.length)).sum = ((L.take i).map (fun u => u.2.length)).sum + L[i].2.length := by
      rw [List.take_succ_eq_append_getElem hil, List.map_append, List.sum_append]; try rfl
    rw [x_X12_liveBytes_L38, h83, if_pos ((ltI (by omega) (by omega)).mpr hil), ix_in (by omega) (by decide), u2, ix_in (by omega) (by decide), hb, ifz]
    unfold x_X12_liveBytes_69
    rw [ix_in (by omega) (by decide), u4, nI_add, nI_1]
    cases b with
    | true => rw [if_pos (show true = true from rfl)]; exact ih (i + 1) _ V x (by omega) (by omega) (by omega)
    | false => rw [if_neg (show ¬ false = true by decide)]; exact ih (i + 1) _ V x (by omega) (by omega) (by omega)
def Pfin (b k : Nat) : Prop := (b = 1101 ∧ (k = 5 ∨ k = 79)) ∨ b = 1164 ∨ b = 1171
theorem N_finish {U s lm : Nat} {σ : SG} {T : List Nat} {D : List Dc} {A : AV} {H : Rh} (hU4 : 4000 < U) (hg : GSc T D) (h7 : sI σ 1101 107 = 0) (h : VR σ s T D A H) (hdp : DPk T D lm A H) (hT : zT H ≤ (zP H).length) (h79 : sI σ 1101 79 = 0) : ∃ τ, fP Pfin σ τ ∧ (200 < nV T D A → x_X12_finish U 1101 σ = some (0, τ) ∧ sI τ 1101 5 = 2 ∧ sI τ 1101 79 = 0) ∧ (¬ 200 < nV T D A → x_X12_finish U 1101 σ = some (nI (nV T D A), τ) ∧ sI τ 1101 5 = 0 ∧ sI τ 1101 79 = 1 ∧ ∃ H', VS τ s T D A H') := by
  unfold x_X12_finish x_X12_finish_13 x_X12_finish_48 x_X12_finish_53 x_X12_liveValues
  rw [if_pos h7, sb_eq, sI_s, if_pos (show (0 : Int32) = 0 from rfl)]
  have F0 : fP (fun b k => b = 1101 ∧ k = 5) σ (uI σ 1101 5 0) := fP_u ⟨rfl, rfl⟩
  have V0 : VR (uI σ 1101 5 0) s T D A H := VR_keep h (fun b k hb => ⟨(F0 b k (by omega)).1, (F0 b k (by omega)).2.1⟩)
  have hc := h.2.2.2.2.1
  obtain ⟨τ1, t1, t2, t3, t4⟩ := N_alive_L (U := U) (v1 := 0) (K := fun σ34 => x_X12_liveValues_L74 U 1101 U 0 0 σ34) hg hdp (aC A) 0 U (uI σ 1101 5 0) (by omega) (by omega) V0 (fun i hi => by omega)
  have t1' : x_X12_liveValues_L4 U 1101 (fun σ34 => x_X12_liveValues_L74 U 1101 U 0 0 σ34) 0 U 0 (uI σ 1101 5 0) = x_X12_liveValues_L74 U 1101 U 0 0 τ1 := t1
  obtain ⟨τ2, u1, u2, u3⟩ := N_rows_L (U := U) (A := A) (R := zR H) (P := zP H) (s := s) hc.2.2.1 t3.2.1.2.1 (fun r hr => (t3.2.2.2.2.2.1 r hr).1) (zR H).length 0 0 U τ1 (by omega) (Nat.le_refl _) (by have := t3.2.1.2.1; omega) t3.2.1 t4
  have u1' : x_X12_liveValues_L74 U 1101 U 0 0 τ1 = some (nI (nV T D A), τ2) := by
    have : x_X12_liveValues_L74 U 1101 U 0 0 τ1 = some (nI (0 + ((zR H).filter (fun r => rA r && al T D A (rN r))).length), τ2) := u1
    rw [this, Nat.zero_add, nV_rows hg t3]
  have hnv : nV T D A ≤ 700 := by
    rw [← nV_rows hg t3]
    exact Nat.le_trans (List.length_filter_le ..) t3.2.1.2.1
  rw [t1', u1', b2_eq, ifd (show (200 : Int32) < nI (nV T D A) ↔ 200 < nV T D A from ltI (a := 200) (by decide) (by omega))]
  have F2 : fP Pfin σ τ2 := fP_trans (fP_trans (fP_mono F0 (fun b k z => Or.inl ⟨z.1, Or.inl z.2⟩)) (fP_mono t2 (fun b k z => Or.inr (Or.inl z)))) (fP_mono u3 (fun b k z => Or.inr (Or.inr z)))
  have c79 : sI τ2 1101 79 = 0 := ((u3 1101 79 (by unfold Pr71; decide)).1).trans (((t2 1101 79 (by unfold Pal; decide)).1).trans (((F0 1101 79 (by decide)).1).trans h79))
  by_cases q : 200 < nV T D A
  · rw [if_pos q, sb_eq, sI_s, if_neg (show ¬ (2 : Int32) = 0 by decide)]
    exact ⟨_, fP_trans F2 (fP_u (Or.inl ⟨rfl, Or.inl rfl⟩)), fun _ => ⟨rfl, sI_s _ _ _ _, by rw [sI_o (Or.inr (by decide))]; exact c79⟩, fun z => absurd q z⟩
  · rw [if_neg q]
    have S2 := VS_of t3 u2 u3
    unfold x_X12_liveBytes
    have hmap : (fnR T D A (zR H)).map (fun r => (rT r).length) = (zR H).map (fun r => (rT r).length) := by
      unfold fnR
      rw [List.map_map]
      apply List.map_congr_left
      intro r _
      show (rT (if al T D A (rN r) = true then r else off r)).length = _
      split <;> rfl
    obtain ⟨w, w1, w2⟩ := N_bytes1 (U := U) (K := fun w11 => x_X12_liveBytes_L38 U 1101 τ2 U w11 0) u2 (fnR T D A (zR H)).length 0 0 U (by omega) (by have := u2.2.1; omega) (Nat.zero_le _)
    have w2' : x_X12_liveBytes_L4 U 1101 (fun w11 => x_X12_liveBytes_L38 U 1101 τ2 U w11 0) τ2 U 0 0 = x_X12_liveBytes_L38 U 1101 τ2 U (nI w) 0 := w2
    obtain ⟨y, y1, y2⟩ := N_bytes2 (U := U) (σ := τ2) (n := aC A) S2.2.2.2.1.1 S2.2.2.2.1.2.1 S2.2.2.2.1.2.2 hc.2.2.1 (fun i hi => ⟨al T D A i, ((u3 1164 i (by unfold Pr71; decide)).1).trans (t4 i hi)⟩) (zU H).length 0 w U w (by show 0 + (zU H).length = (zU H).length; omega) (by have := h.2.2.2.1.2.1; omega) (Nat.le_add_right _ _)
    have y2' : x_X12_liveBytes_L38 U 1101 τ2 U (nI w) 0 = some (nI y) := y2
    have hy : y ≤ 700 := by
      rw [hmap] at w1
      have y1' : y ≤ w + ((zU H).map (fun u => u.2.length)).sum := y1
      have := h.2.2.1.2.2.2
      unfold zT at hT
      omega
    rw [w2', y2', b1_eq, if_neg (show ¬ (1000 : Int32) < nI y from fun z => by have := (ltI (a := 1000) (by decide) (by omega)).mp z; omega), sb_eq, sI_s, if_pos (show (0 : Int32) = 0 from rfl), sb_eq]
    have F3 : fP (fun b k => b = 1101 ∧ (k = 5 ∨ k = 79)) τ2 (uI (uI τ2 1101 5 0) 1101 79 1) := fP_trans (fP_u ⟨rfl, Or.inl rfl⟩) (fP_u ⟨rfl, Or.inr rfl⟩)
    refine ⟨_, fP_trans F2 (fP_mono F3 (fun b k z => Or.inl z)), fun z => absurd z q, fun _ => ⟨rfl, by rw [sI_o (Or.inr (by decide)), sI_s], sI_s _ _ _ _, (fnR T D A (zR H), zU H, zP H, zW H, zD H), ?_⟩⟩
    · obtain ⟨g1, g2, g3, g4, g5, g6, g7⟩ := S2
      have ci : ∀ b k, (b ≠ 1101 ∨ (k ≠ 5 ∧ k ≠ 79)) → sI (uI (uI τ2 1101 5 0) 1101 79 1) b k = sI τ2 b k ∧ sL (uI (uI τ2 1101 5 0) 1101 79 1) b k = sL τ2 b k := fun b k hb => ⟨(F3 b k (by omega)).1, (F3 b k (by omega)).2.1⟩
      refine ⟨((ci 1101 80 (by omega)).1).trans g1, ⟨((ci 1101 82 (by omega)).1).trans g2.1, g2.2.1, fun i r hi => ?_⟩, ⟨((ci 1101 84 (by omega)).1).trans g3.1, fun i c hi => ((ci 1175 i (by omega)).1).trans (g3.2.1 i c hi), g3.2.2⟩, ⟨((ci 1101 83 (by omega)).1).trans g4.1, g4.2.1, fun i u hu => ?_⟩, ⟨((ci 1101 81 (by omega)).1).trans g5.1, g5.2.1, g5.2.2.1, fun m hm => ?_⟩, g6, g7⟩
      · obtain ⟨y1, y2⟩ := g2.2.2 i r hi
        exact ⟨RWs_sm y1 (fun b h1 h2 => ci b i (by omega)), ((ci 1171 i (by omega)).1).trans y2⟩
      · obtain ⟨u1, u2, a, u3, u4, u5⟩ := g4.2.2 i u hu
        exact ⟨u1, ((ci 1172 i (by omega)).1).trans u2, a, ((ci 1173 i (by omega)).1).trans u3, ((ci 1174 i (by omega)).1).trans u4, u5⟩
      · obtain ⟨n1, n2, n3, n4, n5⟩ := g5.2.2.2 m hm
        exact ⟨n1, ((ci 1160 m (by omega)).1).trans n2, ((ci 1161 m (by omega)).1).trans n3, ((ci 1162 m (by omega)).1).trans n4, n5⟩
theorem N_finish_no {U : Nat} {σ : SG} (h7 : ¬ sI σ 1101 107 = 0) : x_X12_finish U 1101 σ = some (0, uI σ 1101 5 1) := by
  unfold x_X12_finish x_X12_finish_13
  rw [if_neg h7, sb_eq, sI_s, if_neg (show ¬ (1 : Int32) = 0 by decide)]
