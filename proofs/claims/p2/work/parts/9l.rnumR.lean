/-! ===== the reference reads numbers of the wire ===== -/
/-- what reading a number touches -/
def PN (b k : Nat) : Prop := b = 1101 ∧ (k = 107 ∨ k = 108 ∨ k = 109)
/-- the outcome of the reference's reading -/
def OR9 (σ : SG) (o : Option (Int64 × Nat)) (x : Option SG) : Prop := ∃ τ, x = some τ ∧ fP PN σ τ ∧ (∀ v p, o = some (v, p) → sI τ 1101 107 = 0 ∧ sL τ 1101 108 = v ∧ sI τ 1101 109 = nI p) ∧ (o = none → ¬ sI τ 1101 107 = 0)
theorem OR9_from {σ τ : SG} {o : Option (Int64 × Nat)} {x : Option SG} (hf : fP PN σ τ) (h : OR9 τ o x) : OR9 σ o x := by obtain ⟨υ, a, b, c⟩ := h; exact ⟨υ, a, fP_trans hf b, c⟩
theorem sh63 : ∀ b, b < 256 → lshl9 (lN (b % 128)) (nI 63) = if nI b &&& 1 = 0 then 0 else lshl9 (Int32.toInt64 (nI b &&& 1)) (nI 63) := by decide +kernel
theorem and127' : ∀ b, b < 256 → Int32.toInt64 (nI b &&& 127) = lN (b % 128) := by decide +kernel
theorem N_var_L {U e : Nat} {S : List Nat} (he : e ≤ S.length) (h8 : ok8 S) (hSl : S.length ≤ 700) : ∀ (j k p U1 : Nat) (σ : SG) (x : Int64), j + k = 10 → j < U1 → p ≤ e → RI σ 1102 S → sI σ 1101 109 = nI p → sL σ 1101 108 = x → sI σ 1101 107 = 0 →
    OR9 σ (vrN S e j k p x) (x_X12_takeVarint_L7 U 1101 (fun σ14 => sb (uI σ14 1101 107 1) fun σ15 => some σ15) (fun σ16 => sb (uI σ16 1101 107 1) fun σ17 => some σ17) (nI e) U1 (nI k) σ) := by
  have bad : ∀ σ, OR9 σ none (sb (uI σ 1101 107 1) fun σ15 => some σ15) := fun σ => ⟨_, rfl, fP_u ⟨rfl, Or.inl rfl⟩, fun v p h => (by cases h), fun _ => by rw [sI_s]; decide⟩
  intro j
  induction j with
  | zero =>
    intro k p U1 σ x hk hu hp hS h9 h8' h7
    obtain ⟨V, rfl⟩ : ∃ V, U1 = V + 1 := ⟨U1 - 1, by omega⟩
    rw [x_X12_takeVarint_L7, show (10 : Int32) = nI 10 from rfl, if_neg (fun z => by have := (ltI (by omega) (by decide)).mp z; omega)]
    exact bad σ
  | succ j ih =>
    intro k p U1 σ x hk hu hp hS h9 h8' h7
    obtain ⟨V, rfl⟩ : ∃ V, U1 = V + 1 := ⟨U1 - 1, by omega⟩
    rw [x_X12_takeVarint_L7, show (10 : Int32) = nI 10 from rfl, if_pos ((ltI (by omega) (by decide)).mpr (by omega)), h9, ifd (ltI (by omega) (by omega)), vrN]
    by_cases q : p < e
    · have hpl : p < S.length := by omega
      have hb := List.getElem?_eq_getElem hpl
      have h256 := h8 _ (List.getElem_mem hpl)
      rw [if_pos q, if_pos q, ix_in (by omega) (by decide), sb_eq, nI_1, hS _ _ hb, hb]
      simp only
      have lt : nI S[p] < 128 ↔ S[p] < 128 := ltI (b := 128) (by omega) (by decide)
      -- the number then
      have fin : ∀ (υ : SG), fP PN σ υ → RI υ 1102 S → sI υ 1101 109 = nI (p + 1) → sL υ 1101 108 = x ||| lshl9 (lN (S[p] % 128)) (nI (7 * k)) → sI υ 1101 107 = 0 → OR9 σ (if S[p] < 128 then some (x ||| lshl9 (lN (S[p] % 128)) (nI (7 * k)), p + 1) else vrN S e j (k + 1) (p + 1) (x ||| lshl9 (lN (S[p] % 128)) (nI (7 * k)))) (x_X12_takeVarint_88 U 1101 (x_X12_takeVarint_L7 U 1101 (fun σ14 => sb (uI σ14 1101 107 1) fun σ15 => some σ15) (fun σ16 => sb (uI σ16 1101 107 1) fun σ17 => some σ17) (nI e) V) (fun σ14 => sb (uI σ14 1101 107 1) fun σ15 => some σ15) (fun σ16 => sb (uI σ16 1101 107 1) fun σ17 => some σ17) (nI e) (nI k) (nI S[p]) υ) := by
        intro υ f1 r1 a9 a8 a7
        unfold x_X12_takeVarint_88
        rw [ifd lt, nI_1]
        by_cases w : S[p] < 128
        · rw [if_pos w, if_pos w]
          exact ⟨υ, rfl, f1, fun v p' h => (by cases h; exact ⟨a7, a8, a9⟩), fun h => by cases h⟩
        · rw [if_neg w, if_neg w]
          exact OR9_from f1 (ih (k + 1) (p + 1) V υ _ (by omega) (by omega) (by omega) r1 a9 a8 a7)
      have f0 : fP PN σ (uI σ 1101 109 (nI (p + 1))) := fP_u ⟨rfl, Or.inr (Or.inr rfl)⟩
      have r0 : RI (uI σ 1101 109 (nI (p + 1))) 1102 S := hS.sm (sm_uI (by decide))
      have st : ∀ (m : Int32), m = 127 ∧ k < 9 ∨ (m = 1 ∧ k = 9 ∧ ¬ nI S[p] &&& 1 = 0) → OR9 σ (if S[p] < 128 then some (x ||| lshl9 (lN (S[p] % 128)) (nI (7 * k)), p + 1) else vrN S e j (k + 1) (p + 1) (x ||| lshl9 (lN (S[p] % 128)) (nI (7 * k)))) (x_X12_takeVarint_77 U 1101 (x_X12_takeVarint_L7 U 1101 (fun σ14 => sb (uI σ14 1101 107 1) fun σ15 => some σ15) (fun σ16 => sb (uI σ16 1101 107 1) fun σ17 => some σ17) (nI e) V) (fun σ14 => sb (uI σ14 1101 107 1) fun σ15 => some σ15) (fun σ16 => sb (uI σ16 1101 107 1) fun σ17 => some σ17) (nI e) (nI k) (nI S[p]) m (nI S[p]) x (uI σ 1101 109 (nI (p + 1)))) := by
        intro m hm
        unfold x_X12_takeVarint_77
        rw [sb_eq, show (7 : Int32) = nI 7 from rfl, pk_mul]
        refine fin _ (fP_trans f0 (fP_L ⟨rfl, Or.inr (Or.inl rfl)⟩)) (r0.sm (sm_uL (by decide))) (by rw [sI_uL, sI_s]) ?_ (by rw [sI_uL, sI_o (Or.inr (by decide))]; exact h7)
        rw [sL_s]
        rcases hm with ⟨m1, m2⟩ | ⟨m1, m2, m3⟩
        · rw [m1, and127' _ h256]
        · have := sh63 _ h256
          rw [if_neg m3] at this
          rw [m1, m2, show 7 * 9 = 63 from rfl, this]
      have k9 : nI k < 9 ↔ k < 9 := ltI (b := 9) (by omega) (by decide)
      unfold x_X12_takeVarint_59
      rw [sL_uI, h8']
      by_cases hk9 : k < 9
      · rw [if_pos (k9.mpr hk9), if_pos (k9.mpr hk9)]
        exact st 127 (Or.inl ⟨rfl, hk9⟩)
      · have hk9' : k = 9 := by omega
        rw [if_neg (fun z => hk9 (k9.mp z)), if_neg (fun z => hk9 (k9.mp z))]
        by_cases hodd : nI S[p] &&& 1 = 0
        · rw [if_pos hodd]
          refine fin _ f0 r0 (sI_s _ _ _ _) ?_ (by rw [sI_o (Or.inr (by decide))]; exact h7)
          have := sh63 _ h256
          rw [if_pos hodd] at this
          rw [sL_uI, h8', hk9', show 7 * 9 = 63 from rfl, this, Int64.or_zero]
        · rw [if_neg hodd]
          exact st 1 (Or.inr ⟨rfl, hk9', hodd⟩)
    · rw [if_neg q, if_neg q]
      exact bad σ
theorem N_var {U p e : Nat} {S : List Nat} {σ : SG} (hU4 : 4000 < U) (hL : LR σ S) (he : e ≤ S.length) (hp : p ≤ e) (h9 : sI σ 1101 109 = nI p) (h7 : sI σ 1101 107 = 0) : OR9 σ (rdN S 0 p e) (x_X12_takeVarint U 1101 (nI e) σ) := by
  unfold x_X12_takeVarint rdN
  rw [sb_eq, if_pos rfl]
  exact OR9_from (fP_L ⟨rfl, Or.inr (Or.inl rfl)⟩) (N_var_L he hL.2.2.2 hL.2.2.1 10 0 p U (uL σ 1101 108 0) 0 (by omega) (by omega) hp (hL.2.1.sm (sm_uL (by decide))) h9 (sL_s _ _ _ _) h7)
theorem fxN_no {S : List Nat} {e : Nat} : ∀ (j k p : Nat) (x : Int64), 0 < j → e < p + j → p ≤ e → fxN S e j k p x = none := by
  intro j
  induction j with
  | zero => intro k p x h; omega
  | succ j ih =>
    intro k p x _ h hp
    rw [fxN]
    by_cases q : p < e
    · rw [if_pos q]
      cases S[p]? with
      | none => rfl
      | some b =>
        simp only
        rw [if_neg (by omega)]
        exact ih (k + 1) (p + 1) _ (by omega) (by omega) (by omega)
    · rw [if_neg q]
theorem N_fix_L {U e w p : Nat} {S : List Nat} {K : SG → Option SG} (he : e ≤ S.length) (h8 : ok8 S) (hSl : S.length ≤ 700) (hpw : p + w ≤ e) (hw : w < 10) : ∀ (j k U1 : Nat) (σ : SG) (x : Int64), j + k = w → 0 < j → j < U1 → RI σ 1102 S → sI σ 1101 109 = nI p → sL σ 1101 108 = x →
    ∃ v τ, fxN S e j k (p + k) x = some (v, p + w) ∧ x_X12_takeFixed_L23 U 1101 K (nI w) U1 (nI k) σ = K τ ∧ fP (fun b k => b = 1101 ∧ k = 108) σ τ ∧ sL τ 1101 108 = v := by
  intro j
  induction j with
  | zero => intro k U1 σ x hk h; omega
  | succ j ih =>
    intro k U1 σ x hk _ hu hS h9 hx
    obtain ⟨V, rfl⟩ : ∃ V, U1 = V + 1 := ⟨U1 - 1, by omega⟩
    have hpl : p + k < S.length := by omega
    have hb := List.getElem?_eq_getElem hpl
    have h256 := h8 _ (List.getElem_mem hpl)
    rw [x_X12_takeFixed_L23, if_pos ((ltI (by omega) (by omega)).mpr (by omega)), h9, nI_add, ix_in (by omega) (by decide), sb_eq, hS _ _ hb, hx, nI_l (by omega), show (8 : Int32) = nI 8 from rfl, pk_mul, nI_1, fxN, if_pos (by omega), hb]
    simp only
    have f1 : fP (fun b k => b = 1101 ∧ k = 108) σ (uL σ 1101 108 (x ||| lshl9 (lN S[p + k]) (nI (8 * k)))) := fP_L ⟨rfl, rfl⟩
    by_cases z : j = 0
    · subst z
      rw [if_pos rfl]
      obtain ⟨V2, hV2⟩ : ∃ V2, V = V2 + 1 := ⟨V - 1, by omega⟩
      refine ⟨_, _, ?_, ?_, f1, sL_s _ _ _ _⟩
      · rw [show p + k + 1 = p + w by omega]
      · rw [hV2, x_X12_takeFixed_L23, if_neg (fun q => by have := (ltI (by omega) (by omega)).mp q; omega)]
    · rw [if_neg z]
      obtain ⟨v, τ, t1, t2, t3, t4⟩ := ih (k + 1) V (uL σ 1101 108 (x ||| lshl9 (lN S[p + k]) (nI (8 * k)))) _ (by omega) (by omega) (by omega) (hS.sm (sm_uL (by decide))) h9 (sL_s _ _ _ _)
      exact ⟨v, τ, t1, t2, fP_trans f1 t3, t4⟩
theorem N_fix {U p e w q : Nat} {S : List Nat} {σ : SG} (hU4 : 4000 < U) (hL : LR σ S) (he : e ≤ S.length) (hp : p ≤ e) (h9 : sI σ 1101 109 = nI p) (h7 : sI σ 1101 107 = 0) (hq : q = 1 ∧ w = 8 ∨ q = 5 ∧ w = 4) : OR9 σ (rdN S q p e) (x_X12_takeFixed U 1101 (nI w) (nI e) σ) := by
  have hSl := hL.2.2.1
  have er : rdN S q p e = fxN S e w 0 p 0 := by
    unfold rdN
    rcases hq with ⟨a, b⟩ | ⟨a, b⟩ <;> subst a <;> subst b <;> rfl
  rw [er]
  unfold x_X12_takeFixed
  rw [sb_eq, sI_uL, h9, nI_add, ifd (ltI (by omega) (by omega))]
  have f0 : fP PN σ (uL σ 1101 108 0) := fP_L ⟨rfl, Or.inr (Or.inl rfl)⟩
  by_cases z : e < p + w
  · rw [if_pos z, sb_eq, fxN_no w 0 p 0 (by omega) z hp]
    exact ⟨_, rfl, fP_trans f0 (fP_u ⟨rfl, Or.inl rfl⟩), fun v p h => (by cases h), fun _ => by rw [sI_s]; decide⟩
  · rw [if_neg z]
    obtain ⟨v, τ, t1, t2, t3, t4⟩ := N_fix_L (U := U) (p := p) (w := w) (K := fun σ10 => sb (uI σ10 1101 109 ((sI σ10 1101 109) + nI w)) fun σ11 => some σ11) he hL.2.2.2 hSl (by omega) (by omega) w 0 U (uL σ 1101 108 0) 0 (by omega) (by omega) (by omega) (hL.2.1.sm (sm_uL (by decide))) h9 (sL_s _ _ _ _)
    have t2' := t2
    rw [show nI 0 = 0 from rfl] at t2'
    have a9 : sI τ 1101 109 = nI p := ((t3 1101 109 (by decide)).1).trans h9
    have a7 : sI τ 1101 107 = 0 := ((t3 1101 107 (by decide)).1).trans h7
    rw [t2', sb_eq, a9, nI_add]
    have t1' : fxN S e w 0 p 0 = some (v, p + w) := t1
    rw [t1']
    refine ⟨_, rfl, fP_trans f0 (fP_trans (fP_mono t3 (fun b k y => ⟨y.1, Or.inr (Or.inl y.2)⟩)) (fP_u ⟨rfl, Or.inr (Or.inr rfl)⟩)), fun v' p' h => ?_, fun h => by cases h⟩
    cases h
    exact ⟨by rw [sI_o (Or.inr (by decide))]; exact a7, t4, sI_s _ _ _ _⟩
theorem N_one {U p e q : Nat} {S : List Nat} {σ : SG} (hU4 : 4000 < U) (hL : LR σ S) (he : e ≤ S.length) (hp : p ≤ e) (h9 : sI σ 1101 109 = nI p) (h7 : sI σ 1101 107 = 0) (hq : q = 0 ∨ q = 1 ∨ q = 5) : OR9 σ (rdN S q p e) (x_X12_takeOne U 1101 (nI q) (nI e) σ) := by
  unfold x_X12_takeOne x_X12_takeOne_24
  rcases hq with z | z | z <;> subst z
  · rw [if_pos (show nI 0 = 0 from rfl), b1_id]
    exact N_var hU4 hL he hp h9 h7
  · rw [if_neg (show ¬ nI 1 = 0 by decide), if_pos (show nI 1 = 1 from rfl), b1_id]
    exact N_fix hU4 hL he hp h9 h7 (Or.inl ⟨rfl, rfl⟩)
  · rw [if_neg (show ¬ nI 5 = 0 by decide), if_neg (show ¬ nI 5 = 1 by decide), b1_id]
    exact N_fix hU4 hL he hp h9 h7 (Or.inr ⟨rfl, rfl⟩)
theorem N_valueFor {t : Nat} (ht : t ≤ 14) (x : Int64) : x_X12_valueFor (nI t) x = some (mng t x) := by
  rw [← X9_meaning ht x]
  have : t = 0 ∨ t = 1 ∨ t = 2 ∨ t = 3 ∨ t = 4 ∨ t = 5 ∨ t = 6 ∨ t = 7 ∨ t = 8 ∨ t = 9 ∨ t = 10 ∨ t = 11 ∨ t = 12 ∨ t = 13 ∨ t = 14 := by omega
  rcases this with z | z | z | z | z | z | z | z | z | z | z | z | z | z | z <;> subst z <;> rfl
