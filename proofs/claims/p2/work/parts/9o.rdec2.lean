/-! ===== the reference decodes one field: skipping, lengths ===== -/
theorem u8_shift {S1 S2 : List Nat} {x y n : Nat} (h : ∀ i, i < n → byt S1 (x + i) = byt S2 (y + i)) : ∀ j i, u8S S1 (x + n) j (x + i) = u8S S2 (y + n) j (y + i) := by
  intro j
  induction j with
  | zero => intro i; rfl
  | succ j ih =>
    intro i
    rw [u8S, u8S]
    by_cases q : i < n
    · rw [if_pos (show x + i < x + n by omega), if_pos (show y + i < y + n by omega), h i q]
      have hc : chr8 S1 (x + n) (x + i) = chr8 S2 (y + n) (y + i) := by
        unfold chr8
        rw [h i q]
        by_cases q2 : i + mor (byt S2 (y + i)) < n
        · have h0 : mor (byt S2 (y + i)) ≠ 0 → byt S1 (x + i + 1) = byt S2 (y + i + 1) := fun z => h (i + 1) (by omega)
          have h2 : 2 ≤ mor (byt S2 (y + i)) → byt S1 (x + i + 2) = byt S2 (y + i + 2) := fun z => h (i + 2) (by omega)
          have h3 : 3 ≤ mor (byt S2 (y + i)) → byt S1 (x + i + 3) = byt S2 (y + i + 3) := fun z => h (i + 3) (by omega)
          apply decide_eq_decide.mpr
          constructor
          · rintro ⟨a, b, c, d, e, f⟩
            exact ⟨a, by omega, by rw [← h0 a]; exact c, by rw [← h0 a]; exact d, fun z => by rw [← h2 z]; exact e z, fun z => by rw [← h3 z]; exact f z⟩
          · rintro ⟨a, b, c, d, e, f⟩
            exact ⟨a, by omega, by rw [h0 a]; exact c, by rw [h0 a]; exact d, fun z => by rw [h2 z]; exact e z, fun z => by rw [h3 z]; exact f z⟩
        · rw [decide_eq_false (fun z => q2 (by have := z.2.1; omega)), decide_eq_false (fun z => q2 (by have := z.2.1; omega))]
      rw [hc, show x + i + 1 = x + (i + 1) from rfl, show y + i + 1 = y + (i + 1) from rfl, ih (i + 1), show x + i + mor (byt S2 (y + i)) + 1 = x + (i + mor (byt S2 (y + i)) + 1) by omega, show y + i + mor (byt S2 (y + i)) + 1 = y + (i + mor (byt S2 (y + i)) + 1) by omega, ih (i + mor (byt S2 (y + i)) + 1)]
    · rw [if_neg (show ¬ x + i < x + n by omega), if_neg (show ¬ y + i < y + n by omega)]
theorem u8_pool {P S : List Nat} {a e : Nat} (hae : a ≤ e) (he : e ≤ S.length) : u8T (P ++ slc S a e) P.length (P.length + (e - a)) = u8T S a e := by
  unfold u8T
  have := u8_shift (S1 := P ++ slc S a e) (S2 := S) (x := P.length) (y := a) (n := e - a) (fun i hi => by
    unfold byt
    rw [List.getD_eq_getElem?_getD, List.getD_eq_getElem?_getD, List.getElem?_append_right (Nat.le_add_right _ _), Nat.add_sub_cancel_left, slc_get hi]) (e - a) 0
  rw [Nat.add_zero, Nat.add_zero, show a + (e - a) = e by omega] at this
  rw [show P.length + (e - a) - P.length = e - a by omega]
  exact this
/-- one field, a message's bytes left to be read -/
noncomputable def dSx (T : List Nat) (D : List Dc) (S : List Nat) (n m e p w p1 : Nat) (A : AV) : Option (AV × Nat × Option (Nat × Nat × Nat)) :=
  if w % 8 = 2 then (match lnS S p1 e with
    | none => none
    | some (l, p2) => match fOf D m (w / 8) with
      | none => some (aUnk A n (slc S p (p2 + l)), p2 + l, none)
      | some f => match D[f]? with
        | none => none
        | some d => if dR d && nmr (fty T D d) then (match dRow T D S n f d (p2 + l) 701 A p2 with | none => none | some A' => some (A', p2 + l, none))
          else if nmr (fty T D d) then some (aUnk A n (slc S p (p2 + l)), p2 + l, none)
          else if fty T D d = 11 ∧ u8T S p2 (p2 + l) = false then none
          else if fty T D d = 13 then (match ftg T D d with
            | none => none
            | some t => some ((aMsg D A n f d t).1, p2, some ((aMsg D A n f d t).2, t, p2 + l)))
          else some (aPut T D A n f d 0 (slc S p2 (p2 + l)), p2 + l, none))
  else (match rdN S (w % 8) p1 e with
    | none => none
    | some (x, p2) => match fOf D m (w / 8) with
      | none => some (aUnk A n (slc S p p2), p2, none)
      | some f => match D[f]? with
        | none => none
        | some d => if kdO (fty T D d) = w % 8 then some (aPut T D A n f d (mng (fty T D d) x) [], p2, none) else some (aUnk A n (slc S p p2), p2, none))
def dFn (rc : AV → Nat → Nat → Nat → Nat → Option AV) (o : Option (AV × Nat × Option (Nat × Nat × Nat))) : Option (AV × Nat) := match o with
  | none => none
  | some (A', p', none) => some (A', p')
  | some (A1, p2, some (k, t, q)) => match rc A1 k t q p2 with | none => none | some A' => some (A', q)
theorem dSt_x {T : List Nat} {D : List Dc} {S : List Nat} {rc : AV → Nat → Nat → Nat → Nat → Option AV} {n m e p w p1 : Nat} {A : AV} : dSt T D S rc n m e p w p1 A = dFn rc (dSx T D S n m e p w p1 A) := by
  unfold dSt dSx
  by_cases hw : w % 8 = 2
  · rw [if_pos hw, if_pos hw]
    cases lnS S p1 e with
    | none => rfl
    | some y =>
      obtain ⟨l, p2⟩ := y
      simp only
      cases fOf D m (w / 8) with
      | none => rfl
      | some f =>
        simp only
        cases D[f]? with
        | none => rfl
        | some d =>
          simp only
          split
          · cases dRow T D S n f d (p2 + l) 701 A p2 <;> rfl
          · split
            · rfl
            · split
              · rfl
              · split
                · cases ftg T D d <;> rfl
                · rfl
  · rw [if_neg hw, if_neg hw]
    cases rdN S (w % 8) p1 e with
    | none => rfl
    | some y =>
      obtain ⟨x, p2⟩ := y
      simp only
      cases fOf D m (w / 8) with
      | none => rfl
      | some f =>
        simp only
        cases D[f]? with
        | none => rfl
        | some d =>
          simp only
          split <;> rfl
def sk1 (o : Option (Int64 × Nat)) : Option Nat := match o with
  | none => none
  | some y => some y.2
/-- where a field ends that is skipped -/
noncomputable def skS (S : List Nat) (q p e : Nat) : Option Nat := if q = 2 then (match lnS S p e with | none => none | some (l, p2) => some (p2 + l)) else sk1 (rdN S q p e)
theorem skS_lt {S : List Nat} {q p e p' : Nat} (h : skS S q p e = some p') (he : e ≤ 700) : p < p' ∧ p' ≤ e := by
  unfold skS at h
  by_cases hq : q = 2
  · rw [if_pos hq] at h
    cases hl : lnS S p e with
    | none => rw [hl] at h; cases h
    | some y =>
      obtain ⟨l, p2⟩ := y
      rw [hl] at h
      cases h
      have := lnS_le hl he
      omega
  · rw [if_neg hq] at h
    cases hl : rdN S q p e with
    | none => rw [hl] at h; cases h
    | some y =>
      obtain ⟨l, p2⟩ := y
      rw [hl] at h
      cases h
      exact rdN_lt hl
/-- the length, as the reference reads it -/
theorem N_len {U s e p b lm : Nat} {σ : SG} {T S : List Nat} {D : List Dc} {A : AV} {H : Rh} (hU4 : 4000 < U) (he : e ≤ S.length) (hp : p ≤ e) (hD : DR σ s T D S lm A H p b) : ∃ τ, x_X12_takeVarint U 1101 (nI e) σ = some τ ∧ fP PN σ τ ∧ (lnS S p e = none → (¬ sI τ 1101 107 = 0) ∨ sL τ 1101 108 < 0 ∨ (¬ sL τ 1101 108 < 0 ∧ Int32.toInt64 (nI e - (sI τ 1101 109)) < sL τ 1101 108)) ∧ ∀ l p2, lnS S p e = some (l, p2) → sI τ 1101 107 = 0 ∧ ¬ sL τ 1101 108 < 0 ∧ ¬ Int32.toInt64 (nI e - (sI τ 1101 109)) < sL τ 1101 108 ∧ DR τ s T D S lm A H p2 b ∧ sI τ 1101 109 = nI p2 ∧ (sI τ 1101 109) + (Int64.toInt32 (sL τ 1101 108)) = nI (p2 + l) := by
  have hSl := hD.2.2.2.1.2.2.1
  obtain ⟨τ, t1, t2, t3, t4⟩ := N_var (U := U) hU4 hD.2.2.2.1 he hp hD.2.2.2.2.1 hD.2.2.2.2.2.1
  refine ⟨τ, t1, t2, ?_⟩
  unfold lnS
  cases hr : rdN S 0 p e with
  | none => exact ⟨fun _ => Or.inl (t4 hr), fun l p2 h => by cases h⟩
  | some y =>
    obtain ⟨x, q⟩ := y
    obtain ⟨v1, v2, v3⟩ := t3 x q hr
    have hlt := rdN_lt hr
    simp only
    rw [v2, v3, nI_sub (by omega), nI_l (by omega)]
    by_cases z0 : x < 0
    · rw [if_pos (Or.inl z0)]
      exact ⟨fun _ => Or.inr (Or.inl z0), fun l p2 h => by cases h⟩
    · by_cases z1 : lN (e - q) < x
      · rw [if_pos (Or.inr z1)]
        exact ⟨fun _ => Or.inr (Or.inr ⟨z0, z1⟩), fun l p2 h => by cases h⟩
      · rw [if_neg (show ¬ (x < 0 ∨ lN (e - q) < x) from fun z => z.elim z0 z1)]
        refine ⟨fun h => (by cases h), fun l p2 h => ?_⟩
        cases h
        refine ⟨v1, z0, z1, DR_N hD t2 v3 v1 (by omega) (by omega), rfl, ?_⟩
        obtain ⟨w, hw, rfl⟩ := pk_lOf z0
        rw [pk_lT hw, lN_i, nI_add]
        rfl
theorem N_skip {U s e p b q lm : Nat} {σ : SG} {T S : List Nat} {D : List Dc} {A : AV} {H : Rh} (hU4 : 4000 < U) (he : e ≤ S.length) (hp : p ≤ e) (hD : DR σ s T D S lm A H p b) (hq : q = 0 ∨ q = 1 ∨ q = 2 ∨ q = 5) : ∃ τ, x_X12_skip U 1101 (nI q) (nI e) σ = some τ ∧ fP PN σ τ ∧ (skS S q p e = none → ¬ sI τ 1101 107 = 0) ∧ ∀ p', skS S q p e = some p' → DR τ s T D S lm A H p' b := by
  have hSl := hD.2.2.2.1.2.2.1
  have one : ∀ (o : Option (Int64 × Nat)) (x : Option SG), OR9 σ o x → (∀ v p', o = some (v, p') → p < p' ∧ p' ≤ e) → ∃ τ, (b1 x fun σ3 => some σ3) = some τ ∧ fP PN σ τ ∧ ((sk1 o) = none → ¬ sI τ 1101 107 = 0) ∧ ∀ p', (sk1 o) = some p' → DR τ s T D S lm A H p' b := by
    intro o x h ho
    obtain ⟨τ, t1, t2, t3, t4⟩ := h
    refine ⟨τ, by rw [t1, b1_eq], t2, ?_⟩
    cases o with
    | none => exact ⟨fun _ => t4 rfl, fun p' z => by cases z⟩
    | some y =>
      obtain ⟨v, p2⟩ := y
      refine ⟨fun z => (by cases z), fun p' z => ?_⟩
      cases z
      obtain ⟨v1, v2, v3⟩ := t3 v p2 rfl
      have := ho v p2 rfl
      exact DR_N hD t2 v3 v1 (by omega) (by omega)
  unfold x_X12_skip skS
  rcases hq with z | z | z | z <;> subst z
  · rw [if_pos (show nI 0 = 0 from rfl), if_neg (show ¬ 0 = 2 by decide)]
    exact one _ _ (N_var hU4 hD.2.2.2.1 he hp hD.2.2.2.2.1 hD.2.2.2.2.2.1) (fun v p' h => rdN_lt h)
  · rw [if_neg (show ¬ nI 1 = 0 by decide), if_pos (show nI 1 = 1 from rfl), if_neg (show ¬ 1 = 2 by decide)]
    exact one _ _ (N_fix hU4 hD.2.2.2.1 he hp hD.2.2.2.2.1 hD.2.2.2.2.2.1 (Or.inl ⟨rfl, rfl⟩)) (fun v p' h => rdN_lt h)
  · rw [if_neg (show ¬ nI 2 = 0 by decide), if_neg (show ¬ nI 2 = 1 by decide), if_neg (show ¬ nI 2 = 5 by decide), if_pos rfl]
    obtain ⟨τ, t1, t2, t3, t4⟩ := N_len (U := U) hU4 he hp hD
    rw [t1, b1_eq]
    unfold x_X12_skip_70
    have bad : ∃ υ, (sb (uI τ 1101 107 1) fun σ13 => some σ13) = some υ ∧ fP PN σ υ ∧ ¬ sI υ 1101 107 = 0 := ⟨_, rfl, fP_trans t2 (fP_u ⟨rfl, Or.inl rfl⟩), by rw [sI_s]; decide⟩
    cases hl : lnS S p e with
    | none =>
      have h9 := t3 hl
      simp only
      by_cases z0 : sL τ 1101 108 < 0
      · rw [if_pos z0]
        obtain ⟨υ, u1, u2, u3⟩ := bad
        exact ⟨υ, u1, u2, fun _ => u3, fun p' z => by cases z⟩
      · rw [if_neg z0]
        by_cases z1 : Int32.toInt64 (nI e - (sI τ 1101 109)) < sL τ 1101 108
        · rw [if_pos z1]
          obtain ⟨υ, u1, u2, u3⟩ := bad
          exact ⟨υ, u1, u2, fun _ => u3, fun p' z => by cases z⟩
        · rw [if_neg z1, sb_eq]
          refine ⟨_, rfl, fP_trans t2 (fP_u ⟨rfl, Or.inr (Or.inr rfl)⟩), fun _ => ?_, fun p' z => by cases z⟩
          rw [sI_o (Or.inr (by decide))]
          rcases h9 with h9 | h9 | h9
          · exact h9
          · exact absurd h9 z0
          · exact absurd h9.2 z1
    | some y =>
      obtain ⟨l, p2⟩ := y
      obtain ⟨v1, v2, v3, v4, v5, v6⟩ := t4 l p2 hl
      have hle := lnS_le hl (by omega)
      rw [if_neg v2, if_neg v3, sb_eq, v6]
      refine ⟨_, rfl, fP_trans t2 (fP_u ⟨rfl, Or.inr (Or.inr rfl)⟩), fun z => (by cases z), fun p' z => ?_⟩
      cases z
      exact DR_N v4 (fP_u ⟨rfl, Or.inr (Or.inr rfl)⟩) (sI_s _ _ _ _) (by rw [sI_o (Or.inr (by decide))]; exact v1) (by omega) (by omega)
  · rw [if_neg (show ¬ nI 5 = 0 by decide), if_neg (show ¬ nI 5 = 1 by decide), if_pos (show nI 5 = 5 from rfl), if_neg (show ¬ 5 = 2 by decide)]
    exact one _ _ (N_fix hU4 hD.2.2.2.1 he hp hD.2.2.2.2.1 hD.2.2.2.2.2.1 (Or.inr ⟨rfl, rfl⟩)) (fun v p' h => rdN_lt h)
def unO (S : List Nat) (A : AV) (n p : Nat) (o : Option Nat) : Option (AV × Nat) := match o with
  | none => none
  | some p' => some (aUnk A n (slc S p p'), p')
/-- a field is kept as it is -/
theorem N_unk {U s e n p p1 q lm : Nat} {σ : SG} {T S : List Nat} {D : List Dc} {A : AV} {H : Rh} (hU4 : 4000 < U) (he : e ≤ S.length) (hp : p < p1) (hp1 : p1 ≤ e) (hD : DR σ s T D S lm A H p1 p) (hn : n < aC A) (hq : q = 0 ∨ q = 1 ∨ q = 2 ∨ q = 5) : OQ s T D S lm A H σ (unO S A n p (skS S q p1 e)) (x_X12_takeNext_209 U 1101 (nI n) (nI e) (nI p) (nI q) σ) := by
  have hSl := hD.2.2.2.1.2.2.1
  unfold x_X12_takeNext_209
  obtain ⟨τ, t1, t2, t3, t4⟩ := N_skip hU4 he hp1 hD hq
  rw [t1, b1_eq]
  cases hs : skS S q p1 e with
  | none =>
    rw [if_neg (t3 hs)]
    exact OQ_no (PDn_N t2) (t3 hs)
  | some p' =>
    have D1 := t4 p' hs
    have hlt := skS_lt hs (by omega)
    have D1' := D1
    obtain ⟨a1, a2, a3, a4, a5, a6, a7, ⟨e1, e2, e3, e4⟩, a9, a10⟩ := D1'
    rw [if_pos a6, a5]
    obtain ⟨υ, H', u1, u2, u3, u4, u5, u6, u7, u8, u8w, u9⟩ := V_unk (U := U) (p := p) (e := p') hU4 a2 hn a4.2.1 a4.2.2.2 hSl (by omega) (by omega) (by omega) (by omega)
    rw [u1, b1_eq]
    refine ⟨υ, rfl, fP_trans (PDn_N t2) (PDn_V u3), fun z => (by cases z), fun A' p9 z => ?_⟩
    cases z
    refine ⟨H', DR_V D1 u3 u2 (u4.trans a6) ⟨fun m hm => ?_, fun r hr d hd h13 => ?_, (by rw [u5, u8w]; exact a3.2.2)⟩ ⟨by rw [u5]; omega, by omega, by omega, ?_, by omega⟩ (Nat.le_refl _), Nat.le_refl _, fun m _ => ⟨rfl, by rw [u8]⟩⟩
    · rw [u8]; exact a3.1 m hm
    · rw [u5] at hr; rw [u8]; exact a3.2.1 r hr d hd h13
    · show 2 * aC A ≤ p' + 2
      omega
