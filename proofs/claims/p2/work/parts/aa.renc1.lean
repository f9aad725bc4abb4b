/-! ===== the reference encodes: sizes ===== -/
/-- what is known of a value at rest -/
def AK (T : List Nat) (D : List Dc) (A : AV) : Prop := VO T D A ∧ tX T D A ≤ 700 ∧ ∀ n, n < aC A → isM D (aN A n)
theorem dc_AK {U s : Nat} {σ : SG} {T S : List Nat} {D : List Dc} {x y : Int32} (hU4 : 4000 < U) (hs : s < 2) (hg : GSc T D) (hS : RS σ s T D) (hT : RTr σ S) (h8 : ok8 S) (hl : S.length ≤ 700) : ∀ A, rdV D (dcS T D S) x y = some A → AK T D A := by
  intro A hA
  by_cases hbad : msg D x = none ∨ y < 1 ∨ 20 < y
  · rw [rdV_no hbad] at hA; cases hA
  · cases hm : msg D x with
    | none => exact absurd (Or.inl hm) hbad
    | some m =>
      have h1 : ¬ y < 1 := fun z => hbad (Or.inr (Or.inl z))
      have h2 : ¬ 20 < y := fun z => hbad (Or.inr (Or.inr z))
      obtain ⟨lm, rfl, h1', h20⟩ := lim_n h1 h2
      rw [rdV_yes hm h1' h20] at hA
      obtain ⟨τ3, b1', b2', b3, b4, b5, b6⟩ := (N_dec (U := U) (x := x) (y := nI lm) hU4 hs hg hS hT h8 hl).2 m lm hm rfl h1' h20
      obtain ⟨H, hH, hz, _⟩ := b6 A hA
      obtain ⟨c1, c2, c3, c4, c5, c6, c7, c8, _⟩ := hH
      have := tX_rows hg c2
      have := c8.2.2.2.2
      have := c2.2.2.1.2.2.2
      exact ⟨VO_dc hA, by omega, fun n hn => (c2.2.2.2.2.1.2.2.2 n hn).1⟩
theorem N_tagOf {s f k : Nat} {σ : SG} {T : List Nat} {D : List Dc} {d : Dc} (hs : s < 2) (hg : GSc T D) (hS : RS σ s T D) (hd : D[f]? = some d) (h2 : dK d = 2) (hk : k < 8) : x_X12_tagOf 1101 (nI (fx D s f)) (nI k) σ = some ((lshl9 (lN (dN d).2) 3) ||| lN k) := by
  obtain ⟨f1, _, f3, _⟩ := hS.f hd h2
  have hn := (hg.fld hd h2).2.2.1
  unfold x_X12_tagOf
  rw [ix_in (by omega) (by decide), f3, nI_l (by omega), nI_l (by omega)]
theorem N_rowBytes {U s i : Nat} {σ : SG} {T : List Nat} {D : List Dc} {P : List Nat} {R : List Rg} {r : Rg} {d : Dc} {rc : Nat → List Nat} (hU4 : 4000 < U) (hs : s < 2) (hg : GSc T D) (hS : RS σ s T D) (hR : RT σ s T D P R) (hr : R[i]? = some r) (hd : D[rF r]? = some d) (h2 : dK d = 2) (hP : P.length ≤ 700) (h4 : okV4 (fty T D d) (rV r)) (h63 : fty T D d = 13 → rK r < 400 ∧ sI σ 1163 (rK r) = nI (rc (rK r)).length ∧ (rc (rK r)).length < 2 ^ 31) : x_X12_rowBytes U 1101 (nI i) σ = some (nI (eIt T D rc d (itR T D d r)).length) := by
  have hil := (List.getElem?_eq_some_iff.mp hr).1
  have hR7 := hR.2.1
  obtain ⟨⟨w1, w2, w3, ⟨a, w4, w5, w6, w7⟩, d', w8, w9, w10⟩, _⟩ := hR.2.2 i r hr
  rw [hd] at w8
  cases w8
  obtain ⟨f1, _, f3, f4, _⟩ := hS.f hd h2
  have hft : fty T D d ≤ 14 := dTy_lt (hg.fld hd h2).2.2.2.1
  have hk8 := (kdO_nmr hft).2
  have e2k : nI (kdO (fty T D d)) = 2 ↔ kdO (fty T D d) = 2 := nI_eq (b := 2) (by omega) (by decide)
  have e13 : nI (fty T D d) = 13 ↔ fty T D d = 13 := nI_eq (b := 13) (by omega) (by decide)
  unfold x_X12_rowBytes x_X12_rowBytes_87
  rw [ix_in (by omega) (by decide), w2, ix_in (by omega) (by decide), f4, N_kindOf hft, b1_eq, N_tagOf hs hg hS hd h2 hk8, b1_eq, N_varN hU4, b1_eq, ix_in (by omega) (by decide), f4, N_kindOf hft, b1_eq, ifd e2k]
  unfold eIt
  have et : (vB ((lshl9 (lN (dN d).2) 3) ||| lN (kdO (fty T D d)))).length = (tgB d (kdO (fty T D d))).length := rfl
  by_cases q2 : kdO (fty T D d) = 2
  · rw [if_pos q2, if_pos q2, ix_in (by omega) (by decide), f4, ifd e13]
    have hnm : nmr (fty T D d) = false := (kdO_nmr hft).1.mp q2
    by_cases q13 : fty T D d = 13
    · obtain ⟨k1, k2, k3⟩ := h63 q13
      rw [if_pos q13] at w10
      rw [if_pos q13, if_pos q13, ix_in (by omega) (by decide), w10, ix_in k1 (by decide), k2, nI_l k3, N_varN hU4, b1_eq, nI_add, nI_add, et]
      have ei : (itR T D d r).2.2 = rK r := by unfold itR; rw [if_pos q13]
      rw [ei]
      unfold lnB
      rw [List.length_append, List.length_append]
      congr 2
      omega
    · rw [if_neg q13, if_neg q13, ix_in (by omega) (by decide), w5, nI_l (by omega), N_varN hU4, b1_eq, nI_add, nI_add, et]
      have ei : (itR T D d r).2.1 = rT r := by unfold itR; rw [if_neg q13, hnm, if_neg (show ¬ false = true by decide)]
      rw [ei]
      unfold lnB
      rw [List.length_append, List.length_append]
      congr 2
      omega
  · have hnm : nmr (fty T D d) = true := by
      cases h : nmr (fty T D d) with
      | true => rfl
      | false => exact absurd ((kdO_nmr hft).1.mpr h) q2
    have q13 : fty T D d ≠ 13 := fun z => by rw [z] at hnm; cases hnm
    rw [if_neg q2, if_neg q2, ix_in (by omega) (by decide), ix_in (by omega) (by decide), f4, w3, N_kindBytes hU4 hft hnm h4, b1_eq, nI_add, et]
    have ei : (itR T D d r).1 = rV r := by unfold itR; rw [if_neg q13, hnm, if_pos rfl]
    rw [ei, List.length_append]
/-- the numbers of a packed row, as rows -/
def pkB (T : List Nat) (D : List Dc) (d : Dc) (L : List Rg) : List Nat := L.flatMap (fun r => nuB (fty T D d) (rV r))
theorem N_packedBytes {U s n f : Nat} {σ : SG} {T : List Nat} {D : List Dc} {P : List Nat} {R : List Rg} {d : Dc} (hU4 : 4000 < U) (hs : s < 2) (hg : GSc T D) (hS : RS σ s T D) (hR : RT σ s T D P R) (hn : n < 400) (hRn : ∀ r ∈ R, rN r < 400) (hd : D[f]? = some d) (h2 : dK d = 2) (hnm : nmr (fty T D d) = true) (h4 : ∀ r ∈ R, pRw n f r = true → okV4 (fty T D d) (rV r)) : x_X12_packedBytes U 1101 (nI n) (nI (fx D s f)) σ = some (nI (pkB T D d (R.filter (pRw n f))).length) := by
  have hR7 := hR.2.1
  obtain ⟨f1, _, f3, f4, _⟩ := hS.f hd h2
  have hft : fty T D d ≤ 14 := dTy_lt (hg.fld hd h2).2.2.2.1
  have main : ∀ (j i v U1 : Nat), i + j = R.length → j < U1 → x_X12_packedBytes_L5 U 1101 (nI n) (nI (fx D s f)) σ U1 (nI v) (nI i) = some (nI (v + (pkB T D d ((R.drop i).filter (pRw n f))).length)) := by
    intro j
    induction j with
    | zero =>
      intro i v U1 hi hu
      obtain ⟨V, rfl⟩ : ∃ V, U1 = V + 1 := ⟨U1 - 1, by omega⟩
      rw [x_X12_packedBytes_L5, hR.1, if_neg (fun q => by have := (ltI (by omega) (by omega)).mp q; omega), List.drop_eq_nil_of_le (by omega)]
      rfl
    | succ j ih =>
      intro i v U1 hi hu
      obtain ⟨V, rfl⟩ : ∃ V, U1 = V + 1 := ⟨U1 - 1, by omega⟩
      have hil : i < R.length := by omega
      have hri := List.getElem?_eq_getElem hil
      have hmem : R[i] ∈ R := List.getElem_mem hil
      obtain ⟨⟨w1, w2, w3, _, d', w8, w9, _⟩, wA⟩ := hR.2.2 i R[i] hri
      have hdr : R.drop i = R[i] :: R.drop (i + 1) := List.drop_eq_getElem_cons hil
      have hne : nI (rN R[i]) = nI n ↔ rN R[i] = n := nI_eq (by have := hRn _ hmem; omega) (by omega)
      have hfe : nI (fx D s (rF R[i])) = nI (fx D s f) ↔ rF R[i] = f := fx_inj hg hs w8 w9 hd h2
      rw [x_X12_packedBytes_L5, hR.1, if_pos ((ltI (by omega) (by omega)).mpr hil), ix_in (by omega) (by decide), wA, ifz, hdr, List.filter_cons]
      unfold x_X12_packedBytes_65
      rw [nI_1]
      have skip : pRw n f R[i] = false → (some (nI (v + (pkB T D d ((R.drop (i + 1)).filter (pRw n f))).length)) : Option Int32) = some (nI (v + (pkB T D d (if pRw n f R[i] = true then R[i] :: (R.drop (i + 1)).filter (pRw n f) else (R.drop (i + 1)).filter (pRw n f))).length)) := fun z => by rw [z, if_neg (show ¬ false = true by decide)]
      cases hA : rA R[i] with
      | false =>
        rw [if_neg (show ¬ false = true by decide), ih (i + 1) v V (by omega) (by omega)]
        exact skip (by unfold pRw; rw [hA, Bool.and_false])
      | true =>
        rw [if_pos (show true = true from rfl), ix_in (by omega) (by decide), w1, ifd hne]
        by_cases q1 : rN R[i] = n
        · rw [if_pos q1, ix_in (by omega) (by decide), w2, ifd hfe]
          by_cases q2 : rF R[i] = f
          · have hp : pRw n f R[i] = true := by unfold pRw; rw [hA, decide_eq_true q1, decide_eq_true q2]; rfl
            rw [if_pos q2, ix_in (by omega) (by decide), ix_in (by omega) (by decide), f4, w3, N_kindBytes hU4 hft hnm (h4 _ hmem hp), b1_eq, nI_add, ih (i + 1) _ V (by omega) (by omega), hp, if_pos (show true = true from rfl)]
            unfold pkB
            rw [List.flatMap_cons, List.length_append, Nat.add_assoc]
          · rw [if_neg q2, ih (i + 1) v V (by omega) (by omega)]
            exact skip (by unfold pRw; rw [decide_eq_false q2, Bool.and_false, Bool.false_and])
        · rw [if_neg q1, ih (i + 1) v V (by omega) (by omega)]
          exact skip (by unfold pRw; rw [decide_eq_false q1, Bool.false_and, Bool.false_and])
  have := main R.length 0 0 U (by omega) (by omega)
  rw [Nat.zero_add, List.drop_zero] at this
  exact this
