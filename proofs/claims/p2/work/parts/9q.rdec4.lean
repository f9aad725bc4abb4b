/-! ===== the reference takes the next field ===== -/
theorem and7 (w : Nat) : nI w &&& 7 = nI (w % 8) := by
  apply Int32.toBitVec_inj.mp
  apply BitVec.eq_of_toNat_eq
  rw [Int32.toBitVec_and, BitVec.toNat_and]
  have h1 : (nI w).toBitVec.toNat = w % 2 ^ 32 := by show (BitVec.ofNat 32 w).toNat = _; rw [BitVec.toNat_ofNat]
  have h2 : (nI (w % 8)).toBitVec.toNat = w % 8 := by show (BitVec.ofNat 32 (w % 8)).toNat = _; rw [BitVec.toNat_ofNat]; omega
  have h3 : (7 : Int32).toBitVec.toNat = 2 ^ 3 - 1 := rfl
  rw [h1, h2, h3, Nat.and_two_pow_sub_one_eq_mod]
  omega
theorem rdN_no {S : List Nat} {q p e : Nat} (h : ¬ (q = 0 ∨ q = 1 ∨ q = 5)) : rdN S q p e = none := by
  unfold rdN
  rw [if_neg (fun z => h (by omega)), if_neg (fun z => h (by omega)), if_neg (fun z => h (by omega))]
/-- a field kept as it is, as one field -/
noncomputable def unX (S : List Nat) (A : AV) (n p q p1 e : Nat) : Option (AV × Nat × Option (Nat × Nat × Nat)) := (unO S A n p (skS S q p1 e)).map (fun y => (y.1, y.2, none))
theorem unX_2 {S : List Nat} {A : AV} {n p p1 e : Nat} : (∀ y, lnS S p1 e = some y → unX S A n p 2 p1 e = some (aUnk A n (slc S p (y.2 + y.1)), y.2 + y.1, none)) ∧ (lnS S p1 e = none → unX S A n p 2 p1 e = none) := by
  unfold unX skS
  rw [if_pos rfl]
  exact ⟨fun y h => by rw [h]; rfl, fun h => by rw [h]; rfl⟩
theorem unX_n {S : List Nat} {A : AV} {n p q p1 e : Nat} (hq : q ≠ 2) : (∀ y, rdN S q p1 e = some y → unX S A n p q p1 e = some (aUnk A n (slc S p y.2), y.2, none)) ∧ (rdN S q p1 e = none → unX S A n p q p1 e = none) := by
  unfold unX skS
  rw [if_neg hq]
  exact ⟨fun y h => by rw [h]; rfl, fun h => by rw [h]; rfl⟩
theorem dSx_no {T : List Nat} {D : List Dc} {S : List Nat} {n m e p w p1 : Nat} {A : AV} (hf : fOf D m (w / 8) = none) : dSx T D S n m e p w p1 A = unX S A n p (w % 8) p1 e := by
  unfold dSx
  rw [hf]
  by_cases hw : w % 8 = 2
  · rw [if_pos hw, hw]
    cases h : lnS S p1 e with
    | none => rw [unX_2.2 h]
    | some y => rw [unX_2.1 y h]
  · rw [if_neg hw]
    cases h : rdN S (w % 8) p1 e with
    | none => rw [(unX_n hw).2 h]
    | some y => rw [(unX_n hw).1 y h]
theorem dSx_un2 {T : List Nat} {D : List Dc} {S : List Nat} {n m e p w p1 f : Nat} {A : AV} {d : Dc} (hf : fOf D m (w / 8) = some f) (hd : D[f]? = some d) (hw : w % 8 = 2) (hR : dR d = false) (hnm : nmr (fty T D d) = true) : dSx T D S n m e p w p1 A = unX S A n p (w % 8) p1 e := by
  unfold dSx
  rw [if_pos hw, hf, hw]
  cases h : lnS S p1 e with
  | none => rw [unX_2.2 h]
  | some y =>
    rw [unX_2.1 y h]
    simp only
    rw [hd]
    simp only
    rw [hR, hnm]
    rfl
theorem dSx_un {T : List Nat} {D : List Dc} {S : List Nat} {n m e p w p1 f : Nat} {A : AV} {d : Dc} (hf : fOf D m (w / 8) = some f) (hd : D[f]? = some d) (hw : w % 8 ≠ 2) (hk : kdO (fty T D d) ≠ w % 8) : dSx T D S n m e p w p1 A = unX S A n p (w % 8) p1 e := by
  unfold dSx
  rw [if_neg hw, hf]
  cases h : rdN S (w % 8) p1 e with
  | none => rw [(unX_n hw).2 h]
  | some y =>
    rw [(unX_n hw).1 y h]
    simp only
    rw [hd]
    simp only
    rw [if_neg hk]
theorem dSx_num {T : List Nat} {D : List Dc} {S : List Nat} {n m e p w p1 f : Nat} {A : AV} {d : Dc} (hf : fOf D m (w / 8) = some f) (hd : D[f]? = some d) (hw : w % 8 ≠ 2) (hk : kdO (fty T D d) = w % 8) : (rdN S (w % 8) p1 e = none → dSx T D S n m e p w p1 A = none) ∧ ∀ y, rdN S (w % 8) p1 e = some y → dSx T D S n m e p w p1 A = some (aPut T D A n f d (mng (fty T D d) y.1) [], y.2, none) := by
  unfold dSx
  rw [if_neg hw, hf]
  refine ⟨fun h => by rw [h], fun y h => ?_⟩
  rw [h]
  simp only
  rw [hd]
  simp only
  rw [if_pos hk]
theorem N_tnext {U s e n p lm dp m : Nat} {σ : SG} {T S : List Nat} {D : List Dc} {A : AV} {H : Rh} (hU4 : 4000 < U) (hs : s < 2) (hg : GSc T D) (hlm : lm ≤ 20) (he : e ≤ S.length) (hp : p < e) (hD : DR σ s T D S lm A H p p) (hn : n < aC A) (hm : aN A n = m) (hzn : zD H n = dp) (h106 : sI σ 1101 106 = nI dp) :
    OT s T D S lm A H dp σ (match tgS S p e with | none => none | some (w, p1) => dSx T D S n m e p w p1 A) (x_X12_takeNext U 1101 (nI n) (nI e) σ) := by
  have hSl := hD.2.2.2.1.2.2.1
  have hnd := hD.2.1.2.2.2.2.1.2.2.2 n hn
  have hmM : isM D m := by rw [← hm]; exact hnd.1
  have hc351 := hD.2.1.2.2.2.2.1.2.2.1
  unfold x_X12_takeNext x_X12_takeNext_72 tgS
  obtain ⟨τ, t1, t2, t3, t4⟩ := N_var (U := U) hU4 hD.2.2.2.1 he (by omega) hD.2.2.2.2.1 hD.2.2.2.2.2.1
  rw [t1, b1_eq]
  have bad : OT s T D S lm A H dp σ none (sb (uI τ 1101 107 1) fun σ5 => some σ5) := OT_no (fP_trans (PDn_N t2) (fP_u (Or.inl ⟨rfl, by omega⟩))) (by rw [sI_s]; decide)
  cases hr : rdN S 0 p e with
  | none =>
    rw [if_neg (t4 hr)]
    exact bad
  | some y =>
    obtain ⟨x, p1⟩ := y
    obtain ⟨v1, v2, v3⟩ := t3 x p1 hr
    have hlt := rdN_lt hr
    rw [if_pos v1, v2]
    simp only
    by_cases hx : x < 8 ∨ 4294967295 < x
    · rw [if_pos hx]
      by_cases z0 : x < 8
      · rw [if_pos z0]; exact bad
      · rw [if_neg z0, if_pos (hx.elim (fun z => absurd z z0) id)]; exact bad
    · rw [if_neg hx, if_neg (fun z => hx (Or.inl z)), if_neg (fun z => hx (Or.inr z))]
      obtain ⟨w, rfl, hw1, hw2, hw3⟩ := tag_of hx
      simp only
      rw [hw3, lN_i, and7, hD.2.2.2.2.1]
      have hw8 : w % 8 < 8 := Nat.mod_lt _ (by decide)
      have D1 := DR_N hD t2 v3 v1 (by omega) (by omega)
      have D1' := D1
      obtain ⟨a1, a2, a3, a4, a5, a6, a7, ⟨e1, e2, e3, e4⟩, a9, a10⟩ := D1'
      have c106 : sI τ 1101 106 = nI dp := ((t2 1101 106 (by unfold PN; omega)).1).trans h106
      -- the kind is one of the four
      have main : (w % 8 = 0 ∨ w % 8 = 1 ∨ w % 8 = 2 ∨ w % 8 = 5) → OT s T D S lm A H dp σ (dSx T D S n m e p w p1 A) (x_X12_takeNext_78 U 1101 (nI n) (nI e) (nI p) (nI (w % 8)) τ) := by
        intro hk4
        apply OT_from (PDn_N t2)
        unfold x_X12_takeNext_78
        have fnd : (chF D m).find? (fun i => decide (nI (nmn D i) = nI (w / 8))) = fOf D m (w / 8) := by
          unfold fOf
          apply find_congr
          intro i hi
          obtain ⟨d, hd⟩ := (chF_mem hg hmM).mp hi
          have hnu := hg.nu hd.1 hd.2.1
          have : nI (nmn D i) = nI (w / 8) ↔ nmn D i = w / 8 := nI_eq (by omega) (by omega)
          by_cases y : nmn D i = w / 8
          · rw [decide_eq_true y, decide_eq_true (this.mpr y)]
          · rw [decide_eq_false y, decide_eq_false (fun z => y (this.mp z))]
        have e3' : lush (lN w) 3 = lN (w / 8) := lush_N (k := 3) (by omega) (by decide)
        have e60 : sI τ 1160 n = nI (cnt (D.take m) 0) := by rw [(t2 1160 n (by unfold PN; omega)).1, hnd.2.1, hm]
        rw [ix_in (by omega) (by decide), v2, e3', lN_i, e60, N_fieldNumbered hU4 hs a2.1 hg a1 hmM, b1_eq, fnd]
        have unk : OT s T D S lm A H dp τ (unX S A n p (w % 8) p1 e) (x_X12_takeNext_209 U 1101 (nI n) (nI e) (nI p) (nI (w % 8)) τ) := by
          exact OT_Q (dp := dp) (N_unk (U := U) (n := n) (q := w % 8) hU4 he hlt.1 hlt.2 D1 hn hk4)
        cases hf : fOf D m (w / 8) with
        | none =>
          rw [if_pos (show fIx D s none = -1 from rfl)]
          unfold x_X12_takeNext_117 x_X12_takeNext_158
          rw [if_pos (show fIx D s none = -1 from rfl), if_pos (show fIx D s none = -1 from rfl)]
          rw [dSx_no hf]
          exact unk
        | some f =>
          obtain ⟨d, hd⟩ := fOf_isF hg hmM hf
          have hF : isF D (aN A n) f d := by rw [hm]; exact hd
          have hft : fty T D d ≤ 14 := dTy_lt (hg.fld hd.1 hd.2.1).2.2.2.1
          have hk8 := (kdO_nmr hft).2
          obtain ⟨f1, _, _, f4, _, f6, _⟩ := a1.f hd.1 hd.2.1
          have hne : ¬ nI (fx D s f) = -1 := fun z => nI_neg (by omega : fx D s f < 2 ^ 31) (by rw [z]; decide)
          rw [show fIx D s (some f) = nI (fx D s f) from rfl, if_neg hne, ix_in (by omega) (by decide), f4, N_kindOf hft, b1_eq]
          unfold x_X12_takeNext_117 x_X12_takeNext_147 x_X12_takeNext_158
          have ek : nI (kdO (fty T D d)) = nI (w % 8) ↔ kdO (fty T D d) = w % 8 := nI_eq (by omega) (by omega)
          have ek2 : nI (kdO (fty T D d)) = 2 ↔ kdO (fty T D d) = 2 := nI_eq (b := 2) (by omega) (by decide)
          have ew2 : nI (w % 8) = 2 ↔ w % 8 = 2 := nI_eq (b := 2) (by omega) (by decide)
          rw [if_neg hne, if_neg hne, ix_in (by omega) (by decide), f6, ifz, b1_id]
          by_cases hw : w % 8 = 2
          · rw [if_pos (ew2.mpr hw)]
            by_cases q2 : kdO (fty T D d) = 2
            · rw [if_pos (ek2.mpr q2)]
              exact N_tlen hU4 hs hg hlm he hlt.1 hlt.2 D1 hn hm hzn c106 hd hf hw (Or.inl q2)
            · rw [if_neg (fun z => q2 (ek2.mp z))]
              cases hR : dR d with
              | true =>
                rw [if_pos (show true = true from rfl)]
                exact N_tlen hU4 hs hg hlm he hlt.1 hlt.2 D1 hn hm hzn c106 hd hf hw (Or.inr hR)
              | false =>
                rw [if_neg (show ¬ false = true by decide), if_neg (show ¬ nI (kdO (fty T D d)) = nI (w % 8) from fun z => q2 ((ek.mp z).trans hw))]
                have hnm : nmr (fty T D d) = true := by
                  cases h : nmr (fty T D d) with
                  | true => rfl
                  | false => exact absurd ((kdO_nmr hft).1.mpr h) q2
                rw [dSx_un2 hf hd.1 hw hR hnm]
                exact unk
          · rw [if_neg (fun z => hw (ew2.mp z)), ifd ek]
            by_cases qk : kdO (fty T D d) = w % 8
            · rw [if_pos qk]
              have hnm : nmr (fty T D d) = true := by
                cases h : nmr (fty T D d) with
                | true => rfl
                | false => exact absurd (qk.symm.trans ((kdO_nmr hft).1.mpr h)) hw
              have h13 : fty T D d ≠ 13 := fun z => by rw [z] at hnm; cases hnm
              obtain ⟨υ, u1, u2, u3, u4⟩ := N_one (U := U) (q := w % 8) hU4 a4 he hlt.2 a5 a6 (by omega)
              rw [u1, b1_eq]
              cases hr2 : rdN S (w % 8) p1 e with
              | none =>
                rw [if_neg (u4 hr2), (dSx_num hf hd.1 hw qk).1 hr2]
                exact OT_no (PDn_N u2) (u4 hr2)
              | some y =>
                obtain ⟨x, p2⟩ := y
                obtain ⟨x1, x2, x3⟩ := u3 x p2 hr2
                have hlt2 := rdN_lt hr2
                rw [(dSx_num hf hd.1 hw qk).2 _ hr2]
                have D2 := DR_N D1 u2 x3 x1 (by omega) (by omega)
                obtain ⟨_, _, _, g4, _⟩ := D2.1.f hd.1 hd.2.1
                rw [if_pos x1, ix_in (by omega) (by decide), g4, x2, N_valueFor hft, b1_eq]
                obtain ⟨ψ, H', y1, y2, y3, y4⟩ := DR_num (U := U) (x := mng (fty T D d) x) hU4 hs hg D2 hn hF h13 hnm (by omega)
                rw [y1, b1_eq]
                refine ⟨ψ, rfl, PDc_n (fP_trans (PDn_N u2) y3), fun z => (by cases z), fun A' p' z => ?_, fun A' p' k t q z => by cases z⟩
                cases z
                exact ⟨H', y2, y4, fP_trans (PDn_N u2) y3⟩
            · rw [if_neg qk]
              rw [dSx_un hf hd.1 hw qk]
              exact unk
      have ew : ∀ k, k < 8 → (nI (w % 8) = nI k ↔ w % 8 = k) := fun k hk => nI_eq (by omega) (by omega)
      by_cases k0 : w % 8 = 0
      · rw [if_pos (show nI (w % 8) = 0 from (ew 0 (by decide)).mpr k0)]; exact main (by omega)
      · rw [if_neg (show ¬ nI (w % 8) = 0 from fun z => k0 ((ew 0 (by decide)).mp z))]
        by_cases k1 : w % 8 = 1
        · rw [if_pos (show nI (w % 8) = 1 from (ew 1 (by decide)).mpr k1)]; exact main (by omega)
        · rw [if_neg (show ¬ nI (w % 8) = 1 from fun z => k1 ((ew 1 (by decide)).mp z))]
          by_cases k2 : w % 8 = 2
          · rw [if_pos (show nI (w % 8) = 2 from (ew 2 (by decide)).mpr k2)]; exact main (by omega)
          · rw [if_neg (show ¬ nI (w % 8) = 2 from fun z => k2 ((ew 2 (by decide)).mp z))]
            by_cases k5 : w % 8 = 5
            · rw [if_pos (show nI (w % 8) = 5 from (ew 5 (by decide)).mpr k5)]; exact main (by omega)
            · rw [if_neg (show ¬ nI (w % 8) = 5 from fun z => k5 ((ew 5 (by decide)).mp z))]
              have : dSx T D S n m e p w p1 A = none := by
                unfold dSx
                rw [if_neg k2, rdN_no (by omega)]
              rw [this]
              exact bad
