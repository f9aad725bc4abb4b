/-! ===== one step of the reference's printing ===== -/
theorem nLv {v : Bool × Nat} (h : okV v = true) : Int32.toInt64 (Int64.toInt32 (nL v)) = nL v := by
  have hv := of_decide_eq_true h
  have hb : (nL v).toInt = if v.1 then -(v.2 : Int) else (v.2 : Int) := by
    have e0 : (lN v.2).toInt = (v.2 : Int) := by
      show (lN v.2).toBitVec.toInt = _
      rw [lN_bv, BitVec.toInt_ofNat', Int.bmod_eq_of_le (by omega) (by omega)]
    unfold nL
    cases q : v.1 with
    | false => rw [if_neg (show ¬ false = true by decide), if_neg (show ¬ false = true by decide)]; exact e0
    | true =>
      rw [if_pos (show true = true from rfl), if_pos (show true = true from rfl), Int64.toInt_neg, e0, Int.bmod_eq_of_le (by omega) (by omega)]
  apply Int64.toInt_inj.mp
  rw [Int32.toInt_toInt64, Int64.toInt_toInt32, hb]
  cases q : v.1 with
  | false =>
    rw [q] at hv
    have : v.2 ≤ 2147483647 := hv.elim id (fun z => by cases z.1)
    rw [if_neg (show ¬ false = true by decide), Int.bmod_eq_of_le (by omega) (by omega)]
  | true =>
    have : v.2 ≤ 2147483648 := hv.elim (fun z => by omega) (fun z => by omega)
    rw [if_pos (show true = true from rfl), Int.bmod_eq_of_le (by omega) (by omega)]
def vIx (D : List Dc) (s : Nat) (o : Option Nat) : Int32 := match o with
  | none => -1
  | some i => nI (40 * s + cnt (D.take i) 3)
theorem N_vl_L {U s e : Nat} {σ : SG} {T : List Nat} {D : List Dc} {x : Int64} {y : Dc} (hs : s < 2) (h80 : sI σ 1101 80 = nI s) (hg : GSc T D) (h : RS σ s T D) (he : D[e]? = some y) (h1 : dK y = 1) : ∀ (j g U1 : Nat), g + j = cnt D 3 → j < U1 → (∀ (i : Nat) (d : Dc), D[i]? = some d → dK d = 3 → cnt (D.take i) 3 < g → pVl e x d = false) →
    x_X12_valueNumbered_L9 U 1101 (nI (cnt (D.take e) 1)) x σ U1 (nI (40 * s + g)) = some (vIx D s (ff (pVl e x) D 0)) := by
  have hl := hg.2.1
  obtain ⟨l0, l1, l2, l3, l4, l5⟩ := lim_of h.1
  have hc : sI σ 1107 s = nI (cnt D 3) := h.2.1 3 (by decide)
  intro j
  induction j with
  | zero =>
    intro g U1 hgj hu hall
    obtain ⟨V, rfl⟩ : ∃ V, U1 = V + 1 := ⟨U1 - 1, by omega⟩
    rw [x_X12_valueNumbered_L9, h80, ix_in hs (by decide), show (40 : Int32) = nI 40 from rfl, pk_mul, hc, nI_add, if_neg (fun q => by have := (ltI (by omega) (by omega)).mp q; omega), ff_no]
    · rfl
    · intro x hx
      obtain ⟨i, hi⟩ := List.getElem?_of_mem hx
      by_cases z : dK x = 3
      · exact hall i x hi z (by have := cnt_take_lt hi z; omega)
      · exact decide_eq_false (fun y => z y.1)
  | succ j ih =>
    intro g U1 hgj hu hall
    obtain ⟨V, rfl⟩ : ∃ V, U1 = V + 1 := ⟨U1 - 1, by omega⟩
    obtain ⟨i, d, hd, hk, hi⟩ := plc (D := D) (q := 3) g (by omega)
    have row := (h.2.2 i d hd).2.2.2 hk
    rw [hi] at row
    have hown := oq_inj (q := 1) (o := dO d) (o' := some e) hl (hg.1.ow hd hk) (fun m hm => by cases hm; exact ⟨y, he, h1⟩)
    have hown' : oq D 1 (dO d) = nI (cnt (D.take e) 1) ↔ dO d = some e := hown
    have hnl := nLv (hg.all.2.1.2 i d hd hk).1
    rw [x_X12_valueNumbered_L9, h80, ix_in hs (by decide), show (40 : Int32) = nI 40 from rfl, pk_mul, hc, nI_add, if_pos ((ltI (by omega) (by omega)).mpr (by omega)), ix_in (by omega) (by decide), row.1, ifd hown', ix_in (by omega) (by decide), row.2.2, hnl]
    unfold x_X12_valueNumbered_58
    rw [nI_1]
    have go : pVl e x d = false → x_X12_valueNumbered_L9 U 1101 (nI (cnt (D.take e) 1)) x σ V (nI (40 * s + g + 1)) = some (vIx D s (ff (pVl e x) D 0)) := by
      intro hp
      refine ih (g + 1) V (by omega) (by omega) (fun i' d' h2 h3 h4 => ?_)
      by_cases z : cnt (D.take i') 3 = g
      · have := ord_inj h2 h3 hd hk (by omega)
        subst this
        rw [hd] at h2
        cases h2
        exact hp
      · exact hall i' d' h2 h3 (by omega)
    by_cases q1 : dO d = some e
    · rw [if_pos q1]
      by_cases q2 : nL (dN d) = x
      · rw [if_pos q2]
        have hff := ff_here (p := pVl e x) D 0 i d hd (decide_eq_true ⟨hk, q1, q2⟩) (fun j' x hj' hx => by
          by_cases z : dK x = 3
          · exact hall j' x hx z (by have := cnt_lt_of hx z hj'; omega)
          · exact decide_eq_false (fun y => z y.1))
        rw [hff, Nat.zero_add]
        unfold vIx
        simp only
        rw [hi]
      · rw [if_neg q2]
        exact go (decide_eq_false (fun z => q2 z.2.2))
    · rw [if_neg q1]
      exact go (decide_eq_false (fun z => q1 z.2.1))
/-- the reference while it prints -/
def PS (σ : SG) (s : Nat) (T : List Nat) (D : List Dc) (A : AV) (H : Rh) (w : List Nat × Int32) : Prop := RS σ s T D ∧ VS σ s T D A H ∧ ROr σ w
/-- what printing touches -/
def PPr (b k : Nat) : Prop := (b = 1101 ∧ (k = 3 ∨ k = 4 ∨ k = 106)) ∨ b = 1103 ∨ b = 1176 ∨ b = 1178 ∨ b = 1179 ∨ b = 1180
theorem Pfw_PPr {σ τ : SG} (h : fP Pfw σ τ) : fP PPr σ τ := fP_mono h (fun b k z => by unfold Pfw at z; unfold PPr; omega)
theorem PS_fw {σ τ : SG} {s : Nat} {T : List Nat} {D : List Dc} {A : AV} {H : Rh} {w w' : List Nat × Int32} (h : PS σ s T D A H w) (hf : fP Pfw σ τ) (hw : ROr τ w') : PS τ s T D A H w' := ⟨RS_keep h.1 (fun b k hb => (hf b k (by unfold PKP at hb; unfold Pfw; omega)).1), VS_keep h.2.1 (fun b k hb => ⟨(hf b k (by unfold Pfw; omega)).1, (hf b k (by unfold Pfw; omega)).2.1⟩), hw⟩
theorem PS_uI {σ : SG} {s : Nat} {T : List Nat} {D : List Dc} {A : AV} {H : Rh} {w : List Nat × Int32} {b j : Nat} {v : Int32} (h : PS σ s T D A H w) (hb : b = 1176 ∨ b = 1178 ∨ b = 1179 ∨ (b = 1101 ∧ j = 106)) : PS (uI σ b j v) s T D A H w := by
  obtain ⟨h1, h2, h4⟩ := h
  refine ⟨RS_keep h1 (fun b' k hb' => sI_o (by unfold PKP at hb'; omega)), VS_keep h2 (fun b' k hb' => ⟨sI_o (by omega), rfl⟩), ROr_uI h4 (by omega) (by omega)⟩
theorem TP_P {σ τ : SG} {dp n k i : Nat} (h : TP σ dp n k i) (hf : fP Pfw σ τ) : TP τ dp n k i := ⟨((hf _ _ (by unfold Pfw; omega)).1).trans h.1, ((hf _ _ (by unfold Pfw; omega)).1).trans h.2.1, ((hf _ _ (by unfold Pfw; omega)).1).trans h.2.2.1, ((hf _ _ (by unfold Pfw; omega)).1).trans h.2.2.2⟩
/-- what a row tells, printed -/
def pVl' (T : List Nat) (D : List Dc) (d : Dc) (it : It) : List Nat := if nmr (fty T D d) then nuT T D d it.1 else txB it.2.1
theorem N_putPlain {U s f i : Nat} {σ : SG} {T : List Nat} {D : List Dc} {A : AV} {H : Rh} {w : List Nat × Int32} {r : Rg} {d : Dc} (hU4 : 4000 < U) (hs : s < 2) (hg : GSc T D) (hE : PS σ s T D A H w) (hr : (zR H)[i]? = some r) (hf : rF r = f) (hd : D[f]? = some d) (h2 : dK d = 2) (h13 : fty T D d ≠ 13) : WN w (pVl' T D d (itR T D d r)) σ (x_X12_putPlain U 1101 (nI i) σ) := by
  have hil := (List.getElem?_eq_some_iff.mp hr).1
  have hR7 := hE.2.1.2.1.2.1
  have hft : fty T D d ≤ 14 := dTy_lt (hg.fld hd h2).2.2.2.1
  obtain ⟨⟨w1, w2, w3, ⟨a, w4, w5, w6, w7⟩, _⟩, _⟩ := hE.2.1.2.1.2.2 i r hr
  have hP := hE.2.1.2.2.1
  obtain ⟨f1, _, f3, f4, f5, _⟩ := hE.1.f hd h2
  rw [hf] at w2
  have e14 : nI (fty T D d) = 14 ↔ fty T D d = 14 := nI_eq (b := 14) (by omega) (by decide)
  have e11 : nI (fty T D d) = 11 ↔ fty T D d = 11 := nI_eq (b := 11) (by omega) (by decide)
  have e12 : nI (fty T D d) = 12 ↔ fty T D d = 12 := nI_eq (b := 12) (by omega) (by decide)
  have e10 : nI (fty T D d) = 10 ↔ fty T D d = 10 := nI_eq (b := 10) (by omega) (by decide)
  have e3 : nI (fty T D d) = 3 ↔ fty T D d = 3 := nI_eq (b := 3) (by omega) (by decide)
  have e7 : nI (fty T D d) = 7 ↔ fty T D d = 7 := nI_eq (b := 7) (by omega) (by decide)
  unfold x_X12_putPlain pVl'
  rw [ix_in (by omega) (by decide), w2, ix_in (by omega) (by decide), f4, ifd e14]
  -- a number without a name
  have plain : nmr (fty T D d) = true → WN w (nuP (fty T D d) (rV r)) σ (x_X12_putPlain_40 U 1101 (nI i) (nI (fty T D d)) (-1) σ) := by
    intro hnm
    unfold x_X12_putPlain_40 x_X12_putPlain_127 x_X12_putPlain_144 nuP
    have n11 : fty T D d ≠ 11 := fun z => by rw [z] at hnm; cases hnm
    have n12 : fty T D d ≠ 12 := fun z => by rw [z] at hnm; cases hnm
    rw [if_pos rfl, ifd e11, if_neg n11, ifd e12, if_neg n12, ifd e10, ifd e3, ifd e7, ix_in (by omega) (by decide), ix_in (by omega) (by decide), ix_in (by omega) (by decide), w3, b1_id, b1_id, b1_id, b1_id]
    by_cases q10 : fty T D d = 10
    · rw [if_pos q10, if_pos q10]
      by_cases q0 : rV r = 0
      · rw [if_pos q0, if_pos q0, ← bw3]; exact N_putWord hU4 hE.2.2
      · rw [if_neg q0, if_neg q0, ← bw4]; exact N_putWord hU4 hE.2.2
    rw [if_neg q10, if_neg q10]
    by_cases q3 : fty T D d = 3
    · rw [if_pos q3, if_neg (fun z => z.2.1 q3)]; exact N_putDec hU4 hE.2.2
    rw [if_neg q3]
    by_cases q7 : fty T D d = 7
    · rw [if_pos q7, if_neg (fun z => z.2.2 q7)]; exact N_putDec hU4 hE.2.2
    rw [if_neg q7]
    unfold x_X12_putSigned x_X12_putSigned_12 x_X12_putSigned_25
    by_cases qx : rV r < 0
    · rw [if_pos qx, if_pos ⟨qx, q3, q7⟩]
      refine WN_b1 (B := [45]) (N_put1 (c := 45) hE.2.2) (fun τ t2 t3 => ?_)
      rw [if_pos qx, b1_id]
      exact N_putDec hU4 t2
    · rw [if_neg qx, if_neg (fun z => qx z.1), if_neg qx, b1_id]
      exact N_putDec hU4 hE.2.2
  cases hnm : nmr (fty T D d) with
  | false =>
    have ei : (itR T D d r).2.1 = rT r := by unfold itR; rw [if_neg h13, hnm, if_neg (show ¬ false = true by decide)]
    have n14 : fty T D d ≠ 14 := fun z => by rw [z] at hnm; cases hnm
    have h12 : fty T D d = 11 ∨ fty T D d = 12 := by
      unfold nmr at hnm
      have := of_decide_eq_false hnm
      omega
    rw [if_neg n14, if_neg (show ¬ false = true by decide), ei]
    unfold x_X12_putPlain_40 x_X12_putPlain_81
    rw [if_pos rfl, ifd e11, ifd e12, ix_in (by omega) (by decide), ix_in (by omega) (by decide), w4, w5, b1_id]
    have key := N_putTxt (U := U) (a := a) (n := (rT r).length) hU4 w6 hP.2.2.1 hP.2.2.2 hP.2.1 hE.2.2
    rw [w7] at key
    by_cases q11 : fty T D d = 11
    · rw [if_pos q11]; exact key
    · rw [if_neg q11, if_pos (h12.elim (fun z => absurd z q11) id)]; exact key
  | true =>
    have ei : (itR T D d r).1 = rV r := by unfold itR; rw [if_neg h13, hnm, if_pos rfl]
    rw [if_pos (show true = true from rfl), ei]
    unfold nuT vnm
    by_cases q : fty T D d = 14
    · obtain ⟨e, y, h3, h4, h5⟩ := (ftg_msg hg hd h2).2.1 q
      have hrf : refI D (some e) = nI (cnt (D.take e) 1) := by show nI (cnt (D.take e) (knd D e)) = _; rw [knd_some h4, h5]
      rw [if_pos q, if_pos q, ix_in (by omega) (by decide), ix_in (by omega) (by decide), f5, w3, h3, hrf]
      unfold x_X12_valueNumbered
      have hvl := N_vl_L (U := U) (x := rV r) hs hE.2.1.1 hg hE.1 h4 h5 (cnt D 3) 0 U (by omega) (by have := (lim_of hE.1.1).2.2.2.1; omega) (fun i d _ _ h => by omega)
      rw [hE.2.1.1, show (40 : Int32) = nI 40 from rfl, pk_mul]
      rw [Nat.add_zero] at hvl
      rw [hvl, b1_eq]
      simp only
      cases hff : ff (pVl e (rV r)) D 0 with
      | none => exact plain hnm
      | some i' =>
        obtain ⟨x, hx, b2', _⟩ := ff_some _ _ _ hff
        rw [Nat.sub_zero] at hx
        simp only
        rw [nmI_some hx]
        have hk3 : dK x = 3 := (of_decide_eq_true b2').1
        have row := (hE.1.2.2 i' x hx).2.2.2 hk3
        have hcl := cnt_take_lt hx hk3
        obtain ⟨l0, l1, l2, l3, l4, l5⟩ := lim_of hE.1.1
        have hne : ¬ nI (40 * s + cnt (D.take i') 3) = -1 := fun z => nI_neg (by omega : 40 * s + cnt (D.take i') 3 < 2 ^ 31) (by rw [z]; decide)
        unfold x_X12_putPlain_40 vIx
        simp only
        rw [if_neg hne, ix_in (by omega) (by decide), ix_in (by omega) (by decide), b1_id]
        exact N_putName hU4 hs row.2.1 hE.2.2
    · rw [if_neg q, if_neg q]
      exact plain hnm
