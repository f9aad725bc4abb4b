/-! ===== the reference measures ===== -/
def szR (T : List Nat) (D : List Dc) (rc : Nat → List Nat) (r : Rg) : Nat := match D[rF r]? with
  | none => 0
  | some d => if dPa (lkC T D) T (wl T 701 0) D d then 0 else (eIt T D rc d (itR T D d r)).length
def ofN (n : Nat) (r : Rg) : Bool := rA r && decide (rN r = n)
/-- what a row must keep to be measured -/
def rowK (σ : SG) (T : List Nat) (D : List Dc) (rc : Nat → List Nat) (r : Rg) : Prop := ∀ d, D[rF r]? = some d → okV4 (fty T D d) (rV r) ∧ (fty T D d = 13 → rK r < 400 ∧ sI σ 1163 (rK r) = nI (rc (rK r)).length ∧ (rc (rK r)).length < 2 ^ 31)
theorem N_meas15 {U s n : Nat} {σ : SG} {T : List Nat} {D : List Dc} {P : List Nat} {R : List Rg} {rc : Nat → List Nat} {K : Int32 → Option SG} (hU4 : 4000 < U) (hs : s < 2) (hg : GSc T D) (hS : RS σ s T D) (hR : RT σ s T D P R) (hP : P.length ≤ 700) (hn : n < 400) (hRn : ∀ r ∈ R, rN r < 400) (hrow : ∀ r ∈ R, ofN n r = true → rowK σ T D rc r) : ∀ (j i v U1 : Nat), i + j = R.length → j < U1 → x_X12_measure_L15 U 1101 K (nI n) σ U1 (nI v) (nI i) = K (nI (v + (((R.drop i).filter (ofN n)).map (szR T D rc)).sum)) := by
  have hR7 := hR.2.1
  intro j
  induction j with
  | zero =>
    intro i v U1 hi hu
    obtain ⟨V, rfl⟩ : ∃ V, U1 = V + 1 := ⟨U1 - 1, by omega⟩
    rw [x_X12_measure_L15, hR.1, if_neg (fun q => by have := (ltI (by omega) (by omega)).mp q; omega), List.drop_eq_nil_of_le (by omega)]
    rfl
  | succ j ih =>
    intro i v U1 hi hu
    obtain ⟨V, rfl⟩ : ∃ V, U1 = V + 1 := ⟨U1 - 1, by omega⟩
    have hil : i < R.length := by omega
    have hri := List.getElem?_eq_getElem hil
    have hmem : R[i] ∈ R := List.getElem_mem hil
    obtain ⟨⟨w1, w2, w3, _, d, w8, w9, _⟩, wA⟩ := hR.2.2 i R[i] hri
    obtain ⟨f1, _, f3, f4, f5, f6, f7, _⟩ := hS.f w8 w9
    have hdr : R.drop i = R[i] :: R.drop (i + 1) := List.drop_eq_getElem_cons hil
    have hne : nI (rN R[i]) = nI n ↔ rN R[i] = n := nI_eq (by have := hRn _ hmem; omega) (by omega)
    rw [x_X12_measure_L15, hR.1, if_pos ((ltI (by omega) (by omega)).mpr hil), ix_in (by omega) (by decide), wA, ifz, hdr, List.filter_cons]
    unfold x_X12_measure_64
    rw [nI_1]
    cases hA : rA R[i] with
    | false =>
      have ho : ofN n R[i] = false := by unfold ofN; rw [hA]; rfl
      rw [if_neg (show ¬ false = true by decide), ih (i + 1) v V (by omega) (by omega), ho, if_neg (show ¬ false = true by decide)]
    | true =>
      rw [if_pos (show true = true from rfl), ix_in (by omega) (by decide), w1, ifd hne]
      by_cases q1 : rN R[i] = n
      · have ho : ofN n R[i] = true := by unfold ofN; rw [hA, decide_eq_true q1]; rfl
        rw [if_pos q1, ix_in (by omega) (by decide), w2, ix_in (by omega) (by decide), f7, ifz, ho, if_pos (show true = true from rfl), List.map_cons, List.sum_cons]
        have hsz : szR T D rc R[i] = if dPa (lkC T D) T (wl T 701 0) D d then 0 else (eIt T D rc d (itR T D d R[i])).length := by unfold szR; rw [w8]
        rw [hsz]
        cases dPa (lkC T D) T (wl T 701 0) D d with
        | true => rw [if_pos (show true = true from rfl), if_pos (show true = true from rfl), ih (i + 1) v V (by omega) (by omega), Nat.zero_add]
        | false =>
          obtain ⟨k1, k2⟩ := hrow _ hmem ho d w8
          rw [if_neg (show ¬ false = true by decide), if_neg (show ¬ false = true by decide), N_rowBytes (rc := rc) hU4 hs hg hS hR hri w8 w9 hP k1 k2, b1_eq, nI_add, ih (i + 1) _ V (by omega) (by omega), Nat.add_assoc]
      · have ho : ofN n R[i] = false := by unfold ofN; rw [decide_eq_false q1, Bool.and_false]
        rw [if_neg q1, ih (i + 1) v V (by omega) (by omega), ho, if_neg (show ¬ false = true by decide)]
/-- the fields in the order of their declaration -/
def flD (D : List Dc) : List Nat := (List.range D.length).filter (fun i => decide (knd D i = 2))
theorem flD_len {D : List Dc} : ∀ k, k ≤ D.length → ((List.range k).filter (fun i => decide (knd D i = 2))).length = cnt (D.take k) 2 := by
  intro k
  induction k with
  | zero => intro _; rfl
  | succ k ih =>
    intro hk
    have hd := List.getElem?_eq_getElem (show k < D.length by omega)
    rw [List.range_succ, List.filter_append, List.length_append, ih (by omega), List.take_succ_eq_append_getElem (show k < D.length by omega), cnt_sn]
    congr 1
    rw [List.filter_cons, List.filter_nil, knd_some hd]
    by_cases q : dK D[k] = 2
    · rw [if_pos (decide_eq_true q), if_pos q]; rfl
    · rw [if_neg (by rw [decide_eq_true_iff]; exact q), if_neg q]; rfl
theorem flD_get {D : List Dc} {g : Nat} : ∀ k, k ≤ D.length → g < cnt (D.take k) 2 → ∃ i d, ((List.range k).filter (fun i => decide (knd D i = 2)))[g]? = some i ∧ D[i]? = some d ∧ dK d = 2 ∧ cnt (D.take i) 2 = g := by
  intro k
  induction k with
  | zero => intro _ h; exact absurd h (by show ¬ g < 0; omega)
  | succ k ih =>
    intro hk hgk
    have hd := List.getElem?_eq_getElem (show k < D.length by omega)
    have hlen := flD_len (D := D) k (by omega)
    rw [List.range_succ, List.filter_append]
    by_cases q : g < cnt (D.take k) 2
    · obtain ⟨i, d, h1, h2⟩ := ih (by omega) q
      exact ⟨i, d, by rw [List.getElem?_append_left (by omega)]; exact h1, h2⟩
    · rw [List.take_succ_eq_append_getElem (show k < D.length by omega), cnt_sn] at hgk
      by_cases q2 : dK D[k] = 2
      · rw [if_pos q2] at hgk
        refine ⟨k, D[k], ?_, hd, q2, by omega⟩
        rw [List.getElem?_append_right (by omega), List.filter_cons, knd_some hd, if_pos (decide_eq_true q2), hlen, show g - cnt (D.take k) 2 = 0 by omega]
        rfl
      · rw [if_neg q2] at hgk; omega
/-- what a packed field adds -/
def szP (T : List Nat) (D : List Dc) (R : List Rg) (n m f : Nat) : Nat := match D[f]? with
  | none => 0
  | some d => if dS d = some m ∧ dPa (lkC T D) T (wl T 701 0) D d = true then (if 0 < (pkB T D d (R.filter (pRw n f))).length then (tgB d 2).length + (vB (lN (pkB T D d (R.filter (pRw n f))).length)).length + (pkB T D d (R.filter (pRw n f))).length else 0) else 0
theorem N_meas78 {U s n m : Nat} {σ : SG} {T : List Nat} {D : List Dc} {P : List Nat} {R : List Rg} {K : Int32 → Option SG} (hU4 : 4000 < U) (hs : s < 2) (h80 : sI σ 1101 80 = nI s) (hg : GSc T D) (hS : RS σ s T D) (hR : RT σ s T D P R) (hn : n < 400) (hRn : ∀ r ∈ R, rN r < 400) (hM : isM D m) (h60 : sI σ 1160 n = nI (cnt (D.take m) 0)) (h4 : ∀ f d, D[f]? = some d → ∀ r ∈ R, pRw n f r = true → okV4 (fty T D d) (rV r)) (hpb : ∀ f d, D[f]? = some d → (pkB T D d (R.filter (pRw n f))).length < 2 ^ 31) : ∀ (j g v U1 : Nat), g + j = cnt D 2 → j < U1 → x_X12_measure_L78 U 1101 K (nI n) σ U1 (nI v) (nI (60 * s + g)) = K (nI (v + (((flD D).drop g).map (szP T D R n m)).sum)) := by
  have hl := hg.2.1
  have l2 := (lim_of hS.1).2.2.1
  have hfl : (flD D).length = cnt D 2 := by unfold flD; rw [flD_len _ (Nat.le_refl _), List.take_of_length_le (Nat.le_refl _)]
  have h106 : sI σ 1106 s = nI (cnt D 2) := hS.2.1 2 (by decide)
  intro j
  induction j with
  | zero =>
    intro g v U1 hj hu
    obtain ⟨V, rfl⟩ : ∃ V, U1 = V + 1 := ⟨U1 - 1, by omega⟩
    rw [x_X12_measure_L78, h80, ix_in hs (by decide), h106, show (60 : Int32) = nI 60 from rfl, pk_mul, nI_add, if_neg (fun q => by have := (ltI (by omega) (by omega)).mp q; omega), List.drop_eq_nil_of_le (by omega)]
    rfl
  | succ j ih =>
    intro g v U1 hj hu
    obtain ⟨V, rfl⟩ : ∃ V, U1 = V + 1 := ⟨U1 - 1, by omega⟩
    obtain ⟨f, d, g1, g2, g3, g4⟩ := flD_get (D := D) (g := g) D.length (Nat.le_refl _) (by rw [List.take_of_length_le (Nat.le_refl _)]; omega)
    have g1' : (flD D)[g]? = some f := g1
    have hgl := (List.getElem?_eq_some_iff.mp g1').1
    have hgf : (flD D)[g] = f := (List.getElem?_eq_some_iff.mp g1').2
    have efx : fx D s f = 60 * s + g := by unfold fx; rw [g4]
    obtain ⟨f1, f2, f3, f4, f5, f6, f7, _⟩ := hS.f g2 g3
    rw [efx] at f1 f2 f7
    have hsm : oq D 0 (dS d) = nI (cnt (D.take m) 0) ↔ dS d = some m := isM_oq hl hM (hg.1.scK g2)
    rw [x_X12_measure_L78, h80, ix_in hs (by decide), h106, show (60 : Int32) = nI 60 from rfl, pk_mul, nI_add, if_pos ((ltI (by omega) (by omega)).mpr (by omega)), ix_in (by omega) (by decide), ix_in (by omega) (by decide), f2, h60, ifd hsm, ix_in (by omega) (by decide), f7, ifz, List.drop_eq_getElem_cons hgl, hgf, List.map_cons, List.sum_cons]
    unfold x_X12_measure_132 x_X12_measure_133 x_X12_measure_162
    have ih' : ∀ v, x_X12_measure_L78 U 1101 K (nI n) σ V (nI v) (nI (60 * s + g + 1)) = K (nI (v + (((flD D).drop (g + 1)).map (szP T D R n m)).sum)) := fun v => ih (g + 1) v V (by omega) (by omega)
    rw [if_neg (show ¬ (0 : Int32) < 0 by decide), nI_1, ih' v]
    have hsz : szP T D R n m f = if dS d = some m ∧ dPa (lkC T D) T (wl T 701 0) D d = true then (if 0 < (pkB T D d (R.filter (pRw n f))).length then (tgB d 2).length + (vB (lN (pkB T D d (R.filter (pRw n f))).length)).length + (pkB T D d (R.filter (pRw n f))).length else 0) else 0 := by unfold szP; rw [g2]
    rw [hsz]
    by_cases q1 : dS d = some m
    · rw [if_pos q1]
      cases hpk : dPa (lkC T D) T (wl T 701 0) D d with
      | false => rw [if_neg (show ¬ false = true by decide), if_neg (show ¬ (dS d = some m ∧ false = true) from fun z => by cases z.2), Nat.zero_add]
      | true =>
        have hpk' := hpk
        unfold dPa at hpk'
        rw [Bool.and_eq_true, Bool.and_eq_true, Bool.and_eq_true] at hpk'
        have hnm : nmr (fty T D d) = true := hpk'.1.1.2
        have hb := hpb f d g2
        rw [if_pos (show true = true from rfl), if_pos (show dS d = some m ∧ true = true from ⟨q1, rfl⟩), ← efx, N_packedBytes hU4 hs hg hS hR hn hRn g2 g3 hnm (h4 f d g2), b1_eq, ifd (show (0 : Int32) < nI (pkB T D d (R.filter (pRw n f))).length ↔ 0 < (pkB T D d (R.filter (pRw n f))).length from ltI (a := 0) (by decide) hb)]
        have htg := N_tagOf (k := 2) hs hg hS g2 g3 (by decide)
        have htg' : x_X12_tagOf 1101 (nI (fx D s f)) 2 σ = some ((lshl9 (lN (dN d).2) 3) ||| lN 2) := htg
        rw [htg', b1_eq, N_varN hU4, b1_eq, nI_l hb, N_varN hU4, b1_eq, nI_add, nI_add, nI_add, efx, ih']
        by_cases q9 : 0 < (pkB T D d (R.filter (pRw n f))).length
        · rw [if_pos q9, if_pos q9, Nat.add_assoc]; rfl
        · rw [if_neg q9, if_neg q9, Nat.zero_add]
    · rw [if_neg q1, if_neg (show ¬ (dS d = some m ∧ dPa (lkC T D) T (wl T 701 0) D d = true) from fun z => q1 z.1), Nat.zero_add]
theorem N_meas170 {U n : Nat} {σ : SG} {P : List Nat} {L : List (Nat × List Nat)} {c : Nat} {K : Int32 → Option SG} (h83 : sI σ 1101 83 = nI L.length) (hl : L.length ≤ 350) (hL : ∀ i u, L[i]? = some u → u.1 < c ∧ UKs σ P i u) (hc : c ≤ 351) (hn : n < 400) : ∀ (j i v U1 : Nat), i + j = L.length → j < U1 → x_X12_measure_L170 U 1101 K (nI n) σ U1 (nI v) (nI i) = K (nI (v + (((L.drop i).filter (fun u => decide (u.1 = n))).map (fun u => u.2.length)).sum)) := by
  intro j
  induction j with
  | zero =>
    intro i v U1 hi hu
    obtain ⟨V, rfl⟩ : ∃ V, U1 = V + 1 := ⟨U1 - 1, by omega⟩
    rw [x_X12_measure_L170, h83, if_neg (fun q => by have := (ltI (by omega) (by omega)).mp q; omega), List.drop_eq_nil_of_le (by omega)]
    rfl
  | succ j ih =>
    intro i v U1 hi hu
    obtain ⟨V, rfl⟩ : ∃ V, U1 = V + 1 := ⟨U1 - 1, by omega⟩
    have hil : i < L.length := by omega
    obtain ⟨u1, u2, a, u3, u4, _⟩ := hL i L[i] (List.getElem?_eq_getElem hil)
    have hdr : L.drop i = L[i] :: L.drop (i + 1) := List.drop_eq_getElem_cons hil
    rw [x_X12_measure_L170, h83, if_pos ((ltI (by omega) (by omega)).mpr hil), ix_in (by omega) (by decide), u2, ifd (nI_eq (by omega) (by omega)), ix_in (by omega) (by decide), u4, hdr, List.filter_cons]
    unfold x_X12_measure_197
    rw [nI_add, nI_1]
    by_cases q : L[i].1 = n
    · rw [if_pos q, if_pos (decide_eq_true q), ih (i + 1) _ V (by omega) (by omega), List.map_cons, List.sum_cons, Nat.add_assoc]
    · rw [if_neg q, if_neg (show ¬ decide (L[i].1 = n) = true by rw [decide_eq_true_iff]; exact q), ih (i + 1) _ V (by omega) (by omega)]
