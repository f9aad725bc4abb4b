/-! ===== find: the reference ===== -/
/-- a name that stands on the tape, up to a dot or the end -/
def isTp (S : List Nat) (p : Nat) (N : List Nat) : Bool := decide (p + N.length ≤ S.length) && (decide (slc S p (p + N.length) = N) && (decide (p + N.length = S.length) || decide (S[p + N.length]? = some 46)))
theorem isTp_iff {S N : List Nat} {p : Nat} : isTp S p N = true ↔ p + N.length ≤ S.length ∧ slc S p (p + N.length) = N ∧ (p + N.length = S.length ∨ S[p + N.length]? = some 46) := by
  unfold isTp
  rw [Bool.and_eq_true, Bool.and_eq_true, Bool.or_eq_true, decide_eq_true_iff, decide_eq_true_iff, decide_eq_true_iff, decide_eq_true_iff]
theorem N_isTape_L {U p q : Nat} {σ : SG} {S N : List Nat} {K : Option Int32} (h : LR σ S) (hN : NMs σ q N) (hp : p + N.length ≤ S.length) (hq : q + N.length ≤ 1200) (h8 : ∀ c ∈ N, c < 256) : ∀ (j k U1 : Nat), k + j = N.length → j < U1 → x_X12_isTape_L15 U 1101 K (nI p) (nI q) (nI N.length) σ U1 (nI k) = if slc S (p + k) (p + N.length) = N.drop k then K else some 0 := by
  have hl := h.2.2.1
  intro j
  induction j with
  | zero =>
    intro k U1 hk hu
    obtain ⟨V, rfl⟩ : ∃ V, U1 = V + 1 := ⟨U1 - 1, by omega⟩
    rw [x_X12_isTape_L15, if_neg (fun z => by have := (ltI (by omega) (by omega)).mp z; omega), slc_nil (by omega), List.drop_eq_nil_of_le (by omega), if_pos rfl]
  | succ j ih =>
    intro k U1 hk hu
    obtain ⟨V, rfl⟩ : ∃ V, U1 = V + 1 := ⟨U1 - 1, by omega⟩
    have hkN : k < N.length := by omega
    have hkS : p + k < S.length := by omega
    have a1 := h.2.1 (p + k) _ (List.getElem?_eq_getElem hkS)
    have a2 := hN k _ (List.getElem?_eq_getElem hkN)
    have b1' := h.2.2.2 _ (List.getElem_mem hkS)
    have b2' := h8 _ (List.getElem_mem hkN)
    rw [x_X12_isTape_L15, if_pos ((ltI (by omega) (by omega)).mpr hkN), nI_add, ix_in (by omega) (by decide), nI_add, ix_in (by omega) (by decide), a1, a2, ifd (nI_eq (by omega) (by omega)), nI_1, slc_cons (by omega) hkS, List.drop_eq_getElem_cons hkN]
    by_cases e : S[p + k] = N[k]
    · have ei : S[p + k] :: slc S (p + k + 1) (p + N.length) = N[k] :: N.drop (k + 1) ↔ slc S (p + (k + 1)) (p + N.length) = N.drop (k + 1) := by
        rw [e, List.cons.injEq]
        exact ⟨fun z => z.2, fun z => ⟨rfl, z⟩⟩
      rw [if_pos e, ih (k + 1) V (by omega) (by omega), ifd ei]
    · rw [if_neg e, if_neg (fun z => e (List.cons.inj z).1)]
theorem N_isTape {U s b j p : Nat} {σ : SG} {S N : List Nat} (hU4 : 4000 < U) (hs : s < 2) (h : LR σ S) (hN : NM σ s b j N) (hp : p ≤ S.length) (h8 : ∀ c ∈ N, c < 256) : x_X12_isTape U 1101 (nI p) (sI σ b j) (sI σ (b + 1) j) σ = some (zI (isTp S p N)) := by
  have hl := h.2.2.1
  obtain ⟨r, h1, h2, h3, h4, h5⟩ := hN
  unfold x_X12_isTape isTp
  rw [h1, h2, h.1, nI_add, ifd (ltI (by omega) (by omega))]
  by_cases q : S.length < p + N.length
  · rw [if_pos q, decide_eq_false (by omega), Bool.false_and]; rfl
  · rw [if_neg q, decide_eq_true (show p + N.length ≤ S.length by omega), Bool.true_and, ifd (nI_eq (by omega) (by omega))]
    have := N_isTape_L (U := U) (p := p) (K := if p + N.length = S.length then some 1 else ix (nI (p + N.length)) 700 fun j13 => if sI σ 1102 j13 = 46 then some 1 else some 0) h h5 (by omega) (by omega) h8 N.length 0 U (by omega) (by omega)
    have this' : x_X12_isTape_L15 U 1101 (if p + N.length = S.length then some 1 else ix (nI (p + N.length)) 700 fun j13 => if sI σ 1102 j13 = 46 then some 1 else some 0) (nI p) (nI r) (nI N.length) σ U 0 = _ := this
    rw [this', Nat.add_zero, List.drop_zero]
    by_cases q2 : slc S p (p + N.length) = N
    · rw [if_pos q2, decide_eq_true q2, Bool.true_and]
      by_cases q3 : p + N.length = S.length
      · rw [if_pos q3, decide_eq_true q3]; rfl
      · have hlt : p + N.length < S.length := by omega
        have hc := h.2.2.2 _ (List.getElem_mem hlt)
        have e46 : nI S[p + N.length] = 46 ↔ S[p + N.length]? = some 46 := by
          rw [List.getElem?_eq_getElem hlt]
          constructor
          · intro z; rw [(nI_eq (b := 46) (by omega) (by decide)).mp z]
          · intro z; rw [Option.some.inj z]; rfl
        rw [if_neg q3, decide_eq_false q3, Bool.false_or, ix_in (by omega) (by decide), h.2.1 _ _ (List.getElem?_eq_getElem hlt), ifd e46]
        by_cases q4 : S[p + N.length]? = some 46
        · rw [if_pos q4, decide_eq_true q4]; rfl
        · rw [if_neg q4, decide_eq_false q4]; rfl
    · rw [if_neg q2, decide_eq_false q2, Bool.false_and]; rfl
/-- a type of a kind in a scope that the tape names -/
def pNt (T : List Nat) (S : List Nat) (q : Nat) (sc : Option Nat) (p : Nat) (d : Dc) : Bool := decide (dK d = q ∧ dS d = sc) && isTp S p (nmT T d)
def nmC (D : List Dc) (o o' : Option Nat) : Int32 := match o with
  | some i => nI (cnt (D.take i) 0)
  | none => match o' with
    | some i => nI (1000 + cnt (D.take i) 1)
    | none => -1
theorem N_nmsg_L {U s p : Nat} {σ : SG} {T S : List Nat} {D : List Dc} {sc : Option Nat} {K : Int32 → Option Int32} {K2 : Option Int32} (hU4 : 4000 < U) (hs : s < 2) (hg : GSc T D) (h : RS σ s T D) (hL : LR σ S) (hp : p ≤ S.length) (hsc : ∀ m, sc = some m → isM D m) : ∀ (j g U1 : Nat), g + j = cnt D 0 → j < U1 → (∀ (i : Nat) (d : Dc), D[i]? = some d → dK d = 0 → cnt (D.take i) 0 < g → pNt T S 0 sc p d = false) → x_X12_named_L6 U 1101 K K2 (nI s) (oq D 0 sc) (nI p) σ U1 (nI (16 * s + g)) = (match ff (pNt T S 0 sc p) D 0 with
    | some i => K (nI (16 * s + cnt (D.take i) 0))
    | none => K2) := by
  have hl := hg.2.1
  obtain ⟨l0, l1, l2, l3, l4, l5⟩ := lim_of h.1
  have hc : sI σ 1104 s = nI (cnt D 0) := h.2.1 0 (by decide)
  intro j
  induction j with
  | zero =>
    intro g U1 hgj hu hall
    obtain ⟨V, rfl⟩ : ∃ V, U1 = V + 1 := ⟨U1 - 1, by omega⟩
    rw [x_X12_named_L6, ix_in hs (by decide), show (16 : Int32) = nI 16 from rfl, pk_mul, hc, nI_add, if_neg (fun q => by have := (ltI (by omega) (by omega)).mp q; omega), ff_no]
    intro x hx
    obtain ⟨i, hi⟩ := List.getElem?_of_mem hx
    by_cases z : dK x = 0
    · exact hall i x hi z (by have := cnt_take_lt hi z; omega)
    · unfold pNt; rw [decide_eq_false (fun y => z y.1), Bool.false_and]
  | succ j ih =>
    intro g U1 hgj hu hall
    obtain ⟨V, rfl⟩ : ∃ V, U1 = V + 1 := ⟨U1 - 1, by omega⟩
    obtain ⟨i, d, hd, hk, hi⟩ := plc (D := D) (q := 0) g (by omega)
    have row := (h.2.2 i d hd).1 hk
    rw [hi] at row
    have hnm := N_isTape (U := U) hU4 hs hL row.2 hp (nmT8 hg (d := d))
    have hnm' : x_X12_isTape U 1101 (nI p) (sI σ 1109 (16 * s + g)) (sI σ 1110 (16 * s + g)) σ = some (zI (isTp S p (nmT T d))) := hnm
    have hoq : oq D 0 (dS d) = oq D 0 sc ↔ dS d = sc := oq_inj (q := 0) hl (hg.1.scK hd) hsc
    rw [x_X12_named_L6, ix_in hs (by decide), show (16 : Int32) = nI 16 from rfl, pk_mul, hc, nI_add, if_pos ((ltI (by omega) (by omega)).mpr (by omega)), ix_in (by omega) (by decide), row.1, ifd hoq, ix_in (by omega) (by decide), ix_in (by omega) (by decide), hnm', b1_eq, ifz]
    unfold x_X12_named_63
    rw [nI_1]
    have go : pNt T S 0 sc p d = false → x_X12_named_L6 U 1101 K K2 (nI s) (oq D 0 sc) (nI p) σ V (nI (16 * s + g + 1)) = (match ff (pNt T S 0 sc p) D 0 with
      | some i => K (nI (16 * s + cnt (D.take i) 0))
      | none => K2) := by
      intro hp'
      refine ih (g + 1) V (by omega) (by omega) (fun i' d' h2 h3 h4 => ?_)
      by_cases z : cnt (D.take i') 0 = g
      · have := ord_inj h2 h3 hd hk (by omega)
        subst this
        rw [hd] at h2
        cases h2
        exact hp'
      · exact hall i' d' h2 h3 (by omega)
    by_cases q1 : dS d = sc
    · rw [if_pos q1]
      cases q2 : isTp S p (nmT T d) with
      | true =>
        rw [if_pos (show true = true from rfl)]
        have hff := ff_here (p := pNt T S 0 sc p) D 0 i d hd (by unfold pNt; rw [decide_eq_true ⟨hk, q1⟩, q2]; rfl) (fun j' x hj' hx => by
          by_cases z : dK x = 0
          · exact hall j' x hx z (by have := cnt_lt_of hx z hj'; omega)
          · unfold pNt; rw [decide_eq_false (fun y => z y.1), Bool.false_and])
        rw [hff, Nat.zero_add]
        simp only
        rw [hi]
      | false =>
        rw [if_neg (show ¬ false = true by decide)]
        exact go (by unfold pNt; rw [q2, Bool.and_false])
    · rw [if_neg q1]
      exact go (by unfold pNt; rw [decide_eq_false (fun y => q1 y.2), Bool.false_and])
theorem N_nenm_L {U s p : Nat} {σ : SG} {T S : List Nat} {D : List Dc} {sc : Option Nat} {K : Int32 → Option Int32} (hU4 : 4000 < U) (hs : s < 2) (hg : GSc T D) (h : RS σ s T D) (hL : LR σ S) (hp : p ≤ S.length) (hsc : ∀ m, sc = some m → isM D m) : ∀ (j g U1 : Nat), g + j = cnt D 1 → j < U1 → (∀ (i : Nat) (d : Dc), D[i]? = some d → dK d = 1 → cnt (D.take i) 1 < g → pNt T S 1 sc p d = false) → x_X12_named_L75 U 1101 K (nI s) (oq D 0 sc) (nI p) σ U1 (nI (8 * s + g)) = (match ff (pNt T S 1 sc p) D 0 with
    | some i => K (nI (8 * s + cnt (D.take i) 1))
    | none => some (-1)) := by
  have hl := hg.2.1
  obtain ⟨l0, l1, l2, l3, l4, l5⟩ := lim_of h.1
  have hc : sI σ 1105 s = nI (cnt D 1) := h.2.1 1 (by decide)
  intro j
  induction j with
  | zero =>
    intro g U1 hgj hu hall
    obtain ⟨V, rfl⟩ : ∃ V, U1 = V + 1 := ⟨U1 - 1, by omega⟩
    rw [x_X12_named_L75, ix_in hs (by decide), show (8 : Int32) = nI 8 from rfl, pk_mul, hc, nI_add, if_neg (fun q => by have := (ltI (by omega) (by omega)).mp q; omega), ff_no]
    intro x hx
    obtain ⟨i, hi⟩ := List.getElem?_of_mem hx
    by_cases z : dK x = 1
    · exact hall i x hi z (by have := cnt_take_lt hi z; omega)
    · unfold pNt; rw [decide_eq_false (fun y => z y.1), Bool.false_and]
  | succ j ih =>
    intro g U1 hgj hu hall
    obtain ⟨V, rfl⟩ : ∃ V, U1 = V + 1 := ⟨U1 - 1, by omega⟩
    obtain ⟨i, d, hd, hk, hi⟩ := plc (D := D) (q := 1) g (by omega)
    have row := (h.2.2 i d hd).2.1 hk
    rw [hi] at row
    have hnm := N_isTape (U := U) hU4 hs hL row.2 hp (nmT8 hg (d := d))
    have hnm' : x_X12_isTape U 1101 (nI p) (sI σ 1112 (8 * s + g)) (sI σ 1113 (8 * s + g)) σ = some (zI (isTp S p (nmT T d))) := hnm
    have hoq : oq D 0 (dS d) = oq D 0 sc ↔ dS d = sc := oq_inj (q := 0) hl (hg.1.scK hd) hsc
    rw [x_X12_named_L75, ix_in hs (by decide), show (8 : Int32) = nI 8 from rfl, pk_mul, hc, nI_add, if_pos ((ltI (by omega) (by omega)).mpr (by omega)), ix_in (by omega) (by decide), row.1, ifd hoq, ix_in (by omega) (by decide), ix_in (by omega) (by decide), hnm', b1_eq, ifz]
    unfold x_X12_named_136
    rw [nI_1]
    have go : pNt T S 1 sc p d = false → x_X12_named_L75 U 1101 K (nI s) (oq D 0 sc) (nI p) σ V (nI (8 * s + g + 1)) = (match ff (pNt T S 1 sc p) D 0 with
      | some i => K (nI (8 * s + cnt (D.take i) 1))
      | none => some (-1)) := by
      intro hp'
      refine ih (g + 1) V (by omega) (by omega) (fun i' d' h2 h3 h4 => ?_)
      by_cases z : cnt (D.take i') 1 = g
      · have := ord_inj h2 h3 hd hk (by omega)
        subst this
        rw [hd] at h2
        cases h2
        exact hp'
      · exact hall i' d' h2 h3 (by omega)
    by_cases q1 : dS d = sc
    · rw [if_pos q1]
      cases q2 : isTp S p (nmT T d) with
      | true =>
        rw [if_pos (show true = true from rfl)]
        have hff := ff_here (p := pNt T S 1 sc p) D 0 i d hd (by unfold pNt; rw [decide_eq_true ⟨hk, q1⟩, q2]; rfl) (fun j' x hj' hx => by
          by_cases z : dK x = 1
          · exact hall j' x hx z (by have := cnt_lt_of hx z hj'; omega)
          · unfold pNt; rw [decide_eq_false (fun y => z y.1), Bool.false_and])
        rw [hff, Nat.zero_add]
        simp only
        rw [hi]
      | false =>
        rw [if_neg (show ¬ false = true by decide)]
        exact go (by unfold pNt; rw [q2, Bool.and_false])
    · rw [if_neg q1]
      exact go (by unfold pNt; rw [decide_eq_false (fun y => q1 y.2), Bool.false_and])
theorem N_named {U s p : Nat} {σ : SG} {T S : List Nat} {D : List Dc} {sc : Option Nat} (hU4 : 4000 < U) (hs : s < 2) (hg : GSc T D) (h : RS σ s T D) (hL : LR σ S) (hp : p ≤ S.length) (hsc : ∀ m, sc = some m → isM D m) : x_X12_named U 1101 (nI s) (oq D 0 sc) (nI p) σ = some (nmC D (ff (pNt T S 0 sc p) D 0) (ff (pNt T S 1 sc p) D 0)) := by
  obtain ⟨l0, l1, l2, l3, l4, l5⟩ := lim_of h.1
  have hl := hg.2.1
  unfold x_X12_named
  have k1 := N_nmsg_L (U := U) (K := fun w22 => some (w22 - (16 * nI s))) (K2 := x_X12_named_L75 U 1101 (fun w44 => some ((1000 + w44) - (8 * nI s))) (nI s) (oq D 0 sc) (nI p) σ U (8 * nI s)) hU4 hs hg h hL hp hsc (cnt D 0) 0 U (by omega) (by omega) (fun i d _ _ h => by omega)
  have k2 := N_nenm_L (U := U) (K := fun w44 => some ((1000 + w44) - (8 * nI s))) hU4 hs hg h hL hp hsc (cnt D 1) 0 U (by omega) (by omega) (fun i d _ _ h => by omega)
  have e16 : (16 : Int32) * nI s = nI (16 * s) := pk_mul 16 s
  have e8 : (8 : Int32) * nI s = nI (8 * s) := pk_mul 8 s
  rw [Nat.add_zero] at k1 k2
  rw [e8] at k1 k2 ⊢
  rw [e16] at k1 ⊢
  rw [k1, k2]
  unfold nmC
  cases h0 : ff (pNt T S 0 sc p) D 0 with
  | some i =>
    simp only
    rw [nI_sub (by omega), show 16 * s + cnt (D.take i) 0 - 16 * s = cnt (D.take i) 0 by omega]
  | none =>
    simp only
    cases h1 : ff (pNt T S 1 sc p) D 0 with
    | some i =>
      simp only
      rw [show (1000 : Int32) = nI 1000 from rfl, nI_add, nI_sub (by omega)]
      congr 2
      omega
    | none => rfl
