/-! ===== asking the reference ===== -/
/-- a field's index in the reference -/
def fIx (D : List Dc) (s : Nat) (o : Option Nat) : Int32 := match o with
  | none => -1
  | some i => nI (60 * s + cnt (D.take i) 2)
theorem find_ff {D : List Dc} {L : List Nat} {p : Nat → Bool} {P : Dc → Bool} (h1 : ∀ (i : Nat) (d : Dc), D[i]? = some d → P d = true → i ∈ L) (h2 : ∀ i ∈ L, ∃ d, D[i]? = some d ∧ p i = P d) (h3 : ∀ (i j : Nat) (d e : Dc), D[i]? = some d → D[j]? = some e → P d = true → P e = true → i = j) : L.find? p = ff P D 0 := by
  cases e : L.find? p with
  | none =>
    rw [ff_no]
    intro x hx
    obtain ⟨i, hi⟩ := List.getElem?_of_mem hx
    cases hP : P x with
    | false => rfl
    | true =>
      exfalso
      have hm := h1 i x hi hP
      obtain ⟨d, hd, hp⟩ := h2 i hm
      rw [hi] at hd
      cases hd
      have := List.find?_eq_none.mp e i hm
      rw [hp, hP] at this
      exact this rfl
  | some i =>
    have hm := List.mem_of_find?_eq_some e
    have hpi := List.find?_some e
    obtain ⟨d, hd, hp⟩ := h2 i hm
    rw [hpi] at hp
    rw [ff_here D 0 i d hd hp.symm (fun j x hj hx => by
      cases hP : P x with
      | false => rfl
      | true => have := h3 j i x d hx hd hP hp.symm; omega), Nat.zero_add]
theorem isM_oq {D : List Dc} {m : Nat} {o : Option Nat} (hl : D.length < 180) (hm : isM D m) (ho : ∀ j, o = some j → ∃ d, D[j]? = some d ∧ dK d = 0) : oq D 0 o = nI (cnt (D.take m) 0) ↔ o = some m := by
  have := oq_inj (o := o) (o' := some m) hl ho (fun j hj => by cases hj; exact hm)
  exact this
theorem N_isMessage {s : Nat} {σ : SG} {T : List Nat} {D : List Dc} {x : Int32} (hs : s < 2) (hl : D.length < 180) (h : RS σ s T D) : x_X12_isMessage 1101 (nI s) x σ = some (zI (msg D x).isSome) := by
  unfold x_X12_isMessage
  rw [isSchema_s hs, b1_eq, if_neg (by decide)]
  have hm := msg_iff (x := x) hl
  by_cases q : x < 0
  · rw [if_pos q]
    cases e : (msg D x).isSome with
    | true => exact absurd q (hm.mp e).1
    | false => rfl
  · rw [if_neg q, ix_in hs (by decide), show sI σ 1104 s = nI (cnt D 0) from h.2.1 0 (by decide)]
    by_cases q2 : x < nI (cnt D 0)
    · rw [if_pos q2, hm.mpr ⟨q, q2⟩]; rfl
    · rw [if_neg q2]
      cases e : (msg D x).isSome with
      | true => exact absurd (hm.mp e).2 q2
      | false => rfl
/-- a field of a message with a number -/
def pNb (m : Nat) (v : Int32) (d : Dc) : Bool := decide (dK d = 2 ∧ dS d = some m ∧ nI (dN d).2 = v)
theorem pNb_find {T : List Nat} {D : List Dc} {m : Nat} {v : Int32} (hg : GSc T D) (hm : isM D m) : (chF D m).find? (fun i => decide (nI (nmn D i) = v)) = ff (pNb m v) D 0 := by
  refine find_ff (fun i d hd hp => ?_) (fun i hi => ?_) (fun i j d e hd he hp hq => ?_)
  · have := of_decide_eq_true hp
    exact (chF_mem hg hm).mpr ⟨d, hd, this.1, this.2.1⟩
  · obtain ⟨d, hd, h2, h3⟩ := (chF_mem hg hm).mp hi
    refine ⟨d, hd, ?_⟩
    unfold pNb
    rw [nmn_some hd]
    by_cases q : nI (dN d).2 = v
    · rw [decide_eq_true q, decide_eq_true ⟨h2, h3, q⟩]
    · rw [decide_eq_false q, decide_eq_false (fun z => q z.2.2)]
  · have a := of_decide_eq_true hp
    have b := of_decide_eq_true hq
    have fa := hg.fld hd a.1
    have fb := hg.fld he b.1
    refine num_inj hg ⟨hd, a.1, a.2.1⟩ ⟨he, b.1, b.2.1⟩ ?_
    exact (nI_eq (by omega) (by omega)).mp (a.2.2.trans b.2.2.symm)
theorem N_fieldNumbered_L {U s m : Nat} {σ : SG} {T : List Nat} {D : List Dc} {v : Int32} (hs : s < 2) (h80 : sI σ 1101 80 = nI s) (hg : GSc T D) (h : RS σ s T D) (hm : isM D m) : ∀ (j g U1 : Nat), g + j = cnt D 2 → j < U1 → (∀ (i : Nat) (d : Dc), D[i]? = some d → dK d = 2 → cnt (D.take i) 2 < g → pNb m v d = false) →
    x_X12_fieldNumbered_L8 U 1101 (nI (cnt (D.take m) 0)) v σ U1 (nI (60 * s + g)) = some (fIx D s (ff (pNb m v) D 0)) := by
  have hl := hg.2.1
  obtain ⟨l0, l1, l2, l3, l4, l5⟩ := lim_of h.1
  have hc : sI σ 1106 s = nI (cnt D 2) := h.2.1 2 (by decide)
  intro j
  induction j with
  | zero =>
    intro g U1 hgj hu hall
    obtain ⟨V, rfl⟩ : ∃ V, U1 = V + 1 := ⟨U1 - 1, by omega⟩
    rw [x_X12_fieldNumbered_L8, h80, ix_in hs (by decide), show (60 : Int32) = nI 60 from rfl, pk_mul, hc, nI_add, if_neg (fun q => by have := (ltI (by omega) (by omega)).mp q; omega), ff_no]
    · rfl
    · intro x hx
      obtain ⟨i, hi⟩ := List.getElem?_of_mem hx
      by_cases z : dK x = 2
      · exact hall i x hi z (by have := cnt_take_lt hi z; omega)
      · exact decide_eq_false (fun y => z y.1)
  | succ j ih =>
    intro g U1 hgj hu hall
    obtain ⟨V, rfl⟩ : ∃ V, U1 = V + 1 := ⟨U1 - 1, by omega⟩
    obtain ⟨i, d, hd, hk, hi⟩ := plc (D := D) (q := 2) g (by omega)
    have row := (h.2.2 i d hd).2.2.1 hk
    rw [hi] at row
    rw [x_X12_fieldNumbered_L8, h80, ix_in hs (by decide), show (60 : Int32) = nI 60 from rfl, pk_mul, hc, nI_add, if_pos ((ltI (by omega) (by omega)).mpr (by omega)), ix_in (by omega) (by decide), row.1, ifd (isM_oq hl hm (hg.1.scK hd)), ix_in (by omega) (by decide), row.2.2.1]
    unfold x_X12_fieldNumbered_51
    rw [nI_1]
    have go : pNb m v d = false → x_X12_fieldNumbered_L8 U 1101 (nI (cnt (D.take m) 0)) v σ V (nI (60 * s + g + 1)) = some (fIx D s (ff (pNb m v) D 0)) := by
      intro hp
      refine ih (g + 1) V (by omega) (by omega) (fun i' d' h2 h3 h4 => ?_)
      by_cases z : cnt (D.take i') 2 = g
      · have := ord_inj h2 h3 hd hk (by omega)
        subst this
        rw [hd] at h2
        cases h2
        exact hp
      · exact hall i' d' h2 h3 (by omega)
    by_cases q1 : dS d = some m
    · rw [if_pos q1]
      by_cases q2 : nI (dN d).2 = v
      · rw [if_pos q2]
        have hff := ff_here (p := pNb m v) D 0 i d hd (decide_eq_true ⟨hk, q1, q2⟩) (fun j' x hj' hx => by
          by_cases z : dK x = 2
          · exact hall j' x hx z (by have := cnt_lt_of hx z hj'; omega)
          · exact decide_eq_false (fun y => z y.1))
        rw [hff, Nat.zero_add]
        unfold fIx
        simp only
        rw [hi]
      · rw [if_neg q2]
        exact go (decide_eq_false (fun z => q2 z.2.2))
    · rw [if_neg q1]
      exact go (decide_eq_false (fun z => q1 z.2.1))
theorem N_fieldNumbered {U s m : Nat} {σ : SG} {T : List Nat} {D : List Dc} {v : Int32} (hU : 4000 < U) (hs : s < 2) (h80 : sI σ 1101 80 = nI s) (hg : GSc T D) (h : RS σ s T D) (hm : isM D m) : x_X12_fieldNumbered U 1101 (nI (cnt (D.take m) 0)) v σ = some (fIx D s ((chF D m).find? (fun i => decide (nI (nmn D i) = v)))) := by
  have hl := hg.2.1
  have hcl := cnt_le D 2
  unfold x_X12_fieldNumbered
  rw [h80, show (60 : Int32) = nI 60 from rfl, pk_mul, pNb_find hg hm]
  exact N_fieldNumbered_L hs h80 hg h hm (cnt D 2) 0 U (by omega) (by omega) (fun i d _ _ z => by omega)
theorem N_freshNumbered_L {U  m : Nat} {σ : SG} {T : List Nat} {D : List Dc} {v : Int32} (hU : 4000 < U) (hg : GSc T D) (h : RS σ 1 T D) (hm : isM D m) : ∀ (j g U1 : Nat), g + j = cnt D 2 → j < U1 → (∀ (i : Nat) (d : Dc), D[i]? = some d → dK d = 2 → cnt (D.take i) 2 < g → pNb m v d = false) →
    x_X12_freshNumbered_L3 U 1101 (nI (cnt (D.take m) 0)) v σ U1 (nI (60 * 1 + g)) = some (fIx D 1 (ff (pNb m v) D 0)) := by
  have hl := hg.2.1
  obtain ⟨l0, l1, l2, l3, l4, l5⟩ := lim_of h.1
  have hc : sI σ 1106 1 = nI (cnt D 2) := h.2.1 2 (by decide)
  intro j
  induction j with
  | zero =>
    intro g U1 hgj hu hall
    obtain ⟨V, rfl⟩ : ∃ V, U1 = V + 1 := ⟨U1 - 1, by omega⟩
    rw [x_X12_freshNumbered_L3, show ix 1 2 = ix (nI 1) 2 from rfl, ix_in (show 1 < 2 by decide) (by decide), show (60 : Int32) = nI 60 from rfl, hc, nI_add, if_neg (fun q => by have := (ltI (by omega) (by omega)).mp q; omega), ff_no]
    · rfl
    · intro x hx
      obtain ⟨i, hi⟩ := List.getElem?_of_mem hx
      by_cases z : dK x = 2
      · exact hall i x hi z (by have := cnt_take_lt hi z; omega)
      · exact decide_eq_false (fun y => z y.1)
  | succ j ih =>
    intro g U1 hgj hu hall
    obtain ⟨V, rfl⟩ : ∃ V, U1 = V + 1 := ⟨U1 - 1, by omega⟩
    obtain ⟨i, d, hd, hk, hi⟩ := plc (D := D) (q := 2) g (by omega)
    have row := (h.2.2 i d hd).2.2.1 hk
    rw [hi] at row
    rw [x_X12_freshNumbered_L3, show ix 1 2 = ix (nI 1) 2 from rfl, ix_in (show 1 < 2 by decide) (by decide), show (60 : Int32) = nI 60 from rfl, hc, nI_add, if_pos ((ltI (by omega) (by omega)).mpr (by omega)), ix_in (by omega) (by decide), row.1, ifd (isM_oq hl hm (hg.1.scK hd)), ix_in (by omega) (by decide), row.2.2.1]
    unfold x_X12_freshNumbered_38
    rw [nI_1]
    have go : pNb m v d = false → x_X12_freshNumbered_L3 U 1101 (nI (cnt (D.take m) 0)) v σ V (nI (60 * 1 + g + 1)) = some (fIx D 1 (ff (pNb m v) D 0)) := by
      intro hp
      refine ih (g + 1) V (by omega) (by omega) (fun i' d' h2 h3 h4 => ?_)
      by_cases z : cnt (D.take i') 2 = g
      · have := ord_inj h2 h3 hd hk (by omega)
        subst this
        rw [hd] at h2
        cases h2
        exact hp
      · exact hall i' d' h2 h3 (by omega)
    by_cases q1 : dS d = some m
    · rw [if_pos q1]
      by_cases q2 : nI (dN d).2 = v
      · rw [if_pos q2]
        have hff := ff_here (p := pNb m v) D 0 i d hd (decide_eq_true ⟨hk, q1, q2⟩) (fun j' x hj' hx => by
          by_cases z : dK x = 2
          · exact hall j' x hx z (by have := cnt_lt_of hx z hj'; omega)
          · exact decide_eq_false (fun y => z y.1))
        rw [hff, Nat.zero_add]
        unfold fIx
        simp only
        rw [hi]
      · rw [if_neg q2]
        exact go (decide_eq_false (fun z => q2 z.2.2))
    · rw [if_neg q1]
      exact go (decide_eq_false (fun z => q1 z.2.1))
theorem N_freshNumbered {U m : Nat} {σ : SG} {T : List Nat} {D : List Dc} {v : Int32} (hU : 4000 < U) (hg : GSc T D) (h : RS σ 1 T D) (hm : isM D m) : x_X12_freshNumbered U 1101 (nI (cnt (D.take m) 0)) v σ = some (fIx D 1 ((chF D m).find? (fun i => decide (nI (nmn D i) = v)))) := by
  have hl := hg.2.1
  have hcl := cnt_le D 2
  unfold x_X12_freshNumbered
  rw [pNb_find hg hm]
  exact N_freshNumbered_L hU hg h hm (cnt D 2) 0 U (by omega) (by omega) (fun i d _ _ z => by omega)
/-! the field at a place -/
theorem FQ_take {D : List Dc} {q k : Nat} {d : Dc} (hd : D[k]? = some d) : FQ (D.take (k + 1)) q = FQ (D.take k) q ++ (if dK d = q then [d] else []) := by
  rw [List.take_add_one, hd]
  unfold FQ
  have e : (some d).toList = [d] := rfl
  rw [e, List.filter_append, List.filter_cons]
  by_cases z : dK d = q
  · rw [if_pos (by have : d.1 = q := z; rw [this]; exact beq_self_eq_true q), if_pos z]; rfl
  · rw [if_neg (by intro y; exact z (eq_of_beq y)), if_neg z]; rfl
def pLs (m n : Nat) (d : Dc) : Bool := decide (dS d = some m ∧ (dN d).2 < n)
theorem chD_count {T : List Nat} {D : List Dc} (hg : GSc T D) {m n : Nat} (hm : isM D m) : ∀ k, k ≤ D.length → ((chD D k m).filter (fun j => decide (nmn D j < n))).length = (FQ (D.take k) 2).countP (pLs m n) := by
  intro k
  induction k with
  | zero => intro _; rw [chD, List.take_zero]; rfl
  | succ k ih =>
    intro hk
    have hd := List.getElem?_eq_getElem (show k < D.length by omega)
    rw [FQ_take hd, List.countP_append, ← ih (by omega), chD, hd]
    simp only
    by_cases q : dK D[k] = 2 ∧ dS D[k] = some m
    · rw [if_pos q, if_pos q.1]
      unfold insN
      have hs := List.takeWhile_append_dropWhile (p := fun i => decide (nLi D i < nLi D k)) (l := chD D k m)
      generalize (chD D k m).takeWhile (fun i => decide (nLi D i < nLi D k)) = A at *
      generalize (chD D k m).dropWhile (fun i => decide (nLi D i < nLi D k)) = B at *
      rw [← hs, List.filter_append, List.filter_append, List.length_append, List.length_append, List.filter_cons, nmn_some hd, List.countP_singleton]
      unfold pLs
      by_cases z : (dN D[k]).2 < n
      · rw [decide_eq_true z, if_pos rfl, decide_eq_true ⟨q.2, z⟩, if_pos rfl, List.length_cons]; omega
      · rw [decide_eq_false z, if_neg (by decide), decide_eq_false (fun y => z y.2), if_neg (by decide)]; omega
    · rw [if_neg q]
      by_cases q3 : dK D[k] = 3 ∧ dO D[k] = some m
      · exfalso
        obtain ⟨x, he, _, y, hy, hy1⟩ := hg.1.val hd q3.1
        rw [q3.2] at he
        cases he
        obtain ⟨z, hz, hz0⟩ := hm
        rw [hy] at hz
        cases hz
        omega
      · rw [if_neg q3]
        by_cases q2 : dK D[k] = 2
        · rw [if_pos q2, List.countP_singleton]
          unfold pLs
          rw [decide_eq_false (fun z => q ⟨q2, z.1⟩), if_neg (by decide)]; rfl
        · rw [if_neg q2]; rfl
theorem N_fieldAt_in {U s m : Nat} {σ : SG} {T : List Nat} {D : List Dc} {x : Int32} {K : Int32 → Option Int32} {i : Nat} {d : Dc} (hs : s < 2) (hg : GSc T D) (h : RS σ s T D) (hm : isM D m) (hd : D[i]? = some d) (h2 : dK d = 2) : ∀ (j g U1 : Nat), g + j = cnt D 2 → j < U1 →
    x_X12_fieldAt_L42 U 1101 K (nI s) (nI (cnt (D.take m) 0)) x (nI (60 * s + cnt (D.take i) 2)) σ U1 (nI (((FQ D 2).take g).countP (pLs m (dN d).2))) (nI (60 * s + g)) = K (nI ((FQ D 2).countP (pLs m (dN d).2))) := by
  have hl := hg.2.1
  obtain ⟨l0, l1, l2, l3, l4, l5⟩ := lim_of h.1
  have hc : sI σ 1106 s = nI (cnt D 2) := h.2.1 2 (by decide)
  have hic := cnt_take_lt hd h2
  have rd := (h.2.2 i d hd).2.2.1 h2
  have fd := hg.fld hd h2
  intro j
  induction j with
  | zero =>
    intro g U1 hgj hu
    obtain ⟨V, rfl⟩ : ∃ V, U1 = V + 1 := ⟨U1 - 1, by omega⟩
    rw [x_X12_fieldAt_L42, ix_in hs (by decide), hc, show (60 : Int32) = nI 60 from rfl, pk_mul, nI_add, if_neg (fun q => by have := (ltI (by omega) (by omega)).mp q; omega), List.take_of_length_le (by rw [FQ_len]; omega)]
  | succ j ih =>
    intro g U1 hgj hu
    obtain ⟨V, rfl⟩ : ∃ V, U1 = V + 1 := ⟨U1 - 1, by omega⟩
    obtain ⟨k, e, he, hk, hkg⟩ := plc (D := D) (q := 2) g (by omega)
    have row := (h.2.2 k e he).2.2.1 hk
    have hq := FQ_get he hk
    rw [hkg] at row hq
    have fe := hg.fld he hk
    have nx := ih (g + 1) V (by omega) (by omega)
    rw [List.take_add_one, hq, List.countP_append, show (some e).toList = [e] from rfl, List.countP_singleton] at nx
    rw [x_X12_fieldAt_L42, ix_in hs (by decide), hc, show (60 : Int32) = nI 60 from rfl, pk_mul, nI_add, if_pos ((ltI (by omega) (by omega)).mpr (by omega)), ix_in (by omega) (by decide), row.1, ifd (isM_oq hl hm (hg.1.scK he)), ix_in (by omega) (by decide), ix_in (by omega) (by decide), row.2.2.1, rd.2.2.1, ifd (ltI (by omega) (by omega))]
    unfold x_X12_fieldAt_89
    rw [nI_1, nI_1]
    by_cases q1 : dS e = some m
    · rw [if_pos q1]
      by_cases q2 : (dN e).2 < (dN d).2
      · rw [if_pos q2]
        unfold pLs at nx ⊢
        rw [decide_eq_true ⟨q1, q2⟩, if_pos rfl] at nx
        exact nx
      · rw [if_neg q2]
        unfold pLs at nx ⊢
        rw [decide_eq_false (fun z => q2 z.2), if_neg (by decide), Nat.add_zero] at nx
        exact nx
    · rw [if_neg q1]
      unfold pLs at nx ⊢
      rw [decide_eq_false (fun z => q1 z.1), if_neg (by decide), Nat.add_zero] at nx
      exact nx
/-- a field's rank -/
theorem rank {T : List Nat} {D : List Dc} (hg : GSc T D) {m i : Nat} {d : Dc} (hm : isM D m) (hd : isF D m i d) : ∃ k, (chF D m)[k]? = some i ∧ (FQ D 2).countP (pLs m (dN d).2) = k := by
  have hi := (chF_mem hg hm).mpr ⟨d, hd⟩
  obtain ⟨k, hk⟩ := List.getElem?_of_mem hi
  refine ⟨k, hk, ?_⟩
  have := srt_rank _ (chD_srt hg hm D.length) k i hk
  rw [nmn_some hd.1] at this
  have e := chD_count hg (n := (dN d).2) hm D.length (Nat.le_refl _)
  rw [List.take_length] at e
  rw [← e]
  exact this
theorem N_fieldAt_L {U s m : Nat} {σ : SG} {T : List Nat} {D : List Dc} {x : Int32} (hU : 4000 < U) (hs : s < 2) (hg : GSc T D) (h : RS σ s T D) (hm : isM D m) : ∀ (j g U1 : Nat), g + j = cnt D 2 → j < U1 → (∀ i d, isF D m i d → cnt (D.take i) 2 < g → mAt (chF D m) x ≠ some i) →
    x_X12_fieldAt_L6 U 1101 (nI s) (nI (cnt (D.take m) 0)) x σ U1 (nI (60 * s + g)) = some (fIx D s (mAt (chF D m) x)) := by
  have hl := hg.2.1
  obtain ⟨l0, l1, l2, l3, l4, l5⟩ := lim_of h.1
  have hc : sI σ 1106 s = nI (cnt D 2) := h.2.1 2 (by decide)
  have hch := chF_len (a := m) hl
  intro j
  induction j with
  | zero =>
    intro g U1 hgj hu hall
    obtain ⟨V, rfl⟩ : ∃ V, U1 = V + 1 := ⟨U1 - 1, by omega⟩
    rw [x_X12_fieldAt_L6, ix_in hs (by decide), hc, show (60 : Int32) = nI 60 from rfl, pk_mul, nI_add, if_neg (fun q => by have := (ltI (by omega) (by omega)).mp q; omega)]
    cases e : mAt (chF D m) x with
    | none => rfl
    | some i =>
      exfalso
      have hi : i ∈ chF D m := by
        unfold mAt at e
        split at e
        · cases e
        · exact List.mem_of_getElem? e
      obtain ⟨d, hd⟩ := (chF_mem hg hm).mp hi
      exact hall i d hd (by have := cnt_take_lt hd.1 hd.2.1; omega) e
  | succ j ih =>
    intro g U1 hgj hu hall
    obtain ⟨V, rfl⟩ : ∃ V, U1 = V + 1 := ⟨U1 - 1, by omega⟩
    obtain ⟨i, d, hd, hk, hi⟩ := plc (D := D) (q := 2) g (by omega)
    have row := (h.2.2 i d hd).2.2.1 hk
    rw [hi] at row
    rw [x_X12_fieldAt_L6, ix_in hs (by decide), hc, show (60 : Int32) = nI 60 from rfl, pk_mul, nI_add, if_pos ((ltI (by omega) (by omega)).mpr (by omega)), ix_in (by omega) (by decide), row.1, ifd (isM_oq hl hm (hg.1.scK hd))]
    unfold x_X12_fieldAt_104
    rw [nI_1]
    have go : (dS d = some m → mAt (chF D m) x ≠ some i) → x_X12_fieldAt_L6 U 1101 (nI s) (nI (cnt (D.take m) 0)) x σ V (nI (60 * s + g + 1)) = some (fIx D s (mAt (chF D m) x)) := by
      intro hp
      refine ih (g + 1) V (by omega) (by omega) (fun i' d' h2 h4 => ?_)
      by_cases z : cnt (D.take i') 2 = g
      · have := ord_inj h2.1 h2.2.1 hd hk (by omega)
        subst this
        have h21 := h2.1
        rw [hd] at h21
        cases h21
        exact hp h2.2.2
      · exact hall i' d' h2 (by omega)
    by_cases q1 : dS d = some m
    · rw [if_pos q1]
      have hin := N_fieldAt_in (U := U) (x := x) (K := fun w30 => if w30 = x then (some (nI (60 * s + g))) else (x_X12_fieldAt_L6 U 1101 (nI s) (nI (cnt (D.take m) 0)) x σ V (nI (60 * s + g + 1)))) hs hg h hm hd hk (cnt D 2) 0 U (by omega) (by omega)
      rw [List.take_zero, show List.countP (pLs m (dN d).2) [] = 0 from rfl, hi, show nI 0 = 0 from rfl, show 60 * s + 0 = 60 * s from rfl] at hin
      rw [hin]
      obtain ⟨k, r1, r2⟩ := rank hg hm ⟨hd, hk, q1⟩
      have hkl := (List.getElem?_eq_some_iff.mp r1).1
      rw [r2]
      by_cases q2 : nI k = x
      · rw [if_pos q2, ← q2]
        have : mAt (chF D m) (nI k) = some i := by unfold mAt; rw [if_neg (nI_neg (by omega)), nI_clamp (by omega), r1]
        rw [this]
        unfold fIx
        simp only
        rw [hi]
      · rw [if_neg q2]
        refine go (fun _ z => q2 ?_)
        unfold mAt at z
        split at z
        · cases z
        · next hx =>
          obtain ⟨k', hk', rfl⟩ := nI_of hx
          rw [nI_clamp hk'] at z
          have hk2 := (List.getElem?_eq_some_iff.mp z).1
          have nd := chD_nodup (D := D) (a := m) D.length
          have := (List.getElem?_inj hkl nd).mp (r1.trans z.symm)
          rw [this]
    · rw [if_neg q1]
      exact go (fun z => absurd z q1)
theorem N_fieldAt {U s m : Nat} {σ : SG} {T : List Nat} {D : List Dc} {x : Int32} (hU : 4000 < U) (hs : s < 2) (hg : GSc T D) (h : RS σ s T D) (hm : isM D m) : x_X12_fieldAt U 1101 (nI s) (nI (cnt (D.take m) 0)) x σ = some (fIx D s (mAt (chF D m) x)) := by
  have hl := hg.2.1
  have hcl := cnt_le D 2
  unfold x_X12_fieldAt
  rw [show (60 : Int32) = nI 60 from rfl, pk_mul]
  exact N_fieldAt_L hU hs hg h hm (cnt D 2) 0 U (by omega) (by omega) (fun i d _ z => by omega)
