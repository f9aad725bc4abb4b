/-! ===== the reference resolves a type's name ===== -/
/-- the cells that the checks may change -/
def PT (b k : Nat) : Prop := (b = 1101 ∧ (k = 74 ∨ k = 75 ∨ k = 77)) ∨ b = 1139 ∨ b = 1141
theorem PT_c {σ τ : SG} (h : fP PT σ τ) {b k : Nat} (h1 : b ≠ 1101) (h2 : b ≠ 1139) (h3 : b ≠ 1141) : sI τ b k = sI σ b k := (h b k (by rintro (z | z | z) <;> omega)).1
theorem PT_o {σ τ : SG} (h : fP PT σ τ) {k : Nat} (h1 : k ≠ 74) (h2 : k ≠ 75) (h3 : k ≠ 77 := by decide) : sI τ 1101 k = sI σ 1101 k := (h 1101 k (by rintro (z | z | z) <;> omega)).1
theorem PT_q {σ τ : SG} (h : fq [74, 75] σ τ) : fP PT σ τ := fun b k hk => by
  by_cases hb : b = 1101
  · subst hb
    have h74 : k ∉ [74, 75] := fun z => hk (Or.inl ⟨rfl, by
      simp only [List.mem_cons, List.not_mem_nil, or_false] at z
      omega⟩)
    exact ⟨h.2.1 k h74, h.2.2.1 k (fun z => hk (Or.inl ⟨rfl, Or.inr (Or.inr z)⟩)), h.2.2.2 k⟩
  · exact h.1 b hb k
theorem LR_PT {σ τ : SG} {T : List Nat} (h : LR σ T) (hf : fP PT σ τ) : LR τ T := ⟨(PT_o hf (by decide) (by decide)).trans h.1, fun i c hi => (PT_c hf (by decide) (by decide) (by decide)).trans (h.2.1 i c hi), h.2.2⟩
def pK (q : Nat) (T : List Nat) (sc : Option Nat) (nm : List Nat) (d : Dc) : Bool := decide (dS d = sc ∧ dK d = q ∧ slc T (dA d) (dE d) = nm)
/-- the first message, else the first enum of a scope that is called so, as the reference looks -/
def lkR (T : List Nat) (D : List Dc) (sc : Option Nat) (nm : List Nat) : Option Nat := match ff (pK 0 T sc nm) D 0 with
  | some i => some i
  | none => ff (pK 1 T sc nm) D 0
def ordR (D : List Dc) (o : Option Nat) : Int32 := match o with
  | none => -1
  | some i => if knd D i = 0 then nI (cnt (D.take i) 0) else nI (1000 + cnt (D.take i) 1)
theorem knd_some {D : List Dc} {i : Nat} {d : Dc} (h : D[i]? = some d) : knd D i = dK d := by unfold knd; rw [h]
theorem lkR_k {T : List Nat} {D : List Dc} {sc : Option Nat} {nm : List Nat} {i : Nat} (h : lkR T D sc nm = some i) : ∃ d, D[i]? = some d ∧ dK d ≤ 1 ∧ dS d = sc ∧ slc T (dA d) (dE d) = nm := by
  unfold lkR at h
  cases e : ff (pK 0 T sc nm) D 0 with
  | some j =>
    rw [e] at h
    cases h
    obtain ⟨d, a1, a2, _, _⟩ := ff_some _ _ _ e
    have := of_decide_eq_true a2
    exact ⟨d, by simpa using a1, by omega, this.1, this.2.2⟩
  | none =>
    rw [e] at h
    obtain ⟨d, a1, a2, _, _⟩ := ff_some _ _ _ h
    have := of_decide_eq_true a2
    exact ⟨d, by simpa using a1, by omega, this.1, this.2.2⟩
/-- nothing is declared in an enum -/
theorem lkR_enum {T : List Nat} {D : List Dc} {e : Nat} {nm : List Nat} (hW : WF D) (he : ∃ y, D[e]? = some y ∧ dK y = 1) : lkR T D (some e) nm = none := by
  cases h : lkR T D (some e) nm with
  | none => rfl
  | some i =>
    exfalso
    obtain ⟨d, a1, a2, a3, _⟩ := lkR_k h
    obtain ⟨x, b1', b2'⟩ := hW.scK a1 e a3
    obtain ⟨y, c1, c2⟩ := he
    rw [c1] at b1'
    cases b1'
    omega
theorem lkR_eq {T : List Nat} {D : List Dc} (h : ∀ (k : Nat) (d : Dc), D[k]? = some d → tkn T D k d = false) : lkR T D = lkC T D := by
  have uni : ∀ (i j : Nat) (x y : Dc), D[i]? = some x → D[j]? = some y → clash T x y → i = j := by
    intro i j x y hx hy hc
    rcases Nat.lt_trichotomy i j with z | z | z
    · exact absurd ⟨hc.1.symm, hc.2.symm⟩ ((tkn_iff (Nat.le_of_lt (List.getElem?_eq_some_iff.mp hy).1)).mp (h j y hy) i x z hx)
    · exact z
    · exact absurd hc ((tkn_iff (Nat.le_of_lt (List.getElem?_eq_some_iff.mp hx).1)).mp (h i x hx) j y z hy)
  funext sc nm
  unfold lkR lkC
  have no : ∀ (i : Nat) (d : Dc), D[i]? = some d → dS d = sc → slc T (dA d) (dE d) = nm → ∀ (q : Nat), dK d ≠ q → ff (pK q T sc nm) D 0 = none := by
    intro i d hd h1 h2 q hq
    refine ff_no _ _ (fun x hx => ?_)
    obtain ⟨j, hj⟩ := List.getElem?_of_mem hx
    refine decide_eq_false (fun z => ?_)
    have := uni i j d x hd hj ⟨by rw [z.1, h1], by rw [z.2.2, h2]⟩
    subst this
    rw [hd] at hj
    cases hj
    exact hq z.2.1
  have yes : ∀ (i : Nat) (d : Dc), D[i]? = some d → dS d = sc → slc T (dA d) (dE d) = nm → ff (pK (dK d) T sc nm) D 0 = some i := by
    intro i d hd h1 h2
    have := ff_here (p := pK (dK d) T sc nm) D 0 i d hd (decide_eq_true ⟨h1, rfl, h2⟩) (fun j x hj hx => decide_eq_false (fun z => by
      have := uni i j d x hd hx ⟨by rw [z.1, h1], by rw [z.2.2, h2]⟩
      omega))
    rw [this, Nat.zero_add]
  cases e : ff (pC T sc nm) D 0 with
  | none =>
    have hn : ∀ q, q ≤ 1 → ff (pK q T sc nm) D 0 = none := fun q hq => ff_no _ _ (fun x hx => by
      have := ff_none _ _ e x hx
      exact decide_eq_false (fun z => by
        have := of_decide_eq_false this
        exact this ⟨z.1, by omega, z.2.2⟩))
    rw [hn 0 (by decide)]
    exact hn 1 (by decide)
  | some i =>
    obtain ⟨d, a1, a2, _, _⟩ := ff_some _ _ _ e
    rw [Nat.sub_zero] at a1
    have hz := of_decide_eq_true a2
    by_cases q : dK d = 0
    · have := yes i d a1 hz.1 hz.2.2
      rw [q] at this
      rw [this]
    · have := yes i d a1 hz.1 hz.2.2
      rw [show dK d = 1 by omega] at this
      rw [no i d a1 hz.1 hz.2.2 0 q, this]
theorem ordR_none {D : List Dc} {o : Option Nat} (hl : D.length < 180) : ordR D o = -1 ↔ o = none := by
  cases o with
  | none => exact ⟨fun _ => rfl, fun _ => rfl⟩
  | some i =>
    refine ⟨fun z => ?_, fun z => by cases z⟩
    exfalso
    have c0 := cnt_take_le D i 0
    have c1 := cnt_take_le D i 1
    have l0 := cnt_le D 0
    have l1 := cnt_le D 1
    have hb : ∀ n, n < 2 ^ 31 → ¬ nI n = -1 := fun n hn y => nI_neg hn (by rw [y]; decide)
    unfold ordR at z
    simp only at z
    split at z
    · exact hb _ (by omega) z
    · exact hb _ (by omega) z
/-- a part of a type's name, as the reference holds it -/
def PA (σ : SG) (T : List Nat) (q : Nat) (nm : List Nat) : Prop := q < 400 ∧ ∃ s n, sI σ 1154 q = nI s ∧ sI σ 1155 q = nI n ∧ s + n ≤ T.length ∧ slc T s (s + n) = nm
theorem N_inS_1 {U q : Nat} {sc : Option Nat} {nm : List Nat} {T : List Nat} {Ws : List Wd} {D : List Dc} {p : Nat} {σ0 σ : SG} (hU : 4000 < U) (hW : WF D) (hN : GNs T D) (hl : D.length < 180) (h1 : cnt D 1 ≤ 100) (hM : RM σ0 T Ws D p) (hf : fP PT σ0 σ) (hL : LR σ T) (hsc : ∀ m, sc = some m → KM D m) (hq : PA σ T q nm) : ∀ (j m U1 : Nat), m + j = cnt D 1 → j < U1 → (∀ i d, D[i]? = some d → dK d = 1 → cnt (D.take i) 1 < m → pK 1 T sc nm d = false) →
    x_X12_inScope_L61 U 1101 (oq D 0 sc) (nI q) σ U1 (nI m) = some (ordR D (ff (pK 1 T sc nm) D 0)) := by
  have h33 : sI σ 1101 33 = nI (cnt D 1) := (PT_o hf (by decide) (by decide)).trans (hM.1 1 (by decide))
  intro j
  induction j with
  | zero =>
    intro m U1 hm hu hall
    obtain ⟨V, rfl⟩ : ∃ V, U1 = V + 1 := ⟨U1 - 1, by omega⟩
    rw [x_X12_inScope_L61, h33, if_neg (fun z => by have := (ltI (by omega) (by omega)).mp z; omega), ff_no]
    · rfl
    · intro x hx
      obtain ⟨i, hi⟩ := List.getElem?_of_mem hx
      by_cases z : dK x = 1
      · exact hall i x hi z (by have := cnt_take_lt hi z; omega)
      · exact decide_eq_false (fun y => z y.2.1)
  | succ j ih =>
    intro m U1 hm hu hall
    obtain ⟨V, rfl⟩ : ∃ V, U1 = V + 1 := ⟨U1 - 1, by omega⟩
    obtain ⟨i, d, hd, hk, hi⟩ := plc (D := D) (q := 1) m (by omega)
    have row := (hM.2.2.2 i d hd).2.2.1 hk
    rw [hi] at row
    have gd := hN i d hd
    obtain ⟨hq4, s, n, s1, s2, s3, s4⟩ := hq
    have hTl := hL.2.2.1
    rw [x_X12_inScope_L61, h33, if_pos ((ltI (by omega) (by omega)).mpr (by omega)), ix_in (by omega) (by decide), PT_c hf (by decide) (by decide) (by decide), row.1, ifd (oq_inj hl (hW.scK hd) hsc)]
    unfold x_X12_inScope_116
    rw [nI_1]
    have go : pK 1 T sc nm d = false → x_X12_inScope_L61 U 1101 (oq D 0 sc) (nI q) σ V (nI (m + 1)) = some (ordR D (ff (pK 1 T sc nm) D 0)) := by
      intro hp
      refine ih (m + 1) V (by omega) (by omega) (fun i' d' h2 h3 h4 => ?_)
      by_cases z : cnt (D.take i') 1 = m
      · have := ord_inj h2 h3 hd hk (by omega)
        subst this
        rw [hd] at h2
        cases h2
        exact hp
      · exact hall i' d' h2 h3 (by omega)
    by_cases q1 : dS d = sc
    · rw [if_pos q1, ix_in hq4 (by decide), ix_in hq4 (by decide), ix_in (by omega) (by decide), ix_in (by omega) (by decide), s1, s2, PT_c hf (by decide) (by decide) (by decide), PT_c hf (by decide) (by decide) (by decide), row.2.1, row.2.2, N_sameText hU hL s3 (by have := gd.1; have := gd.2.1; omega), b1_eq, ifz, show dA d + (dE d - dA d) = dE d by have := gd.1; omega, s4]
      by_cases q2 : nm = slc T (dA d) (dE d)
      · rw [decide_eq_true q2, if_pos rfl]
        have hff := ff_here (p := pK 1 T sc nm) D 0 i d hd (decide_eq_true ⟨q1, hk, q2.symm⟩) (fun j' x hj' hx => by
          by_cases z : dK x = 1
          · exact hall j' x hx z (by have := cnt_lt_of hx z hj'; omega)
          · exact decide_eq_false (fun y => z y.2.1))
        rw [hff, Nat.zero_add]
        unfold ordR
        simp only
        rw [knd_some hd, hk, if_neg (by decide), show (1000 : Int32) = nI 1000 from rfl, nI_add, hi]
      · rw [decide_eq_false q2, if_neg (by decide)]
        exact go (decide_eq_false (fun z => q2 z.2.2.symm))
    · rw [if_neg q1]
      exact go (decide_eq_false (fun z => q1 z.1))
theorem N_inS_0 {U q : Nat} {sc : Option Nat} {nm : List Nat} {T : List Nat} {Ws : List Wd} {D : List Dc} {p : Nat} {σ0 σ : SG} {K : Option Int32} (hU : 4000 < U) (hW : WF D) (hN : GNs T D) (hl : D.length < 180) (h0 : cnt D 0 ≤ 100) (hM : RM σ0 T Ws D p) (hf : fP PT σ0 σ) (hL : LR σ T) (hsc : ∀ m, sc = some m → KM D m) (hq : PA σ T q nm) : ∀ (j m U1 : Nat), m + j = cnt D 0 → j < U1 → (∀ i d, D[i]? = some d → dK d = 0 → cnt (D.take i) 0 < m → pK 0 T sc nm d = false) →
    x_X12_inScope_L2 U 1101 K (oq D 0 sc) (nI q) σ U1 (nI m) = match ff (pK 0 T sc nm) D 0 with | some i => some (ordR D (some i)) | none => K := by
  have h32 : sI σ 1101 32 = nI (cnt D 0) := (PT_o hf (by decide) (by decide)).trans (hM.1 0 (by decide))
  intro j
  induction j with
  | zero =>
    intro m U1 hm hu hall
    obtain ⟨V, rfl⟩ : ∃ V, U1 = V + 1 := ⟨U1 - 1, by omega⟩
    rw [x_X12_inScope_L2, h32, if_neg (fun z => by have := (ltI (by omega) (by omega)).mp z; omega), ff_no]
    intro x hx
    obtain ⟨i, hi⟩ := List.getElem?_of_mem hx
    by_cases z : dK x = 0
    · exact hall i x hi z (by have := cnt_take_lt hi z; omega)
    · exact decide_eq_false (fun y => z y.2.1)
  | succ j ih =>
    intro m U1 hm hu hall
    obtain ⟨V, rfl⟩ : ∃ V, U1 = V + 1 := ⟨U1 - 1, by omega⟩
    obtain ⟨i, d, hd, hk, hi⟩ := plc (D := D) (q := 0) m (by omega)
    have row := (hM.2.2.2 i d hd).2.1 hk
    rw [hi] at row
    have gd := hN i d hd
    obtain ⟨hq4, s, n, s1, s2, s3, s4⟩ := hq
    have hTl := hL.2.2.1
    rw [x_X12_inScope_L2, h32, if_pos ((ltI (by omega) (by omega)).mpr (by omega)), ix_in (by omega) (by decide), PT_c hf (by decide) (by decide) (by decide), row.1, ifd (oq_inj hl (hW.scK hd) hsc)]
    unfold x_X12_inScope_53
    rw [nI_1]
    have go : pK 0 T sc nm d = false → x_X12_inScope_L2 U 1101 K (oq D 0 sc) (nI q) σ V (nI (m + 1)) = match ff (pK 0 T sc nm) D 0 with | some i => some (ordR D (some i)) | none => K := by
      intro hp
      refine ih (m + 1) V (by omega) (by omega) (fun i' d' h2 h3 h4 => ?_)
      by_cases z : cnt (D.take i') 0 = m
      · have := ord_inj h2 h3 hd hk (by omega)
        subst this
        rw [hd] at h2
        cases h2
        exact hp
      · exact hall i' d' h2 h3 (by omega)
    by_cases q1 : dS d = sc
    · rw [if_pos q1, ix_in hq4 (by decide), ix_in hq4 (by decide), ix_in (by omega) (by decide), ix_in (by omega) (by decide), s1, s2, PT_c hf (by decide) (by decide) (by decide), PT_c hf (by decide) (by decide) (by decide), row.2.1, row.2.2, N_sameText hU hL s3 (by have := gd.1; have := gd.2.1; omega), b1_eq, ifz, show dA d + (dE d - dA d) = dE d by have := gd.1; omega, s4]
      by_cases q2 : nm = slc T (dA d) (dE d)
      · rw [decide_eq_true q2, if_pos rfl]
        have hff := ff_here (p := pK 0 T sc nm) D 0 i d hd (decide_eq_true ⟨q1, hk, q2.symm⟩) (fun j' x hj' hx => by
          by_cases z : dK x = 0
          · exact hall j' x hx z (by have := cnt_lt_of hx z hj'; omega)
          · exact decide_eq_false (fun y => z y.2.1))
        rw [hff, Nat.zero_add]
        unfold ordR
        simp only
        rw [knd_some hd, hk, if_pos rfl, hi]
      · rw [decide_eq_false q2, if_neg (by decide)]
        exact go (decide_eq_false (fun z => q2 z.2.2.symm))
    · rw [if_neg q1]
      exact go (decide_eq_false (fun z => q1 z.1))
theorem N_inScope {U q : Nat} {sc : Option Nat} {nm : List Nat} {T : List Nat} {Ws : List Wd} {D : List Dc} {p : Nat} {σ0 σ : SG} (hU : 4000 < U) (hW : WF D) (hN : GNs T D) (hl : D.length < 180) (h0 : cnt D 0 ≤ 100) (h1 : cnt D 1 ≤ 100) (hM : RM σ0 T Ws D p) (hf : fP PT σ0 σ) (hL : LR σ T) (hsc : ∀ m, sc = some m → KM D m) (hq : PA σ T q nm) :
    x_X12_inScope U 1101 (oq D 0 sc) (nI q) σ = some (ordR D (lkR T D sc nm)) := by
  unfold x_X12_inScope
  have e1 := N_inS_1 (U := U) hU hW hN hl h1 hM hf hL hsc hq (cnt D 1) 0 U (by omega) (by omega) (fun i d _ _ z => by omega)
  have e1' : x_X12_inScope_L61 U 1101 (oq D 0 sc) (nI q) σ U 0 = some (ordR D (ff (pK 1 T sc nm) D 0)) := e1
  have e0 := N_inS_0 (U := U) (K := some (ordR D (ff (pK 1 T sc nm) D 0))) hU hW hN hl h0 hM hf hL hsc hq (cnt D 0) 0 U (by omega) (by omega) (fun i d _ _ z => by omega)
  have e0' : x_X12_inScope_L2 U 1101 (some (ordR D (ff (pK 1 T sc nm) D 0))) (oq D 0 sc) (nI q) σ U 0 = _ := e0
  rw [e1', e0']
  unfold lkR
  cases ff (pK 0 T sc nm) D 0 <;> rfl
theorem oq_neg {D : List Dc} {q : Nat} {o : Option Nat} (hl : D.length < 180) : oq D q o = -1 ↔ o = none := by
  cases o with
  | none => exact ⟨fun _ => rfl, fun _ => rfl⟩
  | some i =>
    refine ⟨fun z => ?_, fun z => by cases z⟩
    exfalso
    have c0 := cnt_take_le D i q
    have l0 := cnt_le D q
    exact nI_neg (a := cnt (D.take i) q) (by omega) (by rw [show nI (cnt (D.take i) q) = -1 from z]; decide)
theorem N_res_U {U f q : Nat} {nm : List Nat} {T : List Nat} {Ws : List Wd} {D : List Dc} {p : Nat} {σ0 σ : SG} {K : Int32 → Option SG} (hU : 4000 < U) (hW : WF D) (hN : GNs T D) (hl : D.length < 180) (h0 : cnt D 0 ≤ 100) (h1 : cnt D 1 ≤ 100) (hM : RM σ0 T Ws D p) (hf : fP PT σ0 σ) (hL : LR σ T) (hq : PA σ T q nm) (hfl : f < 200) (h43 : sI σ 1143 f = nI q) : ∀ (n U1 : Nat) (sc : Option Nat), (∀ m, sc = some m → m + 1 < n ∧ KM D m) → 0 < n → n < U1 →
    x_X12_resolve_L32 U 1101 K (nI f) σ U1 (oq D 0 sc) (ordR D (lkR T D sc nm)) = K (ordR D (rsU (lkR T D) D nm n sc)) := by
  intro n
  induction n with
  | zero => intro U1 sc _ h; omega
  | succ n ih =>
    intro U1 sc hsc _ hu
    obtain ⟨V, rfl⟩ : ∃ V, U1 = V + 1 := ⟨U1 - 1, by omega⟩
    rw [x_X12_resolve_L32]
    cases sc with
    | none =>
      rw [rsU, if_pos (show oq D 0 none = -1 from rfl)]
      split <;> rfl
    | some m =>
      rw [rsU]
      cases e : lkR T D (some m) nm with
      | some t => rw [if_neg (fun z => by have := (ordR_none hl).mp z; cases this)]
      | none =>
        obtain ⟨hm1, d, hd, hk⟩ := hsc m rfl
        have row := (hM.2.2.2 m d hd).2.1 hk
        have hc := cnt_take_lt hd hk
        have sd : ∀ j, dS d = some j → j + 1 < n ∧ KM D j := fun j hj => by
          have := hW.sco hd j hj
          exact ⟨by omega, this.2⟩
        rw [if_pos (show ordR D none = -1 from rfl), if_neg (fun z => by have := (oq_neg hl).mp z; cases this), show oq D 0 (some m) = nI (cnt (D.take m) 0) from rfl, ix_in (by omega) (by decide), ix_in hfl (by decide), PT_c hf (by decide) (by decide) (by decide), row.1, h43, N_inScope hU hW hN hl h0 h1 hM hf hL (fun j hj => (sd j hj).2) hq, b1_eq]
        have es : scp D (some m) = dS d := by unfold scp; simp only; rw [hd]
        rw [es]
        exact ih V (dS d) sd (by omega) (by omega)
theorem sTN_gt {T : List Nat} {Ws : List Wd} : ∀ (n k k' : Nat), sTN T Ws n k = some k' → k < k' := by
  intro n
  induction n with
  | zero => intro k k' h; cases h
  | succ n ih =>
    intro k k' h
    rw [sTN] at h
    split at h
    · split at h
      · have := ih _ _ h; omega
      · cases h; omega
    · cases h
theorem N_res_N {U f q0 k m : Nat} {T : List Nat} {Ws : List Wd} {D : List Dc} {p : Nat} {σ0 σ : SG} {K : Int32 → Option SG} (hU : 4000 < U) (hS : WS T Ws) (hW : WF D) (hN : GNs T D) (hl : D.length < 180) (h0 : cnt D 0 ≤ 100) (h1 : cnt D 1 ≤ 100) (hM : RM σ0 T Ws D p) (hf : fP PT σ0 σ) (hL : LR σ T) (hfl : f < 200) (h43 : sI σ 1143 f = nI q0) (h44 : sI σ 1144 f = nI m) (hqm : q0 + m ≤ 350) (hP : PTs σ Ws q0 k m) : ∀ (n t U1 k' : Nat) (o : Option Nat), 1 ≤ t → t ≤ m → sTN T Ws n (k + 2 * (t - 1)) = some k' → k' + 1 = k + 2 * m → n < U1 → (∀ i, o = some i → ∃ d, D[i]? = some d ∧ dK d ≤ 1) →
    x_X12_resolve_L67 U 1101 K (nI f) σ U1 (ordR D o) (nI t) = K (ordR D (rsN (lkR T D) T Ws n (k + 2 * (t - 1)) o)) := by
  intro n
  induction n with
  | zero => intro t U1 k' o _ _ h; cases h
  | succ n ih =>
    intro t U1 k' o ht htm h hk' hu ho
    obtain ⟨V, rfl⟩ : ∃ V, U1 = V + 1 := ⟨U1 - 1, by omega⟩
    obtain ⟨n', x, hn', hx, hx1, hnx⟩ := sTN_1 h
    cases hn'
    rw [x_X12_resolve_L67, ix_in hfl (by decide), h44]
    by_cases q : sS T Ws 46 (k + 2 * (t - 1) + 1) = true
    · have hr := hnx q
      have hgt := sTN_gt _ _ _ hr
      have htm' : t < m := by omega
      rw [if_pos ((ltI (by omega) (by omega)).mpr htm')]
      cases o with
      | none => rw [if_pos (show ordR D none = -1 from rfl), rsN]
      | some i =>
        obtain ⟨d, hd, hdk⟩ := ho i rfl
        rw [rsN, if_pos q, if_neg (fun z => by have := (ordR_none hl).mp z; cases this)]
        have e2 : k + 2 * (t - 1) + 2 = k + 2 * (t + 1 - 1) := by omega
        rw [e2] at hr ⊢
        obtain ⟨y, hy, y1, y2⟩ := hP t htm'
        have hyy : Ws[k + 2 * (t + 1 - 1)]? = some y := by rw [show t + 1 - 1 = t by omega]; exact hy
        obtain ⟨_, y', _, hy', hy1, _⟩ := sTN_1 hr
        rw [hyy] at hy'
        cases hy'
        have gy := (hS.G.2 _ _ hyy).2.2.1 (by rw [hy1]; decide) (by rw [hy1]; decide)
        have hA : PA σ T (q0 + t) (wnm T Ws (k + 2 * (t + 1 - 1))) := by
          refine ⟨by omega, y.2.1, y.2.2.1 - y.2.1, y1, y2, by omega, ?_⟩
          unfold wnm
          rw [hyy]
          simp only
          rw [show y.2.1 + (y.2.2.1 - y.2.1) = y.2.2.1 by omega]
        have lk1 : ∀ j, lkR T D (some i) (wnm T Ws (k + 2 * (t + 1 - 1))) = some j → ∃ d, D[j]? = some d ∧ dK d ≤ 1 := fun j hj => by
          obtain ⟨d', a1, a2, _⟩ := lkR_k hj
          exact ⟨d', a1, a2⟩
        have c0 := cnt_take_le D i 0
        have l0 := cnt_le D 0
        have c1 := cnt_take_le D i 1
        by_cases q0' : dK d = 0
        · have eo : ordR D (some i) = oq D 0 (some i) := by unfold ordR oq; simp only; rw [knd_some hd, if_pos q0']
          rw [if_pos (show ordR D (some i) < 1000 by rw [eo]; exact (ltI (b := 1000) (by omega) (by decide)).mpr (by omega)), ix_in hfl (by decide), h43, nI_add, eo, N_inScope hU hW hN hl h0 h1 hM hf hL (fun j hj => by cases hj; exact ⟨d, hd, q0'⟩) hA, b1_eq]
          unfold x_X12_resolve_108
          rw [nI_1]
          exact ih (t + 1) V k' _ (by omega) (by omega) hr hk' (by omega) lk1
        · have eo : ordR D (some i) = nI (1000 + cnt (D.take i) 1) := by unfold ordR; simp only; rw [knd_some hd, if_neg q0']
          rw [if_neg (show ¬ ordR D (some i) < 1000 from fun z => by rw [eo] at z; have := (ltI (b := 1000) (by omega) (by decide)).mp z; omega), lkR_enum hW ⟨d, hd, by omega⟩]
          unfold x_X12_resolve_108
          rw [nI_1]
          exact ih (t + 1) V k' none (by omega) (by omega) hr hk' (by omega) (fun j hj => by cases hj)
    · have hk1 : k' = k + 2 * (t - 1) + 1 := by
        rw [sTN] at h
        have : sK Ws (k + 2 * (t - 1)) = 1 := by rw [sK_some hx]; exact hx1
        rw [if_pos this, if_neg q] at h
        exact (Option.some.inj h).symm
      rw [if_neg (fun z => by have := (ltI (by omega) (by omega)).mp z; omega)]
      cases o with
      | none => rw [rsN]
      | some i => rw [rsN, if_neg q]
