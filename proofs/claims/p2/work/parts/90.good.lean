/-! ===== a good schema; asking the class ===== -/
def GSc (T : List Nat) (D : List Dc) : Prop := WF D ∧ D.length < 180 ∧ GD T (wl T 701 0) D ∧ lim D = true ∧ okA (lkC T D) T (wl T 701 0) D = true ∧ ok8 T ∧ T.length ≤ 700
theorem GSc_nil : GSc [] [] := ⟨WF_nil, by decide, fun i d hd => by simp at hd, by decide, okA_iff.mpr (fun k d hd => by simp at hd), fun c hc => by simp at hc, by decide⟩
theorem GSc_scm {T : List Nat} {D : List Dc} (h8 : ok8 T) (hl : T.length ≤ 700) (h : scm T = some D) : GSc T D := by
  unfold scm at h
  cases hdc : dcl T with
  | none => rw [hdc] at h; cases h
  | some E =>
    rw [hdc] at h
    simp only at h
    obtain ⟨hG, hW, hDl⟩ := dcl_GD h8 hl hdc
    cases q : (okA (lkC T E) T (wl T 701 0) E && lim E) with
    | false => rw [q] at h; cases h
    | true =>
      rw [q] at h
      cases h
      rw [Bool.and_eq_true] at q
      exact ⟨hW, hDl, hG, q.2, q.1, h8, hl⟩
theorem GSc.all {T : List Nat} {D : List Dc} (h : GSc T D) : (∀ (k : Nat) (d : Dc), D[k]? = some d → tkn T D k d = false) ∧ ((∀ (i : Nat) (d : Dc), D[i]? = some d → dK d = 2 → gdF D i d) ∧ ∀ (i : Nat) (d : Dc), D[i]? = some d → dK d = 3 → gdV D i d) ∧ ∀ (i : Nat) (d : Dc), D[i]? = some d → dK d = 2 → okT (lkC T D) T (wl T 701 0) D d = true ∧ okP (lkC T D) T (wl T 701 0) D d = true := (okA_split h.1 h.2.2.1).mp h.2.2.2.2.1
theorem GSc.N {T : List Nat} {D : List Dc} (h : GSc T D) : GNs T D := fun i d hd => (h.2.2.1 i d hd).1
theorem GSc.fld {T : List Nat} {D : List Dc} (h : GSc T D) {i : Nat} {d : Dc} (hd : D[i]? = some d) (h2 : dK d = 2) : (dN d).1 = false ∧ 1 ≤ (dN d).2 ∧ (dN d).2 ≤ 536870911 ∧ dT d ≤ 13 ∧ dP d ≤ 2 ∧ (dR d = true → dO d = none) := by
  have g := (h.2.2.1 i d hd).2.1
  have g2 := g.2.2.1 h2
  have hn := of_decide_eq_true ((h.all.2.1.1 i d hd h2).1)
  exact ⟨g2.1, hn.1, hn.2.1, g2.2.1, g.2.1, g.2.2.2.2⟩
/-- a declaration's number, without its sign -/
def nmn (D : List Dc) (i : Nat) : Nat := match D[i]? with
  | some d => (dN d).2
  | none => 0
theorem nmn_some {D : List Dc} {i : Nat} {d : Dc} (h : D[i]? = some d) : nmn D i = (dN d).2 := by unfold nmn; rw [h]
theorem GSc.nu {T : List Nat} {D : List Dc} (h : GSc T D) {i : Nat} {d : Dc} (hd : D[i]? = some d) (h2 : dK d = 2) : nLi D i = lN (nmn D i) ∧ nmn D i ≤ 536870911 ∧ 1 ≤ nmn D i := by
  have f := h.fld hd h2
  rw [nLi_some hd, nmn_some hd]
  refine ⟨?_, f.2.2.1, f.2.1⟩
  show nL (dN d) = _
  unfold nL
  rw [f.1]
  rfl
def chF (D : List Dc) (a : Nat) : List Nat := chD D D.length a
def isM (D : List Dc) (m : Nat) : Prop := ∃ d, D[m]? = some d ∧ dK d = 0
def isF (D : List Dc) (m i : Nat) (d : Dc) : Prop := D[i]? = some d ∧ dK d = 2 ∧ dS d = some m
theorem chD_msg {T : List Nat} {D : List Dc} (h : GSc T D) {m k i : Nat} (hm : isM D m) : i ∈ chD D k m ↔ i < k ∧ ∃ d, isF D m i d := by
  rw [chD_mem]
  constructor
  · rintro ⟨h1, d, h2, h3 | h3⟩
    · exact ⟨h1, d, h2, h3.1, h3.2⟩
    · exfalso
      obtain ⟨e, he, _, y, hy, hy1⟩ := h.1.val h2 h3.1
      rw [h3.2] at he
      cases he
      obtain ⟨z, hz, hz0⟩ := hm
      rw [hy] at hz
      cases hz
      omega
  · rintro ⟨h1, d, h2, h3, h4⟩
    exact ⟨h1, d, h2, Or.inl ⟨h3, h4⟩⟩
theorem chF_mem {T : List Nat} {D : List Dc} (h : GSc T D) {m i : Nat} (hm : isM D m) : i ∈ chF D m ↔ ∃ d, isF D m i d := by
  unfold chF
  rw [chD_msg h hm]
  exact ⟨fun z => z.2, fun ⟨d, z⟩ => ⟨(List.getElem?_eq_some_iff.mp z.1).1, d, z⟩⟩
/-- numbers tell the fields of a message apart -/
theorem num_inj {T : List Nat} {D : List Dc} (h : GSc T D) {m i j : Nat} {d e : Dc} (hd : isF D m i d) (he : isF D m j e) (hn : (dN d).2 = (dN e).2) : i = j := by
  rcases Nat.lt_trichotomy i j with z | z | z
  · exact absurd hn ((h.all.2.1.1 j e he.1 he.2.1).2 i d z hd.1 hd.2.1 (hd.2.2.trans he.2.2.symm))
  · exact z
  · exact absurd hn.symm ((h.all.2.1.1 i d hd.1 hd.2.1).2 j e z he.1 he.2.1 (he.2.2.trans hd.2.2.symm))
theorem insN_cons {D : List Dc} {k a : Nat} {L : List Nat} : insN D k (a :: L) = if nLi D a < nLi D k then a :: insN D k L else k :: a :: L := by
  unfold insN
  rw [List.takeWhile_cons, List.dropWhile_cons]
  by_cases q : nLi D a < nLi D k
  · rw [if_pos q, decide_eq_true q, if_pos rfl, if_pos rfl]; rfl
  · rw [if_neg q, decide_eq_false q, if_neg (by decide), if_neg (by decide)]; rfl
def srt (D : List Dc) (L : List Nat) : Prop := L.Pairwise (fun i j => nmn D i < nmn D j)
theorem insN_srt {D : List Dc} {k : Nat} (hk : nLi D k = lN (nmn D k)) (hkb : nmn D k ≤ 536870911) : ∀ (L : List Nat), srt D L → (∀ i ∈ L, nLi D i = lN (nmn D i) ∧ nmn D i ≤ 536870911 ∧ nmn D i ≠ nmn D k) → srt D (insN D k L) := by
  intro L
  induction L with
  | nil => intro _ _; exact List.pairwise_singleton _ _
  | cons a L ih =>
    intro hs ha
    obtain ⟨a1, a2, a3⟩ := ha a (List.mem_cons_self ..)
    obtain ⟨h1, h2⟩ := List.pairwise_cons.mp hs
    rw [insN_cons, a1, hk]
    have lt : lN (nmn D a) < lN (nmn D k) ↔ nmn D a < nmn D k := pk_lLT (by omega) (by omega)
    by_cases q : lN (nmn D a) < lN (nmn D k)
    · rw [if_pos q]
      refine List.pairwise_cons.mpr ⟨fun b hb => ?_, ih h2 (fun i hi => ha i (List.mem_cons_of_mem _ hi))⟩
      rcases mem_insN.mp hb with z | z
      · rw [z]; exact lt.mp q
      · exact h1 b z
    · rw [if_neg q]
      have hka : nmn D k < nmn D a := by
        have : ¬ nmn D a < nmn D k := fun z => q (lt.mpr z)
        omega
      refine List.pairwise_cons.mpr ⟨fun b hb => ?_, hs⟩
      rcases List.mem_cons.mp hb with z | z
      · rw [z]; exact hka
      · have := h1 b z; omega
theorem chD_srt {T : List Nat} {D : List Dc} (h : GSc T D) {m : Nat} (hm : isM D m) : ∀ k, srt D (chD D k m) := by
  intro k
  induction k with
  | zero => rw [chD]; exact List.Pairwise.nil
  | succ k ih =>
    rw [chD]
    cases e : D[k]? with
    | none => exact ih
    | some d =>
      simp only
      by_cases q : dK d = 2 ∧ dS d = some m
      · rw [if_pos q]
        have fk : isF D m k d := ⟨e, q.1, q.2⟩
        have hk := h.nu e q.1
        refine insN_srt hk.1 hk.2.1 _ ih (fun i hi => ?_)
        obtain ⟨hi1, x, hx⟩ := (chD_msg h hm).mp hi
        have hn := h.nu hx.1 hx.2.1
        refine ⟨hn.1, hn.2.1, fun z => ?_⟩
        rw [nmn_some hx.1, nmn_some e] at z
        have := num_inj h hx fk z
        omega
      · rw [if_neg q]
        by_cases q3 : dK d = 3 ∧ dO d = some m
        · exfalso
          obtain ⟨x, he, _, y, hy, hy1⟩ := h.1.val e q3.1
          rw [q3.2] at he
          cases he
          obtain ⟨z, hz, hz0⟩ := hm
          rw [hy] at hz
          cases hz
          omega
        · rw [if_neg q3]; exact ih
/-- how many of a sorted chain are below a number of it -/
theorem srt_rank {D : List Dc} : ∀ (L : List Nat), srt D L → ∀ k i, L[k]? = some i → (L.filter (fun j => decide (nmn D j < nmn D i))).length = k := by
  intro L
  induction L with
  | nil => intro _ k i h; simp at h
  | cons a L ih =>
    intro hs k i h
    obtain ⟨h1, h2⟩ := List.pairwise_cons.mp hs
    cases k with
    | zero =>
      simp at h
      subst h
      rw [List.filter_cons, if_neg (by rw [decide_eq_true_iff]; omega), List.filter_eq_nil_iff.mpr]
      · rfl
      · intro j hj
        rw [decide_eq_true_iff]
        have := h1 j hj
        omega
    | succ k =>
      have hi : L[k]? = some i := by simpa using h
      have := h1 i (List.mem_of_getElem? hi)
      rw [List.filter_cons, if_pos (decide_eq_true this), List.length_cons, ih h2 k i hi]
/-! asking the class -/
theorem CS.ch {σ : SG} {c : Nat} {T : List Nat} {D : List Dc} (h : CS σ c T D) {a : Nat} (ha : a < D.length) : LK σ c (chF D a) (sP σ (c + 5 + a) 15) := (h.2.2.1 a _ (List.getElem?_eq_getElem ha)).2.2
theorem CS.it {σ : SG} {c : Nat} {T : List Nat} {D : List Dc} (h : CS σ c T D) {i : Nat} {d : Dc} (hd : D[i]? = some d) : IS σ c (c + 5 + i) (cnt (D.take i) (dK d)) d ∧ sI σ (c + 5 + i) 8 = nI (dTy (lkC T D) T (wl T 701 0) D d) ∧ sP σ (c + 5 + i) 10 = ad c (dTg (lkC T D) T (wl T 701 0) D d) ∧ sI σ (c + 5 + i) 12 = zI (dPa (lkC T D) T (wl T 701 0) D d) := ⟨h.2.1.2.2 i d hd, (h.2.2.1 i d hd).2.1 (List.getElem?_eq_some_iff.mp hd).1⟩
theorem CS.lt {σ : SG} {c : Nat} {T : List Nat} {D : List Dc} (h : CS σ c T D) : D.length < 180 := h.2.1.2.1
theorem chF_len {D : List Dc} {a : Nat} (hl : D.length < 180) : (chF D a).length < 180 := by have := chD_len (D := D) (a := a) D.length; unfold chF; omega
theorem chF_lt {D : List Dc} {a i : Nat} (h : i ∈ chF D a) : i < D.length := (chD_lt h).2
theorem C_numbered {U c a : Nat} {σ : SG} {T : List Nat} {D : List Dc} {v : Int64} (hU : 4000 < U) (hcb : cb c) (h : CS σ c T D) (ha : a < D.length) : x_X3_memberNumbered U (c + 5 + a) v σ = some (ad c ((chF D a).find? (fun i => decide (nLi D i = v)))) :=
  X3_memberNumbered hU hcb h.2.1 (h.ch ha) (fun i hi => chF_lt hi) (by have := chF_len (a := a) h.lt; omega)
theorem X6_message_L {U c : Nat} {σ : SG} {T : List Nat} {D : List Dc} {x : Int32} (hcb : cb c) (h : CS σ c T D) (hW : WF D) : ∀ (j k U1 : Nat), k + j = D.length → j < U1 → x_X6_message_L2 U (c + 1) x σ U1 (nI k) = some (ad c (ff (fun i => decide (knd D i = 0 ∧ nI (cnt (D.take i) 0) = x)) ((List.range D.length).drop k) k)) := by
  have hl := h.lt
  have hJ := h.2.1
  intro j
  induction j with
  | zero =>
    intro k U1 hk hu
    obtain ⟨V, rfl⟩ : ∃ V, U1 = V + 1 := ⟨U1 - 1, by omega⟩
    rw [x_X6_message_L2, hJ.1, if_neg (fun q => by have := (ltI (by omega) (by omega)).mp q; omega), List.drop_eq_nil_of_le (by rw [List.length_range]; omega)]
    rfl
  | succ j ih =>
    intro k U1 hk hu
    obtain ⟨V, rfl⟩ : ∃ V, U1 = V + 1 := ⟨U1 - 1, by omega⟩
    have hkl : k < D.length := by omega
    have hd := List.getElem?_eq_getElem hkl
    have hI := hJ.2.2 k _ hd
    have hk5 := hW.k5 hd
    have hr := ih (k + 1) V (by omega) (by omega)
    have hrg : (List.range D.length)[k]? = some k := List.getElem?_range hkl
    rw [x_X6_message_L2, hJ.1, if_pos ((ltI (by omega) (by omega)).mpr hkl), X6_item hJ.1 hl hkl, b1_eq, if_neg (by intro z; cases z), ck_eq (it_sh hcb (by omega)), hI.1, hI.2.1, ff_drop hrg]
    unfold x_X6_message_37
    rw [nI_1]
    by_cases q0 : dK D[k] = 0
    · rw [if_pos (show nI (dK D[k]) = 0 by rw [q0]; rfl), q0]
      by_cases q1 : nI (cnt (D.take k) 0) = x
      · rw [if_pos q1, decide_eq_true ⟨by rw [knd_some hd, q0], q1⟩, if_pos rfl]; rfl
      · rw [if_neg q1, decide_eq_false (fun z => q1 z.2), if_neg (by decide)]; exact hr
    · rw [if_neg (show ¬ nI (dK D[k]) = 0 from fun z => q0 ((nI_eq (b := 0) (by omega) (by decide)).mp z)), decide_eq_false (fun z => q0 (by rw [← knd_some hd]; exact z.1)), if_neg (by decide)]; exact hr
/-- the message that a number tells -/
def msg (D : List Dc) (x : Int32) : Option Nat := ff (fun i => decide (knd D i = 0 ∧ nI (cnt (D.take i) 0) = x)) (List.range D.length) 0
theorem C_message {U c : Nat} {σ : SG} {T : List Nat} {D : List Dc} {x : Int32} (hU : 4000 < U) (hcb : cb c) (h : CS σ c T D) (hW : WF D) : x_X6_message U (c + 1) x σ = some (ad c (msg D x)) := by
  have hl := h.lt
  exact X6_message_L (U := U) (x := x) hcb h hW D.length 0 U (by omega) (by omega)
theorem msg_some {D : List Dc} {x : Int32} {m : Nat} (h : msg D x = some m) : isM D m ∧ x = nI (cnt (D.take m) 0) := by
  obtain ⟨i, a1, a2, _, _⟩ := ff_some _ _ _ h
  rw [Nat.sub_zero] at a1
  have hm := (List.getElem?_eq_some_iff.mp a1).1
  rw [List.length_range] at hm
  rw [List.getElem?_range hm] at a1
  cases a1
  have hz := of_decide_eq_true a2
  have hd := List.getElem?_eq_getElem hm
  rw [knd_some hd] at hz
  exact ⟨⟨_, hd, hz.1⟩, hz.2.symm⟩
theorem msg_none {D : List Dc} {x : Int32} (h : msg D x = none) : ∀ i d, D[i]? = some d → dK d = 0 → ¬ nI (cnt (D.take i) 0) = x := by
  intro i d hd h0 hx
  have hi := (List.getElem?_eq_some_iff.mp hd).1
  have := ff_none _ _ h i (List.mem_range.mpr hi)
  exact of_decide_eq_false this ⟨by rw [knd_some hd]; exact h0, hx⟩
/-- a number tells a message when it is one of theirs -/
theorem msg_iff {D : List Dc} {x : Int32} (hl : D.length < 180) : (msg D x).isSome = true ↔ ¬ x < 0 ∧ x < nI (cnt D 0) := by
  have hcl := cnt_le D 0
  cases e : msg D x with
  | some m =>
    obtain ⟨⟨d, hd, h0⟩, hx⟩ := msg_some e
    have hc := cnt_take_lt hd h0
    refine ⟨fun _ => ?_, fun _ => rfl⟩
    rw [hx]
    exact ⟨nI_neg (by omega), (ltI (by omega) (by omega)).mpr hc⟩
  | none =>
    refine ⟨fun z => (by cases z), fun z => ?_⟩
    exfalso
    obtain ⟨j, hj, rfl⟩ := nI_of z.1
    have hjc := (ltI hj (by omega)).mp z.2
    obtain ⟨i, d, hd, h0, hi⟩ := plc (D := D) (q := 0) j hjc
    exact msg_none e i d hd h0 (by rw [hi])
/-- the class's member at a place -/
theorem X3_memberAt_L {U c a : Nat} {σ : SG} {D : List Dc} {k : Nat} (hcb : cb c) (hl : D.length < 180) (hk : k < 2 ^ 31) : ∀ (L : List Nat) (p : Option Nat) (U1 j : Nat), LK σ c L p → (∀ i ∈ L, i < D.length) → L.length < U1 → j ≤ k → x_X3_memberAt_L15 U a (nI k) σ U1 p (nI j) = some (ad c (L[k - j]?)) := by
  intro L
  induction L with
  | nil =>
    intro p U1 j h _ hu hj
    obtain ⟨V, rfl⟩ : ∃ V, U1 = V + 1 := ⟨U1 - 1, by simp at hu; omega⟩
    rw [x_X3_memberAt_L15, show p = none from h]
    by_cases q : nI j < nI k
    · rw [if_pos q, if_pos rfl]; rfl
    · rw [if_neg q]; rfl
  | cons i L ih =>
    intro p U1 j h hb hu hj
    rw [List.length_cons] at hu
    obtain ⟨V, rfl⟩ : ∃ V, U1 = V + 1 := ⟨U1 - 1, by omega⟩
    have hi := hb i (List.mem_cons_self ..)
    obtain ⟨h1, h2⟩ := h
    rw [x_X3_memberAt_L15, h1, ifd (ltI (by omega) hk)]
    by_cases q : j < k
    · rw [if_pos q, if_neg (by intro z; cases z), ck_eq (it_sh hcb (by omega)), nI_1, ih _ V (j + 1) h2 (fun j hj => hb j (List.mem_cons_of_mem _ hj)) (by omega) (by omega), show k - j = (k - (j + 1)) + 1 by omega, List.getElem?_cons_succ]
    · rw [if_neg q, show k - j = 0 by omega]; rfl
/-- the member at a number's place -/
def mAt (L : List Nat) (x : Int32) : Option Nat := if x < 0 then none else L[x.toNatClampNeg]?
theorem C_memberAt {U c a : Nat} {σ : SG} {T : List Nat} {D : List Dc} {x : Int32} (hU : 4000 < U) (hcb : cb c) (h : CS σ c T D) (ha : a < D.length) : x_X3_memberAt U (c + 5 + a) x σ = some (ad c (mAt (chF D a) x)) := by
  have hl := h.lt
  have hch := chF_len (a := a) hl
  unfold x_X3_memberAt x_X3_memberAt_12 mAt
  by_cases q : x < 0
  · rw [if_pos q, if_pos q]
    obtain ⟨V, rfl⟩ : ∃ V, U = V + 1 := ⟨U - 1, by omega⟩
    rw [x_X3_memberAt_L15, if_neg (show ¬ (0 : Int32) < x from fun z => by
      have := Int32.lt_trans z q
      exact absurd this (by decide))]
    rfl
  · rw [if_neg q, if_neg q]
    obtain ⟨k, hk, rfl⟩ := nI_of q
    rw [nI_clamp hk]
    have := X3_memberAt_L (U := U) (a := c + 5 + a) hcb hl hk (chF D a) _ U 0 (h.ch ha) (fun i hi => chF_lt hi) (by omega) (Nat.zero_le _)
    exact this
