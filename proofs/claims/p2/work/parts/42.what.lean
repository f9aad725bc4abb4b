/-! ===== what a word is, to both ===== -/
def tyW : List (List Nat) := [[105, 110, 116, 51, 50], [105, 110, 116, 54, 52], [117, 105, 110, 116, 51, 50], [117, 105, 110, 116, 54, 52], [115, 105, 110, 116, 51, 50], [115, 105, 110, 116, 54, 52], [102, 105, 120, 101, 100, 51, 50], [102, 105, 120, 101, 100, 54, 52], [115, 102, 105, 120, 101, 100, 51, 50], [115, 102, 105, 120, 101, 100, 54, 52], [98, 111, 111, 108], [115, 116, 114, 105, 110, 103], [98, 121, 116, 101, 115]]
def kwW : List (List Nat) := [[109, 101, 115, 115, 97, 103, 101], [101, 110, 117, 109], [111, 110, 101, 111, 102], [114, 101, 112, 101, 97, 116, 101, 100], [115, 121, 110, 116, 97, 120], [112, 97, 99, 107, 101, 100], [116, 114, 117, 101], [102, 97, 108, 115, 101], [112, 114, 111, 116, 111, 51]]
def fbW : List (List Nat) := [[105, 109, 112, 111, 114, 116], [112, 97, 99, 107, 97, 103, 101], [111, 112, 116, 105, 111, 110], [115, 101, 114, 118, 105, 99, 101], [101, 120, 116, 101, 110, 100], [109, 97, 112], [111, 112, 116, 105, 111, 110, 97, 108], [114, 101, 113, 117, 105, 114, 101, 100], [103, 114, 111, 117, 112], [101, 120, 116, 101, 110, 115, 105, 111, 110, 115], [114, 101, 115, 101, 114, 118, 101, 100], [114, 112, 99]]
theorem fi_get {S : List Nat} : ∀ (L : List (List Nat)) (i k : Nat), fi S L i = some k → i ≤ k ∧ L[k - i]? = some S := by
  intro L
  induction L with
  | nil => intro i k h; cases h
  | cons x r ih =>
    intro i k h
    rw [fi] at h
    by_cases q : S = x
    · rw [if_pos q] at h; cases h; exact ⟨Nat.le_refl _, by simp [q]⟩
    · rw [if_neg q] at h
      obtain ⟨h1, h2⟩ := ih (i + 1) k h
      refine ⟨by omega, ?_⟩
      rw [show k - i = (k - (i + 1)) + 1 by omega, List.getElem?_cons_succ]; exact h2
theorem fi_none {S : List Nat} : ∀ (L : List (List Nat)) (i : Nat), fi S L i = none → S ∉ L := by
  intro L
  induction L with
  | nil => intro i _; exact List.not_mem_nil
  | cons x r ih =>
    intro i h
    rw [fi] at h
    by_cases q : S = x
    · rw [if_pos q] at h; cases h
    · rw [if_neg q] at h
      exact fun hm => (List.mem_cons.mp hm).elim q (ih (i + 1) h)
theorem cdS_eq (S : List Nat) : cdS S = (match fi S tyW 0 with
  | some i => nI i
  | none => match fi S kwW 0 with
    | some i => nI (20 + i)
    | none => match fi S fbW 0 with
      | some _ => 40
      | none => -1) := by
  unfold cdS
  rw [show tby.getD 3 [] = jn tyW from by decide +kernel, show tby.getD 4 [] = jn kwW from by decide +kernel, show tby.getD 5 [] = jn fbW from by decide +kernel, wI_fi tyW 0 (by decide) (by decide +kernel), wI_fi kwW 0 (by decide) (by decide +kernel), wI_fi fbW 0 (by decide) (by decide +kernel)]
  rfl
theorem cdS_cases (S : List Nat) : (∃ k, k < 13 ∧ cdS S = nI k ∧ tyW[k]? = some S) ∨ (∃ k, k < 9 ∧ cdS S = nI (20 + k) ∧ kwW[k]? = some S) ∨ (cdS S = 40 ∧ S ∈ fbW) ∨ (cdS S = -1 ∧ S ∉ fbW) := by
  have e := cdS_eq S
  cases h1 : fi S tyW 0 with
  | some i =>
    have g := fi_get _ _ _ h1
    rw [Nat.sub_zero] at g
    rw [h1] at e
    exact Or.inl ⟨i, (List.getElem?_eq_some_iff.mp g.2).1, e, g.2⟩
  | none =>
    cases h2 : fi S kwW 0 with
    | some i =>
      have g := fi_get _ _ _ h2
      rw [Nat.sub_zero] at g
      rw [h1, h2] at e
      exact Or.inr (Or.inl ⟨i, (List.getElem?_eq_some_iff.mp g.2).1, e, g.2⟩)
    | none =>
      cases h3 : fi S fbW 0 with
      | some i =>
        have g := fi_get _ _ _ h3
        rw [h1, h2, h3] at e
        exact Or.inr (Or.inr (Or.inl ⟨e, List.mem_of_getElem? g.2⟩))
      | none =>
        rw [h1, h2, h3] at e
        exact Or.inr (Or.inr (Or.inr ⟨e, fi_none _ _ h3⟩))
theorem cd_ty {S : List Nat} {k : Nat} (hk : k < 13) : cdS S = nI k ↔ tyW[k]? = some S := by
  constructor
  · intro h
    rcases cdS_cases S with ⟨j, hj, e, g⟩ | ⟨j, hj, e, g⟩ | ⟨e, g⟩ | ⟨e, g⟩
    · rw [h, nI_eq (by omega) (by omega)] at e; rw [e]; exact g
    · rw [h, nI_eq (by omega) (by omega)] at e; omega
    · rw [h] at e; have := (nI_eq (a := k) (b := 40) (by omega) (by decide)).mp e; omega
    · rw [h] at e; exact absurd e.symm ((by decide +kernel : ∀ c, c < 256 → ¬ (-1 : Int32) = nI c) k (by omega))
  · intro h
    have := (by decide +kernel : ∀ k, k < 13 → cdS (tyW.getD k []) = nI k) k hk
    rw [List.getD_eq_getElem?_getD, h] at this; exact this
theorem cd_kw {S : List Nat} {k : Nat} (hk : k < 9) : cdS S = nI (20 + k) ↔ kwW[k]? = some S := by
  constructor
  · intro h
    rcases cdS_cases S with ⟨j, hj, e, g⟩ | ⟨j, hj, e, g⟩ | ⟨e, g⟩ | ⟨e, g⟩
    · rw [h, nI_eq (by omega) (by omega)] at e; omega
    · rw [h, nI_eq (by omega) (by omega)] at e; rw [show k = j by omega]; exact g
    · rw [h] at e; have := (nI_eq (a := 20 + k) (b := 40) (by omega) (by decide)).mp e; omega
    · rw [h] at e; exact absurd e.symm ((by decide +kernel : ∀ c, c < 256 → ¬ (-1 : Int32) = nI c) (20 + k) (by omega))
  · intro h
    have := (by decide +kernel : ∀ k, k < 9 → cdS (kwW.getD k []) = nI (20 + k)) k hk
    rw [List.getD_eq_getElem?_getD, h] at this; exact this
theorem cd_fb {S : List Nat} : cdS S = 40 ↔ S ∈ fbW := by
  constructor
  · intro h
    rcases cdS_cases S with ⟨j, hj, e, g⟩ | ⟨j, hj, e, g⟩ | ⟨e, g⟩ | ⟨e, g⟩
    · rw [h] at e; have := (nI_eq (a := 40) (b := j) (by decide) (by omega)).mp e; omega
    · rw [h] at e; have := (nI_eq (a := 40) (b := 20 + j) (by decide) (by omega)).mp e; omega
    · exact g
    · rw [h] at e; exact absurd e (by decide)
  · intro h
    exact (by decide +kernel : ∀ S ∈ fbW, cdS S = 40) S h
/-- a word of a text -/
def gw (T : List Nat) (x : Wd) : Prop := x.1 < 6 ∧ x.2.1 ≤ T.length ∧ (x.1 ≠ 0 → x.1 ≠ 5 → x.2.1 < x.2.2.1 ∧ x.2.2.1 ≤ T.length) ∧ (x.1 = 1 → x.2.2.2 = Int32.toInt64 (cdS (slc T x.2.1 x.2.2.1))) ∧ (x.1 = 3 → x.2.1 + 2 ≤ x.2.2.1 ∧ x.2.2.2 = Int32.toInt64 (cdS (slc T (x.2.1 + 1) (x.2.2.1 - 1)))) ∧ (x.1 = 4 → x.2.2.1 = x.2.1 + 1 ∧ ∃ c, T[x.2.1]? = some c ∧ x.2.2.2 = Int32.toInt64 (nI c)) ∧ (x.1 = 2 → ∃ n, n ≤ 2 ^ 40 ∧ x.2.2.2 = lN n)
theorem cf_le (b : Nat) : ∀ (L : List Nat) (A : Nat), A ≤ 2 ^ 40 → cf b A L ≤ 2 ^ 40
  | [], A, h => h
  | c :: L, A, h => cf_le b L _ (Nat.min_le_right _ _)
theorem gw_lx {T : List Nat} {p : Nat} {u : Bool} (hp : p ≤ T.length) : gw T (lx T p u) := by
  refine ⟨lx_kind T p u, by rw [lx_start]; exact hp, fun h0 h5 => by rw [lx_start]; exact ⟨(lx_end h0 h5).1, (lx_end h0 h5).2.1⟩, ?_⟩
  unfold lx
  cases e : T[p]? with
  | none => cases u <;> (refine ⟨fun h => ?_, fun h => ?_, fun h => ?_, fun h => ?_⟩ <;> simp at h)
  | some c =>
    simp only
    by_cases q1 : pL c = true
    · rw [if_pos q1]; exact ⟨fun _ => rfl, fun h => (by cases h), fun h => (by cases h), fun h => (by cases h)⟩
    · rw [if_neg q1]
      by_cases q2 : pD c = true
      · rw [if_pos q2]
        cases nok T p <;> exact ⟨fun h => (by cases h), fun h => (by cases h), fun h => (by cases h), fun _ => ⟨nvC T p, cf_le _ _ _ (Nat.zero_le _), rfl⟩⟩
      · rw [if_neg q2]
        by_cases q3 : c = 34
        · rw [if_pos q3]
          by_cases q4 : T[ten T p]? = some 34
          · rw [if_pos q4]; exact ⟨fun h => (by cases h), fun _ => ⟨by show p + 2 ≤ ten T p + 1; unfold ten; omega, rfl⟩, fun h => (by cases h), fun h => (by cases h)⟩
          · rw [if_neg q4]; exact ⟨fun h => (by cases h), fun h => (by cases h), fun h => (by cases h), fun h => (by cases h)⟩
        · rw [if_neg q3]; exact ⟨fun h => (by cases h), fun h => (by cases h), fun _ => ⟨rfl, c, e, rfl⟩, fun h => (by cases h)⟩
theorem gw_nw {T : List Nat} {p : Nat} (hp : p ≤ T.length) : gw T (nw T p) := gw_lx (bbS_le (T := T) (T.length + 1) p false (by omega) hp).1
/-- a name's code, -1 for what is no name -/
def cdX (x : Wd) : Int32 := if x.1 = 1 then Int64.toInt32 x.2.2.2 else -1
def sgX (T : List Nat) (x : Wd) (c : Nat) : Bool := decide (x.1 = 4 ∧ T[x.2.1]? = some c)
theorem toI (v : Int32) : Int64.toInt32 (Int32.toInt64 v) = v := Int32.toInt32_toInt64 v
theorem cdX_1 {T : List Nat} {x : Wd} (h : gw T x) (h1 : x.1 = 1) : cdX x = cdS (slc T x.2.1 x.2.2.1) := by unfold cdX; rw [if_pos h1, h.2.2.2.1 h1, toI]
theorem X12_isWord {U : Nat} {σ : SG} {T : List Nat} {x : Wd} {w : Int64} (hU : 4000 < U) (h : LR σ T) (hx : gw T x) (hc : CW σ x) : x_X12_isWord U 1101 w σ = some (zI (decide (x.1 = 1 ∧ slc T x.2.1 x.2.2.1 = bw w))) := by
  have h6 := hx.1
  unfold x_X12_isWord
  rw [hc.1]
  by_cases q : x.1 = 1
  · have hb := hx.2.2.1 (by omega) (by omega)
    rw [if_pos (by rw [q]; rfl), hc.2.1, (hc.2.2.1 (by omega) (by omega)).1, X12_isPlain hU h.2.1 h.2.2.2 h.2.2.1 (by omega) hb.2, b1_eq, ifz]
    by_cases r : slc T x.2.1 x.2.2.1 = bw w
    · rw [decide_eq_true r, decide_eq_true ⟨q, r⟩]; rfl
    · rw [decide_eq_false r, decide_eq_false (fun z => r z.2)]; rfl
  · rw [if_neg (show ¬ nI x.1 = 1 from fun z => q ((nI_eq (a := x.1) (b := 1) (by omega) (by decide)).mp z)), decide_eq_false (fun z => q z.1)]; rfl
theorem isW_kw {T : List Nat} {x : Wd} {w : Int64} {k : Nat} (hx : gw T x) (hk : k < 9) (hw : kwW[k]? = some (bw w)) : decide (x.1 = 1 ∧ slc T x.2.1 x.2.2.1 = bw w) = decide (cdX x = nI (20 + k)) := by
  apply decide_eq_decide.mpr
  constructor
  · rintro ⟨h1, h2⟩; rw [cdX_1 hx h1, cd_kw hk, h2]; exact hw
  · intro h
    by_cases q : x.1 = 1
    · refine ⟨q, ?_⟩
      rw [cdX_1 hx q, cd_kw hk, hw] at h
      exact (Option.some.inj h).symm
    · unfold cdX at h; rw [if_neg q] at h
      exact absurd h ((by decide +kernel : ∀ c, c < 256 → ¬ (-1 : Int32) = nI c) (20 + k) (by omega))
theorem isW_ty {T : List Nat} {x : Wd} {w : Int64} {k : Nat} (hx : gw T x) (hk : k < 13) (hw : tyW[k]? = some (bw w)) : decide (x.1 = 1 ∧ slc T x.2.1 x.2.2.1 = bw w) = decide (cdX x = nI k) := by
  apply decide_eq_decide.mpr
  constructor
  · rintro ⟨h1, h2⟩; rw [cdX_1 hx h1, cd_ty hk, h2]; exact hw
  · intro h
    by_cases q : x.1 = 1
    · refine ⟨q, ?_⟩
      rw [cdX_1 hx q, cd_ty hk, hw] at h
      exact (Option.some.inj h).symm
    · unfold cdX at h; rw [if_neg q] at h
      exact absurd h ((by decide +kernel : ∀ c, c < 256 → ¬ (-1 : Int32) = nI c) k (by omega))
theorem X12_isSign {σ : SG} {T : List Nat} {x : Wd} {c : Nat} (h : LR σ T) (hx : gw T x) (hc : CW σ x) (hc8 : c < 256) : x_X12_isSign 1101 (nI c) σ = some (zI (sgX T x c)) := by
  have h6 := hx.1
  have hl := h.2.2.1
  unfold x_X12_isSign sgX
  rw [hc.1]
  by_cases q : x.1 = 4
  · obtain ⟨e1, d, e2, e3⟩ := hx.2.2.2.2.2.1 q
    have hd := (List.getElem?_eq_some_iff.mp e2).1
    have hd8 := h.2.2.2 d (List.mem_of_getElem? e2)
    rw [if_pos (by rw [q]; rfl), hc.2.1, ix_in (by omega) (by decide), h.2.1 _ _ e2, e2]
    by_cases r : d = c
    · rw [if_pos (by rw [r]), decide_eq_true ⟨q, by rw [r]⟩]; rfl
    · rw [if_neg (fun z => r ((nI_eq (by omega) (by omega)).mp z)), decide_eq_false (fun z => r (Option.some.inj z.2))]; rfl
  · rw [if_neg (show ¬ nI x.1 = 4 from fun z => q ((nI_eq (a := x.1) (b := 4) (by omega) (by decide)).mp z)), decide_eq_false (fun z => q z.1)]; rfl
