/-! ===== names held against constants: the reference's isPlain, the class's codes ===== -/
def lcnt (w : Int64) : Nat → Nat → Nat
  | 0, n => n
  | j + 1, n => if lush w (8 * nI n) = 0 then n else lcnt w j (n + 1)
theorem X12_letters_L {U : Nat} {σ : SG} {w : Int64} : ∀ (j n U1 : Nat), n + j = 8 → j < U1 → x_X12_letters_L2 U w σ U1 (nI n) = some (nI (lcnt w j n)) := by
  intro j
  induction j with
  | zero =>
    intro n U1 hn hU
    obtain ⟨V, rfl⟩ : ∃ V, U1 = V + 1 := ⟨U1 - 1, by omega⟩
    obtain rfl : n = 8 := by omega
    rw [x_X12_letters_L2, if_neg (by decide)]; rfl
  | succ j ih =>
    intro n U1 hn hU
    obtain ⟨V, rfl⟩ : ∃ V, U1 = V + 1 := ⟨U1 - 1, by omega⟩
    have e8 : nI n < 8 := (ltI (b := 8) (by omega) (by decide)).mpr (by omega)
    rw [x_X12_letters_L2, if_pos e8, lcnt]
    by_cases q : lush w (8 * nI n) = 0
    · rw [if_pos q, if_pos q]
    · rw [if_neg q, if_neg q, nI_1, ih (n + 1) V (by omega) (by omega)]
theorem X12_letters {U : Nat} {σ : SG} {w : Int64} (hU : 4000 < U) : x_X12_letters U w σ = some (nI (lcnt w 8 0)) := X12_letters_L 8 0 U (by omega) (by omega)
def lch (w : Int64) (i : Nat) : Nat := lo8 (Int64.toInt32 (lush w (8 * ((nI (lcnt w 8 0) - 1) - nI i))))
theorem X12_letter {U i : Nat} {σ : SG} {w : Int64} (hU : 4000 < U) : x_X12_letter U w (nI i) σ = some (nI (lch w i)) := by
  unfold x_X12_letter; rw [X12_letters hU, b1_eq, and255]; rfl
/-- the bytes of a packed constant -/
def bw (w : Int64) : List Nat := (List.range (lcnt w 8 0)).map (lch w)
theorem bw_len (w : Int64) : (bw w).length = lcnt w 8 0 := by unfold bw; rw [List.length_map, List.length_range]
theorem bw_get {w : Int64} {i : Nat} (h : i < lcnt w 8 0) : (bw w)[i]? = some (lch w i) := by unfold bw; rw [List.getElem?_map, List.getElem?_range h]; rfl
theorem lcnt_le (w : Int64) : ∀ j n, n + j = 8 → lcnt w j n ≤ 8
  | 0, n, h => by rw [lcnt]; omega
  | j + 1, n, h => by
    rw [lcnt]
    split
    · omega
    · exact lcnt_le w j (n + 1) (by omega)
theorem slc_len {T : List Nat} {s e : Nat} (hse : s ≤ e) (he : e ≤ T.length) : (slc T s e).length = e - s := by unfold slc; rw [List.length_take, List.length_drop]; omega
theorem slc_get {T : List Nat} {s e i : Nat} (h : i < e - s) : (slc T s e)[i]? = T[s + i]? := by unfold slc; rw [List.getElem?_take_of_lt h, List.getElem?_drop]
theorem X12_isPlain_L {U s e : Nat} {σ : SG} {T : List Nat} {w : Int64} (hU : 4000 < U) (hT : RI σ 1102 T) (hok : ok8 T) (hl : T.length ≤ 700) (hse : s ≤ e) (he : e ≤ T.length) (hn : e - s = lcnt w 8 0) : ∀ (j p U1 : Nat), p + j = e → s ≤ p → j < U1 → (∀ i, i < p - s → (slc T s e)[i]? = (bw w)[i]?) →
    x_X12_isPlain_L15 U 1101 (nI s) (nI e) w σ U1 (nI p) = some (zI (decide (slc T s e = bw w))) := by
  intro j
  induction j with
  | zero =>
    intro p U1 hp hsp hU1 hpre
    obtain ⟨V, rfl⟩ : ∃ V, U1 = V + 1 := ⟨U1 - 1, by omega⟩
    have heq : slc T s e = bw w := by
      apply List.ext_getElem?
      intro i
      rcases Nat.lt_or_ge i (p - s) with q | q
      · exact hpre i q
      · rw [List.getElem?_eq_none (by rw [slc_len hse he]; omega), List.getElem?_eq_none (by rw [bw_len]; omega)]
    rw [x_X12_isPlain_L15, if_neg (fun q => by have := (ltI (by omega) (by omega)).mp q; omega), decide_eq_true heq]; rfl
  | succ j ih =>
    intro p U1 hp hsp hU1 hpre
    obtain ⟨V, rfl⟩ : ∃ V, U1 = V + 1 := ⟨U1 - 1, by omega⟩
    have hpl : p < T.length := by omega
    have e1 := List.getElem?_eq_getElem hpl
    have hc := hok _ (List.mem_of_getElem? e1)
    have hch := lo8_lt (Int64.toInt32 (lush w (8 * ((nI (lcnt w 8 0) - 1) - nI (p - s)))))
    rw [x_X12_isPlain_L15, if_pos ((ltI (by omega) (by omega)).mpr (by omega)), ix_in (by omega) (by decide), nI_sub hsp, X12_letter hU, b1_eq, hT p _ e1]
    have g1 : (slc T s e)[p - s]? = some T[p] := by rw [slc_get (by omega), show s + (p - s) = p by omega]; exact e1
    have g2 : (bw w)[p - s]? = some (lch w (p - s)) := bw_get (by omega)
    by_cases q : T[p] = lch w (p - s)
    · rw [if_pos (by rw [q]), nI_1]
      refine ih (p + 1) V (by omega) (by omega) (by omega) (fun i hi => ?_)
      rcases Nat.lt_or_ge i (p - s) with r | r
      · exact hpre i r
      · obtain rfl : i = p - s := by omega
        rw [g1, g2, q]
    · rw [if_neg (fun z => q ((nI_eq (by omega) (show lch w (p - s) < 2 ^ 31 by unfold lch; omega)).mp z)), decide_eq_false (fun z => q (by rw [z, g2] at g1; exact (Option.some.inj g1).symm))]; rfl
theorem X12_isPlain {U s e : Nat} {σ : SG} {T : List Nat} {w : Int64} (hU : 4000 < U) (hT : RI σ 1102 T) (hok : ok8 T) (hl : T.length ≤ 700) (hse : s ≤ e) (he : e ≤ T.length) : x_X12_isPlain U 1101 (nI s) (nI e) w σ = some (zI (decide (slc T s e = bw w))) := by
  have h8 := lcnt_le w 8 0 rfl
  unfold x_X12_isPlain
  rw [X12_letters hU, b1_eq, nI_sub hse]
  by_cases hn : e - s = lcnt w 8 0
  · rw [if_pos (by rw [hn])]
    exact X12_isPlain_L hU hT hok hl hse he hn (e - s) s U (by omega) (Nat.le_refl _) (by omega) (fun i hi => by omega)
  · rw [if_neg (fun z => hn ((nI_eq (by omega) (by omega)).mp z)), decide_eq_false (fun z => hn (by have := congrArg List.length z; rw [slc_len hse he, bw_len] at this; exact this))]; rfl
/-- the place of a list of bytes among words between blanks -/
def fi (S : List Nat) : List (List Nat) → Nat → Option Nat
  | [], _ => none
  | x :: r, i => if S = x then some i else fi S r (i + 1)
def jn : List (List Nat) → List Nat
  | [] => []
  | [x] => x
  | x :: y :: r => x ++ 32 :: jn (y :: r)
theorem wI_word {S : List Nat} {rest : List Nat} {i : Nat} : ∀ (x pre : List Nat) (m : Nat), (∀ c ∈ x, c ≠ 32) → pre.length = m → ∀ z : Bool, (z = true ↔ S.take m = pre ∧ m ≤ S.length) →
    ∃ z', wI S (x ++ rest) i m z = wI S rest i (m + x.length) z' ∧ (z' = true ↔ S.take (m + x.length) = pre ++ x ∧ m + x.length ≤ S.length) := by
  intro x
  induction x with
  | nil => intro pre m _ hp z hz; exact ⟨z, rfl, by simpa using hz⟩
  | cons c x ih =>
    intro pre m hx hp z hz
    rw [List.cons_append, wI, if_neg (hx c List.mem_cons_self)]
    have hz' : ((z && decide (S[m]? = some c)) = true ↔ S.take (m + 1) = pre ++ [c] ∧ m + 1 ≤ S.length) := by
      rw [Bool.and_eq_true, hz, decide_eq_true_iff]
      constructor
      · rintro ⟨⟨h1, h2⟩, h3⟩
        have h4 := (List.getElem?_eq_some_iff.mp h3)
        refine ⟨?_, by have := h4.1; omega⟩
        rw [List.take_succ_eq_append_getElem h4.1, h1, h4.2]
      · rintro ⟨h1, h2⟩
        have hlt : m < S.length := by omega
        rw [List.take_succ_eq_append_getElem hlt] at h1
        have h3 := List.append_inj h1 (by rw [List.length_take, hp]; omega)
        refine ⟨⟨h3.1, by omega⟩, ?_⟩
        rw [List.getElem?_eq_getElem hlt]
        exact congrArg some (List.cons.inj h3.2).1
    obtain ⟨z2, g1, g2⟩ := ih (pre ++ [c]) (m + 1) (fun d hd => hx d (List.mem_cons_of_mem _ hd)) (by simp [hp]) _ hz'
    refine ⟨z2, ?_, ?_⟩
    · rw [g1]; congr 1; simp; omega
    · rw [g2]; simp [List.append_assoc]; constructor <;> (rintro ⟨a, b⟩; exact ⟨by simpa [Nat.add_assoc, Nat.add_comm, Nat.add_left_comm] using a, by omega⟩)
theorem wI_fi {S : List Nat} : ∀ (L : List (List Nat)) (i : Nat), L ≠ [] → (∀ x ∈ L, ∀ c ∈ x, c ≠ 32) → wI S (jn L) i 0 true = fi S L i := by
  intro L
  induction L with
  | nil => intro i h; exact absurd rfl h
  | cons x r ih =>
    intro i _ hx
    have hxx := hx x List.mem_cons_self
    have eqv : ∀ z' : Bool, (z' = true ↔ S.take (0 + x.length) = [] ++ x ∧ 0 + x.length ≤ S.length) → ((z' = true ∧ 0 + x.length = S.length) ↔ S = x) := by
      intro z' hz
      rw [hz]
      constructor
      · rintro ⟨⟨h1, h2⟩, h3⟩; rw [Nat.zero_add] at h1 h3; rw [h3, List.take_length] at h1; exact h1
      · intro h; subst h; simp
    cases r with
    | nil =>
      obtain ⟨z', g1, g2⟩ := wI_word (S := S) (rest := []) (i := i) x [] 0 hxx rfl true (by simp)
      rw [List.append_nil] at g1
      show wI S x i 0 true = _
      rw [g1, wI, fi, fi]
      by_cases q : S = x
      · rw [if_pos ((eqv z' g2).mpr q), if_pos q]
      · rw [if_neg (fun h => q ((eqv z' g2).mp h)), if_neg q]
    | cons y r =>
      obtain ⟨z', g1, g2⟩ := wI_word (S := S) (rest := 32 :: jn (y :: r)) (i := i) x [] 0 hxx rfl true (by simp)
      show wI S (x ++ 32 :: jn (y :: r)) i 0 true = _
      rw [g1, wI, if_pos rfl, fi]
      by_cases q : S = x
      · rw [if_pos ((eqv z' g2).mpr q), if_pos q]
      · rw [if_neg (fun h => q ((eqv z' g2).mp h)), if_neg q]
        exact ih (i + 1) (by simp) (fun w hw => hx w (List.mem_cons_of_mem _ hw))
