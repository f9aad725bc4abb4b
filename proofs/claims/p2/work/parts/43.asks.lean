/-! ===== the reference's questions about the current word; the class's ===== -/
theorem isW_fb {T : List Nat} {x : Wd} (hx : gw T x) : decide (x.1 = 1 ∧ slc T x.2.1 x.2.2.1 ∈ fbW) = decide (cdX x = 40) := by
  apply decide_eq_decide.mpr
  constructor
  · rintro ⟨h1, h2⟩; rw [cdX_1 hx h1, cd_fb]; exact h2
  · intro h
    by_cases q : x.1 = 1
    · exact ⟨q, by rw [cdX_1 hx q, cd_fb] at h; exact h⟩
    · unfold cdX at h; rw [if_neg q] at h; exact absurd h (by decide)
theorem slc_app {T : List Nat} {s m e : Nat} (h1 : s ≤ m) (h2 : m ≤ e) (he : e ≤ T.length) : slc T s e = slc T s m ++ slc T m e := by
  apply List.ext_getElem?
  intro i
  rcases Nat.lt_or_ge i (m - s) with q | q
  · rw [slc_get (by omega), List.getElem?_append_left (by rw [slc_len h1 (by omega)]; exact q), slc_get q]
  · rw [List.getElem?_append_right (by rw [slc_len h1 (by omega)]; exact q), slc_len h1 (by omega)]
    rcases Nat.lt_or_ge i (e - s) with r | r
    · rw [slc_get r, slc_get (by omega), show m + (i - (m - s)) = s + i by omega]
    · rw [List.getElem?_eq_none (by rw [slc_len (by omega) he]; exact r), List.getElem?_eq_none (by rw [slc_len h2 he]; omega)]
def extW : List Nat := [101, 120, 116, 101, 110, 115, 105, 111, 110, 115]
theorem X12_isExtensions {U : Nat} {σ : SG} {T : List Nat} {x : Wd} (hU : 4000 < U) (h : LR σ T) (hx : gw T x) (hc : CW σ x) : x_X12_isExtensions U 1101 σ = some (zI (decide (x.1 = 1 ∧ slc T x.2.1 x.2.2.1 = extW))) := by
  have h6 := hx.1
  have hl := h.2.2.1
  unfold x_X12_isExtensions
  rw [hc.1]
  by_cases q : x.1 = 1
  · have hb := hx.2.2.1 (by omega) (by omega)
    rw [if_pos (by rw [q]; rfl), hc.2.1, (hc.2.2.1 (by omega) (by omega)).1, nI_sub (by omega)]
    by_cases h10 : x.2.2.1 - x.2.1 = 10
    · have e8 : nI x.2.1 + 8 = nI (x.2.1 + 8) := nI_add _ 8
      rw [if_pos (by rw [h10]; rfl), e8, X12_isPlain hU h.2.1 h.2.2.2 h.2.2.1 (by omega) (by omega), b1_eq, ifz, X12_isPlain hU h.2.1 h.2.2.2 h.2.2.1 (by omega) hb.2, b1_eq, ifz]
      have ea := slc_app (T := T) (s := x.2.1) (m := x.2.1 + 8) (e := x.2.2.1) (by omega) (by omega) hb.2
      have eb : extW = bw 7311721974029576559 ++ bw 28275 := by decide +kernel
      by_cases r1 : slc T x.2.1 (x.2.1 + 8) = bw 7311721974029576559
      · rw [decide_eq_true r1]
        by_cases r2 : slc T (x.2.1 + 8) x.2.2.1 = bw 28275
        · rw [decide_eq_true r2, decide_eq_true ⟨q, by rw [ea, r1, r2, eb]⟩]; rfl
        · rw [decide_eq_false r2, decide_eq_false (fun z => r2 (by have := z.2; rw [ea, eb] at this; exact (List.append_inj this (by rw [r1])).2))]; rfl
      · rw [decide_eq_false r1, decide_eq_false (show ¬ (x.1 = 1 ∧ slc T x.2.1 x.2.2.1 = extW) from fun z => r1 (by have := z.2; rw [ea, eb] at this; exact (List.append_inj this (by rw [slc_len (by omega) (by omega), bw_len, show x.2.1 + 8 - x.2.1 = 8 by omega]; decide +kernel)).1))]; rfl
    · rw [if_neg (show ¬ nI (x.2.2.1 - x.2.1) = 10 from fun z => h10 ((nI_eq (b := 10) (by omega) (by decide)).mp z)), decide_eq_false (fun z => h10 (by have := congrArg List.length z.2; rw [slc_len (by omega) hb.2] at this; exact this))]; rfl
  · rw [if_neg (show ¬ nI x.1 = 1 from fun z => q ((nI_eq (a := x.1) (b := 1) (by omega) (by decide)).mp z)), decide_eq_false (fun z => q z.1)]; rfl

theorem X12_isForeign {U : Nat} {σ : SG} {T : List Nat} {x : Wd} (hU : 4000 < U) (h : LR σ T) (hx : gw T x) (hc : CW σ x) : x_X12_isForeign U 1101 σ = some (zI (decide (cdX x = 40))) := by
  rw [← isW_fb hx]
  unfold x_X12_isForeign
  rw [X12_isWord hU h hx hc, b1_eq, ifz]
  rw [X12_isWord hU h hx hc, b1_eq, ifz]
  rw [X12_isWord hU h hx hc, b1_eq, ifz]
  rw [X12_isWord hU h hx hc, b1_eq, ifz]
  rw [X12_isWord hU h hx hc, b1_eq, ifz]
  rw [X12_isWord hU h hx hc, b1_eq, ifz]
  rw [X12_isWord hU h hx hc, b1_eq, ifz]
  rw [X12_isWord hU h hx hc, b1_eq, ifz]
  rw [X12_isWord hU h hx hc, b1_eq, ifz]
  rw [X12_isExtensions hU h hx hc, b1_eq, ifz]
  rw [X12_isWord hU h hx hc, b1_eq, ifz]
  rw [X12_isWord hU h hx hc, b1_eq, ifz]
  by_cases q : x.1 = 1
  · generalize slc T x.2.1 x.2.2.1 = S
    have e : fbW = [(bw 115918758703732), (bw 31632277022795621), (bw 122528780087150), (bw 32481164609020773), (bw 111568023285348), (bw 7168368), (bw 8030046131791487340), (bw 8243119442065778020), (bw 444301538672), extW, (bw 8243121572520813924), (bw 7499875)] := by decide +kernel
    rw [e]
    simp only [q, true_and, List.mem_cons, List.not_mem_nil, or_false]
    by_cases r0 : S = (bw 115918758703732)
    · simp [r0, zI]
    simp only [r0, decide_false, Bool.false_eq_true, if_false, false_or]
    by_cases r1 : S = (bw 31632277022795621)
    · simp [r1, zI]
    simp only [r1, decide_false, Bool.false_eq_true, if_false, false_or]
    by_cases r2 : S = (bw 122528780087150)
    · simp [r2, zI]
    simp only [r2, decide_false, Bool.false_eq_true, if_false, false_or]
    by_cases r3 : S = (bw 32481164609020773)
    · simp [r3, zI]
    simp only [r3, decide_false, Bool.false_eq_true, if_false, false_or]
    by_cases r4 : S = (bw 111568023285348)
    · simp [r4, zI]
    simp only [r4, decide_false, Bool.false_eq_true, if_false, false_or]
    by_cases r5 : S = (bw 7168368)
    · simp [r5, zI]
    simp only [r5, decide_false, Bool.false_eq_true, if_false, false_or]
    by_cases r6 : S = (bw 8030046131791487340)
    · simp [r6, zI]
    simp only [r6, decide_false, Bool.false_eq_true, if_false, false_or]
    by_cases r7 : S = (bw 8243119442065778020)
    · simp [r7, zI]
    simp only [r7, decide_false, Bool.false_eq_true, if_false, false_or]
    by_cases r8 : S = (bw 444301538672)
    · simp [r8, zI]
    simp only [r8, decide_false, Bool.false_eq_true, if_false, false_or]
    by_cases r9 : S = extW
    · simp [r9, zI]
    simp only [r9, decide_false, Bool.false_eq_true, if_false, false_or]
    by_cases r10 : S = (bw 8243121572520813924)
    · simp [r10, zI]
    simp only [r10, decide_false, Bool.false_eq_true, if_false, false_or]
    by_cases r11 : S = (bw 7499875)
    · simp [r11, zI]
    simp only [r11, decide_false, Bool.false_eq_true, if_false, false_or]
    rfl
  · simp [q, zI]
def nty (x : Wd) : Int32 := if 0 ≤ cdX x ∧ cdX x < 13 then cdX x else -1
theorem X12_numberType {U : Nat} {σ : SG} {T : List Nat} {x : Wd} (hU : 4000 < U) (h : LR σ T) (hx : gw T x) (hc : CW σ x) : x_X12_numberType U 1101 σ = some (nty x) := by
  unfold x_X12_numberType nty
  rw [X12_isWord hU h hx hc, isW_ty (k := 0) hx (by decide) (by decide +kernel), b1_eq, ifz]
  rw [X12_isWord hU h hx hc, isW_ty (k := 1) hx (by decide) (by decide +kernel), b1_eq, ifz]
  rw [X12_isWord hU h hx hc, isW_ty (k := 2) hx (by decide) (by decide +kernel), b1_eq, ifz]
  rw [X12_isWord hU h hx hc, isW_ty (k := 3) hx (by decide) (by decide +kernel), b1_eq, ifz]
  rw [X12_isWord hU h hx hc, isW_ty (k := 4) hx (by decide) (by decide +kernel), b1_eq, ifz]
  rw [X12_isWord hU h hx hc, isW_ty (k := 5) hx (by decide) (by decide +kernel), b1_eq, ifz]
  rw [X12_isWord hU h hx hc, isW_ty (k := 6) hx (by decide) (by decide +kernel), b1_eq, ifz]
  rw [X12_isWord hU h hx hc, isW_ty (k := 7) hx (by decide) (by decide +kernel), b1_eq, ifz]
  rw [X12_isWord hU h hx hc, isW_ty (k := 8) hx (by decide) (by decide +kernel), b1_eq, ifz]
  rw [X12_isWord hU h hx hc, isW_ty (k := 9) hx (by decide) (by decide +kernel), b1_eq, ifz]
  rw [X12_isWord hU h hx hc, isW_ty (k := 10) hx (by decide) (by decide +kernel), b1_eq, ifz]
  rw [X12_isWord hU h hx hc, isW_ty (k := 11) hx (by decide) (by decide +kernel), b1_eq, ifz]
  rw [X12_isWord hU h hx hc, isW_ty (k := 12) hx (by decide) (by decide +kernel), b1_eq, ifz]
  by_cases r0 : cdX x = nI 0
  · rw [decide_eq_true r0]; rw [r0]; rfl
  rw [decide_eq_false r0]
  simp only [Bool.false_eq_true, if_false]
  by_cases r1 : cdX x = nI 1
  · rw [decide_eq_true r1]; rw [r1]; rfl
  rw [decide_eq_false r1]
  simp only [Bool.false_eq_true, if_false]
  by_cases r2 : cdX x = nI 2
  · rw [decide_eq_true r2]; rw [r2]; rfl
  rw [decide_eq_false r2]
  simp only [Bool.false_eq_true, if_false]
  by_cases r3 : cdX x = nI 3
  · rw [decide_eq_true r3]; rw [r3]; rfl
  rw [decide_eq_false r3]
  simp only [Bool.false_eq_true, if_false]
  by_cases r4 : cdX x = nI 4
  · rw [decide_eq_true r4]; rw [r4]; rfl
  rw [decide_eq_false r4]
  simp only [Bool.false_eq_true, if_false]
  by_cases r5 : cdX x = nI 5
  · rw [decide_eq_true r5]; rw [r5]; rfl
  rw [decide_eq_false r5]
  simp only [Bool.false_eq_true, if_false]
  by_cases r6 : cdX x = nI 6
  · rw [decide_eq_true r6]; rw [r6]; rfl
  rw [decide_eq_false r6]
  simp only [Bool.false_eq_true, if_false]
  by_cases r7 : cdX x = nI 7
  · rw [decide_eq_true r7]; rw [r7]; rfl
  rw [decide_eq_false r7]
  simp only [Bool.false_eq_true, if_false]
  by_cases r8 : cdX x = nI 8
  · rw [decide_eq_true r8]; rw [r8]; rfl
  rw [decide_eq_false r8]
  simp only [Bool.false_eq_true, if_false]
  by_cases r9 : cdX x = nI 9
  · rw [decide_eq_true r9]; rw [r9]; rfl
  rw [decide_eq_false r9]
  simp only [Bool.false_eq_true, if_false]
  by_cases r10 : cdX x = nI 10
  · rw [decide_eq_true r10]; rw [r10]; rfl
  rw [decide_eq_false r10]
  simp only [Bool.false_eq_true, if_false]
  by_cases r11 : cdX x = nI 11
  · rw [decide_eq_true r11]; rw [r11]; rfl
  rw [decide_eq_false r11]
  simp only [Bool.false_eq_true, if_false]
  by_cases r12 : cdX x = nI 12
  · rw [decide_eq_true r12]; rw [r12]; rfl
  rw [decide_eq_false r12]
  simp only [Bool.false_eq_true, if_false]
  rw [if_neg]
  rintro ⟨h1, h2⟩
  obtain ⟨k, hk, e⟩ := nI_of (x := cdX x) (Int32.not_lt.mpr h1)
  have hk13 : k < 13 := by rw [e] at h2; exact (ltI (b := 13) hk (by decide)).mp h2
  rw [e] at r0 r1 r2 r3 r4 r5 r6 r7 r8 r9 r10 r11 r12
  have n0 : k ≠ 0 := fun z => r0 (by rw [z])
  have n1 : k ≠ 1 := fun z => r1 (by rw [z])
  have n2 : k ≠ 2 := fun z => r2 (by rw [z])
  have n3 : k ≠ 3 := fun z => r3 (by rw [z])
  have n4 : k ≠ 4 := fun z => r4 (by rw [z])
  have n5 : k ≠ 5 := fun z => r5 (by rw [z])
  have n6 : k ≠ 6 := fun z => r6 (by rw [z])
  have n7 : k ≠ 7 := fun z => r7 (by rw [z])
  have n8 : k ≠ 8 := fun z => r8 (by rw [z])
  have n9 : k ≠ 9 := fun z => r9 (by rw [z])
  have n10 : k ≠ 10 := fun z => r10 (by rw [z])
  have n11 : k ≠ 11 := fun z => r11 (by rw [z])
  have n12 : k ≠ 12 := fun z => r12 (by rw [z])
  omega
def rsv (x : Wd) : Bool := decide (cdX x = nI 20) || decide (cdX x = nI 21) || decide (cdX x = nI 22) || decide (cdX x = nI 23)
theorem X12_isReservedName {U : Nat} {σ : SG} {T : List Nat} {x : Wd} (hU : 4000 < U) (h : LR σ T) (hx : gw T x) (hc : CW σ x) : x_X12_isReservedName U 1101 σ = some (zI (rsv x)) := by
  unfold x_X12_isReservedName rsv
  rw [X12_isWord hU h hx hc, isW_kw (k := 0) hx (by decide) (by decide +kernel), b1_eq, ifz]
  rw [X12_isWord hU h hx hc, isW_kw (k := 1) hx (by decide) (by decide +kernel), b1_eq, ifz]
  rw [X12_isWord hU h hx hc, isW_kw (k := 2) hx (by decide) (by decide +kernel), b1_eq, ifz]
  rw [X12_isWord hU h hx hc, isW_kw (k := 3) hx (by decide) (by decide +kernel), b1_eq, ifz]
  cases decide (cdX x = nI 20) <;> cases decide (cdX x = nI 21) <;> cases decide (cdX x = nI 22) <;> cases decide (cdX x = nI 23) <;> rfl
theorem X12_isProto3 {U : Nat} {σ : SG} {T : List Nat} {x : Wd} (hU : 4000 < U) (h : LR σ T) (hx : gw T x) (hc : CW σ x) : x_X12_isProto3 U 1101 σ = some (zI (decide (x.1 = 3 ∧ x.2.2.2 = Int32.toInt64 (nI 28)))) := by
  have h6 := hx.1
  have hl := h.2.2.1
  unfold x_X12_isProto3
  rw [hc.1]
  by_cases q : x.1 = 3
  · have hb := hx.2.2.1 (by omega) (by omega)
    obtain ⟨e1, e2⟩ := hx.2.2.2.2.1 q
    have es : nI x.2.2.1 - 1 = nI (x.2.2.1 - 1) := nI_sub (b := 1) (by omega)
    rw [if_pos (by rw [q]; rfl), hc.2.1, (hc.2.2.1 (by omega) (by omega)).1, nI_1, es, X12_isPlain hU h.2.1 h.2.2.2 h.2.2.1 (by omega) (by omega), b1_eq, ifz, e2]
    have key : (slc T (x.2.1 + 1) (x.2.2.1 - 1) = bw 123636798484275) ↔ Int32.toInt64 (cdS (slc T (x.2.1 + 1) (x.2.2.1 - 1))) = Int32.toInt64 (nI 28) := by
      constructor
      · intro z; rw [z]; exact congrArg _ ((cd_kw (k := 8) (by decide)).mpr (by decide +kernel))
      · intro z
        have z2 := congrArg Int64.toInt32 z
        rw [toI, toI] at z2
        have := (cd_kw (k := 8) (by decide)).mp z2
        rw [show kwW[8]? = some (bw 123636798484275) by decide +kernel] at this
        exact (Option.some.inj this).symm
    by_cases r : slc T (x.2.1 + 1) (x.2.2.1 - 1) = bw 123636798484275
    · rw [decide_eq_true r, decide_eq_true ⟨q, key.mp r⟩]; rfl
    · rw [decide_eq_false r, decide_eq_false (fun z => r (key.mpr z.2))]; rfl
  · rw [if_neg (show ¬ nI x.1 = 3 from fun z => q ((nI_eq (a := x.1) (b := 3) (by omega) (by decide)).mp z)), decide_eq_false (fun z => q z.1)]; rfl
/-! the class's questions -/
theorem X10_kindOf {w k : Nat} {σ : SG} {Ws : List Wd} {x : Wd} (h : WA σ w Ws) (hk : Ws[k]? = some x) : x_X10_kindOf w (nI k) σ = some (nI x.1) := by
  have h1 := (List.getElem?_eq_some_iff.mp hk).1
  have h2 := h.2.1
  unfold x_X10_kindOf
  rw [if_neg (nI_neg (by omega)), h.1, if_pos ((ltI (by omega) (by omega)).mpr h1), l701, if_pos ((ltI (by omega) (by decide)).mpr (by omega)), ix_in (by omega) (by decide), (h.2.2 k x hk).1]
theorem X10_startOf {w k : Nat} {σ : SG} {Ws : List Wd} {x : Wd} (h : WA σ w Ws) (hk : Ws[k]? = some x) : x_X10_startOf w (nI k) σ = some (nI x.2.1) := by
  have h1 := (List.getElem?_eq_some_iff.mp hk).1
  have h2 := h.2.1
  unfold x_X10_startOf
  rw [if_neg (nI_neg (by omega)), h.1, if_pos ((ltI (by omega) (by omega)).mpr h1), l701, if_pos ((ltI (by omega) (by decide)).mpr (by omega)), ix_in (by omega) (by decide), (h.2.2 k x hk).2.1]
theorem X10_endOf {w k : Nat} {σ : SG} {Ws : List Wd} {x : Wd} (h : WA σ w Ws) (hk : Ws[k]? = some x) : x_X10_endOf w (nI k) σ = some (nI x.2.2.1) := by
  have h1 := (List.getElem?_eq_some_iff.mp hk).1
  have h2 := h.2.1
  unfold x_X10_endOf
  rw [if_neg (nI_neg (by omega)), h.1, if_pos ((ltI (by omega) (by omega)).mpr h1), l701, if_pos ((ltI (by omega) (by decide)).mpr (by omega)), ix_in (by omega) (by decide), (h.2.2 k x hk).2.2.1]
theorem X10_valueOf {w k : Nat} {σ : SG} {Ws : List Wd} {x : Wd} (h : WA σ w Ws) (hk : Ws[k]? = some x) : x_X10_valueOf w (nI k) σ = some x.2.2.2 := by
  have h1 := (List.getElem?_eq_some_iff.mp hk).1
  have h2 := h.2.1
  unfold x_X10_valueOf
  rw [if_neg (nI_neg (by omega)), h.1, if_pos ((ltI (by omega) (by omega)).mpr h1), l701, if_pos ((ltI (by omega) (by decide)).mpr (by omega)), ix_in (by omega) (by decide), (h.2.2 k x hk).2.2.2]
theorem X10_codeOf {w k : Nat} {σ : SG} {Ws : List Wd} {x : Wd} (h : WA σ w Ws) (hk : Ws[k]? = some x) (h6 : x.1 < 6) : x_X10_codeOf w (nI k) σ = some (cdX x) := by
  have h1 := (List.getElem?_eq_some_iff.mp hk).1
  have h2 := h.2.1
  unfold x_X10_codeOf x_X10_codeOf_44 x_X10_codeOf_45 cdX
  rw [if_neg (nI_neg (by omega)), h.1, if_pos ((ltI (by omega) (by omega)).mpr h1), l701, if_pos ((ltI (by omega) (by decide)).mpr (by omega)), if_pos ((ltI (by omega) (by decide)).mpr (by omega)), ix_in (by omega) (by decide), (h.2.2 k x hk).1]
  by_cases q : x.1 = 1
  · rw [if_pos (show nI x.1 = 1 by rw [q]; rfl), if_pos q, if_neg (by decide), ix_in (by omega) (by decide), (h.2.2 k x hk).2.2.2]
  · rw [if_neg (show ¬ nI x.1 = 1 from fun z => q ((nI_eq (a := x.1) (b := 1) (by omega) (by decide)).mp z)), if_neg q, if_pos rfl]
theorem X10_isSign {w k c : Nat} {σ : SG} {T : List Nat} {Ws : List Wd} {x : Wd} (h : WA σ w Ws) (hk : Ws[k]? = some x) (hx : gw T x) (hok : ok8 T) (hc8 : c < 256) : x_X10_isSign w (nI k) (nI c) σ = some (zI (sgX T x c)) := by
  have h1 := (List.getElem?_eq_some_iff.mp hk).1
  have h2 := h.2.1
  have h6 := hx.1
  unfold x_X10_isSign sgX
  rw [if_neg (nI_neg (by omega)), h.1, if_pos ((ltI (by omega) (by omega)).mpr h1), l701, if_pos ((ltI (by omega) (by decide)).mpr (by omega)), if_pos ((ltI (by omega) (by decide)).mpr (by omega)), ix_in (by omega) (by decide), (h.2.2 k x hk).1, ix_in (by omega) (by decide), (h.2.2 k x hk).2.2.2]
  by_cases q : x.1 = 4
  · obtain ⟨e1, d, e2, e3⟩ := hx.2.2.2.2.2.1 q
    have hd8 := hok d (List.mem_of_getElem? e2)
    rw [if_pos (by rw [q]; rfl), e3, e2]
    by_cases r : d = c
    · rw [if_pos (by rw [r]), decide_eq_true ⟨q, by rw [r]⟩]; rfl
    · rw [if_neg (fun z => r (by have z2 := congrArg Int64.toInt32 z; rw [toI, toI] at z2; exact (nI_eq (by omega) (by omega)).mp z2)), decide_eq_false (fun z => r (Option.some.inj z.2))]; rfl
  · rw [if_neg (show ¬ nI x.1 = 4 from fun z => q ((nI_eq (a := x.1) (b := 4) (by omega) (by decide)).mp z)), decide_eq_false (fun z => q z.1)]; rfl

