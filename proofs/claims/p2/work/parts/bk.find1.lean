/-! ===== find: full names, and the class ===== -/
/-- a type's full name -/
def fnm (T : List Nat) (D : List Dc) : Nat → Nat → List Nat
  | 0, _ => []
  | j + 1, i => match D[i]? with
    | none => []
    | some d => match dS d with
      | none => nmT T d
      | some p => fnm T D j p ++ 46 :: nmT T d
def fnT (T : List Nat) (D : List Dc) (i : Nat) : List Nat := fnm T D (i + 1) i
theorem fnm_more {T : List Nat} {D : List Dc} (hW : WF D) : ∀ (j i : Nat), i < j → fnm T D j i = fnT T D i := by
  intro j
  induction j using Nat.strongRecOn with
  | ind j ih =>
    intro i hi
    obtain ⟨j', rfl⟩ : ∃ j', j = j' + 1 := ⟨j - 1, by omega⟩
    unfold fnT
    rw [fnm, fnm]
    cases hd : D[i]? with
    | none => rfl
    | some d =>
      simp only
      cases hs : dS d with
      | none => rfl
      | some p =>
        simp only
        have hp := (hW.before hd).1 p hs
        rw [ih j' (by omega) p (by omega)]
        by_cases q : i < j' + 1 ∧ i = j'
        · rw [q.2, ih j' (by omega) p (by omega)]
        · rw [ih i (by omega) p hp]
theorem fnT_some {T : List Nat} {D : List Dc} (hW : WF D) {i : Nat} {d : Dc} (hd : D[i]? = some d) : fnT T D i = match dS d with
    | none => nmT T d
    | some p => fnT T D p ++ 46 :: nmT T d := by
  unfold fnT
  rw [fnm, hd]
  simp only
  cases hs : dS d with
  | none => rfl
  | some p =>
    simp only
    have hp := (hW.before hd).1 p hs
    rw [fnm_more hW i p hp]
    rfl
theorem take_cut {S A N : List Nat} {e : Nat} (he : e ≤ S.length) : S.take e = A ++ 46 :: N ↔ N.length + 1 ≤ e ∧ slc S (e - N.length) e = N ∧ S[e - N.length - 1]? = some 46 ∧ S.take (e - N.length - 1) = A := by
  constructor
  · intro h
    have hl : e = A.length + (N.length + 1) := by
      have := congrArg List.length h
      rw [List.length_take, List.length_append, List.length_cons] at this
      omega
    refine ⟨by omega, ?_, ?_, ?_⟩
    · have : slc S (e - N.length) e = (S.take e).drop (e - N.length) := by
        unfold slc
        rw [List.drop_take]
      rw [this, h, show e - N.length = (A ++ [46]).length by rw [List.length_append, List.length_singleton]; omega, show A ++ 46 :: N = (A ++ [46]) ++ N by rw [List.append_assoc]; rfl, List.drop_left]
    · have : (S.take e)[e - N.length - 1]? = some 46 := by
        rw [h, show e - N.length - 1 = A.length by omega, List.getElem?_append_right (Nat.le_refl _), Nat.sub_self]
        rfl
      rw [List.getElem?_take_of_lt (by omega)] at this
      exact this
    · have : S.take (e - N.length - 1) = (S.take e).take (e - N.length - 1) := by rw [List.take_take]; congr 1; omega
      rw [this, h, show e - N.length - 1 = A.length by omega, List.take_left]
  · rintro ⟨h1, h2, h3, h4⟩
    have hl := (List.getElem?_eq_some_iff.mp h3).1
    have e1 : S.take e = S.take (e - N.length - 1) ++ (S.drop (e - N.length - 1)).take (N.length + 1) := by
      have : e = (e - N.length - 1) + (N.length + 1) := by omega
      conv => lhs; rw [this]
      rw [List.take_add]
    rw [e1, h4]
    congr 1
    rw [List.drop_eq_getElem_cons hl, List.take_succ_cons, (List.getElem?_eq_some_iff.mp h3).2]
    congr 1
    rw [show e - N.length - 1 + 1 = e - N.length by omega]
    unfold slc at h2
    rw [show e - (e - N.length) = N.length by omega] at h2
    exact h2
theorem take_all {S N : List Nat} {e : Nat} (he : e ≤ S.length) : S.take e = N ↔ N.length ≤ e ∧ slc S (e - N.length) e = N ∧ e - N.length = 0 := by
  constructor
  · intro h
    have hl : e = N.length := by
      have := congrArg List.length h
      rw [List.length_take] at this
      omega
    refine ⟨by omega, ?_, by omega⟩
    unfold slc
    rw [show e - N.length = 0 by omega, List.drop_zero, Nat.sub_zero]
    exact h
  · rintro ⟨h1, h2, h3⟩
    unfold slc at h2
    rw [h3, List.drop_zero, Nat.sub_zero] at h2
    exact h2
theorem C_isFull_L {U c : Nat} {σ : SG} {T S : List Nat} {D : List Dc} (hU4 : 4000 < U) (hcb : cb c) (hg : GSc T D) (hC : CS σ c T D) (hS : RB σ 1 S 0) (hSl : S.length ≤ 700) : ∀ (i e U1 : Nat) (d : Dc), D[i]? = some d → e ≤ S.length → i < U1 → x_X6_isFullName_L8 U (c + 1) (fun w21 => if w21 = 0 then (some 1) else (some 0)) (some 1) σ U1 (nI e) (some (c + 5 + i)) = some (zI (decide (S.take e = fnT T D i))) := by
  have hl := hg.2.1
  have hT7 := hg.2.2.2.2.2.2
  intro i
  induction i using Nat.strongRecOn with
  | ind i ih =>
    intro e U1 d hd he hu
    obtain ⟨V, rfl⟩ : ∃ V, U1 = V + 1 := ⟨U1 - 1, by omega⟩
    have hil := (List.getElem?_eq_some_iff.mp hd).1
    have hn := hg.N i d hd
    have hn1 := hn.1
    have hn2 := hn.2.1
    have hI := (hC.it hd).1
    have hlen : (nmT T d).length = dE d - dA d := slc_len (Nat.le_of_lt hn1) hn2
    rw [x_X6_isFullName_L8, if_neg (show ¬ some (c + 5 + i) = none by intro z; cases z), ck_eq (it_sh hcb (by omega)), hI.2.2.2.2.1, hI.2.2.2.2.2.1, nI_sub (Nat.le_of_lt hn1), hI.2.2.1, fnT_some hg.1 hd, ck_eq (show sh 1 = 0 by decide)]
    by_cases q : e < dE d - dA d
    · have hneg : nI e - nI (dE d - dA d) < 0 := by
        have : ∀ a b : Nat, a < b → b < 2 ^ 30 → nI a - nI b < 0 := by
          intro a b hab hb
          rw [Int32.lt_iff_toInt_lt, Int32.toInt_sub]
          have ea : (nI a).toInt = a := by
            show (nI a).toBitVec.toInt = _
            rw [show (nI a).toBitVec = BitVec.ofNat 32 a from rfl, BitVec.toInt_ofNat', Int.bmod_eq_of_le (by omega) (by omega)]
          have eb : (nI b).toInt = b := by
            show (nI b).toBitVec.toInt = _
            rw [show (nI b).toBitVec = BitVec.ofNat 32 b from rfl, BitVec.toInt_ofNat', Int.bmod_eq_of_le (by omega) (by omega)]
          rw [ea, eb, Int.bmod_eq_of_le (by omega) (by omega)]
          have : (0 : Int32).toInt = 0 := by decide
          omega
        exact this _ _ q (by omega)
      rw [if_pos hneg]
      have : ¬ S.take e = (match dS d with
        | none => nmT T d
        | some p => fnT T D p ++ 46 :: nmT T d) := by
        cases hs : dS d with
        | none =>
          intro z
          have z' : S.take e = nmT T d := z
          have := (take_all he).mp z'
          omega
        | some p =>
          intro z
          have z' : S.take e = fnT T D p ++ 46 :: nmT T d := z
          have := (take_cut he).mp z'
          omega
      rw [decide_eq_false this]; rfl
    · rw [nI_sub (show dE d - dA d ≤ e by omega), if_neg (nI_neg (by omega))]
      have hsm := X0_isSame (U := U) (a := 1) (b := c + 2) (f := dA d) (to := dE d) (p := e - (dE d - dA d)) hU4 (cb_sh hcb).2.2.2.1 hS hC.1 (Nat.le_of_lt hn1) hn2 (by omega)
      rw [show e - (dE d - dA d) + (dE d - dA d) = e by omega] at hsm
      have hsm' : x_X0_isSame U 1 (nI (e - (dE d - dA d))) (some (c + 1 + 1)) (nI (dA d)) (nI (dE d)) σ = some (zI (decide (slc S (e - (nmT T d).length) e = nmT T d))) := by rw [hlen]; exact hsm
      rw [hsm', b1_eq, ifz]
      cases hs : dS d with
      | none =>
        rw [if_pos (show ad c none = none from rfl)]
        simp only
        have e0 : nI (e - (dE d - dA d)) = 0 ↔ e - (nmT T d).length = 0 := by
          rw [hlen]
          exact nI_eq (b := 0) (by omega) (by decide)
        rw [ifd e0]
        by_cases q2 : slc S (e - (nmT T d).length) e = nmT T d
        · rw [decide_eq_true q2, if_pos (show true = true from rfl)]
          by_cases q3 : e - (nmT T d).length = 0
          · rw [if_pos q3, decide_eq_true ((take_all he).mpr ⟨by omega, q2, q3⟩)]; rfl
          · rw [if_neg q3, decide_eq_false (fun z => q3 ((take_all he).mp z).2.2)]; rfl
        · rw [decide_eq_false q2, if_neg (show ¬ false = true by decide), decide_eq_false (fun z => q2 ((take_all he).mp z).2.1)]; rfl
      | some p =>
        have hp := (hg.1.before hd).1 p hs
        obtain ⟨x, hx, _⟩ := hg.1.scK hd p hs
        rw [if_neg (show ¬ ad c (some p) = none by intro z; cases z), ad_some]
        simp only
        by_cases q2 : slc S (e - (nmT T d).length) e = nmT T d
        · rw [decide_eq_true q2, if_pos (show true = true from rfl)]
          by_cases q3 : e - (dE d - dA d) = 0
          · have hm1 : x_X0_at 1 (nI (e - (dE d - dA d)) - 1) σ = some (-1) := X0_at_neg (by rw [q3]; decide)
            rw [hm1, b1_eq, if_neg (show ¬ (-1 : Int32) = 46 by decide), decide_eq_false (fun z => by have := ((take_cut he).mp z).1; omega)]; rfl
          · have es : nI (e - (dE d - dA d)) - 1 = nI (e - (dE d - dA d) - 1) := nI_sub (b := 1) (by omega)
            rw [es, X0_at hS (by omega), b1_eq, show (46 : Int32) = nI 46 from rfl, ifA hS.2.2.2.2 (by decide), ih p hp (e - (dE d - dA d) - 1) V x hx (by omega) (by omega)]
            by_cases q4 : S[e - (dE d - dA d) - 1]? = some 46
            · rw [if_pos q4]
              congr 2
              rw [decide_eq_decide, take_cut he, hlen]
              rw [hlen] at q2
              constructor
              · intro z; exact ⟨by omega, q2, q4, z⟩
              · intro z; exact z.2.2.2
            · rw [if_neg q4, decide_eq_false (fun z => by have := ((take_cut he).mp z).2.2.1; rw [hlen] at this; exact q4 this)]; rfl
        · rw [decide_eq_false q2, if_neg (show ¬ false = true by decide), decide_eq_false (fun z => q2 ((take_cut he).mp z).2.1)]; rfl
theorem C_isFull {U c i : Nat} {σ : SG} {T S : List Nat} {D : List Dc} {d : Dc} (hU4 : 4000 < U) (hcb : cb c) (hg : GSc T D) (hC : CS σ c T D) (hS : RB σ 1 S 0) (hSl : S.length ≤ 700) (hd : D[i]? = some d) : x_X6_isFullName U (c + 1) (some (c + 5 + i)) (some 1) σ = some (zI (decide (S = fnT T D i))) := by
  have hl := hg.2.1
  have hil := (List.getElem?_eq_some_iff.mp hd).1
  unfold x_X6_isFullName
  have := C_isFull_L (U := U) hU4 hcb hg hC hS hSl i S.length U d hd (Nat.le_refl _) (by omega)
  rw [List.take_length] at this
  rw [ck_eq (show sh 1 = 0 by decide), X0_size hS, b1_eq]
  exact this
/-- the type with a full name -/
def pFull (T : List Nat) (D : List Dc) (S : List Nat) (i : Nat) : Bool := decide (knd D i ≤ 1 ∧ S = fnT T D i)
def fTy (T : List Nat) (D : List Dc) (S : List Nat) : Option Nat := ff (pFull T D S) (List.range D.length) 0
/-- the answer of find -/
def fiA (D : List Dc) (o : Option Nat) : Int32 := match o with
  | none => -1
  | some i => if knd D i = 0 then nI (cnt (D.take i) 0) else nI (cnt D 0 + cnt (D.take i) 1)
theorem C_number_L {U c : Nat} {σ : SG} {T S : List Nat} {D : List Dc} (hU4 : 4000 < U) (hcb : cb c) (hg : GSc T D) (hC : CS σ c T D) (hS : RB σ 1 S 0) (hSl : S.length ≤ 700) : ∀ (j k U1 : Nat), k + j = D.length → j < U1 → x_X6_numberOf_L2 U (c + 1) (fun w14 => ck 3 w14 fun q15 => if sI σ q15 0 = 0 then (some (sI σ q15 1)) else (b1 (x_X6_count (c + 1) 0 σ) fun v20 => some (v20 + (sI σ q15 1)))) (some 1) σ U1 (nI k) = some (fiA D (ff (pFull T D S) ((List.range D.length).drop k) k)) := by
  have hl := hC.lt
  have hJ := hC.2.1
  intro j
  induction j with
  | zero =>
    intro k U1 hk hu
    obtain ⟨V, rfl⟩ : ∃ V, U1 = V + 1 := ⟨U1 - 1, by omega⟩
    rw [x_X6_numberOf_L2, hJ.1, if_neg (fun q => by have := (ltI (by omega) (by omega)).mp q; omega), List.drop_eq_nil_of_le (by rw [List.length_range]; omega)]
    rfl
  | succ j ih =>
    intro k U1 hk hu
    obtain ⟨V, rfl⟩ : ∃ V, U1 = V + 1 := ⟨U1 - 1, by omega⟩
    have hkl : k < D.length := by omega
    have hd := List.getElem?_eq_getElem hkl
    have hI := hJ.2.2 k _ hd
    have hk5 := hg.1.k5 hd
    have hr := ih (k + 1) V (by omega) (by omega)
    have hrg : (List.range D.length)[k]? = some k := List.getElem?_range hkl
    rw [x_X6_numberOf_L2, hJ.1, if_pos ((ltI (by omega) (by omega)).mpr hkl), X6_item hJ.1 hl hkl, b1_eq, if_neg (by intro z; cases z), ck_eq (it_sh hcb (by omega)), X3_isType hI hk5, b1_eq, ifz, C_isFull hU4 hcb hg hC hS hSl hd, b1_eq, ifz, ff_drop hrg]
    unfold x_X6_numberOf_61
    rw [nI_1, hr]
    have epf : pFull T D S k = (decide (dK D[k] ≤ 1) && decide (S = fnT T D k)) := by
      unfold pFull
      rw [knd_some hd, Bool.decide_and]
    rw [epf]
    cases h1 : decide (dK D[k] ≤ 1) with
    | false => rw [if_neg (show ¬ false = true by decide), Bool.false_and, if_neg (show ¬ false = true by decide)]
    | true =>
      rw [if_pos (show true = true from rfl), Bool.true_and]
      cases h2 : decide (S = fnT T D k) with
      | false => rw [if_neg (show ¬ false = true by decide), if_neg (show ¬ false = true by decide)]
      | true =>
        have hd1 := of_decide_eq_true h1
        rw [if_pos (show true = true from rfl), if_pos (show true = true from rfl), ck_eq (it_sh hcb (by omega)), hI.1, hI.2.1]
        have hcnt : x_X6_count (c + 1) 0 σ = some (nI (cnt D 0)) := X6_count (k := 0) hC.2.2.2 (by decide)
        rw [hcnt, b1_eq]
        unfold fiA
        simp only
        rw [knd_some hd]
        have e0 : nI (dK D[k]) = 0 ↔ dK D[k] = 0 := nI_eq (b := 0) (by omega) (by decide)
        rw [ifd e0]
        by_cases q : dK D[k] = 0
        · rw [if_pos q, if_pos q, q]
        · rw [if_neg q, if_neg q, show dK D[k] = 1 by omega, nI_add]
theorem C_find {U s : Nat} {σ : SG} {T S : List Nat} {D : List Dc} (hU4 : 4000 < U) (hs : s < 2) (hg : GSc T D) (hC : CS σ (cA s) T D) (hS : RB σ 1 S 0) : ∃ τ, x_X11_find U 0 (nI s) σ = some (.inl (some (.int (fiA D (fTy T D S)))), τ) ∧ RB τ 1 [] 0 ∧ ∀ b, b ≠ 1 → sm σ τ b := by
  have hcb := cA_cb (s := s)
  have hSl : S.length ≤ 700 := hS.2.2.1
  have hl := hg.2.1
  have hnum : x_X6_numberOf U (cA s + 1) (some 1) σ = some (fiA D (fTy T D S)) := C_number_L hU4 hcb hg hC hS hSl D.length 0 U (by omega) (by omega)
  obtain ⟨τ, t1, t2, t3⟩ := X0_clear (σ := σ) (a := 1)
  unfold x_X11_find x_X11_find_25
  rw [cOf hs, b1_eq, if_neg (show ¬ some (cA s) = none by intro z; cases z), ck_eq (cb_sh hcb).2.2.2.2, show x_X2_schema (cA s) σ = some (some (cA s + 1)) from rfl, b1_eq, ck_eq (cb_sh hcb).2.2.1, hnum, b1_eq, t1, b1_eq, if_neg (show ¬ some (cA s) = none by intro z; cases z)]
  exact ⟨τ, rfl, t2, t3⟩
