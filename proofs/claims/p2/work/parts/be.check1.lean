/-! ===== check: the spec ===== -/
/-- what an old type's values are understood by -/
def und (t u : Nat) : Bool := decide (t = u ∨ (t = 0 ∧ (u = 1 ∨ u = 14)) ∨ (t = 2 ∧ (u = 3 ∨ u = 1)) ∨ (t = 4 ∧ u = 5) ∨ (t = 10 ∧ (u = 0 ∨ u = 1 ∨ u = 2 ∨ u = 3 ∨ u = 14)) ∨ (t = 11 ∧ u = 12) ∨ (t = 14 ∧ (u = 0 ∨ u = 1)))
theorem C_und : ∀ t, t < 15 → ∀ u, u < 15 → x_X1_isUnderstood (nI t) (nI u) = some (zI (und t u)) := by decide +kernel
theorem N_und : ∀ t, t < 15 → ∀ u, u < 15 → (t = u → und t u = true) ∧ (t ≠ u → x_X12_widens (nI t) (nI u) = some (zI (und t u))) := by decide +kernel
/-- a field's oneof -/
def dOo (D : List Dc) (i : Nat) : Option Nat := match D[i]? with
  | some d => dO d
  | none => none
theorem dOo_some {D : List Dc} {i : Nat} {d : Dc} (h : D[i]? = some d) : dOo D i = dO d := by unfold dOo; rw [h]
def ordM (D : List Dc) (t : Nat) : Nat := cnt (D.take t) 0
def cod (D E : List Dc) (t u : Nat) : Nat := ordM D t * 16 + ordM E u
/-- whether a lower field that is not in one oneof with this one is in the new one's -/
def trnP (D E : List Dc) (u f g h : Nat) : Bool := match fOf E u (nmn D h) with
  | none => false
  | some i => decide (dOo E i = dOo E g) && !(decide (dOo D h ≠ none) && decide (dOo D h = dOo D f))
def trn (D E : List Dc) (m u f g : Nat) : Bool := decide (dOo E g ≠ none) && (chF D m).any (fun h => decide (nmn D h < nmn D f) && trnP D E u f g h)
abbrev Fr : Type := Nat × Nat × Nat × Bool
/-- one step: a reason, and the way on -/
def kSt (T E' : List Nat) (D E : List Dc) (stk : List Fr) (met : List Nat) : Nat × List Fr × List Nat := match stk with
  | [] => (0, [], met)
  | (m, u, k, b) :: Q => match (chF D m)[k]? with
    | none => (0, Q, met)
    | some f => match fOf E u (nmn D f) with
      | none => (0, (m, u, k + 1, false) :: Q, met)
      | some g => match D[f]?, E[g]? with
        | some d, some e => if dR d ≠ dR e then (1, (m, u, k, b) :: Q, met) else if und (fty T D d) (fty E' E e) = false then (2, (m, u, k, b) :: Q, met) else match (if fty T D d = 13 then ftg T D d else none), ftg E' E e with
          | some t, some v => if cod D E t v ∈ met then (if trn D E m u f g then (3, (m, u, k, b) :: Q, met) else (0, (m, u, k + 1, false) :: Q, met)) else (0, (t, v, 0, false) :: (m, u, k, true) :: Q, cod D E t v :: met)
          | _, _ => if trn D E m u f g then (3, (m, u, k, b) :: Q, met) else (0, (m, u, k + 1, false) :: Q, met)
        | _, _ => (0, Q, met)
def kRun (T E' : List Nat) (D E : List Dc) : Nat → List Fr → List Nat → Option (Nat × List Fr)
  | 0, _, _ => none
  | _ + 1, [], _ => some (0, [])
  | j + 1, fr :: Q, met => if (kSt T E' D E (fr :: Q) met).1 = 0 then kRun T E' D E j (kSt T E' D E (fr :: Q) met).2.1 (kSt T E' D E (fr :: Q) met).2.2 else some ((kSt T E' D E (fr :: Q) met).1, (kSt T E' D E (fr :: Q) met).2.1)
/-- a frame whose field leads into a message that was met -/
def PHk (T E' : List Nat) (D E : List Dc) (m u k : Nat) (met : List Nat) : Prop := ∃ f g d e t v, (chF D m)[k]? = some f ∧ fOf E u (nmn D f) = some g ∧ D[f]? = some d ∧ E[g]? = some e ∧ dR d = dR e ∧ fty T D d = 13 ∧ fty E' E e = 13 ∧ ftg T D d = some t ∧ ftg E' E e = some v ∧ cod D E t v ∈ met
def frOk (T E' : List Nat) (D E : List Dc) (met : List Nat) (fr : Fr) : Prop := isM D fr.1 ∧ isM E fr.2.1 ∧ (fr.2.2.2 = true → PHk T E' D E fr.1 fr.2.1 fr.2.2.1 met) ∧ fr.2.2.1 ≤ (chF D fr.1).length
def KI (T E' : List Nat) (D E : List Dc) (stk : List Fr) (met : List Nat) : Prop := (∀ fr ∈ stk, frOk T E' D E met fr) ∧ (∀ fr ∈ stk.tail, fr.2.2.2 = true) ∧ stk.length ≤ met.length ∧ met.Nodup ∧ ∀ c ∈ met, c < 256
theorem PHk_mono {T E' : List Nat} {D E : List Dc} {m u k c : Nat} {met : List Nat} (h : PHk T E' D E m u k met) : PHk T E' D E m u k (c :: met) := by
  obtain ⟨f, g, d, e, t, v, h1, h2, h3, h4, h5, h6, h7, h8, h9, h10⟩ := h
  exact ⟨f, g, d, e, t, v, h1, h2, h3, h4, h5, h6, h7, h8, h9, List.mem_cons_of_mem _ h10⟩
theorem ordM_lt {T : List Nat} {D : List Dc} {t : Nat} (hg : GSc T D) (h : isM D t) : ordM D t < 16 := by
  obtain ⟨d, hd, h0⟩ := h
  have h1 := cnt_take_lt hd h0
  have h2 := (lim_of hg.2.2.2.1).1
  unfold ordM
  omega
theorem cod_lt {T E' : List Nat} {D E : List Dc} {t v : Nat} (hg : GSc T D) (hh : GSc E' E) (h1 : isM D t) (h2 : isM E v) : cod D E t v < 256 := by
  have := ordM_lt hg h1
  have := ordM_lt hh h2
  unfold cod
  omega
theorem und13 : ∀ u, u < 15 → und 13 u = true → u = 13 := by decide +kernel
/-- the cases of a step -/
theorem kSt_cases {T E' : List Nat} {D E : List Dc} {m u k : Nat} {b : Bool} {Q : List Fr} {met : List Nat} (hg : GSc T D) (hh : GSc E' E) (hM : isM D m) (hN : isM E u) :
    ((chF D m)[k]? = none ∧ kSt T E' D E ((m, u, k, b) :: Q) met = (0, Q, met)) ∨ ∃ f d, (chF D m)[k]? = some f ∧ isF D m f d ∧ ((fOf E u (nmn D f) = none ∧ kSt T E' D E ((m, u, k, b) :: Q) met = (0, (m, u, k + 1, false) :: Q, met)) ∨ ∃ g e, fOf E u (nmn D f) = some g ∧ isF E u g e ∧ ((dR d ≠ dR e ∧ kSt T E' D E ((m, u, k, b) :: Q) met = (1, (m, u, k, b) :: Q, met)) ∨ (dR d = dR e ∧ und (fty T D d) (fty E' E e) = false ∧ kSt T E' D E ((m, u, k, b) :: Q) met = (2, (m, u, k, b) :: Q, met)) ∨ (dR d = dR e ∧ und (fty T D d) (fty E' E e) = true ∧ ((∃ t v, fty T D d = 13 ∧ fty E' E e = 13 ∧ ftg T D d = some t ∧ ftg E' E e = some v ∧ isM D t ∧ isM E v ∧ cod D E t v ∉ met ∧ kSt T E' D E ((m, u, k, b) :: Q) met = (0, (t, v, 0, false) :: (m, u, k, true) :: Q, cod D E t v :: met)) ∨ ((fty T D d = 13 → ∃ t v, fty E' E e = 13 ∧ ftg T D d = some t ∧ ftg E' E e = some v ∧ isM D t ∧ isM E v ∧ cod D E t v ∈ met) ∧ kSt T E' D E ((m, u, k, b) :: Q) met = (if trn D E m u f g then (3, (m, u, k, b) :: Q, met) else (0, (m, u, k + 1, false) :: Q, met))))))) := by
  unfold kSt
  simp only
  cases hf : (chF D m)[k]? with
  | none => exact Or.inl ⟨rfl, rfl⟩
  | some f =>
    right
    obtain ⟨d, hd⟩ := (chF_mem hg hM).mp (List.mem_of_getElem? hf)
    refine ⟨f, d, rfl, hd, ?_⟩
    simp only
    cases hgf : fOf E u (nmn D f) with
    | none => exact Or.inl ⟨rfl, rfl⟩
    | some g =>
      right
      obtain ⟨e, he⟩ := fOf_isF hh hN hgf
      refine ⟨g, e, rfl, he, ?_⟩
      simp only
      rw [hd.1, he.1]
      simp only
      have hft : fty T D d ≤ 14 := dTy_lt (hg.fld hd.1 hd.2.1).2.2.2.1
      have hfu : fty E' E e ≤ 14 := dTy_lt (hh.fld he.1 he.2.1).2.2.2.1
      by_cases q1 : dR d = dR e
      · right
        rw [if_neg (fun z => z q1)]
        cases q2 : und (fty T D d) (fty E' E e) with
        | false => rw [if_pos rfl]; exact Or.inl ⟨q1, rfl, rfl⟩
        | true =>
          right
          rw [if_neg (by decide)]
          refine ⟨q1, rfl, ?_⟩
          by_cases q13 : fty T D d = 13
          · have q13' : fty E' E e = 13 := by rw [q13] at q2; exact und13 _ (by omega) q2
            obtain ⟨t, ht, hMt⟩ := (ftg_msg hg hd.1 hd.2.1).1 q13
            obtain ⟨v, hv, hMv⟩ := (ftg_msg hh he.1 he.2.1).1 q13'
            rw [if_pos q13, ht, hv]
            simp only
            by_cases qm : cod D E t v ∈ met
            · right
              rw [if_pos qm]
              exact ⟨fun _ => ⟨t, v, q13', rfl, rfl, hMt, hMv, qm⟩, rfl⟩
            · left
              rw [if_neg qm]
              exact ⟨t, v, q13, q13', rfl, rfl, hMt, hMv, qm, rfl⟩
          · right
            rw [if_neg q13]
            exact ⟨fun z => absurd z q13, rfl⟩
      · left
        rw [if_pos q1]
        exact ⟨q1, rfl⟩
theorem KI_step {T E' : List Nat} {D E : List Dc} {fr : Fr} {Q : List Fr} {met : List Nat} (hg : GSc T D) (hh : GSc E' E) (h : KI T E' D E (fr :: Q) met) : KI T E' D E (kSt T E' D E (fr :: Q) met).2.1 (kSt T E' D E (fr :: Q) met).2.2 := by
  obtain ⟨m, u, k, b⟩ := fr
  obtain ⟨h1, h2, h3, h4, h5⟩ := h
  have h2' : ∀ fr ∈ Q, fr.2.2.2 = true := h2
  obtain ⟨hM, hN, hP⟩ := h1 _ (List.mem_cons_self ..)
  have hM' : isM D m := hM
  have hN' : isM E u := hN
  have hQ : ∀ fr ∈ Q, frOk T E' D E met fr := fun fr hfr => h1 fr (List.mem_cons_of_mem _ hfr)
  rw [List.length_cons] at h3
  have stay : KI T E' D E ((m, u, k, b) :: Q) met := ⟨h1, h2, by rw [List.length_cons]; exact h3, h4, h5⟩
  have adv : (∃ f, (chF D m)[k]? = some f) → KI T E' D E ((m, u, k + 1, false) :: Q) met := fun ⟨f, hf⟩ => ⟨fun fr hfr => by
    rcases List.mem_cons.mp hfr with z | z
    · rw [z]; exact ⟨hM, hN, fun y => (by cases y), (List.getElem?_eq_some_iff.mp hf).1⟩
    · exact hQ fr z, h2', by rw [List.length_cons]; exact h3, h4, h5⟩
  rcases kSt_cases (k := k) (b := b) (Q := Q) (met := met) hg hh hM' hN' with ⟨_, e⟩ | ⟨f, d, hf, hd, ⟨_, e⟩ | ⟨g, e0, hgf, he, ⟨_, e⟩ | ⟨_, _, e⟩ | ⟨q1, q2, ⟨t, v, t1, t2, t3, t4, t5, t6, t7, e⟩ | ⟨t1, e⟩⟩⟩⟩
  · rw [e]
    refine ⟨hQ, fun fr hfr => h2' fr (List.mem_of_mem_tail hfr), by show Q.length ≤ met.length; omega, h4, h5⟩
  · rw [e]; exact adv ⟨f, hf⟩
  · rw [e]; exact stay
  · rw [e]; exact stay
  · rw [e]
    refine ⟨fun fr hfr => ?_, fun fr hfr => ?_, by simp; omega, List.nodup_cons.mpr ⟨t7, h4⟩, fun c hc => ?_⟩
    · rcases List.mem_cons.mp hfr with z | z
      · rw [z]; exact ⟨t5, t6, fun y => (by cases y), Nat.zero_le _⟩
      · rcases List.mem_cons.mp z with z | z
        · rw [z]
          exact ⟨hM, hN, fun _ => ⟨f, g, d, e0, t, v, hf, hgf, hd.1, he.1, q1, t1, t2, t3, t4, List.mem_cons_self ..⟩, hP.2⟩
        · obtain ⟨x1, x2, x3⟩ := hQ fr z
          exact ⟨x1, x2, fun y => PHk_mono (x3.1 y), x3.2⟩
    · rcases List.mem_cons.mp hfr with z | z
      · rw [z]
      · exact h2' fr z
    · rcases List.mem_cons.mp hc with z | z
      · rw [z]; exact cod_lt hg hh t5 t6
      · exact h5 c z
  · rw [e]
    split
    · exact stay
    · exact adv ⟨f, hf⟩
/-- how much is left to do -/
def kM (D : List Dc) (stk : List Fr) (met : List Nat) : Nat := (256 - met.length) * 400 + (stk.map (fun fr => 2 * ((chF D fr.1).length - fr.2.2.1) + (if fr.2.2.2 then 0 else 1) + 1)).sum
theorem kM_step {T E' : List Nat} {D E : List Dc} {fr : Fr} {Q : List Fr} {met : List Nat} (hg : GSc T D) (hh : GSc E' E) (h : KI T E' D E (fr :: Q) met) (h0 : (kSt T E' D E (fr :: Q) met).1 = 0) : kM D (kSt T E' D E (fr :: Q) met).2.1 (kSt T E' D E (fr :: Q) met).2.2 < kM D (fr :: Q) met := by
  have hK := KI_step hg hh h
  obtain ⟨m, u, k, b⟩ := fr
  obtain ⟨h1, h2, h3, h4, h5⟩ := h
  obtain ⟨hM, hN, hP⟩ := h1 _ (List.mem_cons_self ..)
  have hM' : isM D m := hM
  have hN' : isM E u := hN
  have adv : k < (chF D m).length → kM D ((m, u, k + 1, false) :: Q) met < kM D ((m, u, k, b) :: Q) met := by
    intro hk
    unfold kM
    rw [List.map_cons, List.sum_cons, List.map_cons, List.sum_cons]
    have : 2 * ((chF D m).length - (k + 1)) + (if false = true then 0 else 1) + 1 < 2 * ((chF D m).length - k) + (if b then 0 else 1) + 1 := by
      rw [if_neg (show ¬ false = true by decide)]
      omega
    show _ + (2 * ((chF D m).length - (k + 1)) + (if false = true then 0 else 1) + 1 + _) < _ + (2 * ((chF D m).length - k) + (if b then 0 else 1) + 1 + _)
    omega
  rcases kSt_cases (k := k) (b := b) (Q := Q) (met := met) hg hh hM' hN' with ⟨_, e⟩ | ⟨f, d, hf, hd, ⟨_, e⟩ | ⟨g, e0, hgf, he, ⟨_, e⟩ | ⟨_, _, e⟩ | ⟨q1, q2, ⟨t, v, t1, t2, t3, t4, t5, t6, t7, e⟩ | ⟨t1, e⟩⟩⟩⟩
  · rw [e]
    show kM D Q met < kM D ((m, u, k, b) :: Q) met
    unfold kM
    rw [List.map_cons, List.sum_cons]
    show _ + _ < _ + ((2 * ((chF D m).length - k) + (if b then 0 else 1) + 1) + _)
    omega
  · rw [e]; exact adv (List.getElem?_eq_some_iff.mp hf).1
  · rw [e] at h0; cases h0
  · rw [e] at h0; cases h0
  · have hk := (List.getElem?_eq_some_iff.mp hf).1
    have hb : b = false := by
      cases hb : b with
      | false => rfl
      | true =>
        exfalso
        obtain ⟨f', g', d', e', t', v', y1, y2, y3, y4, y5, y6, y7, y8, y9, y10⟩ := hP.1 hb
        have y1' : (chF D m)[k]? = some f' := y1
        rw [hf] at y1'
        cases y1'
        have y2' : fOf E u (nmn D f) = some g' := y2
        rw [hgf] at y2'
        cases y2'
        rw [hd.1] at y3
        cases y3
        rw [he.1] at y4
        cases y4
        rw [t3] at y8
        cases y8
        rw [t4] at y9
        cases y9
        exact t7 y10
    rw [e] at hK ⊢
    obtain ⟨k1, k2, k3, k4, k5⟩ := hK
    have hlen : (cod D E t v :: met).length ≤ 256 := by
      have := nd_len 256 _ k4 0 (fun a ha => ⟨Nat.zero_le _, k5 a ha⟩)
      omega
    rw [List.length_cons] at hlen
    unfold kM
    rw [List.map_cons, List.sum_cons, List.map_cons, List.sum_cons, List.map_cons, List.sum_cons, List.length_cons, hb]
    have hcl := chF_len (a := t) hg.2.1
    show (256 - (met.length + 1)) * 400 + ((2 * ((chF D t).length - 0) + (if false = true then 0 else 1) + 1) + ((2 * ((chF D m).length - k) + (if true = true then 0 else 1) + 1) + _)) < (256 - met.length) * 400 + ((2 * ((chF D m).length - k) + (if false = true then 0 else 1) + 1) + _)
    rw [if_neg (show ¬ false = true by decide), if_pos (show true = true from rfl)]
    omega
  · rw [e]
    rw [e] at h0
    split
    · rename_i z
      rw [if_pos z] at h0
      cases h0
    · exact adv (List.getElem?_eq_some_iff.mp hf).1
theorem kRun_ends {T E' : List Nat} {D E : List Dc} (hg : GSc T D) (hh : GSc E' E) : ∀ (j : Nat) (stk : List Fr) (met : List Nat), KI T E' D E stk met → kM D stk met < j → ∃ y, kRun T E' D E j stk met = some y := by
  intro j
  induction j with
  | zero => intro stk met _ h; omega
  | succ j ih =>
    intro stk met hK hj
    cases stk with
    | nil => exact ⟨_, rfl⟩
    | cons fr Q =>
      rw [kRun]
      by_cases h0 : (kSt T E' D E (fr :: Q) met).1 = 0
      · rw [if_pos h0]
        have := kM_step hg hh hK h0
        exact ih _ _ (KI_step hg hh hK) (by omega)
      · rw [if_neg h0]
        exact ⟨_, rfl⟩
