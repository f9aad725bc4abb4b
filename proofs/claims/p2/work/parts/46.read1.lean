/-! ===== the class's reader: names, numbers, types, packed ===== -/
def own (s : Rs) (k : Nat) : Option Nat := if k = 3 then s.2.2.2.1 else if k = 2 then s.2.2.1 else none
theorem X5_readName {c : Nat} {σ : SG} {T : List Nat} {Ws : List Wd} {s : Rs} {x : Wd} {D : List Dc} {k : Nat} (hS : WS T Ws) (hW : WA σ (c + 186) Ws) (hR : RR σ c s) (hI : ITs σ c D) (hx : Ws[s.1]? = some x) (hl : D.length < 180) (hk : k < 5) (h1 : x.1 = 1) :
    ∃ τ, x_X5_readName (c + 191) (nI k) σ = some (some (c + 5 + D.length), τ) ∧ RR τ c (s.1 + 1, s.2) ∧ ITs τ c (D ++ [d0 k s.2.1 (own s k) x.2.1 x.2.2.1]) ∧ fR c σ τ ∧ sI τ (c + 191) 7 = sI σ (c + 191) 7 := by
  have hg := hS.G.2 _ _ hx
  have hb := hg.2.2.1 (by omega) (by omega)
  obtain ⟨τ, g1, g2, g3⟩ := X6_declare (k := k) (sc := s.2.1) (ow := own s k) (s := x.2.1) (e := x.2.2.1) hI hl hk (by omega)
  have hr := g3 (c + 191) (by omega) (by omega) (by omega)
  have key : ∀ o, o = ad c (own s k) → ∃ τ, x_X5_readName_42 (c + 191) (nI k) o σ = some (some (c + 5 + D.length), τ) ∧ RR τ c (s.1 + 1, s.2) ∧ ITs τ c (D ++ [d0 k s.2.1 (own s k) x.2.1 x.2.2.1]) ∧ fR c σ τ ∧ sI τ (c + 191) 7 = sI σ (c + 191) 7 := by
    intro o ho
    subst ho
    unfold x_X5_readName_42
    rw [show c + 191 - 5 = c + 186 by omega, show c + 191 - 190 = c + 1 by omega, hR.1, X10_startOf hW hx, b1_eq, X10_endOf hW hx, b1_eq, hR.2.1, g1, b2_eq, sb_eq, (hr 6).1, hR.1, nI_1]
    have hRτ : RR τ c s := ⟨(hr 6).1.trans hR.1, (hr 2).2.2.trans hR.2.1, (hr 3).2.2.trans hR.2.2.1, (hr 4).2.2.trans hR.2.2.2.1, (congrArg vN (hr 5).1).trans hR.2.2.2.2⟩
    refine ⟨_, rfl, hRτ.at, g2.r (by rw [List.length_append, List.length_singleton]; omega) (fun b hb => sm_uI hb), fun b h1 h2 h3 => sm_trans (g3 b h1 (by omega) (by omega)) (sm_uI h3), ?_⟩
    rw [sI_o (Or.inr (by decide)), (hr 7).1]
  unfold x_X5_readName
  rw [show c + 191 - 5 = c + 186 by omega, hR.1, X10_kindOf hW hx, b1_eq, if_pos (show nI x.1 = 1 by rw [h1]; rfl)]
  by_cases q3 : k = 3
  · rw [if_pos (by rw [q3]; rfl)]
    exact key _ (by rw [hR.2.2.2.1]; unfold own; rw [if_pos q3])
  · rw [if_neg (show ¬ nI k = 3 from fun z => q3 ((nI_eq (b := 3) (by omega) (by decide)).mp z))]
    by_cases q2 : k = 2
    · rw [if_pos (by rw [q2]; rfl)]
      exact key _ (by rw [hR.2.2.1]; unfold own; rw [if_neg q3, if_pos q2])
    · rw [if_neg (show ¬ nI k = 2 from fun z => q2 ((nI_eq (b := 2) (by omega) (by decide)).mp z))]
      exact key _ (by unfold own; rw [if_neg q3, if_neg q2]; rfl)
theorem X5_readName_no {c : Nat} {σ : SG} {Ws : List Wd} {s : Rs} {x : Wd} {k : Int32} (hW : WA σ (c + 186) Ws) (hR : RR σ c s) (hx : Ws[s.1]? = some x) (h6 : x.1 < 6) (h1 : x.1 ≠ 1) : x_X5_readName (c + 191) k σ = some (none, σ) := by
  unfold x_X5_readName
  rw [show c + 191 - 5 = c + 186 by omega, hR.1, X10_kindOf hW hx, b1_eq, if_neg (show ¬ nI x.1 = 1 from fun z => h1 ((nI_eq (b := 1) (by omega) (by decide)).mp z))]
/-- another look at the last declaration -/
theorem ITs_last {c : Nat} {σ τ : SG} {D : List Dc} {d d' : Dc} (h : ITs σ c (D ++ [d])) (hl : D.length < 180) (hs : ∀ b, b ≠ c + 5 + D.length → b ≠ c + 191 → sm σ τ b) (hk : dK d' = dK d) (hA : dA d' = dA d) (hE : dE d' = dE d) (hi : IT τ c (c + 5 + D.length) (cnt D (dK d)) d') : ITs τ c (D ++ [d']) := by
  have hc : ∀ k, cnt (D ++ [d']) k = cnt (D ++ [d]) k := fun k => by rw [cnt_snoc, cnt_snoc]; unfold dK at hk; rw [hk]
  have hn : nmB (D ++ [d']) = nmB (D ++ [d]) := by rw [nmB_snoc, nmB_snoc, hA, hE]
  refine ⟨?_, ?_, ?_, ?_⟩
  · rw [((hs (c + 1) (by omega) (by omega)) 3).1, h.1, List.length_append, List.length_append]; rfl
  · rw [((hs (c + 1) (by omega) (by omega)) 4).1, h.2.1, hn]
  · intro k hk'; rw [((hs (c + 185) (by omega) (by omega)) k).1, h.2.2.1 k hk', hc]
  · intro i e hie
    by_cases hj : i = D.length
    · subst hj
      rw [List.getElem?_append_right (Nat.le_refl _)] at hie
      simp at hie
      subst hie
      rw [List.take_append_of_le_length (Nat.le_refl _), List.take_length, hk]
      exact hi
    · have hil : i < D.length := by
        rcases Nat.lt_or_ge i D.length with q | q
        · exact q
        · rw [List.getElem?_eq_none (by rw [List.length_append, List.length_singleton]; omega)] at hie; cases hie
      rw [List.getElem?_append_left hil] at hie
      have := h.2.2.2 i e (by rw [List.getElem?_append_left hil]; exact hie)
      rw [List.take_append_of_le_length (by omega)] at this ⊢
      exact this.sm (hs _ (by omega) (by omega))
theorem ITs.last {c : Nat} {σ : SG} {D : List Dc} {d : Dc} (h : ITs σ c (D ++ [d])) : IT σ c (c + 5 + D.length) (cnt D (dK d)) d := by
  have := h.2.2.2 D.length d (by rw [List.getElem?_append_right (Nat.le_refl _)]; simp)
  rw [List.take_append_of_le_length (Nat.le_refl _), List.take_length] at this
  exact this
def wN (d : Dc) (n : Bool × Nat) : Dc := (dK d, dS d, dO d, dA d, dE d, n, dT d, dW d, dR d, dP d)
def wT (d : Dc) (t w : Nat) (r : Bool) : Dc := (dK d, dS d, dO d, dA d, dE d, dN d, t, w, r, dP d)
def wP (d : Dc) (p : Nat) : Dc := (dK d, dS d, dO d, dA d, dE d, dN d, dT d, dW d, dR d, p)
/-- the number at a word -/
def nuX (x : Wd) : Nat := x.2.2.2.toInt.toNat
theorem nuX_2 {T : List Nat} {x : Wd} (hx : gw T x) (h2 : x.1 = 2) : x.2.2.2 = lN (nuX x) ∧ nuX x ≤ 2 ^ 40 := by
  obtain ⟨n, h1, h3⟩ := hx.2.2.2.2.2.2 h2
  have : nuX x = n := by unfold nuX; rw [h3, pk_lT (by omega)]; rfl
  rw [this]; exact ⟨h3, h1⟩
/-- reading a number: at a word; a minus may stand in front -/
def sNu (T : List Nat) (Ws : List Wd) (mi : Bool) (k : Nat) : Option (Nat × Bool × Nat) := match Ws[k]? with
  | none => none
  | some x => if mi = true ∧ sgX T x 45 = true then (match Ws[k + 1]? with | some y => if y.1 = 2 then some (k + 2, true, nuX y) else none | none => none) else if x.1 = 2 then some (k + 1, false, nuX x) else none
theorem IT_n {σ : SG} {c a i : Nat} {d : Dc} {v : Bool × Nat} {p : Int32} (h : IT σ c a i d) : IT (uL (uI σ a 7 p) a 6 (nL v)) c a i (wN d v) := by
  unfold IT wN dK dS dO dA dE dN dT dW dR dP at *
  simp only [sI_uL, sP_uL, sP_uI, sL_s]
  obtain ⟨h1, h2, h3, h4, h5, h6, h7, h8, h9, h10, h11, h12, h13, h14, h15, h16⟩ := h
  refine ⟨?_, ?_, h3, h4, ?_, ?_, trivial, ?_, fun q => ?_, h10, ?_, ?_, ?_, ?_, h15, h16⟩
  all_goals (rw [sI_o (Or.inr (by decide))]; first | assumption | exact h9 q)
theorem X5_readNumber {c : Nat} {σ : SG} {T : List Nat} {Ws : List Wd} {s : Rs} {x : Wd} {D : List Dc} {d : Dc} {mi : Bool} (hcb : cb c) (hS : WS T Ws) (hW : WA σ (c + 186) Ws) (hR : RR σ c s) (hI : ITs σ c (D ++ [d])) (hl : D.length < 180) (hx : Ws[s.1]? = some x) :
    ∃ τ, x_X5_readNumber (c + 191) (some (c + 5 + D.length)) (zI mi) σ = some (zI (sNu T Ws mi s.1).isSome, τ) ∧ fR c σ τ ∧ sI τ (c + 191) 7 = sI σ (c + 191) 7 ∧ ∀ k' v, sNu T Ws mi s.1 = some (k', v) → RR τ c (k', s.2) ∧ ITs τ c (D ++ [wN d v]) := by
  have hsh := it_sh hcb hl
  have hg := hS.G.2 _ _ hx
  let σ6 := uI σ (c + 5 + D.length) 7 (nI x.2.1)
  have f6 : ∀ b, b ≠ c + 5 + D.length → sm σ σ6 b := fun b hb => sm_uI hb
  have fR6 : fR c σ σ6 := fun b _ h2 _ => f6 b (by omega)
  have hr6 := f6 (c + 191) (by omega)
  have hR6 : RR σ6 c s := ⟨(hr6 6).1.trans hR.1, (hr6 2).2.2.trans hR.2.1, (hr6 3).2.2.trans hR.2.2.1, (hr6 4).2.2.trans hR.2.2.2.1, (congrArg vN (hr6 5).1).trans hR.2.2.2.2⟩
  have hW6 : WA σ6 (c + 186) Ws := hW.fR fR6
  -- the number itself
  have num : ∀ (τ : SG) (k : Nat) (y : Wd) (ng : Bool), (∀ b, b ≠ c + 191 → sm σ6 τ b) → sI τ (c + 191) 7 = sI σ (c + 191) 7 → RR τ c (k, s.2) → Ws[k]? = some y →
      ∃ υ, x_X5_readNumber_33 (c + 191) (some (c + 5 + D.length)) (zI ng) τ = some (zI (decide (y.1 = 2)), υ) ∧ fR c σ υ ∧ sI υ (c + 191) 7 = sI σ (c + 191) 7 ∧ (y.1 = 2 → RR υ c (k + 1, s.2) ∧ ITs υ c (D ++ [wN d (ng, nuX y)])) := by
    intro τ k y ng hs h7 hRτ hy
    have fRτ : fR c σ τ := fR_trans fR6 (fR_r hs)
    have hWτ : WA τ (c + 186) Ws := hW6.fR (fR_r hs)
    have hgy := hS.G.2 _ _ hy
    have hy6 := hgy.1
    unfold x_X5_readNumber_33
    rw [show c + 191 - 5 = c + 186 by omega, hRτ.1, X10_kindOf hWτ hy, b1_eq]
    by_cases q : y.1 = 2
    · obtain ⟨e1, e2⟩ := nuX_2 hgy q
      rw [if_pos (show nI y.1 = 2 by rw [q]; rfl), decide_eq_true q, ifz, X10_valueOf hWτ hy, b1_eq, b1_eq]
      have fin : ∀ v, v = nL (ng, nuX y) → ∃ υ, x_X5_readNumber_82 (c + 191) v (some (c + 5 + D.length)) τ = some (zI true, υ) ∧ fR c σ υ ∧ sI υ (c + 191) 7 = sI σ (c + 191) 7 ∧ (y.1 = 2 → RR υ c (k + 1, s.2) ∧ ITs υ c (D ++ [wN d (ng, nuX y)])) := by
        intro v hv
        subst hv
        unfold x_X5_readNumber_82
        rw [ck_eq hsh, sb_eq, sI_uL, hRτ.1, nI_1, sb_eq]
        have e7 : sm (uL σ6 (c + 5 + D.length) 6 (nL (ng, nuX y))) (uI (uL τ (c + 5 + D.length) 6 (nL (ng, nuX y))) (c + 191) 6 (nI (k + 1))) (c + 5 + D.length) := by
          intro j
          have := hs (c + 5 + D.length) (by omega) j
          refine ⟨?_, ?_, ?_⟩
          · rw [sI_o (Or.inl (by omega)), sI_uL, sI_uL, this.1]
          · rw [sL_uI, sL_uL, sL_uL, this.2.1]
          · rw [sP_uI, sP_uL, sP_uL, this.2.2]
        refine ⟨_, rfl, ?_, ?_, fun _ => ⟨RR.at (s := (k, s.2)) ⟨hRτ.1, hRτ.2.1, hRτ.2.2.1, hRτ.2.2.2.1, hRτ.2.2.2.2⟩, ?_⟩⟩
        · exact fun b h1 h2 h3 => sm_trans (fRτ b h1 h2 h3) (sm_trans (sm_uL (by omega)) (sm_uI h3))
        · rw [sI_o (Or.inr (by decide)), sI_uL, h7]
        · exact ITs_last hI hl (fun b h1 h2 => sm_trans (sm_trans (f6 b h1) (hs b h2)) (sm_trans (sm_uL h1) (sm_uI h2))) rfl rfl rfl ((IT_n hI.last).sm e7)
      cases ng with
      | false => rw [if_neg (by decide)]; exact fin _ (by rw [e1]; rfl)
      | true => rw [if_pos rfl]; exact fin _ (by rw [e1]; rfl)
    · rw [if_neg (show ¬ nI y.1 = 2 from fun z => q ((nI_eq (b := 2) (by omega) (by decide)).mp z)), decide_eq_false q]
      exact ⟨τ, rfl, fRτ, h7, fun z => absurd z q⟩
  have h76 : sI σ6 (c + 191) 7 = sI σ (c + 191) 7 := (hr6 7).1
  have plain : ∃ υ, x_X5_readNumber_32 (c + 191) (some (c + 5 + D.length)) σ6 = some (zI (decide (x.1 = 2)), υ) ∧ fR c σ υ ∧ sI υ (c + 191) 7 = sI σ (c + 191) 7 ∧ (x.1 = 2 → RR υ c (s.1 + 1, s.2) ∧ ITs υ c (D ++ [wN d (false, nuX x)])) := num σ6 s.1 x false (fun b _ => sm_refl _ b) h76 hR6 hx
  unfold x_X5_readNumber sNu
  rw [show c + 191 - 5 = c + 186 by omega, hR.1, X10_startOf hW hx, b1_eq, ck_eq hsh, sb_eq, ifz, hx]
  simp only
  have fold : ∀ (o : Option (Nat × Bool × Nat)) (b : Bool), (b = true → ∃ k' v, o = some (k', v)) → True := fun _ _ _ => trivial
  cases mi with
  | false =>
    rw [if_neg (by decide), if_neg (fun z => by cases z.1)]
    obtain ⟨υ, g1, g2, g3, g4⟩ := plain
    refine ⟨υ, ?_, g2, g3, fun k' v hv => ?_⟩
    · refine g1.trans ?_
      by_cases q : x.1 = 2
      · rw [if_pos q, decide_eq_true q]; rfl
      · rw [if_neg q, decide_eq_false q]; rfl
    · by_cases q : x.1 = 2
      · rw [if_pos q] at hv; cases hv; exact g4 q
      · rw [if_neg q] at hv; cases hv
  | true =>
    rw [if_pos rfl]
    obtain ⟨τ, t1, t2, t3, t4⟩ := X5_takes (q := 45) hS.G hW6 hR6 hx (by decide)
    have t1' : x_X5_takes (c + 191) 45 σ6 = some (zI (sgX T x 45), τ) := t1
    show ∃ τ', b2 (x_X5_takes (c + 191) 45 σ6) _ = _ ∧ _
    rw [t1', b2_eq, ifz]
    cases hsg : sgX T x 45 with
    | true =>
      rw [hsg, if_pos rfl] at t2
      obtain ⟨y, hy, -⟩ := hS.next hx (by rw [sg_4 hsg]; decide) (by rw [sg_4 hsg]; decide)
      rw [if_pos rfl, if_pos ⟨rfl, rfl⟩, hy]
      simp only
      obtain ⟨υ, g1, g2, g3, g4⟩ := num τ (s.1 + 1) y true t3 (t4.trans h76) t2 hy
      refine ⟨υ, ?_, g2, g3, fun k' v hv => ?_⟩
      · refine g1.trans ?_
        by_cases q : y.1 = 2
        · rw [if_pos q, decide_eq_true q]; rfl
        · rw [if_neg q, decide_eq_false q]; rfl
      · by_cases q : y.1 = 2
        · rw [if_pos q] at hv; cases hv; exact g4 q
        · rw [if_neg q] at hv; cases hv
    | false =>
      rw [hsg, if_neg (by decide)] at t2
      rw [if_neg (by decide), if_neg (fun z => by cases z.2)]
      obtain ⟨υ, g1, g2, g3, g4⟩ := num τ s.1 x false t3 (t4.trans h76) t2 hx
      refine ⟨υ, ?_, g2, g3, fun k' v hv => ?_⟩
      · refine Eq.trans (show x_X5_readNumber_32 (c + 191) (some (c + 5 + D.length)) τ = _ from g1) ?_
        by_cases q : x.1 = 2
        · rw [if_pos q, decide_eq_true q]; rfl
        · rw [if_neg q, decide_eq_false q]; rfl
      · by_cases q : x.1 = 2
        · rw [if_pos q] at hv; cases hv; exact g4 q
        · rw [if_neg q] at hv; cases hv
