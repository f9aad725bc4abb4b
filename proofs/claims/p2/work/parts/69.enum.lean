/-! ===== the reference's reader: an enum ===== -/
def PZ (b k : Nat) : Prop := (b = 1101 ∧ k ∈ KR) ∨ (1128 ≤ b ∧ b ≤ 1158)
theorem PX_Z {c : CT} {b k : Nat} (h : PX c b k) : PZ b k := by
  rcases h with z | z | z | z | z | z | z
  · exact Or.inl z
  all_goals exact Or.inr ⟨by omega, by omega⟩
theorem fZ_X {c : CT} {σ τ : SG} (h : fP (PX c) σ τ) : fP PZ σ τ := fP_mono h (fun _ _ => PX_Z)
theorem fZ_q {σ τ : SG} {K : List Nat} (h : fq K σ τ) (hK : ∀ j, j ∈ K → j ∈ KR) : fP PZ σ τ := fP_q h (fun j hj => Or.inl ⟨rfl, hK j hj⟩) (Or.inl ⟨rfl, by decide⟩)
theorem rd_step {T : List Nat} {Ws : List Wd} {n : Nat} {s s1 : Rs} {D D1 : List Dc} (ha : atE Ws s = false) (h : sStep T Ws s D = some (s1, D1)) : rd T Ws (n + 1) s D = rd T Ws n s1 D1 := by
  rw [rd, ha, h]; rfl
theorem rd_no {T : List Nat} {Ws : List Wd} {n : Nat} {s : Rs} {D : List Dc} (ha : atE Ws s = false) (h : sStep T Ws s D = none) : rd T Ws (n + 1) s D = none := by
  rw [rd, ha, h]; rfl
theorem atE_e {Ws : List Wd} {k e : Nat} {m o : Option Nat} {b : Bool} : atE Ws (k, m, o, some e, b) = false := decide_eq_false (fun z => by cases z.2.2.2)
theorem atE_o {Ws : List Wd} {k o : Nat} {m e : Option Nat} {b : Bool} : atE Ws (k, m, some o, e, b) = false := decide_eq_false (fun z => by cases z.2.2.1)
theorem atE_m {Ws : List Wd} {k m : Nat} {o e : Option Nat} {b : Bool} : atE Ws (k, some m, o, e, b) = false := decide_eq_false (fun z => by cases z.2.1)
/-- what the reading of an enum or a oneof comes to -/
def NE (T : List Nat) (Ws : List Wd) (σ : SG) (n : Nat) (s : Rs) (D : List Dc) (x : Option SG) : Prop := ∃ τ, x = some τ ∧ fP PZ σ τ ∧ ((∃ n' k' b' E p', rd T Ws n s D = rd T Ws n' (k', s.2.1, none, none, b') (D ++ E) ∧ 701 ≤ n' + pos Ws k' ∧ n' < n ∧ IV Ws (k', s.2.1, none, none, b') (D ++ E) ∧ far Ws s.1 k' 1 ∧ cnt (D ++ E) 0 = cnt D 0 ∧ cnt (D ++ E) 1 = cnt D 1 ∧ sI τ 1101 74 = 0 ∧ QX τ T Ws k' ∧ RM τ T Ws (D ++ E) p' ∧ 2 * p' ≤ pos Ws k') ∨ (rd T Ws n s D = none ∧ ¬ sI τ 1101 74 = 0))
theorem NE_step {T : List Nat} {Ws : List Wd} {σ υ : SG} {n k k' : Nat} {s : Rs} {D : List Dc} {d : Dc} {x : Option SG} {o e : Option Nat} {b : Bool} (hr : rd T Ws (n + 1) s D = rd T Ws n (k', s.2.1, o, e, b) (D ++ [d])) (hf : fP PZ σ υ) (hfar : far Ws s.1 k' 1) (h0 : dK d ≠ 0) (h1 : dK d ≠ 1) (h : NE T Ws υ n (k', s.2.1, o, e, b) (D ++ [d]) x) : NE T Ws σ (n + 1) s D x := by
  obtain ⟨τ, a1, a2, a3⟩ := h
  refine ⟨τ, a1, fP_trans hf a2, ?_⟩
  rcases a3 with ⟨n', k2, b', E, p', g1, g2, g3, g4, g5, g6, g7, g8⟩ | g
  · refine Or.inl ⟨n', k2, b', d :: E, p', ?_⟩
    have e1 : D ++ d :: E = D ++ [d] ++ E := by simp
    rw [e1, hr]
    refine ⟨g1, g2, by omega, g4, far_le (far_trans hfar g5) (by omega), ?_, ?_, g8⟩
    · rw [g6, cnt_sn, if_neg h0]; rfl
    · rw [g7, cnt_sn, if_neg h1]; rfl
  · exact Or.inr ⟨by rw [hr]; exact g.1, g.2⟩
theorem RM_value {σ τ : SG} {T : List Nat} {Ws : List Wd} {D : List Dc} {d : Dc} {p e k' : Nat} {m : Option Nat} (hW : WF D) (hM : RM σ T Ws D p) (hf : fP (PX (ct D p)) σ τ) (hK : dK d = 3) (hSd : dS d = m) (hO : dO d = some e) (hm : ∀ i, m = some i → i ≤ D.length) (he : e ≤ D.length) (h : VLo σ τ T Ws (oq D 0 m) D.length (cnt D 3) (cnt (D.take e) 1) k' d) : RM τ T Ws (D ++ [d]) p := by
  obtain ⟨h74, hQ, h38, h35, ⟨n1, n2, n3⟩, ⟨v1, v2, v3, v4⟩, ho⟩ := h
  refine RM_snoc hW hM hf (Nat.le_refl _) (cnt_up (z := 3) hM.1 hK (by decide) h35 (fun q h1 h2 => ho (32 + q) (by simp only [List.mem_cons, List.not_mem_nil, or_false]; omega))) ?_ h38 ?_
  · rw [ho 37 (by decide)]; exact hM.2.1
  · have e1 : oq (D ++ [d]) 0 m = oq D 0 m := oq_snoc hm
    have e2 : oq (D ++ [d]) 1 (some e) = nI (cnt (D.take e) 1) := by
      rw [oq_snoc (fun i hi => by cases hi; exact he)]; rfl
    unfold RwD
    rw [hSd, hO, e1, e2, hK, List.take_append_of_le_length (Nat.le_refl _), List.take_length]
    exact ⟨⟨n1, n2, n3⟩, fun z => (by cases z), fun z => (by cases z), fun z => (by cases z), fun _ => ⟨⟨v1, v2, v3⟩, v4⟩⟩
theorem sVl_dO {T : List Nat} {Ws : List Wd} {m e : Option Nat} {k k' : Nat} {d : Dc} (h : sVl T Ws m e k = some (k', d)) : dK d = 3 ∧ dS d = m ∧ dO d = e := by
  unfold sVl at h
  repeat' split at h
  all_goals first | cases h; done | (cases h; exact ⟨rfl, rfl, rfl⟩)
theorem N_enum_L {U e : Nat} {v : Int32} {m : Option Nat} {T : List Nat} {Ws : List Wd} (hU : 4000 < U) (hS : WS T Ws) : ∀ (n U1 k p : Nat) (b : Bool) (D : List Dc) (σ : SG), n + 1 < U1 → 701 ≤ n + pos Ws k → IV Ws (k, m, none, some e, b) D → cnt (D.take e) 1 + 1 = cnt D 1 → v = oq D 0 m → QX σ T Ws k → sI σ 1101 74 = 0 → RM σ T Ws D p → 2 * p ≤ pos Ws k → (b = true ∨ sS T Ws 125 k = false) →
    NE T Ws σ n (k, m, none, some e, b) D (x_X12_takeEnum_L63 U 1101 (fun σ35 => x_X12_takeEnum_104 U 1101 σ35) v U1 1 σ) := by
  intro n
  induction n with
  | zero => intro U1 k p b D σ _ h hI; have := (hI.len hS).2.2; have h' : 701 ≤ 0 + pos Ws k := h; have : pos Ws k ≤ 700 := (hI.len hS).2.2; omega
  | succ n ih =>
    intro U1 k p b D σ hu hp7 hI hen hv hQ h74 hM hp hb
    cases U1 with
    | zero => omega
    | succ U1 =>
    have hlen := hI.len hS
    have hl1 : D.length < 180 := hlen.1
    have hIc := hI
    obtain ⟨_, _, hWF, hIm, _, hIe⟩ := hIc
    have hml : ∀ i, m = some i → i ≤ D.length := fun i hi => Nat.le_of_lt (KM_lt (hIm i hi))
    have hel : e ≤ D.length := by
      obtain ⟨x, a, _⟩ := hIe e rfl
      obtain ⟨g, _⟩ := List.getElem?_eq_some_iff.mp a
      omega
    have hc3 := cnt_le D 3
    rw [x_X12_takeEnum_L63, if_neg (show ¬ (1 : Int32) = 0 by decide), if_pos h74]
    obtain ⟨σ30, a1, a2, a3, a4⟩ := N_takeValue (v := v) (c := ct D p) (m := m) (e := some e) (en := cnt (D.take e) 1) hU hS hQ h74 hM.2.2.1 (by omega) (hM.1 3 (by decide)) (by omega) (by rw [hen]; exact hM.1 1 (by decide)) rfl rfl
    rw [a1, b1_eq]
    have hstep : sStep T Ws (k, m, none, some e, b) D = if sC Ws k = 40 then none else adv (m, none, some e, false) D (sVl T Ws m (some e) k) := by
      show (if (some e : Option Nat) = none then _ else sVm T Ws (k, m, none, some e, b) D) = _
      rw [if_neg (fun z => by cases z)]
      show (if b = false ∧ sS T Ws 125 k = true then _ else _) = _
      rw [if_neg (fun z => by
        rcases hb with y | y
        · rw [y] at z; cases z.1
        · rw [y] at z; cases z.2)]
    cases hs : (if sC Ws k = 40 then none else sVl T Ws m (some e) k) with
    | none =>
      have z30 := a4 hs
      have hno : sStep T Ws (k, m, none, some e, b) D = none := by
        rw [hstep]
        by_cases q : sC Ws k = 40
        · rw [if_pos q]
        · rw [if_neg q] at hs ⊢
          rw [hs]; rfl
      rw [if_neg z30]
      unfold x_X12_takeEnum_99 x_X12_takeEnum_100
      cases U1 with
      | zero => omega
      | succ U2 =>
        rw [x_X12_takeEnum_L63, if_pos (show (0 : Int32) = 0 from rfl)]
        unfold x_X12_takeEnum_104
        rw [N_takeSign_e z30, b1_eq]
        exact ⟨σ30, rfl, fZ_X a2, Or.inr ⟨rd_no atE_e hno, z30⟩⟩
    | some kd =>
      obtain ⟨k', d⟩ := kd
      have hL := a3 k' d hs
      have hsv : sVl T Ws m (some e) k = some (k', d) := by
        by_cases q : sC Ws k = 40
        · rw [if_pos q] at hs; cases hs
        · rw [if_neg q] at hs; exact hs
      have hst : sStep T Ws (k, m, none, some e, b) D = some ((k', m, none, some e, false), D ++ [d]) := by
        rw [hstep]
        by_cases q : sC Ws k = 40
        · rw [if_pos q] at hs; cases hs
        · rw [if_neg q, hsv]; rfl
      obtain ⟨d1, d2, d3⟩ := sVl_dO hsv
      have g := sStep_IV hS hI hst
      have gf : far Ws k k' 1 := g.2
      have hM1 : RM σ30 T Ws (D ++ [d]) p := RM_value hWF hM a2 d1 d2 d3 hml hel (by rw [← hv]; exact hL)
      obtain ⟨z30, Q30, _⟩ := hL
      have hr := rd_step (n := n) (T := T) atE_e hst
      have hp' : 2 * p ≤ pos Ws k' := by have := gf.2; omega
      rw [if_pos z30]
      have i125 : x_X12_isSign 1101 125 σ30 = some (zI (sS T Ws 125 k')) := N_isSign (q := 125) hS Q30 (by decide)
      rw [i125, b1_eq, ifz]
      cases q5 : sS T Ws 125 k' with
      | false =>
        simp only [Bool.false_eq_true, if_false]
        unfold x_X12_takeEnum_100
        refine NE_step (k := 0) hr (fZ_X a2) gf (by rw [d1]; decide) (by rw [d1]; decide) (ih U1 k' p false (D ++ [d]) σ30 (by omega) (by have := gf.2; omega) g.1 ?_ ?_ Q30 z30 hM1 hp' (Or.inr q5))
        · rw [List.take_append_of_le_length hel, cnt_snoc, if_neg (show ¬ d.1 = 1 from fun z => by have : dK d = 1 := z; omega)]; exact hen
        · rw [hv, oq_snoc hml]
      | true =>
        simp only [if_true]
        unfold x_X12_takeEnum_99 x_X12_takeEnum_100
        cases U1 with
        | zero => omega
        | succ U2 =>
          rw [x_X12_takeEnum_L63, if_pos (show (0 : Int32) = 0 from rfl)]
          unfold x_X12_takeEnum_104
          obtain ⟨τ, e1, e2, e3, e4⟩ := N_takeSign (q := 125) hU hS Q30 z30 (by decide)
          have e1' : x_X12_takeSign U 1101 125 σ30 = some τ := e1
          rw [e1', b1_eq]
          obtain ⟨zτ, Qτ⟩ := e3 (k' + 1) (by rw [q5]; rfl)
          have hst2 : sStep T Ws (k', m, none, some e, false) (D ++ [d]) = some ((k' + 1, m, none, none, false), D ++ [d]) := by
            show (if (some e : Option Nat) = none then _ else sVm T Ws (k', m, none, some e, false) (D ++ [d])) = _
            rw [if_neg (fun z => by cases z)]
            show (if (false = false) ∧ sS T Ws 125 k' = true then _ else _) = _
            rw [if_pos ⟨rfl, q5⟩]
          have g2 := sStep_IV hS g.1 hst2
          have gf2 : far Ws k' (k' + 1) 1 := g2.2
          have hn1 : ∃ n1, n = n1 + 1 := by
            cases n with
            | zero =>
              have h7 : pos Ws k' ≤ 700 := (g.1.len hS).2.2
              have := gf.2
              omega
            | succ n1 => exact ⟨n1, rfl⟩
          obtain ⟨n1, hn1⟩ := hn1
          subst hn1
          have hr2 := rd_step (n := n1) (T := T) atE_e hst2
          refine ⟨τ, rfl, fP_trans (fZ_X a2) (fZ_q e2 (by decide)), Or.inl ⟨n1, k' + 1, false, [d], p, hr.trans hr2, by have := gf.2; have := gf2.2; omega, by omega, g2.1, far_le (far_trans gf gf2) (by omega), ?_, ?_, zτ, Qτ, ?_, by have := gf2.2; omega⟩⟩
          · rw [cnt_snoc, if_neg (show ¬ d.1 = 0 from fun z => by have : dK d = 0 := z; omega)]; rfl
          · rw [cnt_snoc, if_neg (show ¬ d.1 = 1 from fun z => by have : dK d = 1 := z; omega)]; rfl
          · exact RM_q hM1 e2
