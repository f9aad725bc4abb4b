/-! ===== the list of words ===== -/
/-- the word at a place behind blanks: kind, start, end, and what the class notes of it -/
def lx (T : List Nat) (p : Nat) (u : Bool) : Wd := match T[p]? with
  | none => (if u then 5 else 0, p, p, -1)
  | some c => if pL c then (1, p, p + rn pW T p, Int32.toInt64 (cdS (slc T p (p + rn pW T p)))) else if pD c then (if nok T p then 2 else 5, p, nen T p, lN (nvC T p)) else if c = 34 then (if T[ten T p]? = some 34 then (3, p, ten T p + 1, Int32.toInt64 (cdS (slc T (p + 1) (ten T p)))) else (5, p, p, -1)) else (4, p, p + 1, Int32.toInt64 (nI c))
theorem pL_W : ∀ c, pL c = true → pW c = true := fun c h => by unfold pW; rw [h]; rfl
theorem lx_start (T : List Nat) (p : Nat) (u : Bool) : (lx T p u).2.1 = p := by
  unfold lx
  cases T[p]? with
  | none => rfl
  | some c => simp only; split; rfl; split; rfl; split; split <;> rfl; rfl
theorem lx_kind (T : List Nat) (p : Nat) (u : Bool) : (lx T p u).1 < 6 := by
  unfold lx
  cases T[p]? with
  | none => simp only; split <;> decide
  | some c =>
    simp only
    split
    · show 1 < 6; decide
    · split
      · show (if nok T p = true then 2 else 5) < 6; split <;> decide
      · split
        · split
          · show 3 < 6; decide
          · show 5 < 6; decide
        · show 4 < 6; decide
theorem lx_end {T : List Nat} {p : Nat} {u : Bool} (h0 : (lx T p u).1 ≠ 0) (h5 : (lx T p u).1 ≠ 5) : p < (lx T p u).2.2.1 ∧ (lx T p u).2.2.1 ≤ T.length ∧ ∃ c, T[p]? = some c := by
  unfold lx at *
  cases e : T[p]? with
  | none => rw [e] at h0 h5; simp only at h0 h5; cases u <;> simp at h0 h5
  | some c =>
    have hp := (List.getElem?_eq_some_iff.mp e).1
    rw [e] at h0 h5
    simp only at h0 h5 ⊢
    refine ⟨?_, ?_, c, rfl⟩
    all_goals
      by_cases q1 : pL c = true
      · rw [if_pos q1]
        have hb : bP pW T p = true := by unfold bP; rw [e]; exact pL_W c q1
        have := (rn_yes hb).2
        have := rn_le' (f := pW) (T := T) (p := p) (by omega)
        simp only; omega
      · rw [if_neg q1] at h0 h5 ⊢
        by_cases q2 : pD c = true
        · rw [if_pos q2] at h0 h5 ⊢
          have h1 := nen_le hp
          have h2 := nbg_le hp
          simp only at h5 ⊢
          cases hn : nok T p with
          | false => rw [hn] at h5; simp at h5
          | true =>
            have : nbg T p < nen T p := by unfold nok at hn; simp at hn; exact hn.1.1
            omega
        · rw [if_neg q2] at h0 h5 ⊢
          by_cases q3 : c = 34
          · rw [if_pos q3] at h0 h5 ⊢
            by_cases q4 : T[ten T p]? = some 34
            · rw [if_pos q4]
              have := (List.getElem?_eq_some_iff.mp q4).1
              have h3 : p + 1 ≤ ten T p := by unfold ten; omega
              simp only; omega
            · rw [if_neg q4] at h5; simp at h5
          · rw [if_neg q3]; simp only; omega
theorem lx_0 {T : List Nat} {p : Nat} {u : Bool} (h0 : (lx T p u).1 = 0) : (lx T p u).2.2.1 = p := by
  unfold lx at *
  cases e : T[p]? with
  | none => rfl
  | some c =>
    rw [e] at h0
    simp only at h0
    split at h0
    · cases h0
    · split at h0
      · simp only at h0; split at h0 <;> cases h0
      · split at h0
        · split at h0 <;> cases h0
        · cases h0
theorem X10_addWord {U w p : Nat} {σ : SG} {T : List Nat} {Ws : List Wd} {u : Bool} (hU : 4000 < U) (h : LX σ w T) (hp : p ≤ T.length) (hW : WA σ w Ws) (hl : Ws.length < 701) (hu : sI σ w 7 = zI u) :
    ∃ τ, x_X10_addWord U w (nI p) σ = some (nI (if (lx T p u).1 = 5 then p else (lx T p u).2.2.1), τ) ∧ WA τ w (Ws ++ [lx T p u]) ∧ fWd w [5] σ τ := by
  have hlen := h.2.2.2
  have hok := h.ok8
  unfold x_X10_addWord
  rw [h.at (by omega), b1_eq, hu]
  cases e : T[p]? with
  | none =>
    have el : lx T p u = (if u then 5 else 0, p, p, -1) := by unfold lx; rw [e]
    rw [el, if_pos ((bA_neg hok).mpr e), ifz]
    unfold x_X10_addWord_26
    cases u with
    | true =>
      obtain ⟨τ, g1, g2, g3⟩ := X10_push (kd := 5) (s := p) (e := p) (v := -1) hW hl (by decide)
      exact ⟨τ, by rw [if_pos rfl, show (5 : Int32) = nI 5 from rfl, g1, b2_eq]; rfl, g2, g3⟩
    | false =>
      obtain ⟨τ, g1, g2, g3⟩ := X10_push (kd := 0) (s := p) (e := p) (v := -1) hW hl (by decide)
      exact ⟨τ, by rw [if_neg (by decide), show (0 : Int32) = nI 0 from rfl, g1, b2_eq]; rfl, g2, g3⟩
  | some c =>
    have hpl := (List.getElem?_eq_some_iff.mp e).1
    have hc := hok c (List.mem_of_getElem? e)
    rw [if_neg (fun q => by rw [(bA_neg hok).mp q] at e; cases e), W_isLetter hok, b1_eq, ifz]
    have hbL : bP pL T p = pL c := by unfold bP; rw [e]
    rw [hbL]
    cases q1 : pL c with
    | true =>
      have el : lx T p u = (1, p, p + rn pW T p, Int32.toInt64 (cdS (slc T p (p + rn pW T p)))) := by unfold lx; rw [e]; simp only; rw [if_pos q1]
      have hr := rn_le' (f := pW) (T := T) (p := p) (by omega)
      rw [el, if_pos rfl, X10_nameEnd hU h hp, b1_eq, X10_codeBetween hU h (by omega) hr, b1_eq]
      obtain ⟨τ, g1, g2, g3⟩ := X10_push (kd := 1) (s := p) (e := p + rn pW T p) (v := Int32.toInt64 (cdS (slc T p (p + rn pW T p)))) hW hl (by decide)
      exact ⟨τ, by rw [show (1 : Int32) = nI 1 from rfl, g1, b2_eq], g2, g3⟩
    | false =>
      rw [if_neg (by decide), bA_some e]
      have hd : ∀ c, c < 256 → (pD c = true ↔ ¬ nI c < 48 ∧ ¬ 57 < nI c) := by decide +kernel
      cases q2 : pD c with
      | true =>
        obtain ⟨a1, a2⟩ := (hd c hc).mp q2
        have el : lx T p u = (if nok T p then 2 else 5, p, nen T p, lN (nvC T p)) := by unfold lx; rw [e]; simp only; rw [if_neg (by rw [q1]; decide), if_pos q2]
        rw [el, if_neg a1, if_neg a2]
        obtain ⟨τ, g1, g2, g3⟩ := X10_addNumber hU h hpl hW hl
        refine ⟨τ, ?_, g2, g3⟩
        rw [g1, b2_eq]
        cases nok T p <;> rfl
      | false =>
        have other : ∃ τ, x_X10_addWord_81 U w (nI p) (nI c) σ = some (nI (if (lx T p u).1 = 5 then p else (lx T p u).2.2.1), τ) ∧ WA τ w (Ws ++ [lx T p u]) ∧ fWd w [5] σ τ := by
          unfold x_X10_addWord_81
          by_cases q3 : c = 34
          · have el : lx T p u = (if T[ten T p]? = some 34 then (3, p, ten T p + 1, Int32.toInt64 (cdS (slc T (p + 1) (ten T p)))) else (5, p, p, -1)) := by unfold lx; rw [e]; simp only; rw [if_neg (by rw [q1]; decide), if_neg (by rw [q2]; decide), if_pos q3]
            rw [if_pos (by rw [q3]; rfl), el]
            obtain ⟨τ, g1, g2, g3⟩ := X10_addText hU h hpl hW hl
            refine ⟨τ, ?_, g2, g3⟩
            rw [g1, b2_eq]
            by_cases q4 : T[ten T p]? = some 34
            · rw [if_pos q4, if_pos q4]; rfl
            · rw [if_neg q4, if_neg q4]; rfl
          · have el : lx T p u = (4, p, p + 1, Int32.toInt64 (nI c)) := by unfold lx; rw [e]; simp only; rw [if_neg (by rw [q1]; decide), if_neg (by rw [q2]; decide), if_neg q3]
            rw [if_neg (show ¬ nI c = 34 from fun z => q3 ((nI_eq (a := c) (b := 34) (by omega) (by decide)).mp z)), el, nI_1]
            obtain ⟨τ, g1, g2, g3⟩ := X10_push (kd := 4) (s := p) (e := p + 1) (v := Int32.toInt64 (nI c)) hW hl (by decide)
            exact ⟨τ, by rw [show (4 : Int32) = nI 4 from rfl, g1, b2_eq], g2, g3⟩
        by_cases a1 : nI c < 48
        · rw [if_pos a1]; exact other
        · rw [if_neg a1]
          by_cases a2 : 57 < nI c
          · rw [if_pos a2]; exact other
          · exact absurd ((hd c hc).mpr ⟨a1, a2⟩) (by rw [q2]; decide)
/-- the next word from a place on -/
def nw (T : List Nat) (p : Nat) : Wd := lx T (bbS T p false).1 (bbS T p false).2
/-- the words from a place on; the last one is the end or one that can't be -/
def wl (T : List Nat) : Nat → Nat → List Wd
  | 0, _ => []
  | n + 1, p => if (nw T p).1 = 0 ∨ (nw T p).1 = 5 then [nw T p] else nw T p :: wl T n (nw T p).2.2.1
theorem bbS_true {T : List Nat} : ∀ (n p : Nat), T.length < p + n → (bbS T p false).2 = true → (bbS T p false).1 = T.length := by
  intro n
  induction n with
  | zero => intro p h h'; rw [bbS_none (List.getElem?_eq_none (by omega))] at h'; cases h'
  | succ n ih =>
    intro p h h'
    rw [bbS_eq] at h' ⊢
    cases hp : T[p]? with
    | none => rw [hp] at h'; cases h'
    | some c =>
      rw [hp] at h'
      simp only at h' ⊢
      split at h'
      · next hc => rw [if_pos hc]; exact ih (p + 1) (by omega) h'
      · next hc =>
        rw [if_neg hc]
        split at h'
        · next hd => rw [if_pos hd]; exact ih _ (by omega) h'
        · next hd =>
          rw [if_neg hd]
          split at h'
          · next he =>
            rw [if_pos he]
            cases hq : ce T (T.length - (p + 2)) (p + 2) with
            | none => rfl
            | some q =>
              rw [hq] at h'
              have := (ce_at _ _ _ hq).2.2
              exact ih (q + 2) (by omega) h'
          · cases h'
theorem nw_pos {T : List Nat} {p : Nat} (hp : p ≤ T.length) (h0 : (nw T p).1 ≠ 0) (h5 : (nw T p).1 ≠ 5) : p < (nw T p).2.2.1 ∧ (nw T p).2.2.1 ≤ T.length ∧ (bbS T p false).2 = false := by
  obtain ⟨e1, e2, c, e3⟩ := lx_end h0 h5
  have hb := (bbS_le (T := T) (T.length + 1) p false (by omega) hp).2
  refine ⟨by unfold nw; omega, e2, ?_⟩
  cases hu : (bbS T p false).2 with
  | false => rfl
  | true =>
    have := bbS_true (T.length + 1) p (by omega) hu
    have h4 := (List.getElem?_eq_some_iff.mp e3).1
    omega
theorem X10_split_L {U w : Nat} {T : List Nat} (hU : 4000 < U) : ∀ (n c p U1 : Nat) (σ : SG) (Ws : List Wd), c + n = 701 → n < U1 → Ws.length = c → c ≤ p → p ≤ T.length → LX σ w T → sI σ w 7 = 0 → WA σ w Ws →
    ∃ τ, x_X10_split_L25 U w U1 (nI p) (nI c) σ = some τ ∧ WA τ w (Ws ++ wl T n p) ∧ fWd w [5, 7] σ τ := by
  intro n
  induction n with
  | zero =>
    intro c p U1 σ Ws hc hU1 hWs hcp hp h hu hW
    have := h.2.2.2; omega
  | succ n ih =>
    intro c p U1 σ Ws hc hU1 hWs hcp hp h hu hW
    have hlen := h.2.2.2
    obtain ⟨V, rfl⟩ : ∃ V, U1 = V + 1 := ⟨U1 - 1, by omega⟩
    obtain ⟨τ, g1, g2, g3⟩ := X10_behindBlanks (u := false) hU h hp (by rw [hu]; rfl)
    have hb := bbS_le (T := T) (T.length + 1) p false (by omega) hp
    obtain ⟨υ, k1, k2, k3⟩ := X10_addWord hU (h.f1 g3 (by decide)) hb.1 (hW.f1 g3 (by decide)) (by omega) g2
    have fr : fWd w [5, 7] σ υ := fWd_trans (fWd_f1 g3 (by decide)) (fWd_mono k3 (by decide))
    rw [x_X10_split_L25, l700, if_neg (fun q => by have := (ltI (by omega) (by omega)).mp q; omega), g1, b2_eq, k1, b2_eq, wl]
    have hnw : lx T (bbS T p false).1 (bbS T p false).2 = nw T p := rfl
    rw [hnw] at k2 ⊢
    by_cases hz : (nw T p).1 = 0 ∨ (nw T p).1 = 5
    · rw [if_pos hz]
      refine ⟨υ, ?_, k2, fr⟩
      rw [if_neg]
      rcases hz with h0 | h5
      · rw [if_neg (by rw [h0]; decide)]
        have := lx_0 h0
        rw [show (nw T p).2.2.1 = (bbS T p false).1 from this]
        exact fun q => absurd ((ltI (by omega) (by omega)).mp q) (Nat.lt_irrefl _)
      · rw [if_pos h5]
        exact fun q => absurd ((ltI (by omega) (by omega)).mp q) (Nat.lt_irrefl _)
    · have h0 : (nw T p).1 ≠ 0 := fun q => hz (Or.inl q)
      have h5 : (nw T p).1 ≠ 5 := fun q => hz (Or.inr q)
      obtain ⟨e1, e2, e3⟩ := nw_pos hp h0 h5
      have e4 := (lx_end h0 h5).1
      rw [if_neg hz, if_neg h5, if_pos ((ltI (by omega) (by omega)).mpr (show (bbS T p false).1 < (nw T p).2.2.1 from e4)), nI_1]
      have hu7 : sI υ w 7 = 0 := by rw [k3.2.1 7 (by decide), g2, e3]; rfl
      obtain ⟨φ, m1, m2, m3⟩ := ih (c + 1) (nw T p).2.2.1 V υ (Ws ++ [nw T p]) (by omega) (by omega) (by rw [List.length_append, List.length_singleton]; omega) (by omega) e2 (h.fWd fr (by decide)) hu7 k2
      refine ⟨φ, m1, ?_, fWd_trans fr m3⟩
      rw [List.append_assoc] at m2
      exact m2
theorem X10_split {U w : Nat} {σ : SG} {T : List Nat} (hU : 4000 < U) (hs : sh w = 10) (hR : RB σ (w - 184) T 0) (hl : T.length ≤ 700) : ∃ τ, x_X10_split U w σ = some τ ∧ LX τ w T ∧ WA τ w (wl T 701 0) ∧ fWd w [5, 6, 7] σ τ := by
  have hw := shX10 hs
  have f5 : f1 w [5, 6, 7] σ (uI σ w 5 0) := f1_u (by decide)
  have hR1 : RB (uI σ w 5 0) (w - 184) T 0 := hR.sm (f5.1 _ (by omega)) (f5.1 _ (by omega))
  have f6 : f1 w [5, 6, 7] σ (uI (uI σ w 5 0) w 6 (nI T.length)) := f1_trans f5 (f1_u (by decide))
  have f7 : f1 w [5, 6, 7] σ (uI (uI (uI σ w 5 0) w 6 (nI T.length)) w 7 0) := f1_trans f6 (f1_u (by decide))
  have hL : LX (uI (uI (uI σ w 5 0) w 6 (nI T.length)) w 7 0) w T := ⟨hs, hR.sm (f7.1 _ (by omega)) (f7.1 _ (by omega)), by rw [sI_o (Or.inr (by decide)), sI_s], hl⟩
  have hW : WA (uI (uI (uI σ w 5 0) w 6 (nI T.length)) w 7 0) w [] := ⟨by rw [sI_o (Or.inr (by decide)), sI_o (Or.inr (by decide)), sI_s]; rfl, by simp, fun i x hx => by simp at hx⟩
  obtain ⟨τ, g1, g2, g3⟩ := X10_split_L hU 701 0 0 U _ [] (by omega) (by omega) rfl (Nat.le_refl _) (Nat.zero_le _) hL (sI_s _ _ _ _) hW
  refine ⟨τ, ?_, hL.fWd g3 (by decide), g2, fWd_trans (fWd_f1 f7 (fun k hk => hk)) (fWd_mono g3 (by decide))⟩
  unfold x_X10_split
  rw [sb_eq, X0_size hR1, b1_eq, sb_eq, sb_eq]
  exact g1
