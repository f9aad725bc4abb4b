/-! ===== what every declaration that was read is ===== -/
theorem WS.nw {T : List Nat} {Ws : List Wd} (h : WS T Ws) : ∀ (k : Nat) (x : Wd), Ws[k]? = some x → ∃ p, p ≤ T.length ∧ x = nw T p := by
  intro k
  induction k with
  | zero => intro x hx; exact ⟨0, Nat.zero_le _, by have := h.2.2.1; rw [hx] at this; exact Option.some.inj this⟩
  | succ k ih =>
    intro y hy
    cases e : Ws[k]? with
    | none =>
      have : Ws.length ≤ k := by simpa using e
      rw [List.getElem?_eq_none (by omega)] at hy
      cases hy
    | some x =>
      obtain ⟨a1, a2, a3⟩ := h.2.2.2 k x e
      by_cases h0 : x.1 = 0 ∨ x.1 = 5
      · rw [a3 h0] at hy; cases hy
      · have h0' : x.1 ≠ 0 := fun z => h0 (Or.inl z)
        have h5' : x.1 ≠ 5 := fun z => h0 (Or.inr z)
        rw [a2 h0' h5'] at hy
        exact ⟨x.2.2.1, (a1.2.2.1 h0' h5').2, (Option.some.inj hy).symm⟩
/-- a name: begins with a letter, holds letters, digits and _ alone -/
def NMo (N : List Nat) : Prop := (∃ c, N[0]? = some c ∧ pL c = true) ∧ ∀ c ∈ N, pW c = true
theorem lx_name {T : List Nat} {p : Nat} {u : Bool} (h : (lx T p u).1 = 1) : NMo (slc T (lx T p u).2.1 (lx T p u).2.2.1) := by
  unfold lx at h ⊢
  cases e : T[p]? with
  | none => rw [e] at h; simp only at h; cases u <;> cases h
  | some c =>
    rw [e] at h
    simp only at h ⊢
    by_cases hc : pL c = true
    · rw [if_pos hc]
      obtain ⟨hp, he⟩ := List.getElem?_eq_some_iff.mp e
      have hs : slc T p (p + rn pW T p) = (T.drop p).takeWhile pW := by
        unfold slc rn
        rw [show p + ((T.drop p).takeWhile pW).length - p = ((T.drop p).takeWhile pW).length by omega]
        exact (List.prefix_iff_eq_take.mp (List.takeWhile_prefix pW)).symm
      show NMo (slc T p (p + rn pW T p))
      rw [hs]
      refine ⟨⟨c, ?_, hc⟩, fun x hx => ?_⟩
      · rw [List.drop_eq_getElem_cons hp, he, List.takeWhile_cons, pL_W c hc, if_pos rfl]; rfl
      · exact List.all_eq_true.mp List.all_takeWhile x hx
    · rw [if_neg hc] at h
      exfalso
      by_cases hd : pD c = true
      · rw [if_pos hd] at h
        simp only at h
        split at h <;> cases h
      · rw [if_neg hd] at h
        by_cases h34 : c = 34
        · rw [if_pos h34] at h
          split at h <;> cases h
        · rw [if_neg h34] at h; cases h
/-- a declaration's name is a name -/
def GN (T : List Nat) (d : Dc) : Prop := dA d < dE d ∧ dE d ≤ T.length ∧ NMo (slc T (dA d) (dE d))
theorem GN_of {T : List Nat} {Ws : List Wd} {k : Nat} {x : Wd} {d : Dc} (h : WS T Ws) (hx : Ws[k]? = some x) (h1 : x.1 = 1) (ha : dA d = x.2.1) (he : dE d = x.2.2.1) : GN T d := by
  have g := (h.G.2 _ _ hx).2.2.1 (by rw [h1]; decide) (by rw [h1]; decide)
  obtain ⟨p, hp, e⟩ := h.nw k x hx
  refine ⟨by rw [ha, he]; exact g.1, by rw [he]; exact g.2, ?_⟩
  rw [ha, he, e]
  rw [e] at h1
  exact lx_name h1
/-- what is known of a field's or value's words -/
def GF (T : List Nat) (Ws : List Wd) (d : Dc) : Prop := (dN d).2 ≤ 2 ^ 40 ∧ dP d ≤ 2 ∧ (dK d = 2 → (dN d).1 = false ∧ dT d ≤ 13 ∧ (dT d = 13 → ∃ k', sTy T Ws (dW d) = some k')) ∧ (dK d ≠ 2 → dT d = 0) ∧ (dR d = true → dO d = none)
theorem sNu_g {T : List Nat} {Ws : List Wd} {b : Bool} {k k' : Nat} {v : Bool × Nat} (h : WS T Ws) (hs : sNu T Ws b k = some (k', v)) : v.2 ≤ 2 ^ 40 ∧ (b = false → v.1 = false) := by
  have nu : ∀ (j : Nat) (x : Wd), Ws[j]? = some x → x.1 = 2 → nuX x ≤ 2 ^ 40 := fun j x hx h2 => by
    have g := (h.G.2 _ _ hx).2.2.2.2.2.2 h2
    obtain ⟨n, hn, e⟩ := g
    unfold nuX
    rw [e, pk_lT (by omega)]
    omega
  unfold sNu at hs
  cases e : Ws[k]? with
  | none => rw [e] at hs; cases hs
  | some x =>
    rw [e] at hs
    simp only at hs
    by_cases q : b = true ∧ sgX T x 45 = true
    · rw [if_pos q] at hs
      cases e2 : Ws[k + 1]? with
      | none => rw [e2] at hs; cases hs
      | some y =>
        rw [e2] at hs
        simp only at hs
        by_cases q2 : y.1 = 2
        · rw [if_pos q2] at hs
          cases hs
          exact ⟨nu _ y e2 q2, fun z => by rw [z] at q; cases q.1⟩
        · rw [if_neg q2] at hs; cases hs
    · rw [if_neg q] at hs
      by_cases q2 : x.1 = 2
      · rw [if_pos q2] at hs
        cases hs
        exact ⟨nu _ x e q2, fun _ => rfl⟩
      · rw [if_neg q2] at hs; cases hs
theorem sPk_g {T : List Nat} {Ws : List Wd} {k k' v : Nat} (hs : sPk T Ws k = some (k', v)) : v ≤ 2 := by
  unfold sPk at hs
  split at hs
  · split at hs
    · split at hs
      · split at hs
        · split at hs
          · cases hs; split <;> decide
          · cases hs
        · cases hs
      · cases hs
    · cases hs
  · cases hs; decide
theorem sFe_g {T : List Nat} {Ws : List Wd} {m o : Option Nat} {t w k k' : Nat} {r : Bool} {d : Dc} (h : WS T Ws) (hs : sFe T Ws m o t w r k = some (k', d)) (ht : t ≤ 13) (hw : t = 13 → ∃ k', sTy T Ws w = some k') (hro : r = true → o = none) : GN T d ∧ GF T Ws d := by
  unfold sFe at hs
  cases e : Ws[k]? with
  | none => rw [e] at hs; cases hs
  | some x =>
    rw [e] at hs
    simp only at hs
    by_cases q : x.1 = 1
    · rw [if_pos q] at hs
      by_cases q2 : sS T Ws 61 (k + 1) = true
      · rw [if_pos q2] at hs
        cases e3 : sNu T Ws false (k + 2) with
        | none => rw [e3] at hs; cases hs
        | some y =>
          obtain ⟨k4, v⟩ := y
          rw [e3] at hs
          simp only at hs
          cases e4 : sPk T Ws k4 with
          | none => rw [e4] at hs; cases hs
          | some y =>
            obtain ⟨k5, pk⟩ := y
            rw [e4] at hs
            simp only at hs
            by_cases q5 : sS T Ws 59 k5 = true
            · rw [if_pos q5] at hs
              cases hs
              have g := sNu_g h e3
              exact ⟨GN_of h e q rfl rfl, g.1, sPk_g e4, fun _ => ⟨g.2 rfl, ht, hw⟩, fun z => absurd rfl z, hro⟩
            · rw [if_neg q5] at hs; cases hs
      · rw [if_neg q2] at hs; cases hs
    · rw [if_neg q] at hs; cases hs
theorem sFd_g {T : List Nat} {Ws : List Wd} {m o : Option Nat} {k k' : Nat} {d : Dc} (h : WS T Ws) (hs : sFd T Ws m o k = some (k', d)) : GN T d ∧ GF T Ws d := by
  have ft : ∀ (r : Bool) (j : Nat), (r = true → o = none) → sFt T Ws m o r j = some (k', d) → GN T d ∧ GF T Ws d := by
    intro r j hro hj
    unfold sFt at hj
    cases e : sPl Ws j with
    | true =>
      rw [e] at hj
      simp only [if_true] at hj
      have hp : ¬ sC Ws j < 0 ∧ ¬ 12 < sC Ws j := of_decide_eq_true e
      refine sFe_g h hj ?_ ?_ hro
      · obtain ⟨n, hn, e2⟩ := nI_of hp.1
        rw [e2, nI_clamp hn]
        have : ¬ 12 < n := fun z => hp.2 (by rw [e2]; exact (ltI (a := 12) (by decide) hn).mpr z)
        omega
      · intro z
        obtain ⟨n, hn, e2⟩ := nI_of hp.1
        rw [e2, nI_clamp hn] at z
        exact absurd ((ltI (a := 12) (by decide) hn).mpr (by omega)) (by rw [← e2]; exact hp.2)
    | false =>
      rw [e] at hj
      simp only [Bool.false_eq_true, if_false] at hj
      cases e2 : sTy T Ws j with
      | none => rw [e2] at hj; cases hj
      | some k2 =>
        rw [e2] at hj
        exact sFe_g h hj (Nat.le_refl _) (fun _ => ⟨k2, e2⟩) hro
  unfold sFd at hs
  by_cases q : o = none ∧ sC Ws k = nI 23
  · rw [if_pos q] at hs; exact ft _ _ (fun _ => q.1) hs
  · rw [if_neg q] at hs; exact ft _ _ (fun z => (by cases z)) hs
theorem sVl_g {T : List Nat} {Ws : List Wd} {m o : Option Nat} {k k' : Nat} {d : Dc} (h : WS T Ws) (hs : sVl T Ws m o k = some (k', d)) : GN T d ∧ GF T Ws d := by
  unfold sVl at hs
  cases e : Ws[k]? with
  | none => rw [e] at hs; cases hs
  | some x =>
    rw [e] at hs
    simp only at hs
    by_cases q : x.1 = 1
    · rw [if_pos q] at hs
      by_cases q2 : sS T Ws 61 (k + 1) = true
      · rw [if_pos q2] at hs
        cases e3 : sNu T Ws true (k + 2) with
        | none => rw [e3] at hs; cases hs
        | some y =>
          obtain ⟨k4, v⟩ := y
          rw [e3] at hs
          simp only at hs
          by_cases q5 : sS T Ws 59 k4 = true
          · rw [if_pos q5] at hs
            cases hs
            have g := sNu_g h e3
            exact ⟨GN_of h e q rfl rfl, g.1, (by show 0 ≤ 2; decide), fun z => (by cases z), fun _ => rfl, fun z => (by cases z)⟩
          · rw [if_neg q5] at hs; cases hs
      · rw [if_neg q2] at hs; cases hs
    · rw [if_neg q] at hs; cases hs
/-- a value's enum is the last one that was declared before it -/
def GE (D : List Dc) (i : Nat) (d : Dc) : Prop := dK d = 3 → ∀ o, dO d = some o → ∀ j x, o < j → j < i → D[j]? = some x → dK x ≠ 1
def GD (T : List Nat) (Ws : List Wd) (D : List Dc) : Prop := ∀ i d, D[i]? = some d → GN T d ∧ GF T Ws d ∧ GE D i d
def GS (T : List Nat) (Ws : List Wd) (s : Rs) (D : List Dc) : Prop := GD T Ws D ∧ ∀ e, s.2.2.2.1 = some e → ∀ j x, e < j → D[j]? = some x → dK x ≠ 1
theorem GD_snoc {T : List Nat} {Ws : List Wd} {D : List Dc} {d : Dc} (h : GD T Ws D) (h1 : GN T d) (h2 : GF T Ws d) (h3 : dK d = 3 → ∀ o, dO d = some o → ∀ j x, o < j → D[j]? = some x → dK x ≠ 1) : GD T Ws (D ++ [d]) := by
  intro i x hx
  rcases Nat.lt_trichotomy i D.length with hi | hi | hi
  · rw [List.getElem?_append_left hi] at hx
    obtain ⟨a, b, c⟩ := h i x hx
    refine ⟨a, b, fun k3 o ho j y hj hji hy => ?_⟩
    rw [List.getElem?_append_left (by omega)] at hy
    exact c k3 o ho j y hj hji hy
  · subst hi
    rw [get_snoc_last] at hx
    cases hx
    refine ⟨h1, h2, fun k3 o ho j y hj hji hy => ?_⟩
    rw [List.getElem?_append_left hji] at hy
    exact h3 k3 o ho j y hj hy
  · rw [List.getElem?_eq_none (by rw [List.length_append]; simp; omega)] at hx
    cases hx
theorem last_snoc {D : List Dc} {d : Dc} {e : Nat} (h : ∀ j x, e < j → D[j]? = some x → dK x ≠ 1) (hd : dK d ≠ 1) : ∀ j x, e < j → (D ++ [d])[j]? = some x → dK x ≠ 1 := by
  intro j x hj hx
  rcases Nat.lt_trichotomy j D.length with hi | hi | hi
  · rw [List.getElem?_append_left hi] at hx; exact h j x hj hx
  · subst hi
    rw [get_snoc_last] at hx
    cases hx; exact hd
  · rw [List.getElem?_eq_none (by rw [List.length_append]; simp; omega)] at hx
    cases hx
theorem sBg_GS {T : List Nat} {Ws : List Wd} {q : Nat} {s s' : Rs} {D D' : List Dc} (hS : WS T Ws) (hn : s.2.2.2.1 = none) (hq : q = 0 ∨ q = 1 ∨ q = 4) (h : GS T Ws s D) (hs : sBg T Ws q s D = some (s', D')) : GS T Ws s' D' := by
  unfold sBg at hs
  cases e : Ws[s.1]? with
  | none => rw [e] at hs; cases hs
  | some x =>
    rw [e] at hs
    simp only at hs
    by_cases q1 : x.1 = 1
    · rw [if_pos q1] at hs
      by_cases q2 : sS T Ws 123 (s.1 + 1) = true
      · rw [if_pos q2] at hs
        cases hs
        refine ⟨GD_snoc h.1 (GN_of hS e q1 rfl rfl) ⟨Nat.zero_le _, Nat.zero_le _, fun z => ?_, fun _ => rfl, fun z => (by cases z)⟩ (fun z => ?_), fun e' he' j y hj hy => ?_⟩
        · have : q = 2 := z
          omega
        · have : q = 3 := z
          omega
        · have he2 : (if q = 1 then some D.length else s.2.2.2.1) = some e' := he'
          by_cases q3 : q = 1
          · rw [if_pos q3] at he2
            cases he2
            rw [List.getElem?_eq_none (by rw [List.length_append]; simp; omega)] at hy
            cases hy
          · rw [if_neg q3, hn] at he2; cases he2
      · rw [if_neg q2] at hs; cases hs
    · rw [if_neg q1] at hs; cases hs
theorem adv_GS {T : List Nat} {Ws : List Wd} {s s' : Rs} {D D' : List Dc} {b : Bool} {o : Option (Nat × Dc)} (h : GS T Ws s D) (hs : adv (s.2.1, s.2.2.1, s.2.2.2.1, b) D o = some (s', D')) (ho : ∀ k d, o = some (k, d) → GN T d ∧ GF T Ws d ∧ dK d ≠ 1 ∧ (dK d = 3 → dO d = s.2.2.2.1)) : GS T Ws s' D' := by
  cases o with
  | none => cases hs
  | some kd =>
    obtain ⟨k, d⟩ := kd
    obtain ⟨a1, a2, a3, a4⟩ := ho k d rfl
    cases hs
    exact ⟨GD_snoc h.1 a1 a2 (fun k3 o' ho' => h.2 o' (by rw [← a4 k3]; exact ho')), fun e he => last_snoc (h.2 e he) a3⟩
theorem sStep_GS {T : List Nat} {Ws : List Wd} {s s' : Rs} {D D' : List Dc} (hS : WS T Ws) (h : GS T Ws s D) (hs : sStep T Ws s D = some (s', D')) : GS T Ws s' D' := by
  have hf : ∀ (m o : Option Nat) (j k : Nat) (d : Dc), sFd T Ws m o j = some (k, d) → GN T d ∧ GF T Ws d ∧ dK d ≠ 1 ∧ (dK d = 3 → dO d = s.2.2.2.1) := fun m o j k d e => by
    have g := sFd_g hS e
    have f := far_sFd hS e
    exact ⟨g.1, g.2, by rw [f.2.1]; decide, fun z => by rw [f.2.1] at z; cases z⟩
  unfold sStep at hs
  by_cases q1 : s.2.2.2.1 = none
  · rw [if_pos q1] at hs
    by_cases q2 : s.2.2.1 = none
    · rw [if_pos q2] at hs
      unfold sMm at hs
      by_cases c1 : sC Ws s.1 = 40
      · rw [if_pos c1] at hs; cases hs
      rw [if_neg c1] at hs
      by_cases c2 : sC Ws s.1 = nI 20
      · rw [if_pos c2] at hs; exact sBg_GS hS q1 (Or.inl rfl) (s := (s.1 + 1, s.2)) h hs
      rw [if_neg c2] at hs
      by_cases c3 : sC Ws s.1 = nI 21
      · rw [if_pos c3] at hs; exact sBg_GS hS q1 (Or.inr (Or.inl rfl)) (s := (s.1 + 1, s.2)) h hs
      rw [if_neg c3] at hs
      by_cases c4 : s.2.1 = none
      · rw [if_pos c4] at hs; cases hs
      rw [if_neg c4] at hs
      by_cases c5 : sS T Ws 59 s.1 = true
      · rw [if_pos c5] at hs; cases hs; exact h
      rw [if_neg c5] at hs
      by_cases c6 : sS T Ws 125 s.1 = true
      · rw [if_pos c6] at hs; cases hs; exact h
      rw [if_neg c6] at hs
      by_cases c7 : sC Ws s.1 = nI 22
      · rw [if_pos c7] at hs; exact sBg_GS hS q1 (Or.inr (Or.inr rfl)) (s := (s.1 + 1, s.2)) h hs
      rw [if_neg c7] at hs
      exact adv_GS (b := s.2.2.2.2) h hs (fun k d e => hf _ _ _ k d e)
    · rw [if_neg q2] at hs
      unfold sOm at hs
      by_cases c1 : s.2.2.2.2 = false ∧ sS T Ws 125 s.1 = true
      · rw [if_pos c1] at hs; cases hs; exact h
      rw [if_neg c1] at hs
      by_cases c2 : sC Ws s.1 = 40
      · rw [if_pos c2] at hs; cases hs
      rw [if_neg c2] at hs
      exact adv_GS h hs (fun k d e => hf _ _ _ k d e)
  · rw [if_neg q1] at hs
    unfold sVm at hs
    by_cases c1 : s.2.2.2.2 = false ∧ sS T Ws 125 s.1 = true
    · rw [if_pos c1] at hs; cases hs; exact ⟨h.1, fun e he => by cases he⟩
    rw [if_neg c1] at hs
    by_cases c2 : sC Ws s.1 = 40
    · rw [if_pos c2] at hs; cases hs
    rw [if_neg c2] at hs
    refine adv_GS h hs (fun k d e => ?_)
    have g := sVl_g hS e
    have f := far_sVl hS e
    exact ⟨g.1, g.2, by rw [f.2.1]; decide, fun _ => f.2.2.2⟩
theorem rd_GD {T : List Nat} {Ws : List Wd} (hS : WS T Ws) : ∀ (n : Nat) (s : Rs) (D D' : List Dc), GS T Ws s D → rd T Ws n s D = some D' → GD T Ws D' := by
  intro n
  induction n with
  | zero => intro s D D' _ h; cases h
  | succ n ih =>
    intro s D D' hG h
    rw [rd] at h
    by_cases q : atE Ws s = true
    · rw [if_pos q] at h; cases h; exact hG.1
    · rw [if_neg q] at h
      cases e : sStep T Ws s D with
      | none => rw [e] at h; cases h
      | some x =>
        rw [e] at h
        exact ih x.1 x.2 D' (sStep_GS hS hG e) h
theorem dcl_GD {T : List Nat} {D : List Dc} (h8 : ok8 T) (hl : T.length ≤ 700) (h : dcl T = some D) : GD T (wl T 701 0) D ∧ WF D ∧ D.length < 180 := by
  have hS := WS_wl h8 hl
  unfold dcl rdS at h
  cases q : sSy T (wl T 701 0) with
  | false => rw [q] at h; cases h
  | true =>
    rw [q, if_pos rfl] at h
    have I0 : IV (wl T 701 0) (4, none, none, none, false) [] := ⟨sSy_far hS q, Nat.zero_le _, WF_nil, fun m h => (by cases h), fun m h => (by cases h), fun m h => (by cases h)⟩
    have := rd_WF hS 701 _ [] D I0 h
    exact ⟨rd_GD hS 701 _ [] D ⟨fun i d hd => by simp at hd, fun e he => by cases he⟩ h, this.1, this.2⟩
