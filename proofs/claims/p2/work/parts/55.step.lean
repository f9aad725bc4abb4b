/-! ===== one step of the reading, and what stays true ===== -/
def KM (D : List Dc) (m : Nat) : Prop := ∃ d, D[m]? = some d ∧ dK d = 0
def KO (D : List Dc) (o q : Nat) (sc : Option Nat) : Prop := ∃ d, D[o]? = some d ∧ dK d = q ∧ dS d = sc
/-- a new declaration that fits behind D -/
def NW (D : List Dc) (d : Dc) : Prop := (∀ m, dS d = some m → KM D m) ∧ ((dK d = 0 ∧ dO d = none) ∨ (dK d = 1 ∧ dO d = none) ∨ (dK d = 4 ∧ dO d = none ∧ dS d ≠ none) ∨ (dK d = 2 ∧ dS d ≠ none ∧ ∀ o, dO d = some o → KO D o 4 (dS d)) ∨ (dK d = 3 ∧ ∃ e, dO d = some e ∧ KO D e 1 (dS d)))
def WF (D : List Dc) : Prop := ∀ (i : Nat) (d : Dc), D[i]? = some d → NW (D.take i) d
theorem WF_nil : WF [] := fun i d h => by simp at h
theorem WF_snoc {D : List Dc} {d : Dc} (h : WF D) (hd : NW D d) : WF (D ++ [d]) := by
  intro i x hx
  rcases Nat.lt_trichotomy i D.length with hi | hi | hi
  · rw [List.getElem?_append_left hi] at hx
    rw [List.take_append_of_le_length (Nat.le_of_lt hi)]
    exact h i x hx
  · subst hi
    rw [List.getElem?_append_right (Nat.le_refl _), Nat.sub_self] at hx
    cases hx
    rw [List.take_append_of_le_length (Nat.le_refl _), List.take_length]
    exact hd
  · rw [List.getElem?_eq_none (by rw [List.length_append]; simp; omega)] at hx
    cases hx
theorem get_snoc {D : List Dc} {m : Nat} {x d : Dc} (h : D[m]? = some x) : (D ++ [d])[m]? = some x := by
  rw [List.getElem?_append_left (by obtain ⟨q, _⟩ := List.getElem?_eq_some_iff.mp h; exact q)]; exact h
theorem get_snoc_last (D : List Dc) (d : Dc) : (D ++ [d])[D.length]? = some d := by
  rw [List.getElem?_append_right (Nat.le_refl _), Nat.sub_self]; rfl
theorem KM_snoc {D : List Dc} {m : Nat} {d : Dc} (h : KM D m) : KM (D ++ [d]) m := by obtain ⟨x, a, b⟩ := h; exact ⟨x, get_snoc a, b⟩
theorem KO_snoc {D : List Dc} {o q : Nat} {sc : Option Nat} {d : Dc} (h : KO D o q sc) : KO (D ++ [d]) o q sc := by obtain ⟨x, a, b⟩ := h; exact ⟨x, get_snoc a, b⟩
theorem KM_lt {D : List Dc} {m : Nat} (h : KM D m) : m < D.length := by
  obtain ⟨x, a, _⟩ := h
  obtain ⟨q, _⟩ := List.getElem?_eq_some_iff.mp a
  exact q
theorem KM_take {D : List Dc} {m i : Nat} (h : KM (D.take i) m) : KM D m ∧ m < i := by
  have hl := KM_lt h
  rw [List.length_take] at hl
  obtain ⟨x, a, b⟩ := h
  rw [List.getElem?_take_of_lt (by omega)] at a
  exact ⟨⟨x, a, b⟩, by omega⟩
def sStep (T : List Nat) (Ws : List Wd) (s : Rs) (D : List Dc) : Option (Rs × List Dc) := if s.2.2.2.1 = none then (if s.2.2.1 = none then sMm T Ws s D else sOm T Ws s D) else sVm T Ws s D
def IV (Ws : List Wd) (s : Rs) (D : List Dc) : Prop := (∃ x, Ws[s.1]? = some x) ∧ 4 * D.length ≤ pos Ws s.1 ∧ WF D ∧ (∀ m, s.2.1 = some m → KM D m) ∧ (∀ o, s.2.2.1 = some o → KO D o 4 s.2.1) ∧ (∀ e, s.2.2.2.1 = some e → KO D e 1 s.2.1)
theorem WS.le {T : List Nat} {Ws : List Wd} (h : WS T Ws) : ∀ (k : Nat) (x : Wd), Ws[k]? = some x → k ≤ x.2.1 ∧ x.2.1 ≤ T.length := by
  intro k
  induction k with
  | zero =>
    intro x hx
    have h0 := h.2.2.1
    rw [hx] at h0
    cases h0
    exact ⟨Nat.zero_le _, (nw_start (Nat.zero_le _)).2⟩
  | succ k ih =>
    intro y hy
    cases e : Ws[k]? with
    | none =>
      have : Ws.length ≤ k := by simpa using e
      rw [List.getElem?_eq_none (by omega)] at hy
      cases hy
    | some x =>
      have hx := ih x e
      obtain ⟨a1, a2, a3⟩ := h.2.2.2 k x e
      by_cases h0 : x.1 = 0 ∨ x.1 = 5
      · rw [a3 h0] at hy; cases hy
      · have h0' : x.1 ≠ 0 := fun z => h0 (Or.inl z)
        have h5' : x.1 ≠ 5 := fun z => h0 (Or.inr z)
        obtain ⟨z, e1, e2, e3, e4⟩ := h.next e h0' h5'
        rw [hy] at e1
        cases e1
        omega
theorem WS.mono {T : List Nat} {Ws : List Wd} (h : WS T Ws) {k : Nat} {x : Wd} (hx : Ws[k]? = some x) : ∀ (j : Nat) (y : Wd), Ws[k + j]? = some y → x.2.1 + j ≤ y.2.1 := by
  intro j
  induction j with
  | zero => intro y hy; rw [Nat.add_zero, hx] at hy; cases hy; exact Nat.le_refl _
  | succ j ih =>
    intro z hz
    cases e : Ws[k + j]? with
    | none =>
      have : Ws.length ≤ k + j := by simpa using e
      rw [List.getElem?_eq_none (by omega)] at hz
      cases hz
    | some y =>
      have hy := ih y e
      obtain ⟨a1, a2, a3⟩ := h.2.2.2 (k + j) y e
      by_cases h0 : y.1 = 0 ∨ y.1 = 5
      · have := a3 h0
        rw [show k + j + 1 = k + (j + 1) by omega, hz] at this; cases this
      · have h0' : y.1 ≠ 0 := fun z => h0 (Or.inl z)
        have h5' : y.1 ≠ 5 := fun z => h0 (Or.inr z)
        obtain ⟨w, e1, e2, e3, e4⟩ := h.next e h0' h5'
        rw [show k + j + 1 = k + (j + 1) by omega, hz] at e1
        cases e1
        omega
/-- what lies further behind has a higher number -/
theorem far_lt {T : List Nat} {Ws : List Wd} {k k' n : Nat} (h : WS T Ws) (hk : ∃ x, Ws[k]? = some x) (hf : far Ws k k' (n + 1)) : k < k' := by
  obtain ⟨x, hx⟩ := hk
  obtain ⟨⟨y, hy⟩, hp⟩ := hf
  rw [pos_some hx, pos_some hy] at hp
  rcases Nat.lt_or_ge k k' with q | q
  · exact q
  · have := h.mono hy (k - k') x (by rw [show k' + (k - k') = k by omega]; exact hx)
    omega
theorem IV.len {T : List Nat} {Ws : List Wd} {s : Rs} {D : List Dc} (h : WS T Ws) (hI : IV Ws s D) : D.length < 180 ∧ s.1 < 780 ∧ pos Ws s.1 ≤ 700 := by
  obtain ⟨⟨x, hx⟩, h4, _⟩ := hI
  have := h.le _ x hx
  have := h.2.1
  rw [pos_some hx] at h4 ⊢
  omega
/-- a word and no declaration -/
theorem IV_word {Ws : List Wd} {s s' : Rs} {D : List Dc} (hI : IV Ws s D) (hf : far Ws s.1 s'.1 1) (hm : ∀ m, s'.2.1 = some m → KM D m) (ho : ∀ o, s'.2.2.1 = some o → KO D o 4 s'.2.1) (he : ∀ e, s'.2.2.2.1 = some e → KO D e 1 s'.2.1) : IV Ws s' D ∧ far Ws s.1 s'.1 1 :=
  ⟨⟨hf.1, by have := hf.2; have := hI.2.1; omega, hI.2.2.1, hm, ho, he⟩, hf⟩
theorem IV_new {Ws : List Wd} {s s' : Rs} {D : List Dc} {d : Dc} (hI : IV Ws s D) (hf : far Ws s.1 s'.1 4) (hd : NW D d) (hm : ∀ m, s'.2.1 = some m → KM (D ++ [d]) m) (ho : ∀ o, s'.2.2.1 = some o → KO (D ++ [d]) o 4 s'.2.1) (he : ∀ e, s'.2.2.2.1 = some e → KO (D ++ [d]) e 1 s'.2.1) : IV Ws s' (D ++ [d]) ∧ far Ws s.1 s'.1 1 :=
  ⟨⟨hf.1, by have := hf.2; have := hI.2.1; rw [List.length_append]; simp; omega, WF_snoc hI.2.2.1 hd, hm, ho, he⟩, far_le hf (by omega)⟩
theorem IV_adv {Ws : List Wd} {s s' : Rs} {D D' : List Dc} {b : Bool} {o : Option (Nat × Dc)} (hI : IV Ws s D) (h : adv (s.2.1, s.2.2.1, s.2.2.2.1, b) D o = some (s', D')) (ho : ∀ k' d, o = some (k', d) → far Ws s.1 k' 4 ∧ NW D d) : IV Ws s' D' ∧ far Ws s.1 s'.1 1 := by
  cases o with
  | none => cases h
  | some kd =>
    obtain ⟨k', d⟩ := kd
    cases h
    have := ho k' d rfl
    exact IV_new hI this.1 this.2 (fun m hm => KM_snoc (hI.2.2.2.1 m hm)) (fun o hm => KO_snoc (hI.2.2.2.2.1 o hm)) (fun o hm => KO_snoc (hI.2.2.2.2.2 o hm))
theorem sVm_IV {T : List Nat} {Ws : List Wd} {s s' : Rs} {D D' : List Dc} (hS : WS T Ws) (hI : IV Ws s D) (he : s.2.2.2.1 ≠ none) (h : sVm T Ws s D = some (s', D')) : IV Ws s' D' ∧ far Ws s.1 s'.1 1 := by
  unfold sVm at h
  split at h
  · next hc =>
    cases h
    exact IV_word hI (far_sS hS hc.2) hI.2.2.2.1 hI.2.2.2.2.1 (fun e h => by cases h)
  · split at h
    · cases h
    · refine IV_adv hI h (fun k' d hd => ?_)
      have := far_sVl hS hd
      refine ⟨this.1, fun m hm => hI.2.2.2.1 m (by rw [← this.2.2.1]; exact hm), Or.inr (Or.inr (Or.inr (Or.inr ⟨this.2.1, ?_⟩)))⟩
      cases q : s.2.2.2.1 with
      | none => exact absurd q he
      | some e =>
        refine ⟨e, by rw [this.2.2.2, q], ?_⟩
        rw [this.2.2.1]
        exact hI.2.2.2.2.2 e q
theorem sFd_NW {T : List Nat} {Ws : List Wd} {s : Rs} {D : List Dc} {k k' : Nat} {d : Dc} (hS : WS T Ws) (hI : IV Ws s D) (hm : s.2.1 ≠ none) (h : sFd T Ws s.2.1 s.2.2.1 k = some (k', d)) : far Ws k k' 4 ∧ NW D d := by
  have := far_sFd hS h
  refine ⟨far_le this.1 (by omega), fun m hm => hI.2.2.2.1 m (by rw [← this.2.2.1]; exact hm), Or.inr (Or.inr (Or.inr (Or.inl ⟨this.2.1, by rw [this.2.2.1]; exact hm, fun o ho => ?_⟩)))⟩
  rw [this.2.2.1]
  exact hI.2.2.2.2.1 o (by rw [← this.2.2.2]; exact ho)
theorem sOm_IV {T : List Nat} {Ws : List Wd} {s s' : Rs} {D D' : List Dc} (hS : WS T Ws) (hI : IV Ws s D) (he : s.2.2.1 ≠ none) (h : sOm T Ws s D = some (s', D')) : IV Ws s' D' ∧ far Ws s.1 s'.1 1 := by
  have hm : s.2.1 ≠ none := by
    cases q : s.2.2.1 with
    | none => exact absurd q he
    | some o =>
      obtain ⟨d, a1, a2, a3⟩ := hI.2.2.2.2.1 o q
      have := (hI.2.2.1 o d a1).2
      rw [← a3]
      rcases this with z | z | z | z | z
      · omega
      · omega
      · exact z.2.2
      · exact z.2.1
      · omega
  unfold sOm at h
  split at h
  · next hc =>
    cases h
    exact IV_word hI (far_sS hS hc.2) hI.2.2.2.1 (fun e h => by cases h) hI.2.2.2.2.2
  · split at h
    · cases h
    · exact IV_adv hI h (fun k' d hd => sFd_NW hS hI hm hd)
theorem sBg_IV {T : List Nat} {Ws : List Wd} {s s' : Rs} {D D' : List Dc} {q : Nat} (hS : WS T Ws) (hI : IV Ws s D) (hq : q = 0 ∨ q = 1 ∨ q = 4) (hn : s.2.2.1 = none ∧ s.2.2.2.1 = none) (h4 : q = 4 → s.2.1 ≠ none) (hf : far Ws s.1 (s.1 + 1) 2) (h : sBg T Ws q (s.1 + 1, s.2) D = some (s', D')) : IV Ws s' D' ∧ far Ws s.1 s'.1 1 := by
  obtain ⟨g1, d, e1, e2, e3, e4, e5, e6, e7, e8⟩ := far_sBg hS h
  subst e1
  have hd : NW D d := by
    refine ⟨fun m hm => hI.2.2.2.1 m (by rw [← hm, e3]), ?_⟩
    rcases hq with rfl | rfl | rfl
    · exact Or.inl ⟨e2, e4⟩
    · exact Or.inr (Or.inl ⟨e2, e4⟩)
    · exact Or.inr (Or.inr (Or.inl ⟨e2, e4, by rw [e3]; exact h4 rfl⟩))
  have last : ∀ r, dK d = r → KO (D ++ [d]) D.length r (dS d) := fun r hr => ⟨d, get_snoc_last D d, hr, rfl⟩
  refine IV_new hI (far_trans hf g1) hd ?_ ?_ ?_
  · intro m hm
    rw [e5] at hm
    by_cases z : q = 0
    · rw [if_pos z] at hm
      cases hm
      exact ⟨d, get_snoc_last D d, by rw [e2, z]⟩
    · rw [if_neg z] at hm
      exact KM_snoc (hI.2.2.2.1 m hm)
  · intro o ho
    rw [e6] at ho
    by_cases z : q = 4
    · rw [if_pos z] at ho
      cases ho
      rw [e5, if_neg (by omega)]
      have := last 4 (by rw [e2, z])
      rw [e3] at this
      exact this
    · rw [if_neg z] at ho
      have := hn.1.symm.trans ho
      cases this
  · intro o ho
    rw [e7] at ho
    by_cases z : q = 1
    · rw [if_pos z] at ho
      cases ho
      rw [e5, if_neg (by omega)]
      have := last 1 (by rw [e2, z])
      rw [e3] at this
      exact this
    · rw [if_neg z] at ho
      have := hn.2.symm.trans ho
      cases this
theorem sMm_IV {T : List Nat} {Ws : List Wd} {s s' : Rs} {D D' : List Dc} (hS : WS T Ws) (hI : IV Ws s D) (hn : s.2.2.1 = none ∧ s.2.2.2.1 = none) (h : sMm T Ws s D = some (s', D')) : IV Ws s' D' ∧ far Ws s.1 s'.1 1 := by
  unfold sMm at h
  split at h
  · cases h
  split at h
  · next hc => exact sBg_IV hS hI (Or.inl rfl) hn (fun z => by cases z) (far_le (far_kw (q := 0) hS (by decide) hc) (by decide)) h
  split at h
  · next hc => exact sBg_IV hS hI (Or.inr (Or.inl rfl)) hn (fun z => by cases z) (far_le (far_kw (q := 1) hS (by decide) hc) (by decide)) h
  split at h
  · cases h
  next hm =>
  split at h
  · next hc =>
    cases h
    exact IV_word hI (far_sS hS hc) hI.2.2.2.1 hI.2.2.2.2.1 hI.2.2.2.2.2
  split at h
  · next hc =>
    cases h
    refine IV_word hI (far_sS hS hc) ?_ (fun o ho => by have := hn.1.symm.trans ho; cases this) (fun o ho => by have := hn.2.symm.trans ho; cases this)
    intro m h1
    cases q : s.2.1 with
    | none => exact absurd q hm
    | some i =>
      obtain ⟨d, a1, a2⟩ := hI.2.2.2.1 i q
      have hsc : scp D s.2.1 = dS d := by rw [q]; unfold scp; simp only [a1]
      have h2 : dS d = some m := hsc.symm.trans h1
      exact (KM_take ((hI.2.2.1 i d a1).1 m h2)).1
  split at h
  · next hc => exact sBg_IV hS hI (Or.inr (Or.inr rfl)) hn (fun _ => hm) (far_le (far_kw (q := 2) hS (by decide) hc) (by decide)) h
  · exact IV_adv (b := s.2.2.2.2) hI h (fun k' d hd => sFd_NW hS hI hm hd)
theorem sStep_IV {T : List Nat} {Ws : List Wd} {s s' : Rs} {D D' : List Dc} (hS : WS T Ws) (hI : IV Ws s D) (h : sStep T Ws s D = some (s', D')) : IV Ws s' D' ∧ far Ws s.1 s'.1 1 := by
  unfold sStep at h
  split at h
  · next h1 =>
    split at h
    · next h2 => exact sMm_IV hS hI ⟨h2, h1⟩ h
    · next h2 => exact sOm_IV hS hI h2 h
  · next h1 => exact sVm_IV hS hI h1 h
