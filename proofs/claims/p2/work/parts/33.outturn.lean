/-! ===== out and turn ===== -/
def bZ (O : List Nat) (k : Nat) : Int32 := match O[k]? with
  | some c => nI c
  | none => 0
/-- up to n bytes of OUT from place k on, behind v -/
def outV (O : List Nat) : Nat → Nat → Int64 → Int64
  | 0, _, v => v
  | n + 1, k, v => outV O n (k + 1) (lshl9 v 8 ||| Int32.toInt64 (bZ O k))
theorem bA_max (O : List Nat) (k : Nat) (h : ∀ c ∈ O, c < 256) : (if bA O k < 0 then 0 else bA O k) = bZ O k := by
  unfold bA bZ
  cases hk : O[k]? with
  | none => simp only; rw [if_pos (by decide)]
  | some c =>
    simp only
    rw [if_neg (nI_neg (by have := h c (List.mem_of_getElem? hk); omega))]
theorem X11_out_L {U k : Nat} {σ : SG} {O : List Nat} {z : Int32} (hO : RB σ 3 O z) (hk : k < 4000) : ∀ (j i U1 : Nat) (v : Int64), i + j = 8 → j < U1 →
    x_X11_out_L30 U 0 (nI k) σ U1 v (nI (k + i)) = some (.inl (some (.long (outV O j (k + i) v))), σ) := by
  intro j
  induction j with
  | zero =>
    intro i U1 v hi hU
    obtain ⟨V, rfl⟩ : ∃ V, U1 = V + 1 := ⟨U1 - 1, by omega⟩
    rw [x_X11_out_L30, l8, nI_add, if_neg (fun q => by have := (ltI (by omega) (by omega)).mp q; omega)]; rfl
  | succ j ih =>
    intro i U1 v hi hU
    obtain ⟨V, rfl⟩ : ∃ V, U1 = V + 1 := ⟨U1 - 1, by omega⟩
    rw [x_X11_out_L30]
    have e : nI k + 8 = nI (k + 8) := nI_add k 8
    rw [e, if_pos ((ltI (by omega) (by omega)).mpr (by omega)), X0_at hO (by omega), b1_eq, bA_max O _ hO.2.2.2.2, nI_1, Nat.add_assoc k i 1, ih (i + 1) V _ (by omega) (by omega)]
    rfl
noncomputable def otS (O : List Nat) (k : Int32) : mm_R := if k < 0 then .inr IOB else if k < nI O.length then .inl (some (.long (outV O 8 k.toNatClampNeg 0))) else .inr IOB
theorem X11_out {U : Nat} {σ : SG} {O : List Nat} {z k : Int32} (hU : 4000 < U) (h : RB σ 3 O z) : x_X11_out U 0 k σ = some (otS O k, σ) := by
  have hl : O.length ≤ 4000 := h.2.2.1
  unfold x_X11_out otS
  by_cases h0 : k < 0
  · rw [if_pos h0, if_pos h0]; rfl
  rw [if_neg h0, if_neg h0, X0_size h, b1_eq]
  by_cases h1 : k < nI O.length
  · rw [if_pos h1, if_pos h1]
    obtain ⟨j, hj, rfl⟩ := nI_of h0
    have hjl := (ltI hj (by omega)).mp h1
    rw [nI_clamp hj]
    exact X11_out_L h (by omega) 8 0 U 0 rfl (by omega)
  · rw [if_neg h1, if_neg h1]; rfl
theorem X12_out_L {U k : Nat} {σ : SG} {w : List Nat × Int32} (hO : ROr σ w) (h5 : sI σ 1101 5 = 0) (hk : k < 4000) : ∀ (j i U1 : Nat) (v : Int64), i + j = 8 → j < U1 →
    x_X12_out_L26 U 1101 (nI k) σ U1 v (nI i) = some (outV w.1 j (k + i) v, σ) := by
  obtain ⟨h1, h2, h3, h4⟩ := hO
  intro j
  induction j with
  | zero =>
    intro i U1 v hi hU
    obtain ⟨V, rfl⟩ : ∃ V, U1 = V + 1 := ⟨U1 - 1, by omega⟩
    rw [x_X12_out_L26, l8, if_neg (fun q => by have := (ltI (by omega) (by omega)).mp q; omega)]; rfl
  | succ j ih =>
    intro i U1 v hi hU
    obtain ⟨V, rfl⟩ : ∃ V, U1 = V + 1 := ⟨U1 - 1, by omega⟩
    have e8 : nI i < 8 := (ltI (b := 8) (by omega) (by decide)).mpr (by omega)
    rw [x_X12_out_L26, if_pos e8, h5, if_pos rfl, nI_add, h1]
    have step : ∀ x, x = bZ w.1 (k + i) → x_X12_out_68 U 1101 (x_X12_out_L26 U 1101 (nI k) σ V) (nI k) (nI i) x (lshl9 v 8) σ = some (outV w.1 (j + 1) (k + i) v, σ) := by
      intro x hx
      subst hx
      unfold x_X12_out_68
      rw [nI_1, ih (i + 1) V _ (by omega) (by omega)]; rfl
    by_cases hq : k + i < w.1.length
    · rw [if_pos ((ltI (by omega) (by omega)).mpr hq), ix_in (by omega) (by decide)]
      exact step _ (by unfold bZ; rw [List.getElem?_eq_getElem hq]; exact h3 _ _ (List.getElem?_eq_getElem hq))
    · rw [if_neg (fun q => hq ((ltI (by omega) (by omega)).mp q))]
      exact step _ (by unfold bZ; rw [List.getElem?_eq_none (by omega)])
/-- only the flag of throwing is touched -/
def f5 (σ τ : SG) : Prop := (∀ b, b ≠ 1101 → sm σ τ b) ∧ fo [5] σ τ
theorem f5_u (σ : SG) (v : Int32) : f5 σ (uI σ 1101 5 v) := ⟨fun b h1 => sm_uI h1, fo_uI (by decide)⟩
theorem ROr.f5 {σ τ : SG} {w : List Nat × Int32} (h : ROr σ w) (hf : f5 σ τ) : ROr τ w := ⟨(hf.2.1 3 (by decide)).trans h.1, (hf.2.1 4 (by decide)).trans h.2.1, h.2.2.1.sm (hf.1 _ (by decide)), h.2.2.2⟩
theorem RTr.f5 {σ τ : SG} {T : List Nat} (h : RTr σ T) (hf : f5 σ τ) : RTr τ T := ⟨(hf.2.1 1 (by decide)).trans h.1, h.2.sm (hf.1 _ (by decide))⟩
def otC (r : mm_R) : Int32 := match r with
  | .inl _ => 0
  | .inr _ => 1
theorem X12_out {U : Nat} {σ : SG} {w : List Nat × Int32} {k : Int32} (hU : 4000 < U) (h : ROr σ w) : ∃ v τ, x_X12_out U 1101 k σ = some (v, τ) ∧ f5 σ τ ∧ sI τ 1101 5 = otC (otS w.1 k) ∧ (otS w.1 k = .inl (some (.long v)) ∨ ∃ E, otS w.1 k = .inr E) := by
  have hl : w.1.length ≤ 4000 := h.2.2.2
  have bad : ∃ v τ, x_X12_out_13 U 1101 k σ = some (v, τ) ∧ f5 σ τ ∧ sI τ 1101 5 = 1 := by
    refine ⟨0, uI σ 1101 5 1, ?_, f5_u σ 1, sI_s _ _ _ _⟩
    unfold x_X12_out_13 x_X12_out_18
    obtain ⟨V, rfl⟩ : ∃ V, U = V + 1 := ⟨U - 1, by omega⟩
    rw [sb_eq, x_X12_out_L26, if_pos (by decide), sI_s, if_neg (by decide)]
  unfold x_X12_out otS
  by_cases h0 : k < 0
  · rw [if_pos h0]
    simp only [if_pos h0]
    obtain ⟨v, τ, g1, g2, g3⟩ := bad
    exact ⟨v, τ, g1, g2, g3, Or.inr ⟨_, rfl⟩⟩
  rw [if_neg h0, h.1]
  simp only [if_neg h0]
  by_cases h1 : k < nI w.1.length
  · rw [if_pos h1]
    simp only [if_pos h1]
    obtain ⟨j, hj, rfl⟩ := nI_of h0
    have hjl := (ltI hj (by omega)).mp h1
    refine ⟨_, uI σ 1101 5 0, ?_, f5_u σ 0, sI_s _ _ _ _, Or.inl rfl⟩
    unfold x_X12_out_18
    rw [sb_eq, nI_clamp hj]
    exact X12_out_L (h.f5 (f5_u σ 0)) (sI_s _ _ _ _) (by omega) 8 0 U 0 rfl (by omega)
  · rw [if_neg h1]
    simp only [if_neg h1]
    obtain ⟨v, τ, g1, g2, g3⟩ := bad
    exact ⟨v, τ, g1, g2, g3, Or.inr ⟨_, rfl⟩⟩
/-! turn -/
noncomputable def tnS (T O : List Nat) : mm_R × List Nat := if 700 < O.length then (.inr ISE, T) else (.inl (some (.int (nI O.length))), O)
theorem X11_turn {U : Nat} {σ : SG} {T O : List Nat} {z : Int32} (hU : 4000 < U) (hT : RB σ 1 T 0) (hO : RB σ 3 O z) : ∃ τ, x_X11_turn U 0 σ = some ((tnS T O).1, τ) ∧ RB τ 1 (tnS T O).2 0 ∧ fb 1 σ τ := by
  have hl : O.length ≤ 4000 := hO.2.2.1
  unfold x_X11_turn tnS
  rw [X0_size hO, b1_eq, l700]
  by_cases h7 : 700 < O.length
  · rw [if_pos ((ltI (by decide) (by omega)).mpr h7), if_pos h7]; exact ⟨σ, rfl, hT, fb_refl 1 σ⟩
  · rw [if_neg (fun q => h7 ((ltI (by decide) (by omega)).mp q)), if_neg h7]
    obtain ⟨τ, g1, g2, g3⟩ := X0_clear (σ := σ) (a := 1)
    have hf : fb 1 σ τ := fun b hb _ => g3 b hb
    have hp : apt 1 3 := ⟨by decide, by decide, by decide⟩
    have hO' := hO.fb hf hp
    obtain ⟨υ, e1, e2, e3⟩ := X0_addAll (U := U) (k := 0) (to := O.length) (w := ([], 0)) (show sh 3 = 0 from rfl) hp (Nat.zero_le _) (Nat.le_refl _) hU g2 hO'
    rw [Nat.sub_zero, List.drop_zero, List.take_length, wrL_fit _ _ (by show 0 + O.length ≤ 700; omega)] at e2
    have e2' : RB υ 1 O 0 := e2
    refine ⟨υ, ?_, e2', fb_trans hf e3⟩
    rw [g1, b1_eq, X0_size hO', b1_eq]
    have e1' : x_X0_addAll U 1 (some 3) 0 (nI O.length) τ = some υ := e1
    rw [e1', b1_eq, X0_size e2', b1_eq]
theorem X12_turn_L {U : Nat} {k : SG → Option (Int32 × SG)} {O : List Nat} {z : Int32} (hl : O.length ≤ 700) : ∀ (j i U1 : Nat) (σ : SG), i + j = O.length → j < U1 → ROr σ (O, z) → RI σ 1102 (O.take i) →
    ∃ τ, x_X12_turn_L30 U 1101 k U1 (nI i) σ = k τ ∧ RI τ 1102 O ∧ ∀ b, b ≠ 1102 → sm σ τ b := by
  intro j
  induction j with
  | zero =>
    intro i U1 σ hi hU hO hR
    obtain ⟨V, rfl⟩ : ∃ V, U1 = V + 1 := ⟨U1 - 1, by omega⟩
    refine ⟨σ, ?_, ?_, fun b _ => sm_refl σ b⟩
    · rw [x_X12_turn_L30, hO.1, if_neg (fun q => by have := (ltI (by omega) (by show O.length < _; omega)).mp q; simp at this; omega)]
    · rw [List.take_of_length_le (by omega)] at hR; exact hR
  | succ j ih =>
    intro i U1 σ hi hU hO hR
    obtain ⟨V, rfl⟩ : ∃ V, U1 = V + 1 := ⟨U1 - 1, by omega⟩
    have hil : i < O.length := by omega
    have hf : ∀ b, b ≠ 1102 → sm σ (uI σ 1102 i (nI O[i])) b := fun b hb => sm_uI hb
    have hR' : RI (uI σ 1102 i (nI O[i])) 1102 (O.take (i + 1)) := by
      have := RI_snoc (c := O[i]) hR
      rw [List.length_take, Nat.min_eq_left (by omega)] at this
      rw [List.take_succ_eq_append_getElem hil]
      exact this
    have hO' : ROr (uI σ 1102 i (nI O[i])) (O, z) := ⟨((hf 1101 (by decide)) 3).1.trans hO.1, ((hf 1101 (by decide)) 4).1.trans hO.2.1, hO.2.2.1.sm (hf 1103 (by decide)), hO.2.2.2⟩
    obtain ⟨τ, g1, g2, g3⟩ := ih (i + 1) V _ (by omega) (by omega) hO' hR'
    refine ⟨τ, ?_, g2, fun b hb => sm_trans (hf b hb) (g3 b hb)⟩
    rw [x_X12_turn_L30, hO.1, if_pos ((ltI (by omega) (by show O.length < _; omega)).mpr hil), ix_in (by omega) (by decide), ix_in (by omega) (by decide), sb_eq, hO.2.2.1 i _ (List.getElem?_eq_getElem hil), nI_1]
    exact g1
theorem X12_turn {U : Nat} {σ : SG} {T O : List Nat} {z : Int32} (hU : 4000 < U) (hT : RTr σ T) (hO : ROr σ (O, z)) : ∃ v τ, x_X12_turn U 1101 σ = some (v, τ) ∧ RTr τ (tnS T O).2 ∧ ft σ τ ∧ sI τ 1101 5 = otC (tnS T O).1 ∧ ((tnS T O).1 = .inl (some (.int v)) ∨ ∃ E, (tnS T O).1 = .inr E) := by
  have hl : O.length ≤ 4000 := hO.2.2.2
  unfold x_X12_turn tnS
  rw [hO.1, l700]
  by_cases h7 : 700 < O.length
  · rw [if_pos ((ltI (by decide) (by show O.length < _; omega)).mpr h7), if_pos h7]
    refine ⟨0, uI σ 1101 5 1, ?_, hT.f5 (f5_u σ 1), ⟨fun b h1 _ => sm_uI h1, fo_uI (by decide)⟩, sI_s _ _ _ _, Or.inr ⟨_, rfl⟩⟩
    unfold x_X12_turn_16; rw [sb_eq, sI_s, if_neg (by decide)]
  · rw [if_neg (fun q => h7 ((ltI (by decide) (by show O.length < _; omega)).mp q)), if_neg h7]
    obtain ⟨τ, g1, g2, g3⟩ := X12_turn_L (U := U) (k := fun σ14 => sb (uI σ14 1101 1 (sI σ14 1101 3)) fun σ15 => some (sI σ15 1101 1, σ15)) (by omega) O.length 0 U (uI σ 1101 5 0) (by omega) (by omega) (hO.f5 (f5_u σ 0)) (by simpa using RI_nil _ _)
    have h3 : sI τ 1101 3 = nI O.length := ((g3 1101 (by decide)) 3).1.trans (hO.f5 (f5_u σ 0)).1
    refine ⟨nI O.length, uI τ 1101 1 (nI O.length), ?_, ⟨sI_s _ _ _ _, g2.sm (sm_uI (by decide))⟩, ⟨fun b h1 h2 => sm_trans (sm_trans (sm_uI h1) (g3 b h2)) (sm_uI h1), ?_⟩, ?_, Or.inl rfl⟩
    · unfold x_X12_turn_16
      rw [sb_eq, sI_s, if_pos rfl]
      refine g1.trans ?_
      rw [sb_eq, h3, sI_s]
    · have e := g3 1101 (by decide)
      exact fo_trans (fo_uI (by decide)) (fo_trans ⟨fun k _ => (e k).1, fun k => (e k).2.1, fun k => (e k).2.2⟩ (fo_uI (by decide)))
    · rw [sI_o (by decide), ((g3 1101 (by decide)) 5).1, sI_s]; rfl
