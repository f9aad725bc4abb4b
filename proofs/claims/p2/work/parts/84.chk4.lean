/-! ===== the reference checks types and limits ===== -/
def PF (f b k : Nat) : Prop := (b = 1101 ∧ (k = 74 ∨ k = 75 ∨ k = 77)) ∨ (b = 1139 ∧ k = f) ∨ (b = 1141 ∧ k = f)
theorem PF_T {f : Nat} {σ τ : SG} (h : fP (PF f) σ τ) : fP PT σ τ := fP_mono h (fun b k z => by
  rcases z with z | z | z
  · exact Or.inl z
  · exact Or.inr (Or.inl z.1)
  · exact Or.inr (Or.inr z.1))
theorem PF_q {f : Nat} {σ τ : SG} (h : fq [74, 75] σ τ) : fP (PF f) σ τ := fun b k hk => by
  by_cases hb : b = 1101
  · subst hb
    have h74 : k ∉ [74, 75] := fun z => hk (Or.inl ⟨rfl, by
      simp only [List.mem_cons, List.not_mem_nil, or_false] at z
      omega⟩)
    exact ⟨h.2.1 k h74, h.2.2.1 k (fun z => hk (Or.inl ⟨rfl, Or.inr (Or.inr z)⟩)), h.2.2.2 k⟩
  · exact h.1 b hb k
/-- what a field's type refers to: an ordinal -/
def refI (D : List Dc) (o : Option Nat) : Int32 := match o with
  | none => -1
  | some i => nI (cnt (D.take i) (knd D i))
/-- the type that a place tells -/
def tyO (D : List Dc) (o : Option Nat) : Nat := match o with
  | some t => if knd D t = 0 then 13 else 14
  | none => 13
theorem N_res_end {U f : Nat} {D : List Dc} {σ : SG} {o : Option Nat} (hl : D.length < 180) (hfl : f < 200) (ho : ∀ i, o = some i → ∃ d, D[i]? = some d ∧ dK d ≤ 1) :
    ∃ τ, x_X12_resolve_115 U 1101 (nI f) (ordR D o) σ = some τ ∧ fP (PF f) σ τ ∧ sI τ 1139 f = nI (tyO D o) ∧ sI τ 1141 f = refI D o ∧ (sI τ 1101 74 = 0 ↔ sI σ 1101 74 = 0 ∧ o.isSome = true) := by
  -- the two rows
  have fin : ∀ (υ : SG) (ty : Nat) (rf : Int32), fP (PF f) υ (uI (uI υ 1139 f (nI ty)) 1141 f rf) ∧ sI (uI (uI υ 1139 f (nI ty)) 1141 f rf) 1139 f = nI ty ∧ sI (uI (uI υ 1139 f (nI ty)) 1141 f rf) 1141 f = rf ∧ sI (uI (uI υ 1139 f (nI ty)) 1141 f rf) 1101 74 = sI υ 1101 74 := by
    intro υ ty rf
    refine ⟨fP_trans (fP_u (Or.inr (Or.inl ⟨rfl, rfl⟩))) (fP_u (Or.inr (Or.inr ⟨rfl, rfl⟩))), ?_, sI_s _ _ _ _, ?_⟩
    · rw [sI_o (Or.inl (by decide)), sI_s]
    · rw [sI_o (Or.inl (by decide)), sI_o (Or.inl (by decide))]
  unfold x_X12_resolve_115 x_X12_resolve_131 x_X12_resolve_150 x_X12_resolve_172
  cases o with
  | none =>
    obtain ⟨υ, g1, g2, g3⟩ := N_earlier (σ := σ) (v := 5) (p := sI σ 1140 f) (by decide)
    rw [if_pos (show ordR D none = -1 from rfl), ix_in hfl (by decide), g1, b1_eq, if_pos (show ordR D none < 1000 from (by decide : (-1 : Int32) < 1000)), ix_in hfl (by decide), sb_eq, if_pos (show ordR D none < 1000 from (by decide : (-1 : Int32) < 1000)), ix_in hfl (by decide), sb_eq]
    obtain ⟨a1, a2, a3, a4⟩ := fin υ 13 (ordR D none)
    refine ⟨_, rfl, fP_trans (PF_q g3) a1, a2, a3, ?_⟩
    exact ⟨fun z => absurd (a4.symm.trans z) g2, fun z => by cases z.2⟩
  | some i =>
    obtain ⟨d, hd, hk⟩ := ho i rfl
    rw [if_neg (fun z => by have := (ordR_none hl).mp z; cases this)]
    have c0 := cnt_take_le D i 0
    have c1 := cnt_take_le D i 1
    have l0 := cnt_le D 0
    have l1 := cnt_le D 1
    have hkn := knd_some hd
    unfold tyO
    simp only
    by_cases q : dK d = 0
    · have eo : ordR D (some i) = nI (cnt (D.take i) 0) := by unfold ordR; simp only; rw [hkn, if_pos q]
      have lt : ordR D (some i) < 1000 := by rw [eo]; exact (ltI (b := 1000) (by omega) (by decide)).mpr (by omega)
      rw [if_pos lt, ix_in hfl (by decide), sb_eq, if_pos lt, ix_in hfl (by decide), sb_eq, hkn, if_pos q]
      obtain ⟨a1, a2, a3, a4⟩ := fin σ 13 (ordR D (some i))
      refine ⟨_, rfl, a1, a2, ?_, ?_⟩
      · rw [show sI (uI (uI σ 1139 f 13) 1141 f (ordR D (some i))) 1141 f = ordR D (some i) from a3, eo]
        unfold refI; simp only; rw [hkn, q]
      · exact ⟨fun z => ⟨a4.symm.trans z, rfl⟩, fun z => a4.trans z.1⟩
    · have eo : ordR D (some i) = nI (1000 + cnt (D.take i) 1) := by unfold ordR; simp only; rw [hkn, if_neg q]
      have lt : ¬ ordR D (some i) < 1000 := fun z => by rw [eo] at z; have := (ltI (b := 1000) (by omega) (by decide)).mp z; omega
      rw [if_neg lt, ix_in hfl (by decide), sb_eq, if_neg lt, ix_in hfl (by decide), sb_eq, hkn, if_neg q]
      obtain ⟨a1, a2, a3, a4⟩ := fin σ 14 (ordR D (some i) - 1000)
      refine ⟨_, rfl, a1, a2, ?_, ?_⟩
      · rw [show sI (uI (uI σ 1139 f 14) 1141 f (ordR D (some i) - 1000)) 1141 f = ordR D (some i) - 1000 from a3, eo, show (1000 : Int32) = nI 1000 from rfl, nI_sub (by omega)]
        unfold refI; simp only; rw [hkn, show dK d = 1 by omega, show 1000 + cnt (D.take i) 1 - 1000 = cnt (D.take i) 1 by omega]
      · exact ⟨fun z => ⟨a4.symm.trans z, rfl⟩, fun z => a4.trans z.1⟩
theorem rsN_k {T : List Nat} {Ws : List Wd} {D : List Dc} : ∀ (n k : Nat) (o : Option Nat), (∀ i, o = some i → ∃ d, D[i]? = some d ∧ dK d ≤ 1) → ∀ i, rsN (lkR T D) T Ws n k o = some i → ∃ d, D[i]? = some d ∧ dK d ≤ 1 := by
  intro n
  induction n with
  | zero => intro k o ho i h; exact ho i h
  | succ n ih =>
    intro k o ho i h
    cases o with
    | none => cases h
    | some t =>
      rw [rsN] at h
      split at h
      · exact ih _ _ (fun j hj => by obtain ⟨d, a1, a2, _⟩ := lkR_k hj; exact ⟨d, a1, a2⟩) i h
      · exact ho i h
theorem rsU_k {T : List Nat} {D : List Dc} {nm : List Nat} : ∀ (n : Nat) (sc : Option Nat) (i : Nat), rsU (lkR T D) D nm n sc = some i → ∃ d, D[i]? = some d ∧ dK d ≤ 1 := by
  intro n
  induction n with
  | zero => intro sc i h; cases h
  | succ n ih =>
    intro sc i h
    cases sc with
    | none => obtain ⟨d, a1, a2, _⟩ := lkR_k h; exact ⟨d, a1, a2⟩
    | some m =>
      rw [rsU] at h
      cases e : lkR T D (some m) nm with
      | some t => rw [e] at h; cases h; obtain ⟨d, a1, a2, _⟩ := lkR_k e; exact ⟨d, a1, a2⟩
      | none => rw [e] at h; exact ih _ _ h
theorem N_resolve {U i : Nat} {T : List Nat} {Ws : List Wd} {D : List Dc} {p : Nat} {d : Dc} {σ0 σ : SG} (hU : 4000 < U) (hS : WS T Ws) (hW : WF D) (hN : GNs T D) (hl : D.length < 180) (h0 : cnt D 0 ≤ 100) (h1 : cnt D 1 ≤ 100) (hp : p ≤ 350) (hM : RM σ0 T Ws D p) (hf : fP PT σ0 σ) (hL : LR σ T) (hd : D[i]? = some d) (h2 : dK d = 2) (h13 : dT d = 13) :
    ∃ τ, x_X12_resolve U 1101 (nI (cnt (D.take i) 2)) σ = some τ ∧ fP (PF (cnt (D.take i) 2)) σ τ ∧ sI τ 1139 (cnt (D.take i) 2) = nI (dTy (lkR T D) T Ws D d) ∧ sI τ 1141 (cnt (D.take i) 2) = refI D (dTg (lkR T D) T Ws D d) ∧ (sI τ 1101 74 = 0 ↔ sI σ 1101 74 = 0 ∧ okT (lkR T D) T Ws D d = true) := by
  have hc := cnt_take_lt hd h2
  have hcl := cnt_le D 2
  have hfl : cnt (D.take i) 2 < 200 := by omega
  obtain ⟨rn, fd⟩ := (hM.2.2.2 i d hd).2.2.2.1 h2
  obtain ⟨c0, q, m, k', c1, c2, c3, c4, c5, c6, c7, c8⟩ := fd.2.2.2.2.2.2 h13
  have hnm : nmd d = true := decide_eq_true ⟨h2, h13⟩
  have P' : PTs σ Ws q (w0 T Ws (dW d)) m := fun t ht => by
    obtain ⟨x, e1, e2, e3⟩ := c8 t ht
    exact ⟨x, e1, (PT_c hf (by decide) (by decide) (by decide)).trans e2, (PT_c hf (by decide) (by decide) (by decide)).trans e3⟩
  have h43 : sI σ 1143 (cnt (D.take i) 2) = nI q := (PT_c hf (by decide) (by decide) (by decide)).trans c4
  have h44 : sI σ 1144 (cnt (D.take i) 2) = nI m := (PT_c hf (by decide) (by decide) (by decide)).trans c5
  have h42 : sI σ 1142 (cnt (D.take i) 2) = zI (sS T Ws 46 (dW d)) := (PT_c hf (by decide) (by decide) (by decide)).trans c3
  have h34 : sI σ 1134 (cnt (D.take i) 2) = oq D 0 (dS d) := (PT_c hf (by decide) (by decide) (by decide)).trans rn.1
  -- the parts' chain
  have hTN : sTN T Ws Ws.length (w0 T Ws (dW d)) = some k' := by
    unfold sTy at c1
    unfold w0
    by_cases z : sS T Ws 46 (dW d) = true
    · rw [if_pos z] at c1 ⊢; exact c1
    · rw [if_neg z] at c1 ⊢
      split at c1
      · cases c1
      · exact c1
  obtain ⟨_, x, _, hx, hx1, _⟩ := sTN_1 hTN
  have gx := (hS.G.2 _ _ hx).2.2.1 (by rw [hx1]; decide) (by rw [hx1]; decide)
  have hA : PA σ T q (wnm T Ws (w0 T Ws (dW d))) := by
    obtain ⟨y, y1, y2, y3⟩ := P' 0 (by omega)
    rw [Nat.mul_zero, Nat.add_zero, hx] at y1
    cases y1
    refine ⟨by omega, x.2.1, x.2.2.1 - x.2.1, y2, y3, by omega, ?_⟩
    unfold wnm
    rw [hx]
    simp only
    rw [show x.2.1 + (x.2.2.1 - x.2.1) = x.2.2.1 by omega]
  have hWl : Ws.length ≤ 701 := by
    have hwl : ∀ (k : Nat) (y : Wd), Ws[k]? = some y → k ≤ 700 := fun k y hy => by have := hS.le k y hy; have := hS.2.1; omega
    rcases Nat.lt_or_ge 701 Ws.length with z | z
    · have := hwl 701 _ (List.getElem?_eq_getElem z); omega
    · exact z
  have ends : ∀ (o : Option Nat), (∀ j, o = some j → ∃ d, D[j]? = some d ∧ dK d ≤ 1) → rsl (lkR T D) T Ws D d = rsN (lkR T D) T Ws Ws.length (w0 T Ws (dW d)) o →
      ∃ τ, x_X12_resolve_64 U 1101 (nI (cnt (D.take i) 2)) (ordR D o) σ = some τ ∧ fP (PF (cnt (D.take i) 2)) σ τ ∧ sI τ 1139 (cnt (D.take i) 2) = nI (dTy (lkR T D) T Ws D d) ∧ sI τ 1141 (cnt (D.take i) 2) = refI D (dTg (lkR T D) T Ws D d) ∧ (sI τ 1101 74 = 0 ↔ sI σ 1101 74 = 0 ∧ okT (lkR T D) T Ws D d = true) := by
    intro o ho er
    unfold x_X12_resolve_64
    have key := N_res_N (U := U) (K := fun w42 => x_X12_resolve_115 U 1101 (nI (cnt (D.take i) 2)) w42 σ) hU hS hW hN hl h0 h1 hM hf hL hfl h43 h44 (by omega) P' Ws.length 1 U k' o (Nat.le_refl _) c7 (by rw [Nat.sub_self, Nat.mul_zero, Nat.add_zero]; exact hTN) (by omega) (by omega) ho
    rw [Nat.sub_self, Nat.mul_zero, Nat.add_zero, ← er] at key
    have key' : x_X12_resolve_L67 U 1101 (fun w42 => x_X12_resolve_115 U 1101 (nI (cnt (D.take i) 2)) w42 σ) (nI (cnt (D.take i) 2)) σ U (ordR D o) 1 = x_X12_resolve_115 U 1101 (nI (cnt (D.take i) 2)) (ordR D (rsl (lkR T D) T Ws D d)) σ := key
    rw [key']
    obtain ⟨τ, e1, e2, e3, e4, e5⟩ := N_res_end (U := U) (σ := σ) (o := rsl (lkR T D) T Ws D d) hl hfl (by rw [er]; exact rsN_k _ _ _ ho)
    refine ⟨τ, e1, e2, ?_, ?_, ?_⟩
    · rw [e3]; unfold dTy tyO; rw [hnm, if_pos rfl]; cases rsl (lkR T D) T Ws D d <;> rfl
    · rw [e4]; unfold dTg; rw [hnm, if_pos rfl]
    · rw [e5]; unfold okT; rw [hnm, Bool.not_true, Bool.false_or]
  unfold x_X12_resolve x_X12_resolve_19
  rw [ix_in hfl (by decide), h42, ifz]
  by_cases z : sS T Ws 46 (dW d) = true
  · rw [if_pos z, ix_in hfl (by decide), h43]
    have e0 := N_inScope (sc := none) hU hW hN hl h0 h1 hM hf hL (fun m hm => by cases hm) hA
    have e0' : x_X12_inScope U 1101 (-1) (nI q) σ = some (ordR D (lkR T D none (wnm T Ws (w0 T Ws (dW d))))) := e0
    rw [e0', b1_eq]
    have key := N_res_U (U := U) (f := cnt (D.take i) 2) (K := fun w28 => x_X12_resolve_64 U 1101 (nI (cnt (D.take i) 2)) w28 σ) hU hW hN hl h0 h1 hM hf hL hA hfl h43 1 U none (fun m hm => by cases hm) (by decide) (by omega)
    have key' : x_X12_resolve_L32 U 1101 (fun w28 => x_X12_resolve_64 U 1101 (nI (cnt (D.take i) 2)) w28 σ) (nI (cnt (D.take i) 2)) σ U (-1) (ordR D (lkR T D none (wnm T Ws (w0 T Ws (dW d))))) = x_X12_resolve_64 U 1101 (nI (cnt (D.take i) 2)) (ordR D (lkR T D none (wnm T Ws (w0 T Ws (dW d))))) σ := key
    rw [key']
    refine ends _ (fun j hj => by obtain ⟨d', a1, a2, _⟩ := lkR_k hj; exact ⟨d', a1, a2⟩) ?_
    unfold rsl
    rw [if_pos z]
    unfold w0
    rw [if_pos z]
  · rw [if_neg z, ix_in hfl (by decide), h34, ix_in hfl (by decide), h43]
    have hsc : ∀ m, dS d = some m → KM D m := fun m hm => (KM_take ((hW i d hd).1 m hm)).1
    rw [N_inScope hU hW hN hl h0 h1 hM hf hL hsc hA, b1_eq, N_res_U (U := U) (K := fun w28 => x_X12_resolve_64 U 1101 (nI (cnt (D.take i) 2)) w28 σ) hU hW hN hl h0 h1 hM hf hL hA hfl h43 (D.length + 1) U (dS d) (fun m hm => ⟨by have := (hW.before hd).1 m hm; have := (List.getElem?_eq_some_iff.mp hd).1; omega, hsc m hm⟩) (by omega) (by omega)]
    refine ends _ (fun j hj => rsU_k _ _ _ hj) ?_
    unfold rsl
    rw [if_neg z]
    unfold w0
    rw [if_neg z]
theorem N_isNumbers {t : Nat} (ht : t ≤ 14) : x_X12_isNumbers (nI t) = some (zI (nmr t)) := (by decide +kernel : ∀ t, t < 15 → x_X12_isNumbers (nI t) = some (zI (nmr t))) t (by omega)
theorem N_types_P {U i : Nat} {T : List Nat} {Ws : List Wd} {D : List Dc} {p : Nat} {d : Dc} {K : Int32 → SG → Option SG} {σ0 σ : SG} (hl : D.length < 180) (hM : RM σ0 T Ws D p) (hf : fP PT σ0 σ) (hd : D[i]? = some d) (h2 : dK d = 2) (hP2 : dP d ≤ 2) (hT13 : dT d ≤ 13) (h39 : sI σ 1139 (cnt (D.take i) 2) = nI (dTy (lkR T D) T Ws D d)) :
    ∃ τ, x_X12_checkTypes_32 U 1101 K (nI (cnt (D.take i) 2)) σ = K (nI (cnt (D.take i) 2 + 1)) τ ∧ CK σ τ (okP (lkR T D) T Ws D d = true) := by
  have hc := cnt_take_lt hd h2
  have hcl := cnt_le D 2
  obtain ⟨rn, fd⟩ := (hM.2.2.2 i d hd).2.2.2.1 h2
  have h46 : sI σ 1146 (cnt (D.take i) 2) = nI (dP d) := (PT_c hf (by decide) (by decide) (by decide)).trans fd.2.2.2.1
  have h45 : sI σ 1145 (cnt (D.take i) 2) = zI (dR d) := (PT_c hf (by decide) (by decide) (by decide)).trans fd.2.1
  have ht := dTy_lt (lk := lkR T D) (T := T) (Ws := Ws) (D := D) hT13
  unfold x_X12_checkTypes_32 x_X12_checkTypes_62 x_X12_checkTypes_74
  rw [ix_in (by omega) (by decide), h46, nI_1]
  have bad : okP (lkR T D) T Ws D d = false → ∃ τ, (ix (nI (cnt (D.take i) 2)) 200 fun j24 => b1 (x_X12_earlier 1101 6 (sI σ 1147 j24) σ) fun σ29 => K (nI (cnt (D.take i) 2 + 1)) σ29) = K (nI (cnt (D.take i) 2 + 1)) τ ∧ CK σ τ (okP (lkR T D) T Ws D d = true) := by
    intro z
    rw [ix_in (by omega) (by decide)]
    obtain ⟨τ, f1, f2, f3⟩ := N_earlier (σ := σ) (v := 6) (p := sI σ 1147 (cnt (D.take i) 2)) (by decide)
    rw [f1, b1_eq]
    exact ⟨τ, rfl, CK_bad f3 f2 (by rw [z]; decide)⟩
  by_cases q0 : dP d = 0
  · rw [if_neg (show ¬ (0 : Int32) < nI (dP d) by rw [q0]; decide)]
    exact ⟨σ, rfl, CK_refl (by unfold okP; rw [decide_eq_true q0]; rfl)⟩
  · rw [if_pos (show (0 : Int32) < nI (dP d) from (ltI (a := 0) (by decide) (by omega)).mpr (by omega)), ix_in (by omega) (by decide), h45, ifz]
    cases hR : dR d with
    | false =>
      rw [if_neg (by decide)]
      exact bad (by unfold okP; rw [hR, decide_eq_false q0]; rfl)
    | true =>
      rw [if_pos rfl, ix_in (by omega) (by decide), h39, N_isNumbers ht, b1_eq, ifz]
      cases hn : nmr (dTy (lkR T D) T Ws D d) with
      | false =>
        rw [if_neg (by decide)]
        exact bad (by unfold okP; rw [hR, decide_eq_false q0, hn]; rfl)
      | true =>
        rw [if_pos rfl]
        exact ⟨σ, rfl, CK_refl (by unfold okP; rw [hR, hn]; simp)⟩
/-- a field's type and what it refers to -/
def TYr (σ : SG) (T : List Nat) (Ws : List Wd) (D : List Dc) (j : Nat) (d : Dc) : Prop := sI σ 1139 j = nI (dTy (lkR T D) T Ws D d) ∧ sI σ 1141 j = refI D (dTg (lkR T D) T Ws D d)
theorem N_types_L {U : Nat} {T : List Nat} {Ws : List Wd} {D : List Dc} {p : Nat} {σ0 : SG} (hU : 4000 < U) (hS : WS T Ws) (hW : WF D) (hG : GD T Ws D) (hl : D.length < 180) (h0 : cnt D 0 ≤ 100) (h1 : cnt D 1 ≤ 100) (hp : p ≤ 350) (hM : RM σ0 T Ws D p) (hL0 : LR σ0 T) : ∀ (j f U1 : Nat) (σ : SG), f + j = cnt D 2 → j < U1 → fP PT σ0 σ → (∀ g, f ≤ g → sI σ 1139 g = sI σ0 1139 g) →
    ∃ τ, x_X12_checkTypes_L2 U 1101 U1 (nI f) σ = some τ ∧ fP PT σ τ ∧ (sI τ 1101 74 = 0 ↔ sI σ 1101 74 = 0 ∧ ∀ (i : Nat) (d : Dc), D[i]? = some d → dK d = 2 → f ≤ cnt (D.take i) 2 → okT (lkR T D) T Ws D d = true ∧ okP (lkR T D) T Ws D d = true) ∧ (∀ (i : Nat) (d : Dc), D[i]? = some d → dK d = 2 → f ≤ cnt (D.take i) 2 → TYr τ T Ws D (cnt (D.take i) 2) d) ∧ ∀ g, g < f → sI τ 1139 g = sI σ 1139 g ∧ sI τ 1141 g = sI σ 1141 g := by
  have hcl := cnt_le D 2
  have hN : GNs T D := fun i d hd => (hG i d hd).1
  intro j
  induction j with
  | zero =>
    intro f U1 σ hfj hu hf h39
    obtain ⟨V, rfl⟩ : ∃ V, U1 = V + 1 := ⟨U1 - 1, by omega⟩
    have h34 : sI σ 1101 34 = nI (cnt D 2) := (PT_o hf (by decide) (by decide)).trans (hM.1 2 (by decide))
    rw [x_X12_checkTypes_L2, h34, if_neg (fun q => by have := (ltI (by omega) (by omega)).mp q; omega)]
    exact ⟨σ, rfl, fP_refl _ _, ⟨fun z => ⟨z, fun i d h3 h4 h5 => by have := cnt_take_lt h3 h4; omega⟩, fun z => z.1⟩, fun i d h3 h4 h5 => by have := cnt_take_lt h3 h4; omega, fun g _ => ⟨rfl, rfl⟩⟩
  | succ j ih =>
    intro f U1 σ hfj hu hf h39
    obtain ⟨V, rfl⟩ : ∃ V, U1 = V + 1 := ⟨U1 - 1, by omega⟩
    have h34 : sI σ 1101 34 = nI (cnt D 2) := (PT_o hf (by decide) (by decide)).trans (hM.1 2 (by decide))
    obtain ⟨i, d, hd, h2, hfi⟩ := plc (D := D) (q := 2) f (by omega)
    obtain ⟨gn, gf, _⟩ := hG i d hd
    obtain ⟨n1, n2, n3⟩ := gf.2.2.1 h2
    obtain ⟨rn, fd⟩ := (hM.2.2.2 i d hd).2.2.2.1 h2
    rw [hfi] at fd
    rw [x_X12_checkTypes_L2, h34, if_pos ((ltI (by omega) (by omega)).mpr (by omega)), ix_in (by omega) (by decide), sb_eq, ix_in (by omega) (by decide)]
    have f6 : fP (PF f) σ (uI σ 1141 f (-1)) := fP_u (Or.inr (Or.inr ⟨rfl, rfl⟩))
    have z6 : sI (uI σ 1141 f (-1)) 1101 74 = sI σ 1101 74 := sI_o (Or.inl (by decide))
    have e39 : sI (uI σ 1141 f (-1)) 1139 f = sI σ0 1139 f := by rw [sI_o (Or.inl (by decide))]; exact h39 f (Nat.le_refl _)
    rw [e39]
    -- the rest, once the type is there
    have rest : ∀ (υ : SG), fP (PF f) σ υ → (sI υ 1101 74 = 0 ↔ sI σ 1101 74 = 0 ∧ okT (lkR T D) T Ws D d = true) → TYr υ T Ws D f d → ∃ τ, x_X12_checkTypes_32 U 1101 (x_X12_checkTypes_L2 U 1101 V) (nI f) υ = some τ ∧ fP PT σ τ ∧ (sI τ 1101 74 = 0 ↔ sI σ 1101 74 = 0 ∧ ∀ (i : Nat) (d : Dc), D[i]? = some d → dK d = 2 → f ≤ cnt (D.take i) 2 → okT (lkR T D) T Ws D d = true ∧ okP (lkR T D) T Ws D d = true) ∧ (∀ (i : Nat) (d : Dc), D[i]? = some d → dK d = 2 → f ≤ cnt (D.take i) 2 → TYr τ T Ws D (cnt (D.take i) 2) d) ∧ ∀ g, g < f → sI τ 1139 g = sI σ 1139 g ∧ sI τ 1141 g = sI σ 1141 g := by
      intro υ fυ zυ tυ
      have hfυ := fP_trans hf (PF_T fυ)
      have hty := tυ.1
      rw [← hfi] at hty
      obtain ⟨ω, w1, w2⟩ := N_types_P (U := U) (K := x_X12_checkTypes_L2 U 1101 V) hl hM hfυ hd h2 gf.2.1 n2 hty
      rw [hfi] at w1
      rw [w1]
      have fω : fP (PF f) σ ω := fP_trans fυ (PF_q w2.1)
      obtain ⟨τ, t1, t2, t3, t4, t5⟩ := ih (f + 1) V ω (by omega) (by omega) (fP_trans hf (PF_T fω)) (fun g hg => by
        rw [(fω 1139 g (by rintro (z | z | z) <;> omega)).1]; exact h39 g (by omega))
      have only : ∀ (i' : Nat) (d' : Dc), D[i']? = some d' → dK d' = 2 → cnt (D.take i') 2 = f → i' = i ∧ d' = d := fun i' d' h3 h4 h5 => by
        have := ord_inj h3 h4 hd h2 (by omega)
        subst this
        rw [hd] at h3
        exact ⟨rfl, (Option.some.inj h3).symm⟩
      refine ⟨τ, t1, fP_trans (PF_T fω) t2, ?_, fun i' d' h3 h4 h5 => ?_, fun g hg => ?_⟩
      · rw [t3, w2.2, zυ]
        constructor
        · rintro ⟨⟨⟨a1, a2⟩, a3⟩, a4⟩
          refine ⟨a1, fun i' d' h3 h4 h5 => ?_⟩
          by_cases q : cnt (D.take i') 2 = f
          · obtain ⟨_, e⟩ := only i' d' h3 h4 q
            subst e
            exact ⟨a2, a3⟩
          · exact a4 i' d' h3 h4 (by omega)
        · rintro ⟨a1, a2⟩
          have := a2 i d hd h2 (by omega)
          exact ⟨⟨⟨a1, this.1⟩, this.2⟩, fun i' d' h3 h4 h5 => a2 i' d' h3 h4 (by omega)⟩
      · by_cases q : cnt (D.take i') 2 = f
        · obtain ⟨e1, e⟩ := only i' d' h3 h4 q
          subst e
          rw [q]
          obtain ⟨y1, y2⟩ := t5 f (by omega)
          refine ⟨y1.trans ?_, y2.trans ?_⟩
          · rw [(w2.1.1 1139 (by decide) f).1]; exact tυ.1
          · rw [(w2.1.1 1141 (by decide) f).1]; exact tυ.2
        · exact t4 i' d' h3 h4 (by omega)
      · obtain ⟨y1, y2⟩ := t5 g (by omega)
        exact ⟨y1.trans ((fω 1139 g (by rintro (z | z | z) <;> omega)).1), y2.trans ((fω 1141 g (by rintro (z | z | z) <;> omega)).1)⟩
    by_cases q13 : dT d = 13
    · rw [if_pos (fd.2.2.2.2.2.2 q13).1]
      have hf6 := fP_trans hf (PF_T f6)
      obtain ⟨υ, u1, u2, u3, u4, u5⟩ := N_resolve hU hS hW hN hl h0 h1 hp hM hf6 (LR_PT hL0 hf6) hd h2 q13
      rw [hfi] at u1 u2 u3 u4
      rw [u1, b1_eq]
      exact rest υ (fP_trans f6 u2) (by rw [u5, z6]) ⟨u3, u4⟩
    · have hty := fd.2.2.2.2.2.1 q13
      have hnm : nmd d = false := decide_eq_false (fun z => q13 z.2)
      rw [if_neg (fun z => by rw [hty] at z; exact nI_neg (a := dT d) (by omega) (by rw [z]; decide))]
      refine rest _ f6 ?_ ⟨?_, ?_⟩
      · rw [z6]; unfold okT; rw [hnm]; exact ⟨fun z => ⟨z, rfl⟩, fun z => z.1⟩
      · rw [e39, hty]; unfold dTy; rw [hnm]; rfl
      · rw [sI_s]; unfold dTg; rw [hnm]; rfl
theorem N_checkTypes {U : Nat} {T : List Nat} {Ws : List Wd} {D : List Dc} {p : Nat} {σ : SG} (hU : 4000 < U) (hS : WS T Ws) (hW : WF D) (hG : GD T Ws D) (hl : D.length < 180) (h0 : cnt D 0 ≤ 100) (h1 : cnt D 1 ≤ 100) (hp : p ≤ 350) (hM : RM σ T Ws D p) (hL : LR σ T) :
    ∃ τ, x_X12_checkTypes U 1101 σ = some τ ∧ fP PT σ τ ∧ (sI τ 1101 74 = 0 ↔ sI σ 1101 74 = 0 ∧ ∀ (i : Nat) (d : Dc), D[i]? = some d → dK d = 2 → okT (lkR T D) T Ws D d = true ∧ okP (lkR T D) T Ws D d = true) ∧ (∀ (i : Nat) (d : Dc), D[i]? = some d → dK d = 2 → TYr τ T Ws D (cnt (D.take i) 2) d) := by
  have hcl := cnt_le D 2
  obtain ⟨τ, e1, e2, e3, e4, _⟩ := N_types_L hU hS hW hG hl h0 h1 hp hM hL (cnt D 2) 0 U σ (by omega) (by omega) (fP_refl _ _) (fun _ _ => rfl)
  refine ⟨τ, e1, e2, ?_, fun i d h3 h4 => e4 i d h3 h4 (Nat.zero_le _)⟩
  rw [e3]
  exact and_congr_right (fun _ => ⟨fun z i d h3 h4 => z i d h3 h4 (Nat.zero_le _), fun z i d h3 h4 _ => z i d h3 h4⟩)
