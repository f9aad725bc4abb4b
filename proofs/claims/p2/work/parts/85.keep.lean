/-! ===== the reference keeps a schema ===== -/
theorem N_limits_L {U : Nat} {T : List Nat} {Ws : List Wd} {D : List Dc} {p : Nat} {σ0 σ : SG} {K : Int32 → Option SG} (hl : D.length < 180) (hM : RM σ0 T Ws D p) (hf : fP PT σ0 σ) : ∀ (j k U1 n : Nat), k + j = D.length → j < U1 → n = nmB (D.take k) →
    x_X12_checkLimits_L4 U 1101 K σ U1 (nI n) (nI k) = K (nI (nmB D)) := by
  have h38 : sI σ 1101 38 = nI D.length := (PT_o hf (by decide) (by decide)).trans hM.2.2.1
  intro j
  induction j with
  | zero =>
    intro k U1 n hk hu hn
    obtain ⟨V, rfl⟩ : ∃ V, U1 = V + 1 := ⟨U1 - 1, by omega⟩
    rw [x_X12_checkLimits_L4, h38, if_neg (fun q => by have := (ltI (by omega) (by omega)).mp q; omega), hn, List.take_of_length_le (by omega)]
  | succ j ih =>
    intro k U1 n hk hu hn
    obtain ⟨V, rfl⟩ : ∃ V, U1 = V + 1 := ⟨U1 - 1, by omega⟩
    have hd := List.getElem?_eq_getElem (show k < D.length by omega)
    rw [x_X12_checkLimits_L4, h38, if_pos ((ltI (by omega) (by omega)).mpr (by omega)), ix_in (by omega) (by decide), PT_c hf (by decide) (by decide) (by decide), (hM.2.2.2 k _ hd).1.2.2, nI_add, nI_1]
    refine ih (k + 1) V _ (by omega) (by omega) ?_
    rw [List.take_add_one, hd, hn]
    exact (nmB_snoc _ _).symm
theorem N_checkLimits {U : Nat} {T : List Nat} {Ws : List Wd} {D : List Dc} {p : Nat} {σ0 σ : SG} (hU : 4000 < U) (hl : D.length < 180) (hn : nmB D < 2 ^ 31) (hM : RM σ0 T Ws D p) (hf : fP PT σ0 σ) (h0 : sI σ 1101 74 = 0) :
    ∃ τ, x_X12_checkLimits U 1101 σ = some τ ∧ CK σ τ (lim D = true) := by
  have hc : ∀ q, q < 5 → sI σ 1101 (32 + q) = nI (cnt D q) := fun q hq => (PT_o hf (by omega) (by omega) (by omega)).trans (hM.1 q hq)
  have hcc : ∀ k, cnt D k < 2 ^ 31 := fun k => by have := cnt_le D k; omega
  unfold x_X12_checkLimits
  have e := N_limits_L (U := U) (K := fun w6 => 
    if 16 < sI σ 1101 32 then (x_X12_checkLimits_79 U 1101 σ) else (
    if 8 < sI σ 1101 33 then (x_X12_checkLimits_79 U 1101 σ) else (
    if 60 < sI σ 1101 34 then (x_X12_checkLimits_79 U 1101 σ) else (
    if 40 < sI σ 1101 35 then (x_X12_checkLimits_79 U 1101 σ) else (
    if 16 < sI σ 1101 36 then (x_X12_checkLimits_79 U 1101 σ) else (
    if 600 < w6 then (x_X12_checkLimits_79 U 1101 σ) else (some σ))))))) hl hM hf D.length 0 U 0 (by omega) (by omega) rfl
  have e' := e
  rw [show nI 0 = 0 from rfl] at e'
  rw [e']
  have bad : lim D = false → ∃ τ, x_X12_checkLimits_79 U 1101 σ = some τ ∧ CK σ τ (lim D = true) := by
    intro z
    unfold x_X12_checkLimits_79
    obtain ⟨τ, a1, a2, a3⟩ := N_fail (σ := σ) (v := 7) (w := sI σ 1101 73) (by decide)
    rw [a1, b1_eq]
    exact ⟨τ, rfl, CK_bad (fq_mono a3 (by decide)) a2 (by rw [z]; decide)⟩
  have c0 : (16 : Int32) < sI σ 1101 32 ↔ 16 < cnt D 0 := by rw [hc 0 (by decide)]; exact ltI (a := 16) (by decide) (hcc 0)
  have c1 : (8 : Int32) < sI σ 1101 33 ↔ 8 < cnt D 1 := by rw [hc 1 (by decide)]; exact ltI (a := 8) (by decide) (hcc 1)
  have c2 : (60 : Int32) < sI σ 1101 34 ↔ 60 < cnt D 2 := by rw [hc 2 (by decide)]; exact ltI (a := 60) (by decide) (hcc 2)
  have c3 : (40 : Int32) < sI σ 1101 35 ↔ 40 < cnt D 3 := by rw [hc 3 (by decide)]; exact ltI (a := 40) (by decide) (hcc 3)
  have c4 : (16 : Int32) < sI σ 1101 36 ↔ 16 < cnt D 4 := by rw [hc 4 (by decide)]; exact ltI (a := 16) (by decide) (hcc 4)
  have c5 : (600 : Int32) < nI (nmB D) ↔ 600 < nmB D := ltI (a := 600) (by decide) hn
  rw [ifd c0, ifd c1, ifd c2, ifd c3, ifd c4, ifd c5]
  unfold lim at bad ⊢
  by_cases q0 : 16 < cnt D 0
  · rw [if_pos q0]; exact bad (decide_eq_false (by omega))
  rw [if_neg q0]
  by_cases q1 : 8 < cnt D 1
  · rw [if_pos q1]; exact bad (decide_eq_false (by omega))
  rw [if_neg q1]
  by_cases q2 : 60 < cnt D 2
  · rw [if_pos q2]; exact bad (decide_eq_false (by omega))
  rw [if_neg q2]
  by_cases q3 : 40 < cnt D 3
  · rw [if_pos q3]; exact bad (decide_eq_false (by omega))
  rw [if_neg q3]
  by_cases q4 : 16 < cnt D 4
  · rw [if_pos q4]; exact bad (decide_eq_false (by omega))
  rw [if_neg q4]
  by_cases q5 : 600 < nmB D
  · rw [if_pos q5]; exact bad (decide_eq_false (by omega))
  rw [if_neg q5]
  exact ⟨σ, rfl, CK_refl (decide_eq_true (by omega))⟩
/-- those of a kind -/
def FQ (D : List Dc) (q : Nat) : List Dc := D.filter (fun d => d.1 == q)
theorem FQ_len (D : List Dc) (q : Nat) : (FQ D q).length = cnt D q := rfl
theorem FQ_get {D : List Dc} {q i : Nat} {d : Dc} (hd : D[i]? = some d) (hq : dK d = q) : (FQ D q)[cnt (D.take i) q]? = some d := by
  obtain ⟨hi, he⟩ := List.getElem?_eq_some_iff.mp hd
  have e : FQ D q = FQ (D.take i) q ++ d :: FQ (D.drop (i + 1)) q := by
    conv => lhs; rw [← List.take_append_drop i D, List.drop_eq_getElem_cons hi, he]
    unfold FQ
    rw [List.filter_append, List.filter_cons, if_pos (by have : d.1 = q := hq; rw [this]; exact beq_self_eq_true q)]
  rw [e, List.getElem?_append_right (by rw [FQ_len]; exact Nat.le_refl _), FQ_len, Nat.sub_self]
  rfl
theorem FQ_sum (D : List Dc) : nmB (FQ D 0) + nmB (FQ D 1) + nmB (FQ D 2) + nmB (FQ D 3) ≤ nmB D := by
  induction D with
  | nil => exact Nat.le_refl _
  | cons d D ih =>
    have e : ∀ q, nmB (FQ (d :: D) q) = nmB (FQ D q) + (if d.1 = q then dE d - dA d else 0) := by
      intro q
      unfold FQ
      rw [List.filter_cons]
      by_cases z : d.1 = q
      · rw [if_pos (by rw [z]; exact beq_self_eq_true q), if_pos z]
        unfold nmB; rw [List.map_cons, List.sum_cons]; omega
      · rw [if_neg (by intro y; exact z (eq_of_beq y)), if_neg z]; rfl
    have e2 : nmB (d :: D) = nmB D + (dE d - dA d) := by unfold nmB; rw [List.map_cons, List.sum_cons]; omega
    rw [e, e, e, e, e2]
    by_cases z0 : d.1 = 0
    · simp [z0]; omega
    by_cases z1 : d.1 = 1
    · simp [z1]; omega
    by_cases z2 : d.1 = 2
    · simp [z2]; omega
    by_cases z3 : d.1 = 3
    · simp [z3]; omega
    simp [z0, z1, z2, z3]; omega
/-- the bytes of the names from an ordinal on -/
def rmQ (D : List Dc) (q f : Nat) : Nat := nmB ((FQ D q).drop f)
theorem rmQ_step {D : List Dc} {q i : Nat} {d : Dc} (hd : D[i]? = some d) (hq : dK d = q) : rmQ D q (cnt (D.take i) q) = (dE d - dA d) + rmQ D q (cnt (D.take i) q + 1) := by
  obtain ⟨hi, he⟩ := List.getElem?_eq_some_iff.mp (FQ_get hd hq)
  unfold rmQ
  rw [List.drop_eq_getElem_cons hi, he]
  unfold nmB
  rw [List.map_cons, List.sum_cons]
/-- the cells of a loop that keeps: rows lo to hi, from a to b; names from n to m -/
def QL (lo hi a b n m x k : Nat) : Prop := (x = 1101 ∧ k = 31) ∨ (lo ≤ x ∧ x ≤ hi ∧ a ≤ k ∧ k < b) ∨ (x = 1127 ∧ n ≤ k ∧ k < m)
theorem QL_mono {lo hi a b n m a' n' : Nat} {σ τ : SG} (h : fP (QL lo hi a' b n' m) σ τ) (ha : a ≤ a') (hn : n ≤ n') : fP (QL lo hi a b n m) σ τ := fP_mono h (fun x k z => by
  rcases z with z | z | z
  · exact Or.inl z
  · exact Or.inr (Or.inl (by omega))
  · exact Or.inr (Or.inr (by omega)))
def NMs (σ : SG) (q : Nat) (N : List Nat) : Prop := ∀ i c, N[i]? = some c → sI σ 1127 (q + i) = nI c
/-- a name as the reference keeps it -/
def NMb (σ : SG) (lo hi b j : Nat) (N : List Nat) : Prop := ∃ q, sI σ b j = nI q ∧ sI σ (b + 1) j = nI N.length ∧ lo ≤ q ∧ q + N.length ≤ hi ∧ NMs σ q N
def NM (σ : SG) (s b j : Nat) (N : List Nat) : Prop := NMb σ (600 * s) (600 * s + 600) b j N
theorem N_keepName_L {U a n q : Nat} {T : List Nat} {K : SG → Option (Int32 × SG)} (hTl : T.length ≤ 700) (ha : a + n ≤ T.length) (hq : q + n ≤ 1200) : ∀ (j k U1 : Nat) (σ : SG), k + j = n → j < U1 → RI σ 1102 T → (∀ i, i < k → ∃ c, T[a + i]? = some c ∧ sI σ 1127 (q + i) = nI c) →
    ∃ τ, x_X12_keepName_L8 U 1101 K (nI a) (nI n) (nI q) U1 (nI k) σ = K τ ∧ fP (fun b x => b = 1127 ∧ q ≤ x ∧ x < q + n) σ τ ∧ ∀ i, i < n → ∃ c, T[a + i]? = some c ∧ sI τ 1127 (q + i) = nI c := by
  intro j
  induction j with
  | zero =>
    intro k U1 σ hk hu hT hi
    obtain ⟨V, rfl⟩ : ∃ V, U1 = V + 1 := ⟨U1 - 1, by omega⟩
    rw [x_X12_keepName_L8, if_neg (fun q => by have := (ltI (by omega) (by omega)).mp q; omega)]
    exact ⟨σ, rfl, fP_refl _ _, fun i h => hi i (by omega)⟩
  | succ j ih =>
    intro k U1 σ hk hu hT hi
    obtain ⟨V, rfl⟩ : ∃ V, U1 = V + 1 := ⟨U1 - 1, by omega⟩
    have hc := List.getElem?_eq_getElem (show a + k < T.length by omega)
    rw [x_X12_keepName_L8, if_pos ((ltI (by omega) (by omega)).mpr (by omega)), nI_add, ix_in (by omega) (by decide), nI_add, ix_in (by omega) (by decide), sb_eq, nI_1, hT _ _ hc]
    have f1 : fP (fun b x => b = 1127 ∧ q ≤ x ∧ x < q + n) σ (uI σ 1127 (q + k) (nI T[a + k])) := fP_u ⟨rfl, by omega, by omega⟩
    obtain ⟨τ, e1, e2, e3⟩ := ih (k + 1) V (uI σ 1127 (q + k) (nI T[a + k])) (by omega) (by omega) (hT.sm (sm_uI (by decide))) (fun i h => by
      by_cases z : i = k
      · subst z; exact ⟨_, hc, sI_s _ _ _ _⟩
      · obtain ⟨c, g1, g2⟩ := hi i (by omega)
        exact ⟨c, g1, by rw [sI_o (Or.inr (by omega))]; exact g2⟩)
    exact ⟨τ, e1, fP_trans f1 e2, e3⟩
theorem N_keepName {U a e q : Nat} {T : List Nat} {σ : SG} (hU : 4000 < U) (hTl : T.length ≤ 700) (hae : a ≤ e) (he : e ≤ T.length) (hq : q + (e - a) ≤ 1200) (hT : RI σ 1102 T) (h31 : sI σ 1101 31 = nI q) :
    ∃ τ, x_X12_keepName U 1101 (nI a) (nI (e - a)) σ = some (nI q, τ) ∧ fP (fun b x => (b = 1101 ∧ x = 31) ∨ (b = 1127 ∧ q ≤ x ∧ x < q + (e - a))) σ τ ∧ sI τ 1101 31 = nI (q + (e - a)) ∧ NMs τ q (slc T a e) := by
  unfold x_X12_keepName
  obtain ⟨υ, e1, e2, e3⟩ := N_keepName_L (U := U) (K := fun σ11 => sb (uI σ11 1101 31 ((sI σ11 1101 31) + nI (e - a))) fun σ12 => some (sI σ 1101 31, σ12)) hTl (show a + (e - a) ≤ T.length by omega) hq (e - a) 0 U σ (by omega) (by omega) hT (fun i h => by omega)
  have u31 : sI υ 1101 31 = nI q := ((e2 1101 31 (by omega)).1).trans h31
  rw [h31]
  rw [h31] at e1
  have e1' := e1
  rw [show nI 0 = 0 from rfl] at e1'
  rw [e1', sb_eq, u31, nI_add]
  refine ⟨_, rfl, fP_trans (fP_mono e2 (fun b x z => Or.inr z)) (fP_u (Or.inl ⟨rfl, rfl⟩)), sI_s _ _ _ _, fun i c hi => ?_⟩
  rw [sI_o (Or.inl (by decide))]
  have hil : i < e - a := by
    have := (List.getElem?_eq_some_iff.mp hi).1
    rw [slc_len hae he] at this; exact this
  obtain ⟨c', g1, g2⟩ := e3 i hil
  rw [slc_get hil] at hi
  rw [hi] at g1
  cases g1
  exact g2
theorem NMs_keep {σ τ : SG} {q : Nat} {N : List Nat} (h : NMs σ q N) (hf : ∀ i, i < N.length → sI τ 1127 (q + i) = sI σ 1127 (q + i)) : NMs τ q N := fun i c hi => (hf i (List.getElem?_eq_some_iff.mp hi).1).trans (h i c hi)
