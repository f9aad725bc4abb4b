/-! ===== the reference checks names ===== -/
/-- an ordinal's place -/
theorem plc {D : List Dc} {q : Nat} : ∀ (f : Nat), f < cnt D q → ∃ i d, D[i]? = some d ∧ dK d = q ∧ cnt (D.take i) q = f := by
  have : ∀ (n : Nat), n ≤ D.length → ∀ f, f < cnt (D.take n) q → ∃ i d, D[i]? = some d ∧ dK d = q ∧ cnt (D.take i) q = f := by
    intro n
    induction n with
    | zero => intro _ f h; simp [cnt] at h
    | succ n ih =>
      intro hn f h
      have hd := List.getElem?_eq_getElem (show n < D.length by omega)
      rw [List.take_add_one, hd] at h
      have e : (some D[n]).toList = [D[n]] := rfl
      rw [e, cnt_sn] at h
      by_cases z : f < cnt (D.take n) q
      · exact ih (by omega) f z
      · by_cases y : dK D[n] = q
        · rw [if_pos y] at h
          exact ⟨n, D[n], hd, y, by omega⟩
        · rw [if_neg y] at h; omega
  intro f h
  refine this D.length (Nat.le_refl _) f ?_
  rw [List.take_length]; exact h
theorem cnt_mono {D : List Dc} {q i j : Nat} (h : i ≤ j) : cnt (D.take i) q ≤ cnt (D.take j) q := by
  have := cnt_take_le (D.take j) i q
  rw [List.take_take, Nat.min_eq_left h] at this
  exact this
theorem cnt_lt_of {D : List Dc} {q i j : Nat} {d : Dc} (hd : D[i]? = some d) (hq : dK d = q) (h : i < j) : cnt (D.take i) q < cnt (D.take j) q := by
  have h1 : cnt (D.take (i + 1)) q = cnt (D.take i) q + 1 := by
    rw [List.take_add_one, hd]
    have e : (some d).toList = [d] := rfl
    rw [e, cnt_sn, if_pos hq]
  have := cnt_mono (D := D) (q := q) (show i + 1 ≤ j by omega)
  omega
/-- ordinals tell places apart -/
theorem ord_inj {D : List Dc} {q i j : Nat} {d e : Dc} (hd : D[i]? = some d) (hq : dK d = q) (he : D[j]? = some e) (hq' : dK e = q) (h : cnt (D.take i) q = cnt (D.take j) q) : i = j := by
  rcases Nat.lt_trichotomy i j with z | z | z
  · have := cnt_lt_of hd hq z; omega
  · exact z
  · have := cnt_lt_of he hq' z; omega
theorem oq_inj {D : List Dc} {q : Nat} {o o' : Option Nat} (hl : D.length < 180) (h : ∀ m, o = some m → ∃ d, D[m]? = some d ∧ dK d = q) (h' : ∀ m, o' = some m → ∃ d, D[m]? = some d ∧ dK d = q) : oq D q o = oq D q o' ↔ o = o' := by
  refine ⟨fun z => ?_, fun z => by rw [z]⟩
  have hc : ∀ m, cnt (D.take m) q < 2 ^ 31 := fun m => by have := cnt_take_le D m q; have := cnt_le D q; omega
  have hm : ∀ m, ¬ (-1 : Int32) = nI (cnt (D.take m) q) := fun m y => by
    have := nI_neg (hc m)
    rw [← y] at this
    exact this (by decide)
  cases o with
  | none =>
    cases o' with
    | none => rfl
    | some m => exact absurd z (hm m)
  | some m =>
    cases o' with
    | none => exact absurd z.symm (hm m)
    | some m' =>
      obtain ⟨d, a1, a2⟩ := h m rfl
      obtain ⟨e, b1', b2'⟩ := h' m' rfl
      have : cnt (D.take m) q = cnt (D.take m') q := (nI_eq (hc m) (hc m')).mp z
      rw [ord_inj a1 a2 b1' b2' this]
theorem WF.scK {D : List Dc} {i : Nat} {d : Dc} (h : WF D) (hd : D[i]? = some d) : ∀ m, dS d = some m → ∃ x, D[m]? = some x ∧ dK x = 0 := fun m hm => (KM_take ((h i d hd).1 m hm)).1
theorem fq_74 {σ τ : SG} (h : fq [74, 75] σ τ) : fq KF σ τ := fq_mono h (by decide)
theorem N_earlier {σ : SG} {v p : Int32} (hv : ¬ v = 0) : ∃ τ, x_X12_earlier 1101 v p σ = some τ ∧ ¬ sI τ 1101 74 = 0 ∧ fq [74, 75] σ τ := by
  have set : ∃ τ, x_X12_earlier_16 1101 v p σ = some τ ∧ ¬ sI τ 1101 74 = 0 ∧ fq [74, 75] σ τ := by
    unfold x_X12_earlier_16
    rw [sb_eq, sb_eq]
    refine ⟨_, rfl, by rw [sI_o (Or.inr (by decide)), sI_s]; exact hv, fun b hb => sm_trans (sm_uI hb) (sm_uI hb), fun k hk => ?_, fun k _ => rfl, fun k => rfl⟩
    have h1 : k ≠ 74 := fun z => hk (by rw [z]; decide)
    have h2 : k ≠ 75 := fun z => hk (by rw [z]; decide)
    rw [sI_o (Or.inr h2), sI_o (Or.inr h1)]
  unfold x_X12_earlier
  by_cases q : sI σ 1101 74 = 0
  · rw [if_pos q]; exact set
  · rw [if_neg q]
    by_cases q2 : p < sI σ 1101 75
    · rw [if_pos q2]; exact set
    · rw [if_neg q2]; exact ⟨σ, rfl, q, fun b _ => sm_refl σ b, fun k _ => rfl, fun k _ => rfl, fun k => rfl⟩
theorem LR_74 {σ τ : SG} {T : List Nat} (h : LR σ T) (hf : fq [74, 75] σ τ) : LR τ T := ⟨(hf.2.1 73 (by decide)).trans h.1, h.2.1.sm (hf.1 1102 (by decide)), h.2.2⟩
theorem RM_74 {σ τ : SG} {T : List Nat} {Ws : List Wd} {D : List Dc} {p : Nat} (h : RM σ T Ws D p) (hf : fq [74, 75] σ τ) : RM τ T Ws D p := RM_q h (fq_74 hf)
/-- two names clash -/
def clash (T : List Nat) (x y : Dc) : Prop := dS y = dS x ∧ slc T (dA y) (dE y) = slc T (dA x) (dE x)
theorem N_names_L {U a : Nat} {T : List Nat} {Ws : List Wd} {D : List Dc} {p : Nat} {d : Dc} {K : SG → Option SG} (hU : 4000 < U) (hW : WF D) (hN : GNs T D) (hl : D.length < 180) (hd : D[a]? = some d) : ∀ (j b U1 : Nat) (σ : SG), b + j = a → j < U1 → LR σ T → RM σ T Ws D p →
    ∃ τ, x_X12_checkNames_L12 U 1101 K (nI a) U1 (nI b) σ = K τ ∧ fq [74, 75] σ τ ∧ (sI τ 1101 74 = 0 ↔ sI σ 1101 74 = 0 ∧ ∀ i x, b ≤ i → i < a → D[i]? = some x → ¬ clash T d x) := by
  have hal := (List.getElem?_eq_some_iff.mp hd).1
  intro j
  induction j with
  | zero =>
    intro b U1 σ hb hu hL hM
    obtain ⟨V, rfl⟩ : ∃ V, U1 = V + 1 := ⟨U1 - 1, by omega⟩
    rw [x_X12_checkNames_L12, if_neg (fun q => by have := (ltI (by omega) (by omega)).mp q; omega)]
    exact ⟨σ, rfl, fq_refl _ _, ⟨fun z => ⟨z, fun i x h1 h2 => by omega⟩, fun z => z.1⟩⟩
  | succ j ih =>
    intro b U1 σ hb hu hL hM
    obtain ⟨V, rfl⟩ : ∃ V, U1 = V + 1 := ⟨U1 - 1, by omega⟩
    have hbl : b < D.length := by omega
    have hx := List.getElem?_eq_getElem hbl
    obtain ⟨na, _⟩ := hM.2.2.2 a d hd
    obtain ⟨nb, _⟩ := hM.2.2.2 b _ hx
    have ga := hN a d hd
    have gb := hN b _ hx
    have hTl := hL.2.2.1
    rw [x_X12_checkNames_L12, if_pos ((ltI (by omega) (by omega)).mpr (by omega)), ix_in (by omega) (by decide), ix_in (by omega) (by decide), na.1, nb.1, ifd (oq_inj hl (hW.scK hd) (hW.scK hx))]
    unfold x_X12_checkNames_74
    rw [nI_1]
    have step : ¬ clash T d D[b] → ∃ τ, x_X12_checkNames_L12 U 1101 K (nI a) V (nI (b + 1)) σ = K τ ∧ fq [74, 75] σ τ ∧ (sI τ 1101 74 = 0 ↔ sI σ 1101 74 = 0 ∧ ∀ i x, b ≤ i → i < a → D[i]? = some x → ¬ clash T d x) := by
      intro hc
      obtain ⟨τ, e1, e2, e3⟩ := ih (b + 1) V σ (by omega) (by omega) hL hM
      refine ⟨τ, e1, e2, ?_⟩
      rw [e3]
      refine and_congr_right (fun _ => ⟨fun h i x h1 h2 h3 => ?_, fun h i x h1 h2 h3 => h i x (by omega) h2 h3⟩)
      by_cases q : i = b
      · subst q
        rw [hx] at h3
        cases h3
        exact hc
      · exact h i x (by omega) h2 h3
    by_cases q1 : dS d = dS D[b]
    · rw [if_pos q1, ix_in (by omega) (by decide), ix_in (by omega) (by decide), ix_in (by omega) (by decide), ix_in (by omega) (by decide), na.2.1, na.2.2, nb.2.1, nb.2.2, N_sameText hU hL (by have := ga.1; have := ga.2.1; omega) (by have := gb.1; have := gb.2.1; omega), b1_eq, ifz, show dA d + (dE d - dA d) = dE d by have := ga.1; omega, show dA D[b] + (dE D[b] - dA D[b]) = dE D[b] by have := gb.1; omega]
      by_cases q2 : slc T (dA d) (dE d) = slc T (dA D[b]) (dE D[b])
      · rw [decide_eq_true q2, if_pos rfl, ix_in (by omega) (by decide)]
        obtain ⟨υ, f1, f2, f3⟩ := N_earlier (σ := σ) (v := 3) (p := sI σ 1157 a) (by decide)
        rw [f1, b1_eq]
        obtain ⟨τ, e1, e2, e3⟩ := ih (b + 1) V υ (by omega) (by omega) (LR_74 hL f3) (RM_74 hM f3)
        refine ⟨τ, e1, fq_trans f3 e2, ?_⟩
        rw [e3]
        exact ⟨fun z => absurd z.1 f2, fun z => absurd ⟨q1.symm, q2.symm⟩ (z.2 b _ (Nat.le_refl _) (by omega) hx)⟩
      · rw [decide_eq_false q2, if_neg (by decide)]
        exact step (fun z => q2 z.2.symm)
    · rw [if_neg q1]
      exact step (fun z => q1 z.1.symm)
theorem N_names_O {U : Nat} {T : List Nat} {Ws : List Wd} {D : List Dc} {p : Nat} (hU : 4000 < U) (hW : WF D) (hN : GNs T D) (hl : D.length < 180) : ∀ (j a U1 : Nat) (σ : SG), a + j = D.length → j < U1 → LR σ T → RM σ T Ws D p →
    ∃ τ, x_X12_checkNames_L2 U 1101 U1 (nI a) σ = some τ ∧ fq [74, 75] σ τ ∧ (sI τ 1101 74 = 0 ↔ sI σ 1101 74 = 0 ∧ ∀ k d, a ≤ k → D[k]? = some d → ∀ i x, i < k → D[i]? = some x → ¬ clash T d x) := by
  intro j
  induction j with
  | zero =>
    intro a U1 σ ha hu hL hM
    obtain ⟨V, rfl⟩ : ∃ V, U1 = V + 1 := ⟨U1 - 1, by omega⟩
    rw [x_X12_checkNames_L2, hM.2.2.1, if_neg (fun q => by have := (ltI (by omega) (by omega)).mp q; omega)]
    exact ⟨σ, rfl, fq_refl _ _, ⟨fun z => ⟨z, fun k d h1 h2 => by have := (List.getElem?_eq_some_iff.mp h2).1; omega⟩, fun z => z.1⟩⟩
  | succ j ih =>
    intro a U1 σ ha hu hL hM
    obtain ⟨V, rfl⟩ : ∃ V, U1 = V + 1 := ⟨U1 - 1, by omega⟩
    have hal : a < D.length := by omega
    have hd := List.getElem?_eq_getElem hal
    rw [x_X12_checkNames_L2, hM.2.2.1, if_pos ((ltI (by omega) (by omega)).mpr hal)]
    obtain ⟨υ, f1, f2, f3⟩ := N_names_L (K := fun σ37 => x_X12_checkNames_L2 U 1101 V (nI a + 1) σ37) hU hW hN hl hd a 0 U σ (by omega) (by omega) hL hM
    have f1' : x_X12_checkNames_L12 U 1101 (fun σ37 => x_X12_checkNames_L2 U 1101 V (nI a + 1) σ37) (nI a) U 0 σ = x_X12_checkNames_L2 U 1101 V (nI a + 1) υ := f1
    rw [f1', nI_1]
    obtain ⟨τ, e1, e2, e3⟩ := ih (a + 1) V υ (by omega) (by omega) (LR_74 hL f2) (RM_74 hM f2)
    refine ⟨τ, e1, fq_trans f2 e2, ?_⟩
    rw [e3, f3]
    constructor
    · rintro ⟨⟨z1, z2⟩, z3⟩
      refine ⟨z1, fun k d h1 h2 i x h3 h4 => ?_⟩
      by_cases q : k = a
      · subst q
        rw [hd] at h2
        cases h2
        exact z2 i x (Nat.zero_le _) h3 h4
      · exact z3 k d (by omega) h2 i x h3 h4
    · rintro ⟨z1, z2⟩
      exact ⟨⟨z1, fun i x _ h2 h3 => z2 a _ (Nat.le_refl _) hd i x h2 h3⟩, fun k d h1 h2 => z2 k d (by omega) h2⟩
theorem tkn_iff {T : List Nat} {D : List Dc} {k : Nat} {d : Dc} (hk : k ≤ D.length) : tkn T D k d = false ↔ ∀ i x, i < k → D[i]? = some x → ¬ clash T d x := by
  unfold tkn
  cases e : ff (pT9 T d) (D.take k) 0 with
  | none =>
    refine ⟨fun _ i x h1 h2 h3 => ?_, fun _ => rfl⟩
    have hm : x ∈ D.take k := List.mem_of_getElem? (i := i) (by rw [List.getElem?_take_of_lt h1]; exact h2)
    have := ff_none _ _ e x hm
    rw [show pT9 T d x = true from decide_eq_true h3] at this
    cases this
  | some i =>
    refine ⟨fun z => (by cases z), fun h => ?_⟩
    obtain ⟨x, a1, a2, _, _⟩ := ff_some _ _ _ e
    rw [Nat.sub_zero] at a1
    have hi := (List.getElem?_eq_some_iff.mp a1).1
    rw [List.length_take] at hi
    rw [List.getElem?_take_of_lt (by omega)] at a1
    exact absurd (of_decide_eq_true a2) (h i x (by omega) a1)
theorem N_checkNames {U : Nat} {T : List Nat} {Ws : List Wd} {D : List Dc} {p : Nat} {σ : SG} (hU : 4000 < U) (hW : WF D) (hN : GNs T D) (hl : D.length < 180) (hL : LR σ T) (hM : RM σ T Ws D p) :
    ∃ τ, x_X12_checkNames U 1101 σ = some τ ∧ fq [74, 75] σ τ ∧ (sI τ 1101 74 = 0 ↔ sI σ 1101 74 = 0 ∧ ∀ k d, D[k]? = some d → tkn T D k d = false) := by
  obtain ⟨τ, e1, e2, e3⟩ := N_names_O hU hW hN hl D.length 0 U σ (by omega) (by omega) hL hM
  refine ⟨τ, e1, e2, ?_⟩
  rw [e3]
  refine and_congr_right (fun _ => ⟨fun h k d hd => (tkn_iff (Nat.le_of_lt (List.getElem?_eq_some_iff.mp hd).1)).mpr (h k d (Nat.zero_le _) hd), fun h k d _ hd => (tkn_iff (Nat.le_of_lt (List.getElem?_eq_some_iff.mp hd).1)).mp (h k d hd)⟩)
