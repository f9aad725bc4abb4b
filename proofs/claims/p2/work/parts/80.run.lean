/-! ===== the class compiles ===== -/
def okA (lk : Option Nat → List Nat → Option Nat) (T : List Nat) (Ws : List Wd) (D : List Dc) : Bool := (List.range D.length).all (fun k => match D[k]? with | some d => okD lk T Ws D k d | none => true)
theorem okA_iff {lk : Option Nat → List Nat → Option Nat} {T : List Nat} {Ws : List Wd} {D : List Dc} : okA lk T Ws D = true ↔ ∀ k d, D[k]? = some d → okD lk T Ws D k d = true := by
  unfold okA
  rw [List.all_eq_true]
  constructor
  · intro h k d hd
    have hk := (List.getElem?_eq_some_iff.mp hd).1
    have := h k (List.mem_range.mpr hk)
    rw [hd] at this
    exact this
  · intro h k _
    cases e : D[k]? with
    | none => rfl
    | some d => exact h k d e
def lim (D : List Dc) : Bool := decide (cnt D 0 ≤ 16 ∧ cnt D 1 ≤ 8 ∧ cnt D 2 ≤ 60 ∧ cnt D 3 ≤ 40 ∧ cnt D 4 ≤ 16 ∧ nmB D ≤ 600)
/-- what a text compiles to -/
def scm (T : List Nat) : Option (List Dc) := match dcl T with
  | none => none
  | some D => if okA (lkC T D) T (wl T 701 0) D && lim D then some D else none
/-- a schema as the class holds it -/
def CS (σ : SG) (c : Nat) (T : List Nat) (D : List Dc) : Prop := RB σ (c + 2) T 0 ∧ JS σ c D ∧ JD σ c T (wl T 701 0) D D.length ∧ ∀ k, k < 5 → sI σ (c + 185) k = nI (cnt D k)
theorem X6_count {c k : Nat} {σ : SG} {D : List Dc} (h : ∀ k, k < 5 → sI σ (c + 185) k = nI (cnt D k)) (hk : k < 5) : x_X6_count (c + 1) (nI k) σ = some (nI (cnt D k)) := by
  unfold x_X6_count
  rw [if_neg (nI_neg (by omega)), show (5 : Int32) = nI 5 from rfl, if_pos ((ltI (by omega) (by decide)).mpr hk), ix_in hk (by decide), show c + 1 + 184 = c + 185 by omega, h k hk]
theorem nmB_le {D : List Dc} {T : List Nat} (h : GNs T D) (hl : T.length ≤ 700) (hd : D.length < 180) : nmB D ≤ 700 * 180 := by
  have : ∀ (L : List Dc), (∀ d ∈ L, dE d - dA d ≤ 700) → nmB L ≤ 700 * L.length := by
    intro L
    induction L with
    | nil => intro _; exact Nat.le_refl _
    | cons a L ih =>
      intro hL
      have h1 := hL a (List.mem_cons_self ..)
      have h2 := ih (fun d hd => hL d (List.mem_cons_of_mem _ hd))
      have e : nmB (a :: L) = (dE a - dA a) + nmB L := by unfold nmB; rw [List.map_cons, List.sum_cons]
      rw [e, List.length_cons]
      omega
  have h2 := this D (fun d hd => by
    obtain ⟨i, hi⟩ := List.getElem?_of_mem hd
    have := (h i d hi).2.1
    omega)
  omega
theorem X2_isTooMuch {c : Nat} {σ : SG} {D : List Dc} (h : ∀ k, k < 5 → sI σ (c + 185) k = nI (cnt D k)) (h4 : sI σ (c + 1) 4 = nI (nmB D)) (hl : D.length < 180) (hn : nmB D < 2 ^ 31) : x_X2_isTooMuch c σ = some (zI (!lim D)) := by
  have hc : ∀ k, cnt D k < 2 ^ 31 := fun k => by have := cnt_le D k; omega
  have cc : ∀ (k m : Nat), k < 5 → m < 2 ^ 31 → (nI m < nI (cnt D k) ↔ m < cnt D k) := fun k m _ hm => ltI hm (hc k)
  unfold x_X2_isTooMuch x_X6_nameBytes
  have e0 := X6_count (k := 0) h (by decide)
  have e1 := X6_count (k := 1) h (by decide)
  have e2 := X6_count (k := 2) h (by decide)
  have e3 := X6_count (k := 3) h (by decide)
  have e4 := X6_count (k := 4) h (by decide)
  have e0' : x_X6_count (c + 1) 0 σ = some (nI (cnt D 0)) := e0
  have e1' : x_X6_count (c + 1) 1 σ = some (nI (cnt D 1)) := e1
  have e2' : x_X6_count (c + 1) 2 σ = some (nI (cnt D 2)) := e2
  have e3' : x_X6_count (c + 1) 3 σ = some (nI (cnt D 3)) := e3
  have e4' : x_X6_count (c + 1) 4 σ = some (nI (cnt D 4)) := e4
  rw [e0', b1_eq, e1', b1_eq, e2', b1_eq, e3', b1_eq, e4', b1_eq, b1_eq, h4]
  have c0 : (16 : Int32) < nI (cnt D 0) ↔ 16 < cnt D 0 := cc 0 16 (by decide) (by decide)
  have c1 : (8 : Int32) < nI (cnt D 1) ↔ 8 < cnt D 1 := cc 1 8 (by decide) (by decide)
  have c2 : (60 : Int32) < nI (cnt D 2) ↔ 60 < cnt D 2 := cc 2 60 (by decide) (by decide)
  have c3 : (40 : Int32) < nI (cnt D 3) ↔ 40 < cnt D 3 := cc 3 40 (by decide) (by decide)
  have c4 : (16 : Int32) < nI (cnt D 4) ↔ 16 < cnt D 4 := cc 4 16 (by decide) (by decide)
  have c5 : (600 : Int32) < nI (nmB D) ↔ 600 < nmB D := ltI (a := 600) (by decide) hn
  rw [ifd c0, ifd c1, ifd c2, ifd c3, ifd c4, ifd c5]
  unfold lim
  by_cases q0 : 16 < cnt D 0
  · rw [if_pos q0, decide_eq_false (by omega)]; rfl
  rw [if_neg q0]
  by_cases q1 : 8 < cnt D 1
  · rw [if_pos q1, decide_eq_false (by omega)]; rfl
  rw [if_neg q1]
  by_cases q2 : 60 < cnt D 2
  · rw [if_pos q2, decide_eq_false (by omega)]; rfl
  rw [if_neg q2]
  by_cases q3 : 40 < cnt D 3
  · rw [if_pos q3, decide_eq_false (by omega)]; rfl
  rw [if_neg q3]
  by_cases q4 : 16 < cnt D 4
  · rw [if_pos q4, decide_eq_false (by omega)]; rfl
  rw [if_neg q4]
  by_cases q5 : 600 < nmB D
  · rw [if_pos q5, decide_eq_false (by omega)]; rfl
  rw [if_neg q5, decide_eq_true (by omega)]; rfl
theorem X2_run_L {U c : Nat} {T : List Nat} {Ws : List Wd} {D : List Dc} {K : SG → Option (Int32 × SG)} {v1 : Option Nat} (hU : 4000 < U) (hcb : cb c) (hS : WS T Ws) (hW : WF D) (hG : GD T Ws D) : ∀ (j k U1 : Nat) (σ : SG), k + j = D.length → j < U1 → WA σ (c + 186) Ws → RB σ (c + 2) T 0 → JS σ c D → sI σ c 3 = 0 → JD σ c T Ws D k →
    ∃ τ, x_X2_run_L65 U c K v1 U1 (nI k) σ = K τ ∧ fP (PJ c) σ τ ∧ (sI τ c 3 = 0 ↔ ∀ i d, k ≤ i → D[i]? = some d → okD (lkC T D) T Ws D i d = true) ∧ (sI τ c 3 = 0 → JD τ c T Ws D D.length) := by
  intro j
  induction j with
  | zero =>
    intro k U1 σ hk hu hWA hT hJ h0 hD
    have hl := hJ.2.1
    obtain ⟨V, rfl⟩ : ∃ V, U1 = V + 1 := ⟨U1 - 1, by omega⟩
    rw [x_X2_run_L65, show x_X6_used (c + 1) σ = some (sI σ (c + 1) 3) from rfl, b1_eq, hJ.1, if_neg (fun q => by have := (ltI (by omega) (by omega)).mp q; omega)]
    refine ⟨σ, rfl, fP_refl _ _, ⟨fun _ i d hi hd => ?_, fun _ => h0⟩, fun _ => by rw [show D.length = k by omega]; exact hD⟩
    have := (List.getElem?_eq_some_iff.mp hd).1
    omega
  | succ j ih =>
    intro k U1 σ hk hu hWA hT hJ h0 hD
    have hl := hJ.2.1
    have hkl : k < D.length := by omega
    have hd := List.getElem?_eq_getElem hkl
    obtain ⟨V, rfl⟩ : ∃ V, U1 = V + 1 := ⟨U1 - 1, by omega⟩
    obtain ⟨τ, e1, e2, e3, e4⟩ := X2_judge hU hcb hS hWA hT hJ hW hG hd h0 hD
    rw [x_X2_run_L65, show x_X6_used (c + 1) σ = some (sI σ (c + 1) 3) from rfl, b1_eq, hJ.1, if_pos ((ltI (by omega) (by omega)).mpr hkl), if_pos h0, X6_item hJ.1 hl hkl, b1_eq, e1, b1_eq, nI_1]
    have J1 := JS_PJ hJ e2
    cases ho : okD (lkC T D) T Ws D k D[k] with
    | true =>
      obtain ⟨g1, g2⟩ := e3 ho
      obtain ⟨υ, f1, f2, f3, f4⟩ := ih (k + 1) V τ (by omega) (by omega) (WA_PJ hWA e2) (RB_PJ hT e2 (by omega) (by omega) (by omega) (by omega)) J1 (g1.trans h0) g2
      refine ⟨υ, f1, fP_trans e2 f2, ?_, f4⟩
      rw [f3]
      constructor
      · intro h i d hi hd'
        by_cases q : i = k
        · subst q
          rw [hd] at hd'
          cases hd'
          exact ho
        · exact h i d (by omega) hd'
      · intro h i d hi hd'; exact h i d (by omega) hd'
    | false =>
      have z := e4 ho
      obtain ⟨V2, rfl⟩ : ∃ V2, V = V2 + 1 := ⟨V - 1, by omega⟩
      refine ⟨τ, ?_, e2, ⟨fun y => absurd y z, fun h => ?_⟩, fun y => absurd y z⟩
      · rw [x_X2_run_L65, show x_X6_used (c + 1) τ = some (sI τ (c + 1) 3) from rfl, b1_eq, J1.1, if_neg z]
        split <;> rfl
      · have := h k _ (Nat.le_refl _) hd
        rw [ho] at this; cases this
theorem fC_PJ {c : Nat} {σ τ : SG} (h : fP (PJ c) σ τ) : fC c σ τ := fun b hb k => h b k (by unfold PJ; omega)
theorem fC_refl (c : Nat) (σ : SG) : fC c σ σ := fun b _ => sm_refl σ b
/-- the end of the class's compile: an error empties the schema -/
theorem X2_run_bad {U c : Nat} {σ : SG} (hU : 4000 < U) (h : ¬ sI σ c 3 = 0) : ∃ τ, x_X2_run_126 U c σ = some (sI σ c 3, τ) ∧ fC c σ τ ∧ CS τ c [] [] := by
  unfold x_X2_run_126
  rw [if_neg h]
  obtain ⟨τ, e1, e2, e3, e4⟩ := X6_clear (c := c) (σ := σ) hU
  rw [e1, b1_eq]
  refine ⟨τ, by rw [(e4 c (by omega) (by omega) (by omega) 3).1], fun b hb => e4 b (by omega) (by omega) (by omega), e2, ⟨e3.1, by decide, fun i d hd => by simp at hd⟩, fun i d hd => by simp at hd, e3.2.2.1⟩
theorem X2_run {U c : Nat} {σ : SG} {T : List Nat} (hU : 4000 < U) (hcb : cb c) (hT : RB σ 1 T 0) :
    ∃ v τ, x_X2_run U c (some 1) σ = some (v, τ) ∧ fC c σ τ ∧ (scm T = none → CS τ c [] []) ∧ ∀ D, scm T = some D → CS τ c T D := by
  have hl : T.length ≤ 700 := hT.2.2.1
  have h8 : ok8 T := hT.2.2.2.2
  obtain ⟨σ16, a1, a2, a3, a4, a5, a6, a7, a8⟩ := X2_pre hU hcb hT
  obtain ⟨v, σ19, b1', b2', b3, b4⟩ := X5_read hU hcb a3 a5 a4 a6
  have hT19 : RB σ19 (c + 2) T 0 := a2.sm (b2' _ (by omega) (by omega) (by omega)) (b2' _ (by omega) (by omega) (by omega))
  have hT1 : RB σ19 1 T 0 := a7.sm (b2' _ (by rcases hcb with rfl | rfl <;> decide) (by rcases hcb with rfl | rfl <;> decide) (by rcases hcb with rfl | rfl <;> decide)) (b2' _ (by rcases hcb with rfl | rfl <;> decide) (by rcases hcb with rfl | rfl <;> decide) (by rcases hcb with rfl | rfl <;> decide))
  have hWA19 := a4.fR b2'
  rw [a8, b1', b2_eq, sb_eq, sI_s]
  have fA : fC c σ σ19 := fC_trans a1 (fC_R b2')
  -- an error of the reading
  cases hdc : dcl T with
  | none =>
    have hno : scm T = none := by unfold scm; rw [hdc]
    have hv : ¬ v = 0 := fun z => (b3.mp z) hdc
    rw [if_neg hv]
    have hep : ∃ p, x_X5_endPlace (c + 191) (uI σ19 c 3 v) = some p := by
      unfold x_X5_endPlace
      obtain ⟨p, hp⟩ := X10_startOf_any (w := c + 191 - 5) (σ := uI σ19 c 3 v) (sI (uI σ19 c 3 v) (c + 191) 6)
      rw [hp]
      exact ⟨p, rfl⟩
    obtain ⟨p, hp⟩ := hep
    rw [hp, b1_eq]
    unfold x_X2_run_60
    rw [sb_eq]
    have h3 : ¬ sI (uI (uI σ19 c 3 v) c 4 p) c 3 = 0 := by rw [sI_o (Or.inr (by decide)), sI_s]; exact hv
    have hL : x_X2_run_L65 U c (fun σ31 => x_X2_run_102 U c (some 1) σ31) (some 1) U 0 (uI (uI σ19 c 3 v) c 4 p) = x_X2_run_126 U c (uI (uI σ19 c 3 v) c 4 p) := by
      obtain ⟨V, rfl⟩ : ∃ V, U = V + 1 := ⟨U - 1, by omega⟩
      rw [x_X2_run_L65, show x_X6_used (c + 1) (uI (uI σ19 c 3 v) c 4 p) = some (sI (uI (uI σ19 c 3 v) c 4 p) (c + 1) 3) from rfl, b1_eq, if_neg h3]
      unfold x_X2_run_102
      rw [if_neg h3]
      split <;> rfl
    rw [hL]
    obtain ⟨τ, e1, e2, e3⟩ := X2_run_bad hU h3
    refine ⟨_, τ, e1, fC_trans fA (fC_trans (fun b hb => sm_trans (sm_uI (by omega)) (sm_uI (by omega))) e2), fun _ => e3, fun D hD => by rw [hno] at hD; cases hD⟩
  | some D =>
    obtain ⟨hG, hW, hDl⟩ := dcl_GD h8 hl hdc
    have hv : v = 0 := b3.mpr (by show dcl T ≠ none; rw [hdc]; intro z; cases z)
    have hI := b4 D hdc
    rw [if_pos hv]
    unfold x_X2_run_60
    rw [sb_eq]
    have fB : fP (PJ c) σ19 (uI (uI σ19 c 3 v) c 4 (-1)) := fP_trans (fP_u (Or.inl ⟨rfl, Or.inl rfl⟩)) (fP_u (Or.inl ⟨rfl, Or.inr rfl⟩))
    have z3 : sI (uI (uI σ19 c 3 v) c 4 (-1)) c 3 = 0 := by rw [sI_o (Or.inr (by decide)), sI_s]; exact hv
    have I3 : ITs (uI (uI σ19 c 3 v) c 4 (-1)) c D := ⟨((fB (c + 1) 3 (by unfold PJ; omega)).1).trans hI.1, ((fB (c + 1) 4 (by unfold PJ; omega)).1).trans hI.2.1, fun k hk => ((fB (c + 185) k (by unfold PJ; omega)).1).trans (hI.2.2.1 k hk), fun i d hd => (hI.2.2.2 i d hd).sm (sm_trans (sm_uI (by omega)) (sm_uI (by omega)))⟩
    have T3 : RB (uI (uI σ19 c 3 v) c 4 (-1)) (c + 2) T 0 := RB_PJ hT19 fB (by omega) (by omega) (by omega) (by omega)
    have T31 : RB (uI (uI σ19 c 3 v) c 4 (-1)) 1 T 0 := by
      have hc := hcb
      unfold cb at hc
      exact RB_PJ hT1 fB (by omega) (by omega) (by omega) (by omega)
    have W3 := WA_PJ hWA19 fB
    generalize (uI (uI σ19 c 3 v) c 4 (-1)) = σ22 at *
    have J3 : JS σ22 c D := ⟨I3.1, hDl, fun i d hd => IS_of (I3.2.2.2 i d hd)⟩
    obtain ⟨τ, g1, g2, g3, g4⟩ := X2_run_L (K := fun σ31 => x_X2_run_102 U c (some 1) σ31) (v1 := some 1) hU hcb a3 hW hG D.length 0 U σ22 (by omega) (by omega) W3 T3 J3 z3 (JD_0 I3)
    have g1' : x_X2_run_L65 U c (fun σ31 => x_X2_run_102 U c (some 1) σ31) (some 1) U 0 σ22 = x_X2_run_102 U c (some 1) τ := g1
    rw [g1']
    have fT : fC c σ τ := fC_trans fA (fC_trans (fC_PJ fB) (fC_PJ g2))
    have hokA : sI τ c 3 = 0 ↔ okA (lkC T D) T (wl T 701 0) D = true := by
      rw [g3, okA_iff]
      exact ⟨fun h k d hd => h k d (Nat.zero_le _) hd, fun h k d _ hd => h k d hd⟩
    have hcn : ∀ k, k < 5 → sI τ (c + 185) k = nI (cnt D k) := fun k hk => ((g2 (c + 185) k (by unfold PJ; omega)).1).trans (I3.2.2.1 k hk)
    have h4 : sI τ (c + 1) 4 = nI (nmB D) := ((g2 (c + 1) 4 (by unfold PJ; omega)).1).trans I3.2.1
    unfold x_X2_run_102
    by_cases q : sI τ c 3 = 0
    · have hnm := nmB_le (fun i d hd => (hG i d hd).1) hl hDl
      rw [if_pos q, X2_isTooMuch hcn h4 hDl (by omega), b1_eq, ifz]
      cases ql : lim D with
      | true =>
        simp only [Bool.not_true, Bool.false_eq_true, if_false]
        unfold x_X2_run_126
        rw [if_pos q]
        have hs : scm T = some D := by unfold scm; rw [hdc]; simp only; rw [hokA.mp q, ql]; rfl
        refine ⟨_, τ, rfl, fT, fun z => (by rw [hs] at z; cases z), fun D' hD' => ?_⟩
        rw [hs] at hD'
        cases hD'
        exact ⟨RB_PJ T3 g2 (by omega) (by omega) (by omega) (by omega), JS_PJ J3 g2, g4 q, hcn⟩
      | false =>
        simp only [Bool.not_false, if_true]
        have T31' : RB τ 1 T 0 := by
          have hc := hcb
          unfold cb at hc
          exact RB_PJ T31 g2 (by omega) (by omega) (by omega) (by omega)
        rw [ck_eq (show sh 1 = 0 by decide), X0_size T31', b1_eq]
        unfold x_X2_fail
        rw [sb_eq, sb_eq, b1_eq]
        have h3 : ¬ sI (uI (uI τ c 3 7) c 4 (nI T.length)) c 3 = 0 := by rw [sI_o (Or.inr (by decide)), sI_s]; decide
        obtain ⟨υ, e1, e2, e3⟩ := X2_run_bad hU h3
        have hs : scm T = none := by unfold scm; rw [hdc]; simp only; rw [ql, Bool.and_false]; rfl
        refine ⟨_, υ, e1, fC_trans fT (fC_trans (fun b hb => sm_trans (sm_uI (by omega)) (sm_uI (by omega))) e2), fun _ => e3, fun D' hD' => by rw [hs] at hD'; cases hD'⟩
    · rw [if_neg q]
      obtain ⟨υ, e1, e2, e3⟩ := X2_run_bad hU q
      have hs : scm T = none := by
        unfold scm; rw [hdc]; simp only
        cases qa : okA (lkC T D) T (wl T 701 0) D with
        | true => exact absurd (hokA.mpr qa) q
        | false => rfl
      refine ⟨_, υ, e1, fC_trans fT e2, fun _ => e3, fun D' hD' => by rw [hs] at hD'; cases hD'⟩
