/-! ===== the class's compile; many ===== -/
/-- where a schema's compiler stands -/
def cA (s : Nat) : Nat := if s = 0 then 5 else 197
theorem cA_cb {s : Nat} : cb (cA s) := by
  unfold cA cb
  split
  · exact Or.inl rfl
  · exact Or.inr rfl
theorem cA_lt {s : Nat} : 5 ≤ cA s ∧ cA s ≤ 197 := by unfold cA; split <;> decide
theorem cOf {s : Nat} {σ : SG} (hs : s < 2) : x_X11_compilerOf 0 (nI s) σ = some (some (cA s)) := by
  have : s = 0 ∨ s = 1 := by omega
  rcases this with z | z <;> subst z <;> rfl
theorem cOf_no {p : Int32} {σ : SG} (h0 : ¬ p = 0) (h1 : ¬ p = 1) : x_X11_compilerOf 0 p σ = some none := by
  unfold x_X11_compilerOf
  rw [if_neg h0, if_neg h1]
/-- the class has no value -/
def VCn (σ : SG) : Prop := sP σ 389 4 = none ∧ sP σ 389 5 = none ∧ sI σ 389 3 = 0 ∧ RB σ 1092 [] 0
theorem X4_begin {σ : SG} {a : Nat} {f : Option Nat} : ∃ τ, x_X4_begin a f σ = some τ ∧ (∀ b, b ≠ a → sm σ τ b) ∧ sP τ a 0 = f ∧ sP τ a 1 = none ∧ sP τ a 2 = none ∧ sP τ a 3 = none ∧ sL τ a 4 = 0 ∧ sI τ a 5 = 0 ∧ sI τ a 6 = 0 := by
  unfold x_X4_begin
  simp only [sb_eq]
  refine ⟨_, rfl, ?_, ?_⟩
  · intro b hb k
    simp only [sI_uI, sI_uL, sI_uP, sL_uI, sL_uL, sL_uP, sP_uI, sP_uL, sP_uP, hb, false_and, if_false, and_self]
  · simp [sI_uI, sI_uL, sI_uP, sL_uI, sL_uL, sL_uP, sP_uI, sP_uL, sP_uP]
theorem X8_drop {σ : SG} : ∃ τ, x_X8_drop 389 σ = some τ ∧ (∀ b, b ≠ 389 → b ≠ 1091 → b ≠ 1092 → sm σ τ b) ∧ VCn τ ∧ sP τ 1091 2 = none ∧ sP τ 1091 3 = none ∧ sP τ 1091 0 = none := by
  unfold x_X8_drop
  rw [sb_eq, sb_eq]
  obtain ⟨σ4, a1, a2, a3⟩ := X0_clear (σ := uP (uP σ 389 4 none) 389 5 none) (a := 1092)
  rw [a1, b1_eq, sb_eq]
  obtain ⟨τ, b1', b2', b3, b4, b5, b6, b7⟩ := X4_begin (σ := uI σ4 389 3 0) (a := 1091) (f := none)
  rw [b1', b1_eq]
  refine ⟨τ, rfl, fun b h1 h2 h3 => sm_trans (sm_trans (sm_trans (sm_uP h1) (sm_uP h1)) (a3 b h3)) (sm_trans (sm_uI h1) (b2' b h2)), ⟨?_, ?_, ?_, ?_⟩, b5, b6, b3⟩
  · rw [(b2' 389 (by decide) 4).2.2, sP_uI, (a3 389 (by decide) 4).2.2, sP_o (Or.inr (by decide)), sP_s]
  · rw [(b2' 389 (by decide) 5).2.2, sP_uI, (a3 389 (by decide) 5).2.2, sP_s]
  · rw [(b2' 389 (by decide) 3).1, sI_s]
  · exact (a2.sm (sm_uI (by decide)) (sm_uI (by decide))).sm (b2' _ (by decide)) (b2' _ (by decide))
/-- the class compiles -/
theorem X11_compile {U s : Nat} {T : List Nat} {σ : SG} (hU : 4000 < U) (hs : s < 2) (hT : RB σ 1 T 0) :
    ∃ v τ, x_X11_compile U 0 (nI s) σ = some (.inl (some (.int v)), τ) ∧ (∀ b, b ≠ 0 → b ≠ 1 → (b < cA s ∨ cA s + 191 < b) → b ≠ 389 → b ≠ 1091 → b ≠ 1092 → sm σ τ b) ∧ RB τ 1 [] 0 ∧ VCn τ ∧ (scm T = none → CS τ (cA s) [] []) ∧ ∀ D, scm T = some D → CS τ (cA s) T D := by
  have hc := cA_lt (s := s)
  have hcb := cA_cb (s := s)
  unfold x_X11_compile
  obtain ⟨σ5, a1, a2, a3, _⟩ := X8_drop (σ := σ)
  have T5 : RB σ5 1 T 0 := hT.sm (a2 1 (by decide) (by decide) (by decide)) (a2 2 (by decide) (by decide) (by decide))
  obtain ⟨v, σ11, b1', b2', b3, b4⟩ := X2_run hU hcb T5
  obtain ⟨σ13, c1, c2, c3⟩ := X0_clear (σ := σ11) (a := 1)
  rw [cOf hs, b1_eq, if_neg (by intro z; cases z), a1, b1_eq, ck_eq (cb_sh hcb).2.2.2.2, b1', b2_eq, c1, b1_eq, show x_X2_faultAt (cA s) σ13 = some (sI σ13 (cA s) 4) from rfl, b1_eq, sb_eq]
  have g : ∀ b, b ≠ 1 → b ≠ 0 → sm σ11 (uI σ13 0 8 (sI σ13 (cA s) 4)) b := fun b h1 h0 => sm_trans (c3 b h1) (sm_uI h0)
  have cs : ∀ (T' : List Nat) (D : List Dc), CS σ11 (cA s) T' D → CS (uI σ13 0 8 (sI σ13 (cA s) 4)) (cA s) T' D := by
    rintro T' D ⟨h1, h2, h3, h4⟩
    refine ⟨h1.sm (g _ (by omega) (by omega)) (g _ (by omega) (by omega)), ⟨((g (cA s + 1) (by omega) (by omega)) 3).1.trans h2.1, h2.2.1, fun i d hd => IS_PJ (h2.2.2 i d hd) (fun j _ => g _ (by omega) (by omega) j)⟩, fun i d hd => ?_, fun k hk => ((g (cA s + 185) (by omega) (by omega)) k).1.trans (h4 k hk)⟩
    have gi := g (cA s + 5 + i) (by omega) (by omega)
    obtain ⟨j1, j2, j3⟩ := h3 i d hd
    refine ⟨fun z => ?_, fun z => ?_, ?_⟩
    · rw [(gi 8).1, (gi 10).2.2, (gi 12).1, (gi 16).2.2]; exact j1 z
    · rw [(gi 8).1, (gi 10).2.2, (gi 12).1]; exact j2 z
    · rw [(gi 15).2.2]; exact LK_keep _ _ j3 (fun i' _ => (g (cA s + 5 + i') (by omega) (by omega) 16).2.2)
  refine ⟨v, _, rfl, fun b h0 h1 h2 h3 h4 h5 => sm_trans (sm_trans (a2 b h3 h4 h5) (b2' b h2)) (g b h1 h0), c2.sm (sm_uI (by decide)) (sm_uI (by decide)), ?_, fun z => cs _ _ (b3 z), fun D z => cs _ _ (b4 D z)⟩
  have v1 : ∀ b, b = 389 ∨ b = 1092 ∨ b = 1093 → sm σ5 (uI σ13 0 8 (sI σ13 (cA s) 4)) b := fun b hb => sm_trans (b2' b (by omega)) (g b (by omega) (by omega))
  exact ⟨((v1 389 (by decide) 4).2.2).trans a3.1, ((v1 389 (by decide) 5).2.2).trans a3.2.1, ((v1 389 (by decide) 3).1).trans a3.2.2.1, a3.2.2.2.sm (v1 _ (by decide)) (v1 _ (by decide))⟩
/-! many -/
def mnS (D : List Dc) (w : Int32) : mm_R := if w < 0 ∨ 2 < w then .inr IAE else .inl (some (.int (nI (cnt D w.toNatClampNeg))))
theorem w012 {w : Int32} (h0 : ¬ w < 0) (h2 : ¬ 2 < w) : w = 0 ∨ w = 1 ∨ w = 2 := by
  obtain ⟨k, hk, rfl⟩ := nI_of h0
  have : ¬ 2 < k := fun z => h2 ((ltI (a := 2) (by decide) hk).mpr z)
  have : k = 0 ∨ k = 1 ∨ k = 2 := by omega
  rcases this with z | z | z <;> subst z
  · exact Or.inl rfl
  · exact Or.inr (Or.inl rfl)
  · exact Or.inr (Or.inr rfl)
theorem X11_many {s : Nat} {σ : SG} {T : List Nat} {D : List Dc} {w : Int32} (hs : s < 2) (h : CS σ (cA s) T D) : x_X11_many 0 (nI s) w σ = some (mnS D w, σ) := by
  have hcb := cA_cb (s := s)
  unfold x_X11_many x_X11_many_19 x_X11_many_47 mnS
  rw [cOf hs, b1_eq, if_neg (by intro z; cases z)]
  by_cases q0 : w < 0
  · rw [if_pos q0, if_pos (Or.inl q0)]; rfl
  rw [if_neg q0]
  by_cases q2 : 2 < w
  · rw [if_pos q2, if_pos (Or.inr q2)]; rfl
  rw [if_neg q2, if_neg (show ¬ (w < 0 ∨ 2 < w) from fun z => z.elim q0 q2)]
  have e : ∀ k, k < 5 → (ck 2 (some (cA s)) fun q7 => b1 (x_X2_schema q7 σ) fun v11 => ck 6 v11 fun q12 => b1 (x_X6_count q12 (nI k) σ) fun v16 => some ((.inl (some (.int v16)) : mm_R), σ)) = some (.inl (some (.int (nI (cnt D k)))), σ) := fun k hk => by
    rw [ck_eq (cb_sh hcb).2.2.2.2, show x_X2_schema (cA s) σ = some (some (cA s + 1)) from rfl, b1_eq, ck_eq (cb_sh hcb).2.2.1, X6_count h.2.2.2 hk, b1_eq]
  rcases w012 q0 q2 with z | z | z <;> subst z
  · rw [if_pos rfl]; exact e 0 (by decide)
  · rw [if_neg (by decide), if_pos rfl]; exact e 1 (by decide)
  · rw [if_neg (by decide), if_neg (by decide)]; exact e 2 (by decide)
/-- what the reference tells of a throw -/
def thS (r : mm_R) : Int32 := match r with
  | .inl _ => 0
  | .inr _ => 1
theorem N_many {s : Nat} {σ : SG} {T : List Nat} {D : List Dc} {w : Int32} (hs : s < 2) (h : RS σ s T D) : ∃ v, x_X12_many 1101 (nI s) w σ = some (v, uI σ 1101 5 (thS (mnS D w))) ∧ (mnS D w = .inl (some (.int v)) ∨ ∃ E, mnS D w = .inr E) := by
  unfold x_X12_many x_X12_many_21 x_X12_many_22 mnS
  rw [isSchema_s hs, b1_eq, if_neg (by decide)]
  by_cases q0 : w < 0
  · rw [if_pos q0, if_pos (Or.inl q0), sb_eq, sI_s, if_neg (by decide)]; exact ⟨0, rfl, Or.inr ⟨_, rfl⟩⟩
  rw [if_neg q0]
  by_cases q2 : 2 < w
  · rw [if_pos q2, if_pos (Or.inr q2), sb_eq, sI_s, if_neg (by decide)]; exact ⟨0, rfl, Or.inr ⟨_, rfl⟩⟩
  rw [if_neg q2, if_neg (show ¬ (w < 0 ∨ 2 < w) from fun z => z.elim q0 q2), sb_eq, sI_s, if_pos rfl]
  rcases w012 q0 q2 with z | z | z <;> subst z
  · rw [if_pos rfl, ix_in hs (by decide), sI_o (Or.inl (by decide)), h.2.1 0 (by decide)]; exact ⟨_, rfl, Or.inl rfl⟩
  · rw [if_neg (by decide), if_pos rfl, ix_in hs (by decide), sI_o (Or.inl (by decide)), h.2.1 1 (by decide)]; exact ⟨_, rfl, Or.inl rfl⟩
  · rw [if_neg (by decide), if_neg (by decide), ix_in hs (by decide), sI_o (Or.inl (by decide)), h.2.1 2 (by decide)]; exact ⟨_, rfl, Or.inl rfl⟩
