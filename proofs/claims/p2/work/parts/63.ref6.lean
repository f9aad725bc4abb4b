/-! ===== the reference's reader: a type ===== -/
def PY (j p : Nat) (b k : Nat) : Prop := (b = 1101 ∧ k ∈ [37, 70, 71, 72, 74, 75, 76, 77]) ∨ (1154 ≤ b ∧ b ≤ 1155 ∧ p ≤ k) ∨ ((b = 1139 ∨ b = 1140 ∨ b = 1142 ∨ b = 1143 ∨ b = 1144) ∧ k = j)
theorem PY_Q {j p b k : Nat} (h : PQ j p b k) : PY j p b k := by
  rcases h with z | z | z
  · exact Or.inl z
  · exact Or.inr (Or.inl z)
  · exact Or.inr (Or.inr ⟨by omega, z.2⟩)
theorem PY_q {j p : Nat} {K : List Nat} {σ τ : SG} (h : fq K σ τ) (hK : ∀ i, i ∈ K → i ∈ [37, 70, 71, 72, 74, 75, 76, 77]) : fP (PY j p) σ τ := fP_mono (PQ_q h hK) (fun _ _ => PY_Q)
theorem narB (b : Bool) : vp_nar .boolean (zI b) = zI b := by cases b <;> rfl
/-- what takeType leaves of a named type -/
def TYn (τ : SG) (T : List Nat) (Ws : List Wd) (j p k k' : Nat) : Prop := sI τ 1142 j = zI (sS T Ws 46 k) ∧ sI τ 1143 j = nI p ∧ ∃ m, k' + 1 = (if sS T Ws 46 k then k + 1 else k) + 2 * m ∧ 1 ≤ m ∧ sI τ 1101 37 = nI (p + m) ∧ sI τ 1144 j = nI m ∧ PTs τ Ws p (if sS T Ws 46 k then k + 1 else k) m
theorem N_takeType_114 {U j k p : Nat} {σ : SG} {T : List Nat} {Ws : List Wd} (hU : 4000 < U) (hS : WS T Ws) (hl : Ws.length ≤ 701) (hj : j < 200) (h : QX σ T Ws k) (h74 : sI σ 1101 74 = 0) (h37 : sI σ 1101 37 = nI p) (hp : 2 * p ≤ pos Ws k) (h44 : sI σ 1144 j = nI 0) (h39 : sI σ 1139 j = -1) :
    ∃ τ, x_X12_takeType_114 U 1101 (nI j) σ = some τ ∧ fP (PQ j p) σ τ ∧ (∀ k', sTN T Ws Ws.length k = some k' → sI τ 1101 74 = 0 ∧ QX τ T Ws k' ∧ ∃ m, k' + 1 = k + 2 * m ∧ 1 ≤ m ∧ sI τ 1101 37 = nI (p + m) ∧ sI τ 1144 j = nI m ∧ PTs τ Ws p k m) ∧ (sTN T Ws Ws.length k = none → ¬ sI τ 1101 74 = 0) := by
  unfold x_X12_takeType_114
  rw [ix_in hj (by decide), if_pos h39]
  obtain ⟨τ, e1, e2⟩ := N_takeParts hU hS hl hj h h74 h37 hp h44
  rw [e1, b1_eq]
  exact ⟨τ, rfl, e2⟩
