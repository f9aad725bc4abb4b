/-! ===== the reference's reader: the name that was declared last ===== -/
theorem N_lastAt {σ : SG} {n : Nat} (h : sI σ 1101 38 = nI (n + 1)) (hn : n < 400) : x_X12_lastAt 1101 σ = some (sI σ 1157 n) := by
  unfold x_X12_lastAt
  rw [h, if_neg (show ¬ nI (n + 1) = 0 from fun z => by have := (nI_eq (b := 0) (by omega) (by decide)).mp z; omega), show (1 : Int32) = nI 1 from rfl, nI_sub (by omega), show n + 1 - 1 = n by omega, ix_in hn (by decide)]
theorem N_lastLong {σ : SG} {n : Nat} (h : sI σ 1101 38 = nI (n + 1)) (hn : n < 400) : x_X12_lastLong 1101 σ = some (sI σ 1158 n) := by
  unfold x_X12_lastLong
  rw [h, if_neg (show ¬ nI (n + 1) = 0 from fun z => by have := (nI_eq (b := 0) (by omega) (by decide)).mp z; omega), show (1 : Int32) = nI 1 from rfl, nI_sub (by omega), show n + 1 - 1 = n by omega, ix_in hn (by decide)]
theorem N_lastAt_any {σ : SG} {n : Nat} (h : sI σ 1101 38 = nI n) (hn : n ≤ 400) : ∃ v, x_X12_lastAt 1101 σ = some v := by
  cases n with
  | zero => exact ⟨0, by unfold x_X12_lastAt; rw [h, if_pos (show nI 0 = 0 from rfl)]⟩
  | succ n => exact ⟨_, N_lastAt h (by omega)⟩
theorem N_lastLong_any {σ : SG} {n : Nat} (h : sI σ 1101 38 = nI n) (hn : n ≤ 400) : ∃ v, x_X12_lastLong 1101 σ = some v := by
  cases n with
  | zero => exact ⟨0, by unfold x_X12_lastLong; rw [h, if_pos (show nI 0 = 0 from rfl)]⟩
  | succ n => exact ⟨_, N_lastLong h (by omega)⟩
/-- a number as the reference holds it -/
def NR (l : Int64) (v : Bool × Nat) : Prop := ∃ w, w < 2 ^ 54 ∧ NV w v.2 ∧ l = nL (v.1, w)
