/-! ===== the reference writes numbers ===== -/
theorem shl1 (y : Int32) : (ishl9 y 1).toBitVec = y.toBitVec <<< 1 := rfl
theorem shr31 (y : Int32) : (ishr9 y 31).toBitVec = y.toBitVec.sshiftRight 31 := rfl
theorem lshl1 (x : Int64) : (lshl9 x 1).toBitVec = x.toBitVec <<< 1 := rfl
theorem lshr63 (x : Int64) : (lshr9 x 63).toBitVec = x.toBitVec.sshiftRight 63 := rfl
theorem m32 : ∀ i, i < 64 → (Int64.toBitVec 4294967295).getLsbD i = decide (i < 32) := by decide +kernel
theorem zz32 (y : Int32) : (Int32.toInt64 ((ishl9 y 1) ^^^ (ishr9 y 31))) &&& 4294967295 = zzg (Int32.toInt64 y) := by
  apply Int64.toBitVec_inj.mp
  unfold zzg
  rw [Int64.toBitVec_and, Int64.toBitVec_xor, Int32.toBitVec_toInt64, Int32.toBitVec_xor, shl1, shr31, lshl1, lshr63, Int32.toBitVec_toInt64]
  apply BitVec.eq_of_getLsbD_eq
  intro i hi
  have hm : (y.toBitVec).msb = y.toBitVec.getLsbD 31 := by rw [BitVec.msb_eq_getLsbD_last]
  rw [BitVec.getLsbD_and, m32 i hi, BitVec.getLsbD_xor, BitVec.getLsbD_shiftLeft, BitVec.getLsbD_sshiftRight]
  rw [BitVec.getLsbD_signExtend, BitVec.getLsbD_signExtend]
  rw [BitVec.getLsbD_xor, BitVec.getLsbD_shiftLeft, BitVec.getLsbD_sshiftRight]
  have h63 : (BitVec.signExtend 64 y.toBitVec).getLsbD 63 = y.toBitVec.msb := by
    rw [BitVec.getLsbD_signExtend, if_neg (by decide)]
    rfl
  have hSm : (BitVec.signExtend 64 y.toBitVec).msb = y.toBitVec.msb := by
    rw [BitVec.msb_eq_getLsbD_last]
    exact h63
  have h31 : y.toBitVec.getLsbD 31 = y.toBitVec.msb := hm.symm
  rw [hSm, decide_eq_true hi, Bool.true_and, decide_eq_false (show ¬ 64 ≤ i by omega)]
  by_cases q0 : i = 0
  · subst q0
    rw [if_pos (show 0 < 32 by decide), if_pos (show 31 + 0 < 32 by decide), if_pos (show 63 + 0 < 64 by decide), h63, h31]
    simp
  · rw [decide_eq_false (show ¬ i < 1 by omega), decide_eq_true (show i - 1 < 64 by omega), if_neg (show ¬ 63 + i < 64 by omega)]
    by_cases q : i < 32
    · rw [if_pos q, if_pos (show i - 1 < 32 by omega), if_neg (show ¬ 31 + i < 32 by omega), decide_eq_true q, decide_eq_false (show ¬ 32 ≤ i by omega)]
      simp
    · rw [if_neg q, decide_eq_false q, Bool.and_false]
      by_cases q2 : i - 1 < 32
      · rw [if_pos q2, show i - 1 = 31 by omega, h31]
        simp
      · rw [if_neg q2]
        simp
/-- numbers of the type that both write alike -/
def okV4 (t : Nat) (x : Int64) : Prop := t = 4 → x = Int32.toInt64 (Int64.toInt32 x)
theorem N_varintOf {t : Nat} {x : Int64} (ht : t ≤ 14) (h : okV4 t x) : x_X12_varintOf (nI t) x = some (if t = 4 ∨ t = 5 then zzg x else x) := by
  unfold x_X12_varintOf
  have t4 : nI t = 4 ↔ t = 4 := nI_eq (b := 4) (by omega) (by decide)
  have t5 : nI t = 5 ↔ t = 5 := nI_eq (b := 5) (by omega) (by decide)
  rw [ifd t4, ifd t5]
  by_cases q : t = 4
  · rw [if_pos q, if_pos (Or.inl q), zz32, ← h q]
  · rw [if_neg q]
    by_cases q' : t = 5
    · rw [if_pos q', if_pos (Or.inr q')]; rfl
    · rw [if_neg q', if_neg (fun z => z.elim q q')]
theorem nuB_0 {t : Nat} {x : Int64} (h : kdO t = 0) : nuB t x = vB (if t = 4 ∨ t = 5 then zzg x else x) := by
  unfold nuB
  rw [if_neg (by omega), if_neg (by omega)]
  split <;> rfl
theorem N_wnum {U t : Nat} {σ : SG} {x : Int64} {w : List Nat × Int32} (hU4 : 4000 < U) (ht : t ≤ 14) (hnm : nmr t = true) (h4 : okV4 t x) (hw : ROr σ w) : ∃ τ, x_X12_putOne U 1101 (nI t) x σ = some τ ∧ ROr τ (wrL 4000 w (nuB t x)) ∧ fw σ τ := by
  unfold x_X12_putOne x_X12_putOne_20
  have hk := kdO_n ht hnm
  have e0 : nI (kdO t) = 0 ↔ kdO t = 0 := nI_eq (b := 0) (by omega) (by decide)
  rw [N_kindOf ht, b1_eq, ifd e0]
  rcases hk with q | q | q
  · rw [if_pos q, N_varintOf ht h4, b1_eq, nuB_0 q]
    obtain ⟨τ, t1, t2, t3⟩ := N_varW (U := U) (x := if t = 4 ∨ t = 5 then zzg x else x) hU4 hw
    rw [t1, b1_eq, q]
    obtain ⟨υ, u1, u2, u3⟩ := N_fixW_L (U := U) (q := 0) (n := 0) (x := x) (Or.inr (Or.inr ⟨rfl, rfl⟩)) 0 0 U τ _ rfl (by omega) t2
    exact ⟨υ, u1, u2, fw_trans t3 u3⟩
  · rw [if_neg (by omega), q]
    have : nuB t x = fxB x 0 8 := by unfold nuB; rw [if_pos q]
    rw [this]
    exact N_fixW_L (U := U) (q := 1) (n := 8) (x := x) (Or.inl ⟨rfl, rfl⟩) 8 0 U σ w rfl (by omega) hw
  · rw [if_neg (by omega), q]
    have : nuB t x = fxB x 0 4 := by unfold nuB; rw [if_neg (by omega), if_pos q]
    rw [this]
    exact N_fixW_L (U := U) (q := 5) (n := 4) (x := x) (Or.inr (Or.inl ⟨rfl, rfl⟩)) 4 0 U σ w rfl (by omega) hw
theorem N_kindBytes {U t : Nat} {σ : SG} {x : Int64} (hU4 : 4000 < U) (ht : t ≤ 14) (hnm : nmr t = true) (h4 : okV4 t x) : x_X12_kindBytes U (nI t) x σ = some (nI (nuB t x).length) := by
  unfold x_X12_kindBytes
  have hk := kdO_n ht hnm
  have e1 : nI (kdO t) = 1 ↔ kdO t = 1 := nI_eq (b := 1) (by omega) (by decide)
  have e5 : nI (kdO t) = 5 ↔ kdO t = 5 := nI_eq (b := 5) (by omega) (by decide)
  rw [N_kindOf ht, b1_eq, ifd e1, ifd e5]
  rcases hk with q | q | q
  · rw [if_neg (by omega), if_neg (by omega), N_varintOf ht h4, b1_eq, N_varN hU4, b1_eq, nuB_0 q]
  · rw [if_pos q]
    have : nuB t x = fxB x 0 8 := by unfold nuB; rw [if_pos q]
    rw [this, fxB_len]; rfl
  · rw [if_neg (by omega), if_pos q]
    have : nuB t x = fxB x 0 4 := by unfold nuB; rw [if_neg (by omega), if_pos q]
    rw [this, fxB_len]; rfl
