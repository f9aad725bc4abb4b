/-! ===== shifts and masks of longs ===== -/
theorem shk : ∀ k, k < 64 → ((nI k).toInt64.toUInt64 &&& Int64.toUInt64 63) = UInt64.ofNat k := by decide +kernel
theorem lN_bv (w : Nat) : (lN w).toBitVec = BitVec.ofNat 64 w := rfl
theorem lush_bv (x : Int64) {k : Nat} (hk : k < 64) : (lush x (nI k)).toBitVec = x.toBitVec >>> k := by
  unfold lush
  rw [shk k hk]
  show (x.toUInt64 >>> UInt64.ofNat k).toBitVec = _
  rw [UInt64.toBitVec_shiftRight]
  apply BitVec.eq_of_toNat_eq
  rw [BitVec.toNat_ushiftRight]
  show (x.toBitVec >>> ((UInt64.ofNat k).toBitVec.umod 64)).toNat = _
  rw [BitVec.ushiftRight_eq', BitVec.toNat_ushiftRight]
  congr 1
  show (BitVec.ofNat 64 k % (64 : BitVec 64)).toNat = k
  rw [BitVec.toNat_umod]
  rw [BitVec.toNat_ofNat]
  have h1 : k % 2 ^ 64 = k := Nat.mod_eq_of_lt (by omega)
  rw [h1]
  exact Nat.mod_eq_of_lt hk
theorem lush_N {w k : Nat} (hw : w < 2 ^ 63) (hk : k < 64) : lush (lN w) (nI k) = lN (w / 2 ^ k) := by
  apply Int64.toBitVec_inj.mp
  rw [lush_bv _ hk, lN_bv, lN_bv]
  apply BitVec.eq_of_toNat_eq
  have h1 : w / 2 ^ k ≤ w := Nat.div_le_self _ _
  rw [BitVec.toNat_ushiftRight, BitVec.toNat_ofNat, BitVec.toNat_ofNat, Nat.mod_eq_of_lt (by omega), Nat.mod_eq_of_lt (by omega), Nat.shiftRight_eq_div_pow]
theorem land_N {w k : Nat} (hw : w < 2 ^ 63) (hk : k < 63) : lN w &&& lN (2 ^ k - 1) = lN (w % 2 ^ k) := by
  apply Int64.toBitVec_inj.mp
  show (lN w).toBitVec &&& (lN (2 ^ k - 1)).toBitVec = _
  rw [lN_bv, lN_bv, lN_bv]
  apply BitVec.eq_of_toNat_eq
  have h1 : w % 2 ^ k ≤ w := Nat.mod_le _ _
  have h2 : 2 ^ k ≤ 2 ^ 62 := Nat.pow_le_pow_right (by decide) (by omega)
  rw [BitVec.toNat_and, BitVec.toNat_ofNat, BitVec.toNat_ofNat, BitVec.toNat_ofNat, Nat.mod_eq_of_lt (a := w) (by omega), Nat.mod_eq_of_lt (a := 2 ^ k - 1) (by omega), Nat.mod_eq_of_lt (a := w % 2 ^ k) (by omega), Nat.and_two_pow_sub_one_eq_mod]
/-- the tag of a field: its number and kind -/
noncomputable def tgS (S : List Nat) (p e : Nat) : Option (Nat × Nat) := match rdN S 0 p e with
  | none => none
  | some (x, p1) => if x < 8 ∨ 4294967295 < x then none else some (x.toInt.toNat, p1)
theorem tag_of {x : Int64} (h : ¬ (x < 8 ∨ 4294967295 < x)) : ∃ w, x = lN w ∧ 8 ≤ w ∧ w < 2 ^ 32 ∧ x.toInt.toNat = w := by
  have h0 : ¬ x < 0 := fun z => h (Or.inl (Int64.lt_trans z (by decide)))
  obtain ⟨w, hw, rfl⟩ := pk_lOf h0
  have h1 : ¬ w < 8 := fun z => h (Or.inl ((pk_lLT (b := 8) hw (by decide)).mpr z))
  have h2 : ¬ 4294967295 < w := fun z => h (Or.inr ((pk_lLT (a := 4294967295) (by decide) hw).mpr z))
  exact ⟨w, rfl, by omega, by omega, by rw [pk_lT hw]; rfl⟩
/-- which numbers are no tags, as the class asks -/
theorem tag_C {α : Type} {x : Int64} {F K : α} : (if lush x 32 = 0 then (if x < 8 then F else K) else F) = if x < 8 ∨ 4294967295 < x then F else K := by
  by_cases h0 : x < 0
  · have h8 : x < 8 := Int64.lt_trans h0 (by decide)
    rw [if_pos (Or.inl h8), if_pos h8]
    split <;> rfl
  · obtain ⟨w, hw, rfl⟩ := pk_lOf h0
    have e : lush (lN w) 32 = lN (w / 2 ^ 32) := lush_N hw (by decide)
    have e0 : lush (lN w) 32 = 0 ↔ w < 2 ^ 32 := by
      rw [e]
      have : lN (w / 2 ^ 32) = lN 0 ↔ w / 2 ^ 32 = 0 := pk_lEQ (by have := Nat.div_le_self w (2 ^ 32); omega) (by decide)
      exact this.trans (by omega)
    have c1 : lN w < 8 ↔ w < 8 := pk_lLT (b := 8) hw (by decide)
    have c2 : (4294967295 : Int64) < lN w ↔ 4294967295 < w := pk_lLT (a := 4294967295) (by decide) hw
    rw [ifd e0, ifd c1, ifd (show (lN w < 8 ∨ (4294967295 : Int64) < lN w) ↔ (w < 8 ∨ 4294967295 < w) from or_congr c1 c2)]
    by_cases q1 : w < 2 ^ 32
    · rw [if_pos q1]
      by_cases q2 : w < 8
      · rw [if_pos q2, if_pos (Or.inl q2)]
      · rw [if_neg q2, if_neg (by omega)]
    · rw [if_neg q1, if_pos (by omega)]
