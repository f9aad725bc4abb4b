/-! ===== print: what is written, and the class's small writers ===== -/
/-- only OUT and the digits are touched -/
def fp3 (σ τ : SG) : Prop := ∀ b, b ≠ 3 → b ≠ 4 → b ≠ 1096 → sm σ τ b
theorem fp3_refl (σ : SG) : fp3 σ σ := fun b _ _ _ => sm_refl σ b
theorem fp3_trans {σ τ υ : SG} (h : fp3 σ τ) (h' : fp3 τ υ) : fp3 σ υ := fun b h1 h2 h3 => sm_trans (h b h1 h2 h3) (h' b h1 h2 h3)
theorem fb_fp3 {σ τ : SG} (h : fb 3 σ τ) : fp3 σ τ := fun b h1 h2 _ => h b h1 h2
/-- the writer x adds the bytes B -/
def WR (w : List Nat × Int32) (B : List Nat) (σ : SG) (x : Option SG) : Prop := ∃ τ, x = some τ ∧ RW τ 3 (wrL 4000 w B) ∧ fp3 σ τ
theorem WR_b1 {w : List Nat × Int32} {B C : List Nat} {σ : SG} {x : Option SG} {k : SG → Option SG} (h : WR w B σ x) (hk : ∀ τ, RW τ 3 (wrL 4000 w B) → fp3 σ τ → WR (wrL 4000 w B) C τ (k τ)) : WR w (B ++ C) σ (b1 x k) := by
  obtain ⟨τ, t1, t2, t3⟩ := h
  obtain ⟨υ, u1, u2, u3⟩ := hk τ t2 t3
  rw [t1, b1_eq]
  exact ⟨υ, u1, by rw [wrL_app]; exact u2, fp3_trans t3 u3⟩
theorem WR_id {w : List Nat × Int32} {B : List Nat} {σ : SG} {x : Option SG} (h : WR w B σ x) : WR w B σ (b1 x fun τ => some τ) := by rw [b1_id]; exact h
theorem W_add {w : List Nat × Int32} {σ : SG} {x : Int32} (h : RW σ 3 w) : WR w [lo8 x] σ (x_X0_add 3 x σ) := by
  obtain ⟨τ, t1, t2, t3⟩ := X0_addW (x := x) h
  rw [ln4] at t2
  exact ⟨τ, t1, t2, fb_fp3 t3⟩
theorem W_addc {w : List Nat × Int32} {σ : SG} {c : Nat} (hc : c < 256) (h : RW σ 3 w) : WR w [c] σ (x_X0_add 3 (nI c) σ) := by
  have := W_add (x := nI c) h
  rw [lo8_nI hc] at this
  exact this
theorem W_text_L {U k : Nat} (hk : k < 24) : ∀ (j n U1 : Nat) (σ : SG) (w : List Nat × Int32), n + j = tlen k → j < U1 → RW σ 3 w → WR w ((tby.getD k []).drop n) σ (x_X0_addText_L2 U 3 k U1 (nI n) σ) := by
  have htl := tlen_le k
  have h256 : ∀ c ∈ tby.getD k [], c < 256 := (by decide +kernel : ∀ k, k < 24 → ∀ c ∈ tby.getD k [], c < 256) k hk
  intro j
  induction j with
  | zero =>
    intro n U1 σ w hn hu hw
    obtain ⟨V, rfl⟩ : ∃ V, U1 = V + 1 := ⟨U1 - 1, by omega⟩
    rw [x_X0_addText_L2, if_neg (fun z => by have := (ltI (by omega) (by omega)).mp z; omega), List.drop_eq_nil_of_le (by show tlen k ≤ n; omega)]
    exact ⟨σ, rfl, hw, fp3_refl σ⟩
  | succ j ih =>
    intro n U1 σ w hn hu hw
    obtain ⟨V, rfl⟩ : ∃ V, U1 = V + 1 := ⟨U1 - 1, by omega⟩
    have hcl : n < (tby.getD k []).length := by show n < tlen k; omega
    have htc : tchr k n = nI (tby.getD k [])[n] := by
      unfold tchr; rw [List.getD_eq_getElem?_getD (l := tby.getD k []), List.getElem?_eq_getElem hcl]; rfl
    rw [x_X0_addText_L2, if_pos ((ltI (by omega) (by omega)).mpr (by omega)), ix_in (by omega) (by omega), htc, List.drop_eq_getElem_cons hcl]
    refine WR_b1 (B := [(tby.getD k [])[n]]) (W_addc (h256 _ (List.getElem_mem hcl)) hw) (fun τ t2 t3 => ?_)
    rw [nI_1]
    exact ih (n + 1) V τ _ (by omega) (by omega) t2
theorem W_text {U k : Nat} {σ : SG} {w : List Nat × Int32} (hU4 : 4000 < U) (hk : k < 24) (hw : RW σ 3 w) : WR w (tby.getD k []) σ (x_X0_addText U 3 k σ) := by
  have htl := tlen_le k
  have := W_text_L (U := U) hk (tlen k) 0 U σ w (by omega) (by omega) hw
  exact this
theorem t14 : tby.getD 14 [] = [32, 32] := by decide
theorem t15 : tby.getD 15 [] = [32, 123, 10] := by decide
theorem t16 : tby.getD 16 [] = [125, 10] := by decide
theorem t17 : tby.getD 17 [] = [58, 32] := by decide
theorem t18 : tby.getD 18 [] = [116, 114, 117, 101] := by decide
theorem t19 : tby.getD 19 [] = [102, 97, 108, 115, 101] := by decide
/-- blanks in front of a line -/
def inB (dp : Nat) : List Nat := List.replicate (2 * (dp - 1)) 32
theorem W_ind_L {U dp : Nat} (hU4 : 4000 < U) (hd : dp ≤ 100) : ∀ (j n U1 : Nat) (σ : SG) (w : List Nat × Int32), n + j = dp → j < U1 → RW σ 3 w → WR w (List.replicate (2 * j) 32) σ (x_X7_writeIndent_L2 U 1095 (nI dp) U1 (nI n) σ) := by
  intro j
  induction j with
  | zero =>
    intro n U1 σ w hn hu hw
    obtain ⟨V, rfl⟩ : ∃ V, U1 = V + 1 := ⟨U1 - 1, by omega⟩
    rw [x_X7_writeIndent_L2, if_neg (fun z => by have := (ltI (by omega) (by omega)).mp z; omega)]
    exact ⟨σ, rfl, hw, fp3_refl σ⟩
  | succ j ih =>
    intro n U1 σ w hn hu hw
    obtain ⟨V, rfl⟩ : ∃ V, U1 = V + 1 := ⟨U1 - 1, by omega⟩
    rw [x_X7_writeIndent_L2, if_pos ((ltI (by omega) (by omega)).mpr (by omega)), show 2 * (j + 1) = 2 + 2 * j by omega, ← List.replicate_append_replicate]
    have h1 := W_text (k := 14) hU4 (by decide) hw
    rw [t14] at h1
    refine WR_b1 (B := [32, 32]) h1 (fun τ t2 t3 => ?_)
    rw [nI_1]
    exact ih (n + 1) V τ _ (by omega) (by omega) t2
theorem W_ind {U dp : Nat} {σ : SG} {w : List Nat × Int32} (hU4 : 4000 < U) (h1 : 1 ≤ dp) (hd : dp ≤ 100) (hw : RW σ 3 w) : WR w (inB dp) σ (x_X7_writeIndent U 1095 (nI dp) σ) := by
  have := W_ind_L (U := U) hU4 hd (dp - 1) 1 U σ w (by omega) (by omega) hw
  exact this
/-- the digits of a number, the last one first -/
def dgN : Nat → Nat → List Nat
  | 0, _ => []
  | j + 1, u => (u % 10) :: (if u / 10 = 0 then [] else dgN j (u / 10))
theorem dgN_len : ∀ j u, (dgN j u).length ≤ j
  | 0, _ => Nat.le_refl _
  | j + 1, u => by
    rw [dgN, List.length_cons]
    split
    · simp
    · have := dgN_len j (u / 10); omega
theorem dgN_lt : ∀ j u, ∀ c ∈ dgN j u, c < 10
  | 0, _ => fun c hc => by cases hc
  | j + 1, u => fun c hc => by
    rw [dgN] at hc
    rcases List.mem_cons.mp hc with z | z
    · omega
    · split at z
      · cases z
      · exact dgN_lt j _ c z
def dcB (x : Int64) : List Nat := ((dgN 20 (uN x)).map (fun c => 48 + c)).reverse
theorem half5 {u : Nat} (h : u < 2 ^ 64) : (lush (lN u) 1) / 5 = lN (u / 10) := by
  have e : lush (lN u) 1 = lN (u / 2) := by
    apply Int64.toBitVec_inj.mp
    have := lush_bv (lN u) (k := 1) (by decide)
    have e : lush (lN u) 1 = lush (lN u) (nI 1) := rfl
    rw [e, this, lN_bv, lN_bv]
    apply BitVec.eq_of_toNat_eq
    rw [BitVec.toNat_ushiftRight, BitVec.toNat_ofNat, BitVec.toNat_ofNat, Nat.mod_eq_of_lt h, Nat.mod_eq_of_lt (by omega), Nat.shiftRight_eq_div_pow]
  rw [e]
  have e2 : (lN (u / 2)).toInt = (u / 2 : Nat) := by
    show (lN (u / 2)).toBitVec.toInt = _
    rw [lN_bv, BitVec.toInt_ofNat']
    rw [Int.bmod_eq_of_le (by omega) (by omega)]
  have e3 : (lN (u / 10)).toInt = (u / 10 : Nat) := by
    show (lN (u / 10)).toBitVec.toInt = _
    rw [lN_bv, BitVec.toInt_ofNat']
    rw [Int.bmod_eq_of_le (by omega) (by omega)]
  apply Int64.toInt_inj.mp
  rw [Int64.toInt_div, e2, e3]
  have : (5 : Int64).toInt = 5 := by decide
  rw [this]
  have h5 : Int.tdiv ((u / 2 : Nat) : Int) 5 = ((u / 10 : Nat) : Int) := by
    rw [Int.tdiv_eq_ediv_of_nonneg (by omega)]
    omega
  rw [h5, Int.bmod_eq_of_le (by omega) (by omega)]
theorem digN {u : Nat} (h : u < 2 ^ 64) : Int64.toInt32 (lN u - lN (u / 10) * 10) = nI (u % 10) := by
  have e : lN u - lN (u / 10) * 10 = lN (u % 10) := by
    apply Int64.toBitVec_inj.mp
    rw [Int64.toBitVec_sub, Int64.toBitVec_mul, lN_bv, lN_bv, lN_bv, show Int64.toBitVec 10 = BitVec.ofNat 64 10 from rfl]
    apply BitVec.eq_of_toNat_eq
    rw [BitVec.toNat_sub, BitVec.toNat_mul, BitVec.toNat_ofNat, BitVec.toNat_ofNat, BitVec.toNat_ofNat, BitVec.toNat_ofNat]
    omega
  rw [e]
  exact (by decide +kernel : ∀ m, m < 10 → Int64.toInt32 (lN m) = nI m) _ (by omega)
