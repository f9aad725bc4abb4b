/-! ===== the pure proof: small words ===== -/
theorem i32_lit (n : Nat) : (OfNat.ofNat n : Int32) = nI (OfNat.ofNat n) := rfl
theorem ltI {a b : Nat} (ha : a < 2 ^ 31) (hb : b < 2 ^ 31) : nI a < nI b ↔ a < b := nI_ltI ha hb
theorem nI_neg {a : Nat} (ha : a < 2 ^ 31) : ¬ nI a < 0 := nI_pos ha
theorem nI_sub {a b : Nat} (h : b ≤ a) : nI a - nI b = nI (a - b) := by
  have e : a = (a - b) + b := by omega
  have := nI_add (a - b) b
  rw [← e] at this
  rw [← this]
  rw [Int32.sub_eq_add_neg, Int32.add_assoc, ← Int32.sub_eq_add_neg, Int32.sub_self, Int32.add_zero]
theorem ix_in {β : Type} {i n : Nat} {f : Nat → Option β} (h : i < n) (hn : n < 2 ^ 31) : ix (nI i) n f = f i := by
  unfold ix
  rw [if_neg (nI_in h hn), nI_clamp (by omega)]
theorem sb_eq {α β : Type} (x : α) (f : α → β) : sb x f = f x := rfl
theorem b1_eq {α β : Type} (a : α) (f : α → Option β) : b1 (some a) f = f a := rfl
theorem b2_eq {α γ β : Type} (a : α) (c : γ) (f : α → γ → Option β) : b2 (some (a, c)) f = f a c := rfl
theorem ck_eq {β : Type} {c b : Nat} {f : Nat → Option β} (h : sh b = c) : ck c (some b) f = f b := by
  unfold ck; exact if_pos h
theorem zb0 {β : Type} (f : Option β) : zb 0 f = f := rfl
theorem zb1 {β : Type} (f : Option β) : zb 1 f = f := rfl
/-- the low eight bits -/
def lo8 (x : Int32) : Nat := x.toBitVec.toNat % 256
theorem lo8_lt (x : Int32) : lo8 x < 256 := Nat.mod_lt _ (by decide)
theorem and255 (x : Int32) : x &&& 255 = nI (lo8 x) := pk_and x 8 (by decide)
def nB (c : Nat) : Int32 := vp_nar .byte (nI c)
theorem nB_and {c : Nat} (h : c < 256) : nB c &&& 255 = nI c := (by decide +kernel : ∀ c, c < 256 → nB c &&& 255 = nI c) c h
theorem lo8_nI {c : Nat} (h : c < 256) : lo8 (nI c) = c := (by decide +kernel : ∀ c, c < 256 → lo8 (nI c) = c) c h
theorem nar_lo8 (x : Int32) : vp_nar .byte (i2b x) = nB (lo8 x) := by
  have e1 : ∀ y : Int32, vp_nar .byte y = y.toInt8.toInt32 := fun y => rfl
  have e2 : (i2b x).toInt8 = x.toInt8 := by
    unfold i2b; rw [Int8.toInt8_toInt32]
  have e3 : (nI (lo8 x)).toInt8 = x.toInt8 := by
    apply Int8.toBitVec_inj.mp
    rw [Int32.toBitVec_toInt8, Int32.toBitVec_toInt8]
    apply BitVec.eq_of_toNat_eq
    rw [BitVec.signExtend_eq_setWidth_of_le _ (by decide), BitVec.signExtend_eq_setWidth_of_le _ (by decide), BitVec.toNat_setWidth, BitVec.toNat_setWidth, pk_tn (by have := lo8_lt x; omega)]
    unfold lo8
    exact Nat.mod_mod _ _
  rw [e1, e2]
  unfold nB
  rw [e1, e3]
/-- the same at an address -/
def sm (σ τ : SG) (b : Nat) : Prop := ∀ k, sI τ b k = sI σ b k ∧ sL τ b k = sL σ b k ∧ sP τ b k = sP σ b k
theorem sm_refl (σ : SG) (b : Nat) : sm σ σ b := fun _ => ⟨rfl, rfl, rfl⟩
theorem sm_trans {σ τ υ : SG} {b : Nat} (h : sm σ τ b) (h' : sm τ υ b) : sm σ υ b := fun k => ⟨(h' k).1.trans (h k).1, (h' k).2.1.trans (h k).2.1, (h' k).2.2.trans (h k).2.2⟩
theorem sm_uI {σ : SG} {a k b : Nat} {v : Int32} (h : b ≠ a) : sm σ (uI σ a k v) b := fun j => ⟨by rw [sI_uI, if_neg (fun z => h z.1)], rfl, rfl⟩
theorem sm_uL {σ : SG} {a k b : Nat} {v : Int64} (h : b ≠ a) : sm σ (uL σ a k v) b := fun j => ⟨rfl, by rw [sL_uL, if_neg (fun z => h z.1)], rfl⟩
theorem sm_uP {σ : SG} {a k b : Nat} {v : Option Nat} (h : b ≠ a) : sm σ (uP σ a k v) b := fun j => ⟨rfl, rfl, by rw [sP_uP, if_neg (fun z => h z.1)]⟩
/-- a row of bytes: the object at a, its array at a + 1 -/
def RB (σ : SG) (a : Nat) (T : List Nat) (z : Int32) : Prop := sI σ a 1 = nI T.length ∧ sI σ a 2 = z ∧ T.length ≤ ln (a + 1) ∧ (∀ i c, T[i]? = some c → sI σ (a + 1) i = nB c) ∧ ∀ c ∈ T, c < 256
theorem RB.sm {σ τ : SG} {a : Nat} {T : List Nat} {z : Int32} (h : RB σ a T z) (h1 : sm σ τ a) (h2 : sm σ τ (a + 1)) : RB τ a T z :=
  ⟨(h1 1).1.trans h.1, (h1 2).1.trans h.2.1, h.2.2.1, fun i c hi => (h2 i).1.trans (h.2.2.2.1 i c hi), h.2.2.2.2⟩
theorem ln_small (a : Nat) : ln a ≤ 4000 := by
  rcases Nat.lt_or_ge a 1186 with h | h
  · exact (by decide +kernel : ∀ a, a < 1186 → ln a ≤ 4000) a h
  · have e : ln a = 0 := by
      unfold ln
      rw [if_neg (by omega), if_neg (by omega), if_neg (by omega), if_neg (by omega), if_neg (by omega), if_neg (by omega), if_neg (by omega), if_neg (by omega), List.getD_eq_getElem?_getD, List.getElem?_eq_none (by show 84 ≤ _; omega)]
      rfl
    omega
/-- the byte at a place, -1 behind the end -/
def bA (T : List Nat) (p : Nat) : Int32 := match T[p]? with
  | some c => nI c
  | none => -1
theorem X0_size {σ : SG} {a : Nat} {T : List Nat} {z : Int32} (h : RB σ a T z) : x_X0_size a σ = some (nI T.length) := by
  unfold x_X0_size; rw [h.1]
theorem X0_at {σ : SG} {a p : Nat} {T : List Nat} {z : Int32} (h : RB σ a T z) (hp : p < 2 ^ 31) : x_X0_at a (nI p) σ = some (bA T p) := by
  have hl := ln_small (a + 1)
  obtain ⟨h1, h2, h3, h4, h5⟩ := h
  unfold x_X0_at bA
  rw [if_neg (nI_neg hp), h1]
  by_cases hq : p < T.length
  · rw [if_pos ((ltI hp (by omega)).mpr hq), if_pos ((ltI hp (by omega)).mpr (by omega)), ix_in (by omega) (by omega), List.getElem?_eq_getElem hq]
    simp only
    rw [h4 p _ (List.getElem?_eq_getElem hq), nB_and (h5 _ (List.getElem_mem hq))]
  · rw [if_neg (fun q => hq ((ltI hp (by omega)).mp q)), List.getElem?_eq_none (by omega)]
theorem X0_at_neg {σ : SG} {a : Nat} {x : Int32} (h : x < 0) : x_X0_at a x σ = some (-1) := by
  unfold x_X0_at; rw [if_pos h]
theorem X0_clear {σ : SG} {a : Nat} : ∃ τ, x_X0_clear a σ = some τ ∧ RB τ a [] 0 ∧ ∀ b, b ≠ a → sm σ τ b := by
  refine ⟨_, rfl, ⟨?_, ?_, by simp, ?_, ?_⟩, ?_⟩
  · simp [sI_uI]; rfl
  · simp [sI_uI]
  · intro i c h; simp at h
  · intro c h; simp at h
  · intro b hb; exact sm_trans (sm_uI hb) (sm_uI hb)
theorem X0_add {σ : SG} {a : Nat} {x : Int32} {T : List Nat} {z : Int32} (h : RB σ a T z) (hr : T.length < ln (a + 1)) : ∃ τ, x_X0_add a x σ = some τ ∧ RB τ a (T ++ [lo8 x]) z ∧ ∀ b, b ≠ a → b ≠ a + 1 → sm σ τ b := by
  have hl := ln_small (a + 1)
  obtain ⟨h1, h2, h3, h4, h5⟩ := h
  refine ⟨uI (uI σ (a + 1) T.length (nB (lo8 x))) a 1 (nI (T.length + 1)), ?_, ⟨?_, ?_, ?_, ?_, ?_⟩, ?_⟩
  · unfold x_X0_add
    rw [h1, if_neg (nI_neg (by omega)), if_pos ((ltI (by omega) (by omega)).mpr hr), ix_in hr (by omega), sb_eq, sb_eq, nar_lo8, sI_uI, if_neg (by omega), h1, nI_1]
  · rw [sI_uI, if_pos ⟨rfl, rfl⟩, List.length_append]; rfl
  · rw [sI_uI, if_neg (by omega), sI_uI, if_neg (by omega), h2]
  · rw [List.length_append, List.length_singleton]; omega
  · intro i c hi
    rw [sI_uI, if_neg (by omega), sI_uI]
    by_cases hj : i = T.length
    · subst hj
      rw [List.getElem?_append_right (Nat.le_refl _)] at hi
      simp at hi
      rw [if_pos ⟨rfl, rfl⟩, hi]
    · rw [if_neg (fun q => hj q.2)]
      rcases Nat.lt_or_ge i T.length with q | q
      · rw [List.getElem?_append_left q] at hi; exact h4 i c hi
      · rw [List.getElem?_eq_none (by rw [List.length_append, List.length_singleton]; omega)] at hi; cases hi
  · intro c hc
    rcases List.mem_append.mp hc with q | q
    · exact h5 c q
    · rw [List.mem_singleton.mp q]; exact lo8_lt x
  · intro b hb hb'; exact sm_trans (sm_uI hb') (sm_uI hb)
/-- a full row spills -/
theorem X0_addF {σ : SG} {a : Nat} {x : Int32} {T : List Nat} {z : Int32} (h : RB σ a T z) (hr : T.length = ln (a + 1)) : ∃ τ, x_X0_add a x σ = some τ ∧ RB τ a T 1 ∧ ∀ b, b ≠ a → sm σ τ b := by
  have hl := ln_small (a + 1)
  obtain ⟨h1, h2, h3, h4, h5⟩ := h
  refine ⟨uI σ a 2 1, ?_, ⟨?_, ?_, h3, ?_, h5⟩, fun b hb => sm_uI hb⟩
  · unfold x_X0_add
    rw [h1, if_neg (nI_neg (by omega)), if_neg (fun q => by have := (ltI (by omega) (by omega)).mp q; omega)]; rfl
  · rw [sI_uI, if_neg (by omega), h1]
  · rw [sI_uI, if_pos ⟨rfl, rfl⟩]
  · intro i c hi; rw [sI_uI, if_neg (by omega)]; exact h4 i c hi
theorem sI_s (σ : SG) (a k : Nat) (v : Int32) : sI (uI σ a k v) a k = v := if_pos ⟨rfl, rfl⟩
theorem sL_s (σ : SG) (a k : Nat) (v : Int64) : sL (uL σ a k v) a k = v := if_pos ⟨rfl, rfl⟩
theorem sP_s (σ : SG) (a k : Nat) (v : Option Nat) : sP (uP σ a k v) a k = v := if_pos ⟨rfl, rfl⟩
theorem sI_o {σ : SG} {a k b j : Nat} {v : Int32} (h : b ≠ a ∨ j ≠ k) : sI (uI σ a k v) b j = sI σ b j := if_neg (fun q => h.elim (fun z => z q.1) (fun z => z q.2))
theorem sL_o {σ : SG} {a k b j : Nat} {v : Int64} (h : b ≠ a ∨ j ≠ k) : sL (uL σ a k v) b j = sL σ b j := if_neg (fun q => h.elim (fun z => z q.1) (fun z => z q.2))
theorem sP_o {σ : SG} {a k b j : Nat} {v : Option Nat} (h : b ≠ a ∨ j ≠ k) : sP (uP σ a k v) b j = sP σ b j := if_neg (fun q => h.elim (fun z => z q.1) (fun z => z q.2))
theorem l700 : (700 : Int32) = nI 700 := rfl
theorem l8 : (8 : Int32) = nI 8 := rfl
theorem l4000 : (4000 : Int32) = nI 4000 := rfl
