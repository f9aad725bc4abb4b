/-! ===== the pure proof: small words ===== -/
theorem i32_lit (n : Nat) : (OfNat.ofNat n : Int32) = nI (OfNat.ofNat n) := rfl
theorem ltI {a b : Nat} (ha : a < 2 ^ 31) (hb : b < 2 ^ 31) : nI a < nI b ↔ a < b := nI_ltI ha hb
theorem nI_neg {a : Nat} (ha : a < 2 ^ 31) : ¬ nI a < 0 := nI_pos ha
theorem nI_sub {a b : Nat} (h : b ≤ a) : nI a - nI b = nI (a - b) := by
  have e : a = (a - b) + b := by omega
  have := nI_add (a - b) b
  rw [← e] at this
  rw [← this]
  rw [Int32.sub_eq_add_neg, Int32.add_assoc, ← Int32.sub_eq_add_neg, Int32.sub_self, Int32.add_zero]
theorem ix_in {β : Type} {i n : Nat} {f : Nat → Option β} (h : i < n) (hn : n < 2 ^ 31) : ix (nI i) n f = f i := by
  unfold ix
  rw [if_neg (nI_in h hn), nI_clamp (by omega)]
theorem sb_eq {α β : Type} (x : α) (f : α → β) : sb x f = f x := rfl
theorem b1_eq {α β : Type} (a : α) (f : α → Option β) : b1 (some a) f = f a := rfl
theorem b2_eq {α γ β : Type} (a : α) (c : γ) (f : α → γ → Option β) : b2 (some (a, c)) f = f a c := rfl
theorem ck_eq {β : Type} {c b : Nat} {f : Nat → Option β} (h : sh b = c) : ck c (some b) f = f b := by
  unfold ck; exact if_pos h
theorem zb0 {β : Type} (f : Option β) : zb 0 f = f := rfl
theorem zb1 {β : Type} (f : Option β) : zb 1 f = f := rfl
/-- the low eight bits -/
def lo8 (x : Int32) : Nat := x.toBitVec.toNat % 256
theorem lo8_lt (x : Int32) : lo8 x < 256 := Nat.mod_lt _ (by decide)
theorem and255 (x : Int32) : x &&& 255 = nI (lo8 x) := pk_and x 8 (by decide)
def nB (c : Nat) : Int32 := vp_nar .byte (nI c)
theorem nB_and {c : Nat} (h : c < 256) : nB c &&& 255 = nI c := (by decide +kernel : ∀ c, c < 256 → nB c &&& 255 = nI c) c h
theorem lo8_nI {c : Nat} (h : c < 256) : lo8 (nI c) = c := (by decide +kernel : ∀ c, c < 256 → lo8 (nI c) = c) c h
theorem nar_lo8 (x : Int32) : vp_nar .byte (i2b x) = nB (lo8 x) := by
  have e1 : ∀ y : Int32, vp_nar .byte y = y.toInt8.toInt32 := fun y => rfl
  have e2 : (i2b x).toInt8 = x.toInt8 := by
    unfold i2b; rw [Int8.toInt8_toInt32]
  have e3 : (nI (lo8 x)).toInt8 = x.toInt8 := by
    apply Int8.toBitVec_inj.mp
    rw [Int32.toBitVec_toInt8, Int32.toBitVec_toInt8]
    apply BitVec.eq_of_toNat_eq
    rw [BitVec.signExtend_eq_setWidth_of_le _ (by decide), BitVec.signExtend_eq_setWidth_of_le _ (by decide), BitVec.toNat_setWidth, BitVec.toNat_setWidth, pk_tn (by have := lo8_lt x; omega)]
    unfold lo8
    exact Nat.mod_mod _ _
  rw [e1, e2]
  unfold nB
  rw [e1, e3]
/-- the same at an address -/
def sm (σ τ : SG) (b : Nat) : Prop := ∀ k, sI τ b k = sI σ b k ∧ sL τ b k = sL σ b k ∧ sP τ b k = sP σ b k
theorem sm_refl (σ : SG) (b : Nat) : sm σ σ b := fun _ => ⟨rfl, rfl, rfl⟩
theorem sm_trans {σ τ υ : SG} {b : Nat} (h : sm σ τ b) (h' : sm τ υ b) : sm σ υ b := fun k => ⟨(h' k).1.trans (h k).1, (h' k).2.1.trans (h k).2.1, (h' k).2.2.trans (h k).2.2⟩
theorem sm_uI {σ : SG} {a k b : Nat} {v : Int32} (h : b ≠ a) : sm σ (uI σ a k v) b := fun j => ⟨by rw [sI_uI, if_neg (fun z => h z.1)], rfl, rfl⟩
theorem sm_uL {σ : SG} {a k b : Nat} {v : Int64} (h : b ≠ a) : sm σ (uL σ a k v) b := fun j => ⟨rfl, by rw [sL_uL, if_neg (fun z => h z.1)], rfl⟩
theorem sm_uP {σ : SG} {a k b : Nat} {v : Option Nat} (h : b ≠ a) : sm σ (uP σ a k v) b := fun j => ⟨rfl, rfl, by rw [sP_uP, if_neg (fun z => h z.1)]⟩
/-- a row of bytes: the object at a, its array at a + 1 -/
def RB (σ : SG) (a : Nat) (T : List Nat) (z : Int32) : Prop := sI σ a 1 = nI T.length ∧ sI σ a 2 = z ∧ T.length ≤ ln (a + 1) ∧ (∀ i c, T[i]? = some c → sI σ (a + 1) i = nB c) ∧ ∀ c ∈ T, c < 256
theorem RB.sm {σ τ : SG} {a : Nat} {T : List Nat} {z : Int32} (h : RB σ a T z) (h1 : sm σ τ a) (h2 : sm σ τ (a + 1)) : RB τ a T z :=
  ⟨(h1 1).1.trans h.1, (h1 2).1.trans h.2.1, h.2.2.1, fun i c hi => (h2 i).1.trans (h.2.2.2.1 i c hi), h.2.2.2.2⟩
theorem ln_small (a : Nat) : ln a ≤ 4000 := by
  rcases Nat.lt_or_ge a 1186 with h | h
  · exact (by decide +kernel : ∀ a, a < 1186 → ln a ≤ 4000) a h
  · have e : ln a = 0 := by
      unfold ln
      rw [if_neg (by omega), if_neg (by omega), if_neg (by omega), if_neg (by omega), if_neg (by omega), if_neg (by omega), if_neg (by omega), if_neg (by omega), List.getD_eq_getElem?_getD, List.getElem?_eq_none (by show 84 ≤ _; omega)]
      try rfl
    omega
/-- the byte at a place, -1 behind the end -/
def bA (T : List Nat) (p : Nat) : Int32 := match T[p]? with
  | some c => nI c
  | none => -1
theorem X0_size {σ : SG} {a : Nat} {T : List Nat} {z : Int32} (h : RB σ a T z) : x_X0_size a σ = some (nI T.length) := by
  unfold x_X0_size; rw [h.1]
theorem X0_at {σ : SG} {a p : Nat} {T : List Nat} {z : Int32} (h : RB σ a T z) (hp : p < 2 ^ 31) : x_X0_at a (nI p) σ = some (bA T p) := by
  have hl := ln_small (a + 1)
  obtain ⟨h1, h2, h3, h4, h5⟩ := h
  unfold x_X0_at bA
  rw [if_neg (nI_neg hp), h1]
  by_cases hq : p < T.length
  · rw [if_pos ((ltI hp (by omega)).mpr hq), if_pos ((ltI hp (by omega)).mpr (by omega)), ix_in (by omega) (by omega), List.getElem?_eq_getElem hq]
    simp only
    rw [h4 p _ (List.getElem?_eq_getElem hq), nB_and (h5 _ (List.getElem_mem hq))]
  · rw [if_neg (fun q => hq ((ltI hp (by omega)).mp q)), List.getElem?_eq_none (by omega)]
theorem X0_at_neg {σ : SG} {a : Nat} {x : Int32} (h : x < 0) : x_X0_at a x σ = some (-1) := by
  unfold x_X0_at; rw [if_pos h]
theorem X0_clear {σ : SG} {a : Nat} : ∃ τ, x_X0_clear a σ = some τ ∧ RB τ a [] 0 ∧ ∀ b, b ≠ a → sm σ τ b := by
  refine ⟨_, rfl, ⟨?_, ?_, by simp, ?_, ?_⟩, ?_⟩
  · simp [sI_uI]; try rfl
  · simp [sI_uI]
  · intro i c h; simp at h
  · intro c h; simp at h
  · intro b hb; exact sm_trans (sm_uI hb) (sm_uI hb)
theorem X0_add {σ : SG} {a : Nat} {x : Int32} {T : List Nat} {z : Int32} (h : RB σ a T z) (hr : T.length < ln (a + 1)) : ∃ τ, x_X0_add a x σ = some τ ∧ RB τ a (T ++ [lo8 x]) z ∧ ∀ b, b ≠ a → b ≠ a + 1 → sm σ τ b := by
  have hl := ln_small (a + 1)
  obtain ⟨h1, h2, h3, h4, h5⟩ := h
  refine ⟨uI (uI σ (a + 1) T.length (nB (lo8 x))) a 1 (nI (T.length + 1)), ?_, ⟨?_, ?_, ?_, ?_, ?_⟩, ?_⟩
  · unfold x_X0_add
    rw [h1, if_neg (nI_neg (by omega)), if_pos ((ltI (by omega) (by omega)).mpr hr), ix_in hr (by omega), sb_eq, sb_eq, nar_lo8, sI_uI, if_neg (by omega), h1, nI_1]
  · rw [sI_uI, if_pos ⟨rfl, rfl⟩, List.length_append]; try rfl
  · rw [sI_uI, if_neg (by omega), sI_uI, if_neg (by omega), h2]
  · rw [List.length_append, List.length_singleton]; omega
  · intro i c hi
    rw [sI_uI, if_neg (by omega), sI_uI]
    by_cases hj : i = T.length
    · subst hj
      rw [List.getElem?_append_right (Nat.le_refl _)] at hi
      simp at hi
      rw [if_pos ⟨rfl, rfl⟩, hi]
    · rw [if_neg (fun q => hj q.2)]
      rcases Nat.lt_or_ge i T.length with q | q
      · rw [List.getElem?_append_left q] at hi; exact h4 i c hi
      · rw [List.getElem?_eq_none (by rw [List.length_append, List.length_singleton]; omega)] at hi; cases hi
  · intro c hc
    rcases List.mem_append.mp hc with q | q
    · exact h5 c q
    · rw [List.mem_singleton.mp q]; exact lo8_lt x
  · intro b hb hb'; exact sm_trans (sm_uI hb') (sm_uI hb)
/-- a full row spills -/
theorem X0_addF {σ : SG} {a : Nat} {x : Int32} {T : List Nat} {z : Int32} (h : RB σ a T z) (hr : T.length = ln (a + 1)) : ∃ τ, x_X0_add a x σ = some τ ∧ RB τ a T 1 ∧ ∀ b, b ≠ a → sm σ τ b := by
  have hl := ln_small (a + 1)
  obtain ⟨h1, h2, h3, h4, h5⟩ := h
  refine ⟨uI σ a 2 1, ?_, ⟨?_, ?_, h3, ?_, h5⟩, fun b hb => sm_uI hb⟩
  · unfold x_X0_add
    rw [h1, if_neg (nI_neg (by omega)), if_neg (fun q => by have := (ltI (by omega) (by omega)).mp q; omega)]; try rfl
  · rw [sI_uI, if_neg (by omega), h1]
  · rw [sI_uI, if_pos ⟨rfl, rfl⟩]
  · intro i c hi; rw [sI_uI, if_neg (by omega)]; exact h4 i c hi
theorem sI_s (σ : SG) (a k : Nat) (v : Int32) : sI (uI σ a k v) a k = v := if_pos ⟨rfl, rfl⟩
theorem sL_s (σ : SG) (a k : Nat) (v : Int64) : sL (uL σ a k v) a k = v := if_pos ⟨rfl, rfl⟩
theorem sP_s (σ : SG) (a k : Nat) (v : Option Nat) : sP (uP σ a k v) a k = v := if_pos ⟨rfl, rfl⟩
theorem sI_o {σ : SG} {a k b j : Nat} {v : Int32} (h : b ≠ a ∨ j ≠ k) : sI (uI σ a k v) b j = sI σ b j := if_neg (fun q => h.elim (fun z => z q.1) (fun z => z q.2))
theorem sL_o {σ : SG} {a k b j : Nat} {v : Int64} (h : b ≠ a ∨ j ≠ k) : sL (uL σ a k v) b j = sL σ b j := if_neg (fun q => h.elim (fun z => z q.1) (fun z => z q.2))
theorem sP_o {σ : SG} {a k b j : Nat} {v : Option Nat} (h : b ≠ a ∨ j ≠ k) : sP (uP σ a k v) b j = sP σ b j := if_neg (fun q => h.elim (fun z => z q.1) (fun z => z q.2))
theorem l700 : (700 : Int32) = nI 700 := rfl
theorem l8 : (8 : Int32) = nI 8 := rfl
theorem l4000 : (4000 : Int32) = nI 4000 := rfl
/-! ===== rows of bytes: writing ===== -/
/-- one more byte on a row of room m; what comes beyond it is left out and remembered -/
def wr1 (m : Nat) (w : List Nat × Int32) (c : Nat) : List Nat × Int32 := if w.1.length < m then (w.1 ++ [c], w.2) else (w.1, 1)
def wrL (m : Nat) (w : List Nat × Int32) (L : List Nat) : List Nat × Int32 := L.foldl (wr1 m) w
theorem wrL_nil (m : Nat) (w : List Nat × Int32) : wrL m w [] = w := rfl
theorem wrL_cons (m : Nat) (w : List Nat × Int32) (c : Nat) (L : List Nat) : wrL m w (c :: L) = wrL m (wr1 m w c) L := rfl
theorem wrL_app (m : Nat) (w : List Nat × Int32) (L K : List Nat) : wrL m w (L ++ K) = wrL m (wrL m w L) K := by unfold wrL; rw [List.foldl_append]
theorem wrL_fit {m : Nat} : ∀ (L : List Nat) (w : List Nat × Int32), w.1.length + L.length ≤ m → wrL m w L = (w.1 ++ L, w.2) := by
  intro L
  induction L with
  | nil => intro w _; rw [wrL_nil, List.append_nil]
  | cons c L ih =>
    intro w h
    rw [List.length_cons] at h
    rw [wrL_cons]
    have e : wr1 m w c = (w.1 ++ [c], w.2) := by unfold wr1; rw [if_pos (by omega)]
    rw [e, ih _ (by simp; omega)]
    simp
def RW (σ : SG) (a : Nat) (w : List Nat × Int32) : Prop := RB σ a w.1 w.2
/-- nothing but the row at a is touched -/
def fb (a : Nat) (σ τ : SG) : Prop := ∀ b, b ≠ a → b ≠ a + 1 → sm σ τ b
theorem fb_refl (a : Nat) (σ : SG) : fb a σ σ := fun b _ _ => sm_refl σ b
theorem fb_trans {a : Nat} {σ τ υ : SG} (h : fb a σ τ) (h' : fb a τ υ) : fb a σ υ := fun b h1 h2 => sm_trans (h b h1 h2) (h' b h1 h2)
def apt (a b : Nat) : Prop := a ≠ b ∧ a ≠ b + 1 ∧ a + 1 ≠ b
theorem RB.fb {σ τ : SG} {a b : Nat} {T : List Nat} {z : Int32} (h : RB σ b T z) (hf : fb a σ τ) (hp : apt a b) : RB τ b T z := h.sm (hf b (Ne.symm hp.1) (Ne.symm hp.2.2)) (hf (b + 1) (Ne.symm hp.2.1) (fun q => hp.1 (by omega)))
theorem X0_addW {σ : SG} {a : Nat} {x : Int32} {w : List Nat × Int32} (h : RW σ a w) : ∃ τ, x_X0_add a x σ = some τ ∧ RW τ a (wr1 (ln (a + 1)) w (lo8 x)) ∧ fb a σ τ := by
  unfold RW wr1 at *
  by_cases hr : w.1.length < ln (a + 1)
  · rw [if_pos hr]; exact X0_add h hr
  · rw [if_neg hr]
    obtain ⟨τ, h1, h2, h3⟩ := X0_addF (x := x) h (Nat.le_antisymm h.2.2.1 (Nat.le_of_not_lt hr))
    exact ⟨τ, h1, h2, fun b hb _ => h3 b hb⟩
theorem X0_addAll_L {a b : Nat} {S : List Nat} {zs : Int32} {U to : Nat} (hb : sh b = 0) (hp : apt a b) (hto : to ≤ S.length) (hS : S.length ≤ 4000) : ∀ (j k U1 : Nat) (σ : SG) (w : List Nat × Int32), k + j = to → j < U1 → RW σ a w → RB σ b S zs →
    ∃ τ, x_X0_addAll_L3 U a (some b) (nI to) U1 (nI k) σ = some τ ∧ RW τ a (wrL (ln (a + 1)) w ((S.drop k).take j)) ∧ fb a σ τ := by
  intro j
  induction j with
  | zero =>
    intro k U1 σ w hk hU hw hR
    obtain ⟨V, rfl⟩ : ∃ V, U1 = V + 1 := ⟨U1 - 1, by omega⟩
    refine ⟨σ, ?_, by simpa [wrL_nil] using hw, fb_refl a σ⟩
    rw [x_X0_addAll_L3, if_neg (fun q => by have := (ltI (by omega) (by omega)).mp q; omega)]
  | succ j ih =>
    intro k U1 σ w hk hU hw hR
    obtain ⟨V, rfl⟩ : ∃ V, U1 = V + 1 := ⟨U1 - 1, by omega⟩
    have hkl : k < S.length := by omega
    obtain ⟨τ, h1, h2, h3⟩ := X0_addW (x := bA S k) hw
    have hc : S[k] < 256 := hR.2.2.2.2 _ (List.getElem_mem hkl)
    have e : lo8 (bA S k) = S[k] := by unfold bA; rw [List.getElem?_eq_getElem hkl]; exact lo8_nI hc
    rw [e] at h2
    obtain ⟨υ, g1, g2, g3⟩ := ih (k + 1) V τ _ (by omega) (by omega) h2 (hR.fb h3 hp)
    refine ⟨υ, ?_, ?_, fb_trans h3 g3⟩
    · rw [x_X0_addAll_L3, if_pos ((ltI (by omega) (by omega)).mpr (by omega)), ck_eq hb, X0_at hR (by omega), b1_eq, h1, b1_eq, nI_1]
      exact g1
    · rw [List.drop_eq_getElem_cons hkl, List.take_succ_cons, wrL_cons]; exact g2
theorem X0_addAll {a b : Nat} {S : List Nat} {zs : Int32} {U k to : Nat} {σ : SG} {w : List Nat × Int32} (hb : sh b = 0) (hp : apt a b) (hk : k ≤ to) (hto : to ≤ S.length) (hU : 4000 < U) (hw : RW σ a w) (hR : RB σ b S zs) :
    ∃ τ, x_X0_addAll U a (some b) (nI k) (nI to) σ = some τ ∧ RW τ a (wrL (ln (a + 1)) w ((S.drop k).take (to - k))) ∧ fb a σ τ := by
  have hS : S.length ≤ 4000 := Nat.le_trans hR.2.2.1 (ln_small _)
  unfold x_X0_addAll
  exact X0_addAll_L hb hp hto hS (to - k) k U σ w (by omega) (by omega) hw hR
/-! ===== feed, out, turn of the class ===== -/
/-- the bytes that a feed brings -/
def fdB (b : Int64) : Nat → List Nat
  | 0 => []
  | n + 1 => lo8 (Int64.toInt32 (lush b (8 * nI n))) :: fdB b n
theorem fdB_len (b : Int64) : ∀ n, (fdB b n).length = n
  | 0 => rfl
  | n + 1 => by rw [fdB, List.length_cons, fdB_len b n]
theorem lo8_lit8 (n : Nat) : (8 : Int32) * nI n = 8 * nI n := rfl
theorem X11_feed_L {U : Nat} {b : Int64} {k : SG → Option (mm_R × SG)} : ∀ (j U1 : Nat) (σ : SG) (w : List Nat × Int32), j < 9 → j < U1 → RW σ 1 w →
    ∃ τ, x_X11_feed_L51 U 0 k b U1 (nI j - 1) σ = k τ ∧ RW τ 1 (wrL 700 w (fdB b j)) ∧ fb 1 σ τ := by
  intro j
  induction j with
  | zero =>
    intro U1 σ w hj hU hw
    obtain ⟨V, rfl⟩ : ∃ V, U1 = V + 1 := ⟨U1 - 1, by omega⟩
    refine ⟨σ, ?_, hw, fb_refl 1 σ⟩
    rw [x_X11_feed_L51, if_pos (by decide)]
  | succ j ih =>
    intro U1 σ w hj hU hw
    obtain ⟨V, rfl⟩ : ∃ V, U1 = V + 1 := ⟨U1 - 1, by omega⟩
    obtain ⟨τ, h1, h2, h3⟩ := X0_addW (x := Int64.toInt32 (lush b (8 * nI j))) hw
    obtain ⟨υ, g1, g2, g3⟩ := ih V τ _ (by omega) (by omega) h2
    refine ⟨υ, ?_, g2, fb_trans h3 g3⟩
    rw [nI_pred, x_X11_feed_L51, if_neg (nI_neg (by omega)), h1, b1_eq]
    exact g1
/-! ===== tape and OUT of both sides; feed, out, turn ===== -/
/-- a row of ints of the reference that holds bytes -/
def RI (σ : SG) (r : Nat) (T : List Nat) : Prop := ∀ i c, T[i]? = some c → sI σ r i = nI c
theorem RI.sm {σ τ : SG} {r : Nat} {T : List Nat} (h : RI σ r T) (h1 : sm σ τ r) : RI τ r T := fun i c hi => (h1 i).1.trans (h i c hi)
theorem RI_nil (σ : SG) (r : Nat) : RI σ r [] := fun i c h => by simp at h
theorem RI_snoc {σ : SG} {r : Nat} {T : List Nat} {c : Nat} (h : RI σ r T) : RI (uI σ r T.length (nI c)) r (T ++ [c]) := by
  intro i x hi
  rw [sI_uI]
  by_cases hj : i = T.length
  · subst hj
    rw [List.getElem?_append_right (Nat.le_refl _)] at hi
    simp at hi
    rw [if_pos ⟨rfl, rfl⟩, hi]
  · rw [if_neg (fun q => hj q.2)]
    rcases Nat.lt_or_ge i T.length with q | q
    · rw [List.getElem?_append_left q] at hi; exact h i x hi
    · rw [List.getElem?_eq_none (by rw [List.length_append, List.length_singleton]; omega)] at hi; cases hi
/-- the reference's tape -/
def RTr (σ : SG) (T : List Nat) : Prop := sI σ 1101 1 = nI T.length ∧ RI σ 1102 T
/-- the reference's OUT, and whether it ran over -/
def ROr (σ : SG) (w : List Nat × Int32) : Prop := sI σ 1101 3 = nI w.1.length ∧ sI σ 1101 4 = w.2 ∧ RI σ 1103 w.1 ∧ w.1.length ≤ 4000
/-- the reference's object alone, at some places -/
def fo (K : List Nat) (σ τ : SG) : Prop := (∀ k, k ∉ K → sI τ 1101 k = sI σ 1101 k) ∧ (∀ k, sL τ 1101 k = sL σ 1101 k) ∧ ∀ k, sP τ 1101 k = sP σ 1101 k
theorem fo_refl (K : List Nat) (σ : SG) : fo K σ σ := ⟨fun _ _ => rfl, fun _ => rfl, fun _ => rfl⟩
theorem fo_trans {K : List Nat} {σ τ υ : SG} (h : fo K σ τ) (h' : fo K τ υ) : fo K σ υ := ⟨fun k hk => (h'.1 k hk).trans (h.1 k hk), fun k => (h'.2.1 k).trans (h.2.1 k), fun k => (h'.2.2 k).trans (h.2.2 k)⟩
theorem fo_mono {K J : List Nat} {σ τ : SG} (h : fo K σ τ) (hs : ∀ k ∈ K, k ∈ J) : fo J σ τ := ⟨fun k hk => h.1 k (fun q => hk (hs k q)), h.2⟩
theorem fo_uI {K : List Nat} {σ : SG} {k : Nat} {v : Int32} (hk : k ∈ K) : fo K σ (uI σ 1101 k v) := ⟨fun j hj => sI_o (Or.inr (fun q => hj (q ▸ hk))), fun _ => rfl, fun _ => rfl⟩
theorem fo_row {K : List Nat} {σ : SG} {a k : Nat} {v : Int32} (ha : a ≠ 1101) : fo K σ (uI σ a k v) := ⟨fun j _ => sI_o (Or.inl (Ne.symm ha)), fun _ => rfl, fun _ => rfl⟩
/-- what a write to OUT touches -/
def fw (σ τ : SG) : Prop := (∀ b, b ≠ 1101 → b ≠ 1103 → sm σ τ b) ∧ fo [3, 4] σ τ
theorem fw_refl (σ : SG) : fw σ σ := ⟨fun b _ _ => sm_refl σ b, fo_refl _ σ⟩
theorem fw_trans {σ τ υ : SG} (h : fw σ τ) (h' : fw τ υ) : fw σ υ := ⟨fun b h1 h2 => sm_trans (h.1 b h1 h2) (h'.1 b h1 h2), fo_trans h.2 h'.2⟩
theorem X12_put {σ : SG} {w : List Nat × Int32} {c : Nat} (h : ROr σ w) : ∃ τ, x_X12_put 1101 (nI c) σ = some τ ∧ ROr τ (wr1 4000 w c) ∧ fw σ τ := by
  obtain ⟨h1, h2, h3, h4⟩ := h
  unfold x_X12_put wr1
  by_cases hr : w.1.length < 4000
  · rw [if_pos hr, h1, if_neg (fun q => by have : nI w.1.length = nI 4000 := q; rw [nI_eq (by omega) (by omega)] at this; omega), ix_in hr (by decide), sb_eq, sb_eq]
    refine ⟨_, rfl, ⟨?_, ?_, ?_, ?_⟩, ?_, ?_⟩
    · rw [sI_uI, if_pos ⟨rfl, rfl⟩, sI_uI, if_neg (by omega), h1, nI_1, List.length_append]; try rfl
    · rw [sI_uI, if_neg (by omega), sI_uI, if_neg (by omega), h2]
    · exact (RI_snoc h3).sm (sm_uI (by decide))
    · rw [List.length_append, List.length_singleton]; omega
    · intro b hb hb'; exact sm_trans (sm_uI hb') (sm_uI hb)
    · exact fo_trans (fo_row (by decide)) (fo_uI (by decide))
  · have e : w.1.length = 4000 := by omega
    rw [if_neg hr, h1, if_pos (by rw [e]; rfl), sb_eq]
    refine ⟨_, rfl, ⟨?_, ?_, ?_, h4⟩, ?_, ?_⟩
    · rw [sI_uI, if_neg (by omega), h1]
    · rw [sI_uI, if_pos ⟨rfl, rfl⟩]
    · exact h3.sm (sm_uI (by decide))
    · intro b hb _; exact sm_uI hb
    · exact fo_uI (by decide)
theorem X12_emptyOut {σ : SG} : ∃ τ, x_X12_emptyOut 1101 σ = some τ ∧ ROr τ ([], 0) ∧ fw σ τ := by
  refine ⟨_, rfl, ⟨?_, ?_, RI_nil _ _, by simp⟩, ?_, ?_⟩
  · rw [sI_uI, if_neg (by omega), sI_uI, if_pos ⟨rfl, rfl⟩]; try rfl
  · rw [sI_uI, if_pos ⟨rfl, rfl⟩]
  · intro b hb _; exact sm_trans (sm_uI hb) (sm_uI hb)
  · exact fo_trans (fo_uI (by decide)) (fo_uI (by decide))
/-- what a byte at a place of a tape says to the reference -/
theorem X12_byteAt {σ : SG} {T : List Nat} {p : Nat} (h : sI σ 1101 73 = nI T.length) (hT : RI σ 1102 T) (hl : T.length ≤ 700) (hp : p < 2 ^ 31) : x_X12_byteAt 1101 (nI p) σ = some (bA T p) := by
  unfold x_X12_byteAt bA
  rw [h]
  by_cases hq : p < T.length
  · rw [if_pos ((ltI hp (by omega)).mpr hq), ix_in (by omega) (by decide), List.getElem?_eq_getElem hq]
    simp only
    rw [hT p _ (List.getElem?_eq_getElem hq)]
  · rw [if_neg (fun q => hq ((ltI hp (by omega)).mp q)), List.getElem?_eq_none (by omega)]
/-! feed -/
def isN (n : Int32) : Prop := ¬ n < 1 ∧ ¬ 8 < n
theorem feed_n {n : Int32} (h1 : ¬ n < 1) (h8 : ¬ 8 < n) : ∃ k, n = nI k ∧ 1 ≤ k ∧ k ≤ 8 := by
  obtain ⟨k, hk, rfl⟩ := nI_of (x := n) (fun q => h1 (Int32.lt_trans q (by decide)))
  refine ⟨k, rfl, ?_, ?_⟩
  · rcases Nat.lt_or_ge k 1 with q | q
    · exact absurd ((ltI hk (by decide)).mpr q) h1
    · exact q
  · rcases Nat.lt_or_ge 8 k with q | q
    · exact absurd ((ltI (by decide) hk).mpr q) h8
    · exact q
def IAE : String := "java/lang/IllegalArgumentException"
def ISE : String := "java/lang/IllegalStateException"
def UOE : String := "java/lang/UnsupportedOperationException"
def IOB : String := "java/lang/IndexOutOfBoundsException"
/-- what feed answers, and the tape then -/
noncomputable def fdS (T : List Nat) (b : Int64) (n : Int32) : mm_R × List Nat := if n < 1 ∨ 8 < n then (.inr IAE, T) else if 700 < T.length + n.toNatClampNeg then (.inr ISE, T) else (.inl (some (.int (nI (T.length + n.toNatClampNeg)))), T ++ fdB b n.toNatClampNeg)
theorem X11_feed {U : Nat} {σ : SG} {T : List Nat} {b : Int64} {n : Int32} (hU : 4000 < U) (h : RB σ 1 T 0) : ∃ τ, x_X11_feed U 0 b n σ = some ((fdS T b n).1, τ) ∧ RB τ 1 (fdS T b n).2 0 ∧ fb 1 σ τ := by
  have hl : T.length ≤ 700 := h.2.2.1
  unfold x_X11_feed fdS
  by_cases h1 : n < 1
  · rw [if_pos h1, if_pos (Or.inl h1)]; exact ⟨σ, rfl, h, fb_refl 1 σ⟩
  rw [if_neg h1]
  by_cases h8 : 8 < n
  · rw [if_pos h8, if_pos (Or.inr h8)]; exact ⟨σ, rfl, h, fb_refl 1 σ⟩
  rw [if_neg h8, if_neg (fun q => q.elim h1 h8), X0_size h, b1_eq]
  obtain ⟨k, rfl, hk1, hk8⟩ := feed_n h1 h8
  rw [nI_add, nI_clamp (by omega)]
  rw [l700]
  by_cases h7 : 700 < T.length + k
  · rw [if_pos ((ltI (a := 700) (by decide) (by omega)).mpr h7), if_pos h7]; exact ⟨σ, rfl, h, fb_refl 1 σ⟩
  · rw [if_neg (fun q => h7 ((ltI (a := 700) (by decide) (by omega)).mp q)), if_neg h7]
    obtain ⟨τ, g1, g2, g3⟩ := X11_feed_L (U := U) (b := b) (k := fun σ9 => b1 (x_X0_size 1 σ9) fun v11 => some (.inl (some (.int v11)), σ9)) k U σ (T, 0) (by omega) (by omega) h
    rw [wrL_fit _ _ (by rw [fdB_len]; show T.length + k ≤ 700; omega)] at g2
    have g2' : RB τ 1 (T ++ fdB b k) 0 := g2
    refine ⟨τ, ?_, g2', g3⟩
    show x_X11_feed_L51 U 0 _ b U (nI k - 1) σ = _
    rw [g1, X0_size g2', b1_eq, List.length_append, fdB_len]
def fdC (r : mm_R) : Int32 := match r with
  | .inl _ => 0
  | .inr E => if E = IAE then 1 else 2
/-- what a call that only reads and writes the tape touches in the reference -/
def ft (σ τ : SG) : Prop := (∀ b, b ≠ 1101 → b ≠ 1102 → sm σ τ b) ∧ fo [1, 5] σ τ
theorem ft_trans {σ τ υ : SG} (h : ft σ τ) (h' : ft τ υ) : ft σ υ := ⟨fun b h1 h2 => sm_trans (h.1 b h1 h2) (h'.1 b h1 h2), fo_trans h.2 h'.2⟩
theorem X12_feed_L {U : Nat} {b : Int64} : ∀ (j U1 : Nat) (σ : SG) (T : List Nat), j < U1 → T.length + j ≤ 700 → RTr σ T →
    ∃ τ, x_X12_feed_L50 U 1101 b U1 (nI j - 1) σ = some (nI (T.length + j), τ) ∧ RTr τ (T ++ fdB b j) ∧ ft σ τ ∧ sI τ 1101 5 = sI σ 1101 5 := by
  intro j
  induction j with
  | zero =>
    intro U1 σ T hU hl h
    obtain ⟨V, rfl⟩ : ∃ V, U1 = V + 1 := ⟨U1 - 1, by omega⟩
    refine ⟨σ, ?_, by simpa [fdB] using h, ⟨fun b _ _ => sm_refl σ b, fo_refl _ σ⟩, rfl⟩
    rw [x_X12_feed_L50, if_pos (by decide), h.1]; try rfl
  | succ j ih =>
    intro U1 σ T hU hl h
    obtain ⟨V, rfl⟩ : ∃ V, U1 = V + 1 := ⟨U1 - 1, by omega⟩
    let c := lo8 (Int64.toInt32 (lush b (8 * nI j)))
    have hT : RTr (uI (uI σ 1102 T.length (nI c)) 1101 1 (nI (T.length + 1))) (T ++ [c]) := by
      refine ⟨?_, (RI_snoc h.2).sm (sm_uI (by decide))⟩
      rw [sI_uI, if_pos ⟨rfl, rfl⟩, List.length_append]; try rfl
    obtain ⟨υ, g1, g2, g3, g4⟩ := ih V _ (T ++ [c]) (by omega) (by rw [List.length_append, List.length_singleton]; omega) hT
    refine ⟨υ, ?_, ?_, ft_trans ⟨fun b h1 h2 => sm_trans (sm_uI h2) (sm_uI h1), fo_trans (fo_row (by decide)) (fo_uI (by decide))⟩ g3, ?_⟩
    · rw [nI_pred, x_X12_feed_L50, if_neg (nI_neg (by omega)), h.1, ix_in (by omega) (by decide), sb_eq, and255, sb_eq, sI_uI, if_neg (by omega), h.1, nI_1, g1, List.length_append, List.length_singleton]
      congr 2; congr 1; omega
    · rw [fdB]; simpa [c] using g2
    · rw [g4, sI_uI, if_neg (by omega), sI_uI, if_neg (by omega)]
theorem X12_feed {U : Nat} {σ : SG} {T : List Nat} {b : Int64} {n : Int32} (hU : 4000 < U) (hl : T.length ≤ 700) (h : RTr σ T) : ∃ v τ, x_X12_feed U 1101 b n σ = some (v, τ) ∧ RTr τ (fdS T b n).2 ∧ ft σ τ ∧ sI τ 1101 5 = fdC (fdS T b n).1 ∧ ((fdS T b n).1 = .inl (some (.int v)) ∨ ∃ E, (fdS T b n).1 = .inr E) := by
  have h5 : ∀ v, RTr (uI σ 1101 5 v) T := fun v => ⟨by rw [sI_uI, if_neg (by omega)]; exact h.1, h.2.sm (sm_uI (by decide))⟩
  have f5 : ∀ v, ft σ (uI σ 1101 5 v) := fun v => ⟨fun b h1 _ => sm_uI h1, fo_uI (by decide)⟩
  unfold x_X12_feed fdS
  by_cases h1 : n < 1
  · rw [if_pos h1, if_pos (Or.inl h1)]
    refine ⟨0, _, ?_, h5 1, f5 1, ?_, Or.inr ⟨_, rfl⟩⟩
    · unfold x_X12_feed_12 x_X12_feed_33; rw [sb_eq, sI_s, if_neg (by decide)]
    · rw [sI_uI, if_pos ⟨rfl, rfl⟩]; try rfl
  rw [if_neg h1]
  by_cases h8 : 8 < n
  · rw [if_pos h8, if_pos (Or.inr h8)]
    refine ⟨0, _, ?_, h5 1, f5 1, ?_, Or.inr ⟨_, rfl⟩⟩
    · unfold x_X12_feed_12 x_X12_feed_33; rw [sb_eq, sI_s, if_neg (by decide)]
    · rw [sI_uI, if_pos ⟨rfl, rfl⟩]; try rfl
  rw [if_neg h8, if_neg (show ¬ (n < 1 ∨ 8 < n) from fun q => q.elim h1 h8), h.1]
  obtain ⟨k, rfl, hk1, hk8⟩ := feed_n h1 h8
  rw [nI_add, nI_clamp (by omega)]
  rw [l700]
  by_cases h7 : 700 < T.length + k
  · rw [if_pos ((ltI (a := 700) (by decide) (by omega)).mpr h7), if_pos h7]
    refine ⟨0, _, ?_, h5 2, f5 2, ?_, Or.inr ⟨_, rfl⟩⟩
    · unfold x_X12_feed_33; rw [sb_eq, sI_s, if_neg (by decide)]
    · rw [sI_uI, if_pos ⟨rfl, rfl⟩]; try rfl
  · rw [if_neg (fun q => h7 ((ltI (a := 700) (by decide) (by omega)).mp q)), if_neg h7]
    obtain ⟨υ, g1, g2, g3, g4⟩ := X12_feed_L (U := U) (b := b) k U _ T (by omega) (by omega) (h5 0)
    refine ⟨nI (T.length + k), υ, ?_, g2, ft_trans (f5 0) g3, ?_, Or.inl rfl⟩
    · unfold x_X12_feed_33; rw [sb_eq, sI_s, if_pos rfl, g1]
    · rw [g4, sI_uI, if_pos ⟨rfl, rfl⟩]; try rfl
/-! ===== out and turn ===== -/
def bZ (O : List Nat) (k : Nat) : Int32 := match O[k]? with
  | some c => nI c
  | none => 0
/-- up to n bytes of OUT from place k on, behind v -/
def outV (O : List Nat) : Nat → Nat → Int64 → Int64
  | 0, _, v => v
  | n + 1, k, v => outV O n (k + 1) (lshl9 v 8 ||| Int32.toInt64 (bZ O k))
theorem bA_max (O : List Nat) (k : Nat) (h : ∀ c ∈ O, c < 256) : (if bA O k < 0 then 0 else bA O k) = bZ O k := by
  unfold bA bZ
  cases hk : O[k]? with
  | none => simp only; rw [if_pos (by decide)]
  | some c =>
    simp only
    rw [if_neg (nI_neg (by have := h c (List.mem_of_getElem? hk); omega))]
theorem X11_out_L {U k : Nat} {σ : SG} {O : List Nat} {z : Int32} (hO : RB σ 3 O z) (hk : k < 4000) : ∀ (j i U1 : Nat) (v : Int64), i + j = 8 → j < U1 →
    x_X11_out_L30 U 0 (nI k) σ U1 v (nI (k + i)) = some (.inl (some (.long (outV O j (k + i) v))), σ) := by
  intro j
  induction j with
  | zero =>
    intro i U1 v hi hU
    obtain ⟨V, rfl⟩ : ∃ V, U1 = V + 1 := ⟨U1 - 1, by omega⟩
    rw [x_X11_out_L30, l8, nI_add, if_neg (fun q => by have := (ltI (by omega) (by omega)).mp q; omega)]; try rfl
  | succ j ih =>
    intro i U1 v hi hU
    obtain ⟨V, rfl⟩ : ∃ V, U1 = V + 1 := ⟨U1 - 1, by omega⟩
    rw [x_X11_out_L30]
    have e : nI k + 8 = nI (k + 8) := nI_add k 8
    rw [e, if_pos ((ltI (by omega) (by omega)).mpr (by omega)), X0_at hO (by omega), b1_eq, bA_max O _ hO.2.2.2.2, nI_1, Nat.add_assoc k i 1, ih (i + 1) V _ (by omega) (by omega)]
    try rfl
noncomputable def otS (O : List Nat) (k : Int32) : mm_R := if k < 0 then .inr IOB else if k < nI O.length then .inl (some (.long (outV O 8 k.toNatClampNeg 0))) else .inr IOB
theorem X11_out {U : Nat} {σ : SG} {O : List Nat} {z k : Int32} (hU : 4000 < U) (h : RB σ 3 O z) : x_X11_out U 0 k σ = some (otS O k, σ) := by
  have hl : O.length ≤ 4000 := h.2.2.1
  unfold x_X11_out otS
  by_cases h0 : k < 0
  · rw [if_pos h0, if_pos h0]; try rfl
  rw [if_neg h0, if_neg h0, X0_size h, b1_eq]
  by_cases h1 : k < nI O.length
  · rw [if_pos h1, if_pos h1]
    obtain ⟨j, hj, rfl⟩ := nI_of h0
    have hjl := (ltI hj (by omega)).mp h1
    rw [nI_clamp hj]
    exact X11_out_L h (by omega) 8 0 U 0 rfl (by omega)
  · rw [if_neg h1, if_neg h1]; try rfl
theorem X12_out_L {U k : Nat} {σ : SG} {w : List Nat × Int32} (hO : ROr σ w) (h5 : sI σ 1101 5 = 0) (hk : k < 4000) : ∀ (j i U1 : Nat) (v : Int64), i + j = 8 → j < U1 →
    x_X12_out_L26 U 1101 (nI k) σ U1 v (nI i) = some (outV w.1 j (k + i) v, σ) := by
  obtain ⟨h1, h2, h3, h4⟩ := hO
  intro j
  induction j with
  | zero =>
    intro i U1 v hi hU
    obtain ⟨V, rfl⟩ : ∃ V, U1 = V + 1 := ⟨U1 - 1, by omega⟩
    rw [x_X12_out_L26, l8, if_neg (fun q => by have := (ltI (by omega) (by omega)).mp q; omega)]; try rfl
  | succ j ih =>
    intro i U1 v hi hU
    obtain ⟨V, rfl⟩ : ∃ V, U1 = V + 1 := ⟨U1 - 1, by omega⟩
    have e8 : nI i < 8 := (ltI (b := 8) (by omega) (by decide)).mpr (by omega)
    rw [x_X12_out_L26, if_pos e8, h5, if_pos rfl, nI_add, h1]
    have step : ∀ x, x = bZ w.1 (k + i) → x_X12_out_68 U 1101 (x_X12_out_L26 U 1101 (nI k) σ V) (nI k) (nI i) x (lshl9 v 8) σ = some (outV w.1 (j + 1) (k + i) v, σ) := by
      intro x hx
      subst hx
      unfold x_X12_out_68
      rw [nI_1, ih (i + 1) V _ (by omega) (by omega)]; try rfl
    by_cases hq : k + i < w.1.length
    · rw [if_pos ((ltI (by omega) (by omega)).mpr hq), ix_in (by omega) (by decide)]
      exact step _ (by unfold bZ; rw [List.getElem?_eq_getElem hq]; exact h3 _ _ (List.getElem?_eq_getElem hq))
    · rw [if_neg (fun q => hq ((ltI (by omega) (by omega)).mp q))]
      exact step _ (by unfold bZ; rw [List.getElem?_eq_none (by omega)])
/-- only the flag of throwing is touched -/
def f5 (σ τ : SG) : Prop := (∀ b, b ≠ 1101 → sm σ τ b) ∧ fo [5] σ τ
theorem f5_u (σ : SG) (v : Int32) : f5 σ (uI σ 1101 5 v) := ⟨fun b h1 => sm_uI h1, fo_uI (by decide)⟩
theorem ROr.f5 {σ τ : SG} {w : List Nat × Int32} (h : ROr σ w) (hf : f5 σ τ) : ROr τ w := ⟨(hf.2.1 3 (by decide)).trans h.1, (hf.2.1 4 (by decide)).trans h.2.1, h.2.2.1.sm (hf.1 _ (by decide)), h.2.2.2⟩
theorem RTr.f5 {σ τ : SG} {T : List Nat} (h : RTr σ T) (hf : f5 σ τ) : RTr τ T := ⟨(hf.2.1 1 (by decide)).trans h.1, h.2.sm (hf.1 _ (by decide))⟩
def otC (r : mm_R) : Int32 := match r with
  | .inl _ => 0
  | .inr _ => 1
theorem X12_out {U : Nat} {σ : SG} {w : List Nat × Int32} {k : Int32} (hU : 4000 < U) (h : ROr σ w) : ∃ v τ, x_X12_out U 1101 k σ = some (v, τ) ∧ f5 σ τ ∧ sI τ 1101 5 = otC (otS w.1 k) ∧ (otS w.1 k = .inl (some (.long v)) ∨ ∃ E, otS w.1 k = .inr E) := by
  have hl : w.1.length ≤ 4000 := h.2.2.2
  have bad : ∃ v τ, x_X12_out_13 U 1101 k σ = some (v, τ) ∧ f5 σ τ ∧ sI τ 1101 5 = 1 := by
    refine ⟨0, uI σ 1101 5 1, ?_, f5_u σ 1, sI_s _ _ _ _⟩
    unfold x_X12_out_13 x_X12_out_18
    obtain ⟨V, rfl⟩ : ∃ V, U = V + 1 := ⟨U - 1, by omega⟩
    rw [sb_eq, x_X12_out_L26, if_pos (by decide), sI_s, if_neg (by decide)]
  unfold x_X12_out otS
  by_cases h0 : k < 0
  · rw [if_pos h0]
    simp only [if_pos h0]
    obtain ⟨v, τ, g1, g2, g3⟩ := bad
    exact ⟨v, τ, g1, g2, g3, Or.inr ⟨_, rfl⟩⟩
  rw [if_neg h0, h.1]
  simp only [if_neg h0]
  by_cases h1 : k < nI w.1.length
  · rw [if_pos h1]
    simp only [if_pos h1]
    obtain ⟨j, hj, rfl⟩ := nI_of h0
    have hjl := (ltI hj (by omega)).mp h1
    refine ⟨_, uI σ 1101 5 0, ?_, f5_u σ 0, sI_s _ _ _ _, Or.inl rfl⟩
    unfold x_X12_out_18
    rw [sb_eq, nI_clamp hj]
    exact X12_out_L (h.f5 (f5_u σ 0)) (sI_s _ _ _ _) (by omega) 8 0 U 0 rfl (by omega)
  · rw [if_neg h1]
    simp only [if_neg h1]
    obtain ⟨v, τ, g1, g2, g3⟩ := bad
    exact ⟨v, τ, g1, g2, g3, Or.inr ⟨_, rfl⟩⟩
/-! turn -/
noncomputable def tnS (T O : List Nat) : mm_R × List Nat := if 700 < O.length then (.inr ISE, T) else (.inl (some (.int (nI O.length))), O)
theorem X11_turn {U : Nat} {σ : SG} {T O : List Nat} {z : Int32} (hU : 4000 < U) (hT : RB σ 1 T 0) (hO : RB σ 3 O z) : ∃ τ, x_X11_turn U 0 σ = some ((tnS T O).1, τ) ∧ RB τ 1 (tnS T O).2 0 ∧ fb 1 σ τ := by
  have hl : O.length ≤ 4000 := hO.2.2.1
  unfold x_X11_turn tnS
  rw [X0_size hO, b1_eq, l700]
  by_cases h7 : 700 < O.length
  · rw [if_pos ((ltI (by decide) (by omega)).mpr h7), if_pos h7]; exact ⟨σ, rfl, hT, fb_refl 1 σ⟩
  · rw [if_neg (fun q => h7 ((ltI (by decide) (by omega)).mp q)), if_neg h7]
    obtain ⟨τ, g1, g2, g3⟩ := X0_clear (σ := σ) (a := 1)
    have hf : fb 1 σ τ := fun b hb _ => g3 b hb
    have hp : apt 1 3 := ⟨by decide, by decide, by decide⟩
    have hO' := hO.fb hf hp
    obtain ⟨υ, e1, e2, e3⟩ := X0_addAll (U := U) (k := 0) (to := O.length) (w := ([], 0)) (show sh 3 = 0 from rfl) hp (Nat.zero_le _) (Nat.le_refl _) hU g2 hO'
    rw [Nat.sub_zero, List.drop_zero, List.take_length, wrL_fit _ _ (by show 0 + O.length ≤ 700; omega)] at e2
    have e2' : RB υ 1 O 0 := e2
    refine ⟨υ, ?_, e2', fb_trans hf e3⟩
    rw [g1, b1_eq, X0_size hO', b1_eq]
    have e1' : x_X0_addAll U 1 (some 3) 0 (nI O.length) τ = some υ := e1
    rw [e1', b1_eq, X0_size e2', b1_eq]
theorem X12_turn_L {U : Nat} {k : SG → Option (Int32 × SG)} {O : List Nat} {z : Int32} (hl : O.length ≤ 700) : ∀ (j i U1 : Nat) (σ : SG), i + j = O.length → j < U1 → ROr σ (O, z) → RI σ 1102 (O.take i) →
    ∃ τ, x_X12_turn_L30 U 1101 k U1 (nI i) σ = k τ ∧ RI τ 1102 O ∧ ∀ b, b ≠ 1102 → sm σ τ b := by
  intro j
  induction j with
  | zero =>
    intro i U1 σ hi hU hO hR
    obtain ⟨V, rfl⟩ : ∃ V, U1 = V + 1 := ⟨U1 - 1, by omega⟩
    refine ⟨σ, ?_, ?_, fun b _ => sm_refl σ b⟩
    · rw [x_X12_turn_L30, hO.1, if_neg (fun q => by have := (ltI (by omega) (by show O.length < _; omega)).mp q; simp at this; omega)]
    · rw [List.take_of_length_le (by omega)] at hR; exact hR
  | succ j ih =>
    intro i U1 σ hi hU hO hR
    obtain ⟨V, rfl⟩ : ∃ V, U1 = V + 1 := ⟨U1 - 1, by omega⟩
    have hil : i < O.length := by omega
    have hf : ∀ b, b ≠ 1102 → sm σ (uI σ 1102 i (nI O[i])) b := fun b hb => sm_uI hb
    have hR' : RI (uI σ 1102 i (nI O[i])) 1102 (O.take (i + 1)) := by
      have := RI_snoc (c := O[i]) hR
      rw [List.length_take, Nat.min_eq_left (by omega)] at this
      rw [List.take_succ_eq_append_getElem hil]
      exact this
    have hO' : ROr (uI σ 1102 i (nI O[i])) (O, z) := ⟨((hf 1101 (by decide)) 3).1.trans hO.1, ((hf 1101 (by decide)) 4).1.trans hO.2.1, hO.2.2.1.sm (hf 1103 (by decide)), hO.2.2.2⟩
    obtain ⟨τ, g1, g2, g3⟩ := ih (i + 1) V _ (by omega) (by omega) hO' hR'
    refine ⟨τ, ?_, g2, fun b hb => sm_trans (hf b hb) (g3 b hb)⟩
    rw [x_X12_turn_L30, hO.1, if_pos ((ltI (by omega) (by show O.length < _; omega)).mpr hil), ix_in (by omega) (by decide), ix_in (by omega) (by decide), sb_eq, hO.2.2.1 i _ (List.getElem?_eq_getElem hil), nI_1]
    exact g1
theorem X12_turn {U : Nat} {σ : SG} {T O : List Nat} {z : Int32} (hU : 4000 < U) (hT : RTr σ T) (hO : ROr σ (O, z)) : ∃ v τ, x_X12_turn U 1101 σ = some (v, τ) ∧ RTr τ (tnS T O).2 ∧ ft σ τ ∧ sI τ 1101 5 = otC (tnS T O).1 ∧ ((tnS T O).1 = .inl (some (.int v)) ∨ ∃ E, (tnS T O).1 = .inr E) := by
  have hl : O.length ≤ 4000 := hO.2.2.2
  unfold x_X12_turn tnS
  rw [hO.1, l700]
  by_cases h7 : 700 < O.length
  · rw [if_pos ((ltI (by decide) (by show O.length < _; omega)).mpr h7), if_pos h7]
    refine ⟨0, uI σ 1101 5 1, ?_, hT.f5 (f5_u σ 1), ⟨fun b h1 _ => sm_uI h1, fo_uI (by decide)⟩, sI_s _ _ _ _, Or.inr ⟨_, rfl⟩⟩
    unfold x_X12_turn_16; rw [sb_eq, sI_s, if_neg (by decide)]
  · rw [if_neg (fun q => h7 ((ltI (by decide) (by show O.length < _; omega)).mp q)), if_neg h7]
    obtain ⟨τ, g1, g2, g3⟩ := X12_turn_L (U := U) (k := fun σ14 => sb (uI σ14 1101 1 (sI σ14 1101 3)) fun σ15 => some (sI σ15 1101 1, σ15)) (by omega) O.length 0 U (uI σ 1101 5 0) (by omega) (by omega) (hO.f5 (f5_u σ 0)) (by simpa using RI_nil _ _)
    have h3 : sI τ 1101 3 = nI O.length := ((g3 1101 (by decide)) 3).1.trans (hO.f5 (f5_u σ 0)).1
    refine ⟨nI O.length, uI τ 1101 1 (nI O.length), ?_, ⟨sI_s _ _ _ _, g2.sm (sm_uI (by decide))⟩, ⟨fun b h1 h2 => sm_trans (sm_trans (sm_uI h1) (g3 b h2)) (sm_uI h1), ?_⟩, ?_, Or.inl rfl⟩
    · unfold x_X12_turn_16
      rw [sb_eq, sI_s, if_pos rfl]
      refine g1.trans ?_
      rw [sb_eq, h3, sI_s]
    · have e := g3 1101 (by decide)
      exact fo_trans (fo_uI (by decide)) (fo_trans ⟨fun k _ => (e k).1, fun k => (e k).2.1, fun k => (e k).2.2⟩ (fo_uI (by decide)))
    · rw [sI_o (by decide), ((g3 1101 (by decide)) 5).1, sI_s]; try rfl
/-! ===== bytes and words: the spec, and how the class scans ===== -/
def zI (b : Bool) : Int32 := if b then 1 else 0
def pB (c : Nat) : Bool := c == 9 || c == 10 || c == 13 || c == 32
def pL (c : Nat) : Bool := (97 ≤ c && c ≤ 122) || (65 ≤ c && c ≤ 90)
def pD (c : Nat) : Bool := 48 ≤ c && c ≤ 57
def pW (c : Nat) : Bool := pL c || pD c || c == 95
def pH (c : Nat) : Bool := pD c || (97 ≤ c && c ≤ 102) || (65 ≤ c && c ≤ 70)
def hexV (c : Nat) : Nat := if pD c then c - 48 else if 97 ≤ c then c - 87 else c - 55
def pT (c : Nat) : Bool := 32 ≤ c && c ≤ 126 && c != 34 && c != 92
def pN (c : Nat) : Bool := c != 10
def bP (f : Nat → Bool) (T : List Nat) (p : Nat) : Bool := match T[p]? with
  | some c => f c
  | none => false
def σ0 : SG := (fun _ _ => 0, fun _ _ => 0, fun _ _ => none)
def ok8 (T : List Nat) : Prop := ∀ c ∈ T, c < 256
theorem zI0 : zI false = 0 := rfl
theorem zI1 : zI true = 1 := rfl
theorem ifz {α : Type} (b : Bool) (A B : α) : (if zI b = 0 then A else B) = if b then B else A := by cases b <;> rfl
theorem bA_some {T : List Nat} {p c : Nat} (h : T[p]? = some c) : bA T p = nI c := by unfold bA; rw [h]
theorem bA_none {T : List Nat} {p : Nat} (h : T[p]? = none) : bA T p = -1 := by unfold bA; rw [h]
theorem bA_is {T : List Nat} {p c : Nat} (hT : ok8 T) (hc : c < 256) : bA T p = nI c ↔ T[p]? = some c := by
  cases h : T[p]? with
  | none => rw [bA_none h]; exact ⟨fun q => absurd q ((by decide +kernel : ∀ c, c < 256 → ¬ (-1 : Int32) = nI c) c hc), fun q => by cases q⟩
  | some d =>
    have hd := hT d (List.mem_of_getElem? h)
    rw [bA_some h, nI_eq (by omega) (by omega)]
    exact ⟨fun q => by rw [q], fun q => Option.some.inj q⟩
theorem ifA {α : Type} {T : List Nat} {p c : Nat} (hT : ok8 T) (hc : c < 256) (A B : α) : (if bA T p = nI c then A else B) = if T[p]? = some c then A else B := by
  by_cases h : T[p]? = some c
  · rw [if_pos ((bA_is hT hc).mpr h), if_pos h]
  · rw [if_neg (fun q => h ((bA_is hT hc).mp q)), if_neg h]
theorem bA_neg {T : List Nat} {p : Nat} (hT : ok8 T) : bA T p < 0 ↔ T[p]? = none := by
  cases h : T[p]? with
  | none => rw [bA_none h]; exact ⟨fun _ => rfl, fun _ => by decide⟩
  | some d =>
    have hd := hT d (List.mem_of_getElem? h)
    rw [bA_some h]; exact ⟨fun q => absurd q (nI_neg (by omega)), fun q => by cases q⟩
theorem bA_lift {g : Int32 → Option Int32} {f : Nat → Bool} (h : ∀ c, c < 256 → g (nI c) = some (zI (f c))) (h1 : g (-1) = some 0) {T : List Nat} (hT : ok8 T) (p : Nat) : g (bA T p) = some (zI (bP f T p)) := by
  unfold bP
  cases e : T[p]? with
  | none => rw [bA_none e]; exact h1
  | some c => rw [bA_some e]; exact h c (hT c (List.mem_of_getElem? e))
theorem W_isBlank {T : List Nat} (hT : ok8 T) (p : Nat) : x_X11_isBlank (bA T p) = some (zI (bP pB T p)) := bA_lift (by decide +kernel) (by decide +kernel) hT p
theorem W_isLetter {T : List Nat} (hT : ok8 T) (p : Nat) (σ : SG) : x_X11_isLetter (bA T p) σ = some (zI (bP pL T p)) := bA_lift (g := fun v => x_X11_isLetter v σ) (by show ∀ c, c < 256 → x_X11_isLetter (nI c) σ0 = _; decide +kernel) (by show x_X11_isLetter (-1) σ0 = _; decide +kernel) hT p
theorem W_isWordByte {T : List Nat} (hT : ok8 T) (p : Nat) (σ : SG) : x_X11_isWordByte (bA T p) σ = some (zI (bP pW T p)) := bA_lift (g := fun v => x_X11_isWordByte v σ) (by show ∀ c, c < 256 → x_X11_isWordByte (nI c) σ0 = _; decide +kernel) (by show x_X11_isWordByte (-1) σ0 = _; decide +kernel) hT p
theorem V_isBlank {T : List Nat} (hT : ok8 T) (p : Nat) : x_X12_isBlank (bA T p) = some (zI (bP pB T p)) := bA_lift (by decide +kernel) (by decide +kernel) hT p
theorem V_isDigit {T : List Nat} (hT : ok8 T) (p : Nat) : x_X12_isDigit (bA T p) = some (zI (bP pD T p)) := bA_lift (by decide +kernel) (by decide +kernel) hT p
theorem V_isLetter {T : List Nat} (hT : ok8 T) (p : Nat) (σ : SG) : x_X12_isLetter (bA T p) σ = some (zI (bP pL T p)) := bA_lift (g := fun v => x_X12_isLetter v σ) (by show ∀ c, c < 256 → x_X12_isLetter (nI c) σ0 = _; decide +kernel) (by show x_X12_isLetter (-1) σ0 = _; decide +kernel) hT p
theorem V_isPart {T : List Nat} (hT : ok8 T) (p : Nat) (σ : SG) : x_X12_isPart (bA T p) σ = some (zI (bP pW T p)) := bA_lift (g := fun v => x_X12_isPart v σ) (by show ∀ c, c < 256 → x_X12_isPart (nI c) σ0 = _; decide +kernel) (by show x_X12_isPart (-1) σ0 = _; decide +kernel) hT p
/-- how many bytes of a kind stand from a place on -/
def rn (f : Nat → Bool) (T : List Nat) (p : Nat) : Nat := ((T.drop p).takeWhile f).length
theorem rn_ge {f : Nat → Bool} {T : List Nat} {p : Nat} (h : T.length ≤ p) : rn f T p = 0 := by
  unfold rn; rw [List.drop_eq_nil_of_le h]; try rfl
theorem rn_lt {f : Nat → Bool} {T : List Nat} {p : Nat} (h : p < T.length) : rn f T p = if f T[p] then rn f T (p + 1) + 1 else 0 := by
  unfold rn
  rw [List.drop_eq_getElem_cons h, List.takeWhile_cons]
  split <;> simp
theorem rn_no {f : Nat → Bool} {T : List Nat} {p : Nat} (h : bP f T p = false) : rn f T p = 0 := by
  rcases Nat.lt_or_ge p T.length with q | q
  · rw [rn_lt q, if_neg]
    unfold bP at h; rw [List.getElem?_eq_getElem q] at h; simpa using h
  · exact rn_ge q
theorem rn_yes {f : Nat → Bool} {T : List Nat} {p : Nat} (h : bP f T p = true) : p < T.length ∧ rn f T p = rn f T (p + 1) + 1 := by
  rcases Nat.lt_or_ge p T.length with q | q
  · refine ⟨q, ?_⟩
    rw [rn_lt q, if_pos]
    unfold bP at h; rw [List.getElem?_eq_getElem q] at h; exact h
  · unfold bP at h; rw [List.getElem?_eq_none q] at h; cases h
theorem rn_le {f : Nat → Bool} {T : List Nat} : ∀ (j p : Nat), p + j = T.length → p + rn f T p ≤ T.length := by
  intro j
  induction j with
  | zero => intro p h; rw [rn_ge (by omega)]; omega
  | succ j ih =>
    intro p h
    rw [rn_lt (by omega)]
    have := ih (p + 1) (by omega)
    split <;> omega
theorem rn_le' {f : Nat → Bool} {T : List Nat} {p : Nat} (h : p ≤ T.length) : p + rn f T p ≤ T.length := rn_le (T.length - p) p (by omega)
/-- the byte behind such bytes is none of them -/
theorem rn_end {f : Nat → Bool} {T : List Nat} : ∀ (j p : Nat), p + j = T.length → bP f T (p + rn f T p) = false := by
  intro j
  induction j with
  | zero => intro p h; rw [rn_ge (by omega)]; unfold bP; rw [List.getElem?_eq_none (by omega)]
  | succ j ih =>
    intro p h
    cases hb : bP f T p with
    | false => rw [rn_no hb]; exact hb
    | true =>
      rw [(rn_yes hb).2, show p + (rn f T (p + 1) + 1) = p + 1 + rn f T (p + 1) by omega]
      exact ih (p + 1) (by omega)
/-- the class's words over a text -/
def LX (σ : SG) (w : Nat) (T : List Nat) : Prop := sh w = 10 ∧ RB σ (w - 184) T 0 ∧ sI σ w 6 = nI T.length ∧ T.length ≤ 700
theorem LX.ok8 {σ : SG} {w : Nat} {T : List Nat} (h : LX σ w T) : ok8 T := h.2.1.2.2.2.2
theorem LX.at {σ : SG} {w p : Nat} {T : List Nat} (h : LX σ w T) (hp : p < 2 ^ 31) : x_X0_at (w - 184) (nI p) σ = some (bA T p) := X0_at h.2.1 hp
theorem X10_nameEnd_L {U w : Nat} {σ : SG} {T : List Nat} (h : LX σ w T) : ∀ (j p U1 : Nat), p + j = T.length → j < U1 → x_X10_nameEnd_L2 U w σ U1 (nI p) = some (nI (p + rn pW T p)) := by
  have hl := h.2.2.2
  intro j
  induction j with
  | zero =>
    intro p U1 hp hU
    obtain ⟨V, rfl⟩ : ∃ V, U1 = V + 1 := ⟨U1 - 1, by omega⟩
    rw [x_X10_nameEnd_L2, h.2.2.1, if_neg (fun q => by have := (ltI (by omega) (by omega)).mp q; omega), rn_ge (by omega)]; try rfl
  | succ j ih =>
    intro p U1 hp hU
    obtain ⟨V, rfl⟩ : ∃ V, U1 = V + 1 := ⟨U1 - 1, by omega⟩
    rw [x_X10_nameEnd_L2, h.2.2.1, if_pos ((ltI (by omega) (by omega)).mpr (by omega)), h.at (by omega), b1_eq, W_isWordByte h.ok8, b1_eq, ifz]
    cases hb : bP pW T p with
    | false => rw [rn_no hb]; try rfl
    | true =>
      rw [(rn_yes hb).2]
      show x_X10_nameEnd_L2 U w σ V (nI p + 1) = _
      rw [nI_1, ih (p + 1) V (by omega) (by omega)]
      congr 2; omega
theorem X10_nameEnd {U w p : Nat} {σ : SG} {T : List Nat} (hU : 4000 < U) (h : LX σ w T) (hp : p ≤ T.length) : x_X10_nameEnd U w (nI p) σ = some (nI (p + rn pW T p)) := X10_nameEnd_L h (T.length - p) p U (by omega) (by have := h.2.2.2; omega)
theorem l10 : (10 : Int32) = nI 10 := rfl
theorem l47 : (47 : Int32) = nI 47 := rfl
theorem l42 : (42 : Int32) = nI 42 := rfl
theorem bP_pN {T : List Nat} {p : Nat} (h : p < T.length) : (T[p]? = some 10) ↔ bP pN T p = false := by
  unfold bP pN
  rw [List.getElem?_eq_getElem h]
  constructor
  · intro q; have := Option.some.inj q; simp [this]
  · intro q; simp at q; rw [q]
theorem X10_lineEnd_L {U w : Nat} {σ : SG} {T : List Nat} (h : LX σ w T) : ∀ (j p U1 : Nat), p + j = T.length → j < U1 → x_X10_lineEnd_L2 U w σ U1 (nI p) = some (nI (p + rn pN T p)) := by
  have hl := h.2.2.2
  intro j
  induction j with
  | zero =>
    intro p U1 hp hU
    obtain ⟨V, rfl⟩ : ∃ V, U1 = V + 1 := ⟨U1 - 1, by omega⟩
    rw [x_X10_lineEnd_L2, h.2.2.1, if_neg (fun q => by have := (ltI (by omega) (by omega)).mp q; omega), rn_ge (by omega)]; try rfl
  | succ j ih =>
    intro p U1 hp hU
    obtain ⟨V, rfl⟩ : ∃ V, U1 = V + 1 := ⟨U1 - 1, by omega⟩
    have hpl : p < T.length := by omega
    rw [x_X10_lineEnd_L2, h.2.2.1, if_pos ((ltI (by omega) (by omega)).mpr (by omega)), h.at (by omega), b1_eq, l10, ifA h.ok8 (by decide)]
    cases hb : bP pN T p with
    | false => rw [rn_no hb, if_pos ((bP_pN hpl).mpr hb)]; try rfl
    | true =>
      rw [(rn_yes hb).2, if_neg (fun q => by rw [(bP_pN hpl).mp q] at hb; cases hb), nI_1, ih (p + 1) V (by omega) (by omega)]
      congr 2; omega
theorem X10_lineEnd {U w p : Nat} {σ : SG} {T : List Nat} (hU : 4000 < U) (h : LX σ w T) (hp : p ≤ T.length) : x_X10_lineEnd U w (nI p) σ = some (nI (p + rn pN T p)) := X10_lineEnd_L h (T.length - p) p U (by omega) (by have := h.2.2.2; omega)
/-- the first * with a / behind it, from p on, among n places -/
def ce (T : List Nat) : Nat → Nat → Option Nat
  | 0, _ => none
  | n + 1, p => if T[p]? = some 42 ∧ T[p + 1]? = some 47 then some p else ce T n (p + 1)
theorem ce_at {T : List Nat} : ∀ (n p q : Nat), ce T n p = some q → T[q]? = some 42 ∧ T[q + 1]? = some 47 ∧ p ≤ q := by
  intro n
  induction n with
  | zero => intro p q h; cases h
  | succ n ih =>
    intro p q h
    rw [ce] at h
    by_cases hc : T[p]? = some 42 ∧ T[p + 1]? = some 47
    · rw [if_pos hc] at h; cases h; exact ⟨hc.1, hc.2, Nat.le_refl _⟩
    · rw [if_neg hc] at h; have := ih (p + 1) q h; exact ⟨this.1, this.2.1, by omega⟩
theorem X10_commentEnd_L {U w : Nat} {σ : SG} {T : List Nat} {k : Option (Int32 × SG)} (h : LX σ w T) : ∀ (j p U1 : Nat), p + j = T.length → j < U1 → x_X10_commentEnd_L2 U w k σ U1 (nI p) = (match ce T j p with | some q => some (nI (q + 1), σ) | none => k) := by
  have hl := h.2.2.2
  intro j
  induction j with
  | zero =>
    intro p U1 hp hU
    obtain ⟨V, rfl⟩ : ∃ V, U1 = V + 1 := ⟨U1 - 1, by omega⟩
    rw [x_X10_commentEnd_L2, h.2.2.1, if_neg (fun q => by have := (ltI (by omega) (by omega)).mp q; omega)]; try rfl
  | succ j ih =>
    intro p U1 hp hU
    obtain ⟨V, rfl⟩ : ∃ V, U1 = V + 1 := ⟨U1 - 1, by omega⟩
    rw [x_X10_commentEnd_L2, h.2.2.1, if_pos ((ltI (by omega) (by omega)).mpr (by omega)), h.at (by omega), b1_eq, l42, ifA h.ok8 (by decide), nI_1, h.at (by omega), b1_eq, l47, ifA h.ok8 (by decide), ce]
    unfold x_X10_commentEnd_42
    rw [nI_1, ih (p + 1) V (by omega) (by omega)]
    by_cases h1 : T[p]? = some 42
    · rw [if_pos h1]
      by_cases h2 : T[p + 1]? = some 47
      · rw [if_pos h2, if_pos ⟨h1, h2⟩]
      · rw [if_neg h2, if_neg (fun q => h2 q.2)]
    · rw [if_neg h1, if_neg (fun q => h1 q.1)]
theorem X10_commentEnd {U w p : Nat} {σ : SG} {T : List Nat} (hU : 4000 < U) (h : LX σ w T) (hp : p ≤ T.length) : x_X10_commentEnd U w (nI p) σ = (match ce T (T.length - p) p with | some q => some (nI (q + 1), σ) | none => some (nI T.length, uI σ w 7 1)) := by
  unfold x_X10_commentEnd
  rw [X10_commentEnd_L h (T.length - p) p U (by omega) (by have := h.2.2.2; omega)]
  cases ce T (T.length - p) p with
  | some q => rfl
  | none => rw [sb_eq, sI_o (Or.inr (by decide)), h.2.2.1]
/-! ===== behind blanks and comments ===== -/
def bb (T : List Nat) : Nat → Nat → Bool → Nat × Bool
  | 0, p, u => (p, u)
  | n + 1, p, u => match T[p]? with
    | none => (p, u)
    | some c => if pB c then bb T n (p + 1) u else if c = 47 ∧ T[p + 1]? = some 47 then bb T n (p + 2 + rn pN T (p + 2)) u else if c = 47 ∧ T[p + 1]? = some 42 then (match ce T (T.length - (p + 2)) (p + 2) with | some q => bb T n (q + 2) u | none => (T.length, true)) else (p, u)
theorem bb_fuel {T : List Nat} : ∀ (n m p : Nat) (u : Bool), T.length < p + n → T.length < p + m → bb T n p u = bb T m p u := by
  intro n
  induction n with
  | zero =>
    intro m p u h _
    cases m with
    | zero => rfl
    | succ m => rw [bb, bb, List.getElem?_eq_none (by omega)]
  | succ n ih =>
    intro m p u h h'
    cases m with
    | zero => rw [bb, bb, List.getElem?_eq_none (by omega)]
    | succ m =>
      rw [bb, bb]
      cases hp : T[p]? with
      | none => rfl
      | some c =>
        simp only
        rw [ih m (p + 1) u (by omega) (by omega), ih m (p + 2 + rn pN T (p + 2)) u (by omega) (by omega)]
        cases hc : ce T (T.length - (p + 2)) (p + 2) with
        | none => rfl
        | some q =>
          have := (ce_at _ _ _ hc).2.2
          simp only
          rw [ih m (q + 2) u (by omega) (by omega)]
def bbS (T : List Nat) (p : Nat) (u : Bool) : Nat × Bool := bb T (T.length + 1) p u
theorem bbS_eq (T : List Nat) (p : Nat) (u : Bool) : bbS T p u = (match T[p]? with
    | none => (p, u)
    | some c => if pB c then bbS T (p + 1) u else if c = 47 ∧ T[p + 1]? = some 47 then bbS T (p + 2 + rn pN T (p + 2)) u else if c = 47 ∧ T[p + 1]? = some 42 then (match ce T (T.length - (p + 2)) (p + 2) with | some q => bbS T (q + 2) u | none => (T.length, true)) else (p, u)) := by
  unfold bbS
  rw [bb]
  cases hp : T[p]? with
  | none => rfl
  | some c =>
    have hpl := (List.getElem?_eq_some_iff.mp hp).1
    simp only
    rw [bb_fuel T.length (T.length + 1) (p + 1) u (by omega) (by omega), bb_fuel T.length (T.length + 1) (p + 2 + rn pN T (p + 2)) u (by omega) (by omega)]
    cases hc : ce T (T.length - (p + 2)) (p + 2) with
    | none => rfl
    | some q =>
      have := (ce_at _ _ _ hc).2.2
      simp only
      rw [bb_fuel T.length (T.length + 1) (q + 2) u (by omega) (by omega)]
theorem bbS_none {T : List Nat} {p : Nat} {u : Bool} (h : T[p]? = none) : bbS T p u = (p, u) := by rw [bbS_eq, h]
theorem bbS_blank {T : List Nat} {p : Nat} {u : Bool} (h : bP pB T p = true) : bbS T p u = bbS T (p + 1) u := by
  unfold bP at h
  rw [bbS_eq]
  cases hp : T[p]? with
  | none => rw [hp] at h; cases h
  | some c => rw [hp] at h; simp only at h ⊢; rw [if_pos h]
theorem bbS_line {T : List Nat} {p : Nat} {u : Bool} (h1 : T[p]? = some 47) (h2 : T[p + 1]? = some 47) : bbS T p u = bbS T (p + 2 + rn pN T (p + 2)) u := by
  rw [bbS_eq, h1]; simp only; rw [if_neg (by decide), if_pos ⟨trivial, h2⟩]
theorem bbS_star {T : List Nat} {p : Nat} {u : Bool} (h1 : T[p]? = some 47) (h2 : T[p + 1]? = some 42) : bbS T p u = (match ce T (T.length - (p + 2)) (p + 2) with | some q => bbS T (q + 2) u | none => (T.length, true)) := by
  rw [bbS_eq, h1]; simp only; rw [if_neg (by decide), if_neg (fun q => by rw [h2] at q; cases q.2), if_pos ⟨trivial, h2⟩]
theorem bbS_stop {T : List Nat} {p : Nat} {u : Bool} (h : bP pB T p = false) (h' : T[p]? = some 47 → T[p + 1]? ≠ some 47 ∧ T[p + 1]? ≠ some 42) : bbS T p u = (p, u) := by
  unfold bP at h
  rw [bbS_eq]
  cases hp : T[p]? with
  | none => rfl
  | some c =>
    rw [hp] at h; simp only at h ⊢
    rw [if_neg (by rw [h]; decide), if_neg (fun q => (h' (by rw [hp, q.1])).1 q.2), if_neg (fun q => (h' (by rw [hp, q.1])).2 q.2)]
theorem bbS_le {T : List Nat} : ∀ (n p : Nat) (u : Bool), T.length < p + n → p ≤ T.length → (bbS T p u).1 ≤ T.length ∧ p ≤ (bbS T p u).1 := by
  intro n
  induction n with
  | zero => intro p u h h'; omega
  | succ n ih =>
    intro p u h h'
    rw [bbS_eq]
    cases hp : T[p]? with
    | none => exact ⟨h', Nat.le_refl _⟩
    | some c =>
      have hpl := (List.getElem?_eq_some_iff.mp hp).1
      simp only
      split
      · have := ih (p + 1) u (by omega) (by omega); omega
      · split
        · next hc =>
          have h2 := (List.getElem?_eq_some_iff.mp hc.2).1
          have h3 := rn_le' (f := pN) (T := T) (p := p + 2) (by omega)
          have := ih (p + 2 + rn pN T (p + 2)) u (by omega) h3; omega
        · split
          · next hc =>
            have h2 := (List.getElem?_eq_some_iff.mp hc.2).1
            cases hq : ce T (T.length - (p + 2)) (p + 2) with
            | none => exact ⟨Nat.le_refl _, by simp only; omega⟩
            | some q =>
              obtain ⟨e1, e2, e3⟩ := ce_at _ _ _ hq
              have h4 := (List.getElem?_eq_some_iff.mp e2).1
              have := ih (q + 2) u (by omega) (by omega)
              simp only; omega
          · exact ⟨by simp only; omega, Nat.le_refl _⟩
/-- one place of an object alone is touched -/
def f1 (w : Nat) (K : List Nat) (σ τ : SG) : Prop := (∀ b, b ≠ w → sm σ τ b) ∧ (∀ k, k ∉ K → sI τ w k = sI σ w k) ∧ (∀ k, sL τ w k = sL σ w k) ∧ ∀ k, sP τ w k = sP σ w k
theorem f1_refl (w : Nat) (K : List Nat) (σ : SG) : f1 w K σ σ := ⟨fun b _ => sm_refl σ b, fun _ _ => rfl, fun _ => rfl, fun _ => rfl⟩
theorem f1_trans {w : Nat} {K : List Nat} {σ τ υ : SG} (h : f1 w K σ τ) (h' : f1 w K τ υ) : f1 w K σ υ := ⟨fun b hb => sm_trans (h.1 b hb) (h'.1 b hb), fun k hk => (h'.2.1 k hk).trans (h.2.1 k hk), fun k => (h'.2.2.1 k).trans (h.2.2.1 k), fun k => (h'.2.2.2 k).trans (h.2.2.2 k)⟩
theorem f1_u {w k : Nat} {K : List Nat} {σ : SG} {v : Int32} (hk : k ∈ K) : f1 w K σ (uI σ w k v) := ⟨fun b hb => sm_uI hb, fun j hj => sI_o (Or.inr (fun q => hj (q ▸ hk))), fun _ => rfl, fun _ => rfl⟩
theorem LX.w {σ : SG} {w : Nat} {T : List Nat} (h : LX σ w T) : w = 191 ∨ w = 383 := shX10 h.1
theorem LX.f1 {σ τ : SG} {w : Nat} {T : List Nat} {K : List Nat} (h : LX σ w T) (hf : f1 w K σ τ) (h6 : 6 ∉ K) : LX τ w T := by
  have := h.w
  exact ⟨h.1, h.2.1.sm (hf.1 _ (by omega)) (hf.1 _ (by omega)), (hf.2.1 6 h6).trans h.2.2.1, h.2.2.2⟩
theorem X10_behindBlanks_L {U w : Nat} {T : List Nat} (hU : 4000 < U) : ∀ (n p U1 : Nat) (σ : SG) (u : Bool), T.length + 1 ≤ p + n → n < U1 → p ≤ T.length + 1 → LX σ w T → sI σ w 7 = zI u →
    ∃ τ, x_X10_behindBlanks_L2 U w U1 (nI p) σ = some (nI (if p ≤ T.length then (bbS T p u).1 else T.length), τ) ∧ sI τ w 7 = zI (if p ≤ T.length then (bbS T p u).2 else u) ∧ f1 w [7] σ τ := by
  intro n
  induction n with
  | zero =>
    intro p U1 σ u hn hU1 hp h hu
    have hl := h.2.2.2
    obtain ⟨V, rfl⟩ : ∃ V, U1 = V + 1 := ⟨U1 - 1, by omega⟩
    refine ⟨σ, ?_, ?_, f1_refl _ _ _⟩
    · rw [x_X10_behindBlanks_L2, h.2.2.1, if_neg (fun q => by have := (ltI (by omega) (by omega)).mp q; omega), if_neg (by omega)]
    · rw [if_neg (by omega)]; exact hu
  | succ n ih =>
    intro p U1 σ u hn hU1 hp h hu
    have hl := h.2.2.2
    obtain ⟨V, rfl⟩ : ∃ V, U1 = V + 1 := ⟨U1 - 1, by omega⟩
    rw [x_X10_behindBlanks_L2, h.2.2.1]
    rcases (Nat.lt_or_ge p T.length).symm with hpl | hpl
    · refine ⟨σ, ?_, ?_, f1_refl _ _ _⟩
      · rw [if_neg (fun q => by have := (ltI (by omega) (by omega)).mp q; omega)]
        by_cases e : p ≤ T.length
        · rw [if_pos e, bbS_none (List.getElem?_eq_none hpl)]; congr 2; congr 1; simp only; omega
        · rw [if_neg e]
      · by_cases e : p ≤ T.length
        · rw [if_pos e, bbS_none (List.getElem?_eq_none hpl)]; exact hu
        · rw [if_neg e]; exact hu
    rw [if_pos ((ltI (by omega) (by omega)).mpr hpl), h.at (by omega), b1_eq, l47, ifA h.ok8 (by decide), nI_1, h.at (by omega), b1_eq, if_pos (Nat.le_of_lt hpl), if_pos (Nat.le_of_lt hpl)]
    -- a blank or a word here
    have plain : ∀ s0, (¬ s0 = nI 47) → (¬ s0 = nI 42) → (T[p]? = some 47 → T[p + 1]? ≠ some 47 ∧ T[p + 1]? ≠ some 42) → ∃ τ, x_X10_behindBlanks_39 U w (x_X10_behindBlanks_L2 U w V) (nI p) (bA T p) s0 σ = some (nI (bbS T p u).1, τ) ∧ sI τ w 7 = zI (bbS T p u).2 ∧ f1 w [7] σ τ := by
      intro s0 h1 h2 h3
      unfold x_X10_behindBlanks_39
      rw [l47, if_neg h1, l42, if_neg h2, W_isBlank h.ok8, b1_eq, ifz]
      cases hb : bP pB T p with
      | false => rw [bbS_stop hb h3]; exact ⟨σ, rfl, hu, f1_refl _ _ _⟩
      | true =>
        unfold x_X10_behindBlanks_86
        rw [nI_1, bbS_blank hb]
        obtain ⟨τ, g1, g2, g3⟩ := ih (p + 1) V σ u (by omega) (by omega) (by omega) h hu
        rw [if_pos (by omega)] at g1 g2
        exact ⟨τ, g1, g2, g3⟩
    by_cases h47 : T[p]? = some 47
    · rw [if_pos h47]
      by_cases hs : T[p + 1]? = some 47
      · -- to the line's end
        have h2l := (List.getElem?_eq_some_iff.mp hs).1
        have h3 := rn_le' (f := pN) (T := T) (p := p + 2) (by omega)
        unfold x_X10_behindBlanks_39 x_X10_behindBlanks_86
        have e2 : nI p + 2 = nI (p + 2) := nI_add p 2
        rw [bA_some hs, l47, if_pos rfl, e2, X10_lineEnd hU h (by omega), b1_eq, nI_1, bbS_line h47 hs]
        obtain ⟨τ, g1, g2, g3⟩ := ih (p + 2 + rn pN T (p + 2) + 1) V σ u (by omega) (by omega) (by omega) h hu
        refine ⟨τ, ?_, ?_, g3⟩
        · rw [g1]; congr 2; congr 1
          by_cases e : p + 2 + rn pN T (p + 2) + 1 ≤ T.length
          · rw [if_pos e, bbS_blank (p := p + 2 + rn pN T (p + 2))]
            have := rn_end (f := pN) (T := T) (T.length - (p + 2)) (p + 2) (by omega)
            have h10 := (bP_pN (by omega)).mpr this
            unfold bP; rw [h10]; try rfl
          · rw [if_neg e, bbS_none (List.getElem?_eq_none (by omega))]; simp only; omega
        · rw [g2]; congr 1
          by_cases e : p + 2 + rn pN T (p + 2) + 1 ≤ T.length
          · rw [if_pos e, bbS_blank (p := p + 2 + rn pN T (p + 2))]
            have := rn_end (f := pN) (T := T) (T.length - (p + 2)) (p + 2) (by omega)
            have h10 := (bP_pN (by omega)).mpr this
            unfold bP; rw [h10]; try rfl
          · rw [if_neg e, bbS_none (List.getElem?_eq_none (by omega))]
      · by_cases ht : T[p + 1]? = some 42
        · have h2l := (List.getElem?_eq_some_iff.mp ht).1
          unfold x_X10_behindBlanks_39 x_X10_behindBlanks_86
          have e2 : nI p + 2 = nI (p + 2) := nI_add p 2
          rw [bA_some ht, l47, if_neg (by decide), l42, if_pos rfl, e2, X10_commentEnd hU h (by omega), bbS_star h47 ht]
          cases hq : ce T (T.length - (p + 2)) (p + 2) with
          | some q =>
            obtain ⟨e1, e3, e4⟩ := ce_at _ _ _ hq
            have h4 := (List.getElem?_eq_some_iff.mp e3).1
            simp only
            rw [b2_eq, nI_1]
            obtain ⟨τ, g1, g2, g3⟩ := ih (q + 1 + 1) V σ u (by omega) (by omega) (by omega) h hu
            rw [if_pos (by omega)] at g1 g2
            exact ⟨τ, g1, g2, g3⟩
          | none =>
            simp only
            rw [b2_eq, nI_1]
            obtain ⟨τ, g1, g2, g3⟩ := ih (T.length + 1) V (uI σ w 7 1) true (by omega) (by omega) (by omega) (h.f1 (f1_u (K := [7]) (by decide)) (by decide)) (sI_s _ _ _ _)
            rw [if_neg (by omega)] at g1 g2
            exact ⟨τ, g1, g2, f1_trans (f1_u (by decide)) g3⟩
        · exact plain _ (fun q => hs ((bA_is h.ok8 (by decide)).mp q)) (fun q => ht ((bA_is h.ok8 (by decide)).mp q)) (fun _ => ⟨hs, ht⟩)
    · rw [if_neg h47]
      exact plain _ (by decide) (by decide) (fun q => absurd q h47)
theorem X10_behindBlanks {U w p : Nat} {σ : SG} {T : List Nat} {u : Bool} (hU : 4000 < U) (h : LX σ w T) (hp : p ≤ T.length) (hu : sI σ w 7 = zI u) : ∃ τ, x_X10_behindBlanks U w (nI p) σ = some (nI (bbS T p u).1, τ) ∧ sI τ w 7 = zI (bbS T p u).2 ∧ f1 w [7] σ τ := by
  have hl := h.2.2.2
  obtain ⟨τ, g1, g2, g3⟩ := X10_behindBlanks_L hU (T.length + 1 - p) p U σ u (by omega) (by omega) (by omega) h hu
  rw [if_pos hp] at g1 g2
  exact ⟨τ, g1, g2, g3⟩
/-! the reference -/
def LR (σ : SG) (T : List Nat) : Prop := sI σ 1101 73 = nI T.length ∧ RI σ 1102 T ∧ T.length ≤ 700 ∧ ok8 T
theorem LR.at {σ : SG} {p : Nat} {T : List Nat} (h : LR σ T) (hp : p < 2 ^ 31) : x_X12_byteAt 1101 (nI p) σ = some (bA T p) := X12_byteAt h.1 h.2.1 h.2.2.1 hp
theorem LR.f1 {σ τ : SG} {T : List Nat} {K : List Nat} (h : LR σ T) (hf : f1 1101 K σ τ) (h6 : 73 ∉ K) : LR τ T := ⟨(hf.2.1 73 h6).trans h.1, h.2.1.sm (hf.1 _ (by decide)), h.2.2⟩
theorem X12_line_L {U : Nat} {σ : SG} {T : List Nat} (h : LR σ T) : ∀ (j p U1 : Nat), p + j = T.length → j < U1 → x_X12_behindComment_L28 U 1101 σ U1 (nI p) = some (nI (p + rn pN T p), σ) := by
  have hl := h.2.2.1
  intro j
  induction j with
  | zero =>
    intro p U1 hp hU
    obtain ⟨V, rfl⟩ : ∃ V, U1 = V + 1 := ⟨U1 - 1, by omega⟩
    rw [x_X12_behindComment_L28, h.1, if_neg (fun q => by have := (ltI (by omega) (by omega)).mp q; omega), rn_ge (by omega)]; try rfl
  | succ j ih =>
    intro p U1 hp hU
    obtain ⟨V, rfl⟩ : ∃ V, U1 = V + 1 := ⟨U1 - 1, by omega⟩
    have hpl : p < T.length := by omega
    rw [x_X12_behindComment_L28, h.1, if_pos ((ltI (by omega) (by omega)).mpr (by omega)), h.at (by omega), b1_eq, l10, ifA h.2.2.2 (by decide)]
    cases hb : bP pN T p with
    | false => rw [rn_no hb, if_pos ((bP_pN hpl).mpr hb)]; try rfl
    | true =>
      rw [(rn_yes hb).2, if_neg (fun q => by rw [(bP_pN hpl).mp q] at hb; cases hb), nI_1, ih (p + 1) V (by omega) (by omega)]
      congr 3; omega
theorem X12_star_L {U : Nat} {σ : SG} {T : List Nat} {k : Int32 → Option (Int32 × SG)} (h : LR σ T) : ∀ (j p U1 : Nat), p + j = T.length → j < U1 → 1 ≤ T.length → ∃ e, x_X12_behindComment_L68 U 1101 k σ U1 (nI p) = k (nI e) ∧ (match ce T j p with | some q => e = q | none => T.length ≤ e + 1 ∧ (e ≤ T.length)) := by
  have hl := h.2.2.1
  intro j
  induction j with
  | zero =>
    intro p U1 hp hU h1
    obtain ⟨V, rfl⟩ : ∃ V, U1 = V + 1 := ⟨U1 - 1, by omega⟩
    refine ⟨p, ?_, ?_⟩
    · rw [x_X12_behindComment_L68, h.1, nI_1, if_neg (fun q => by have := (ltI (by omega) (by omega)).mp q; omega)]
    · show _ ∧ _; omega
  | succ j ih =>
    intro p U1 hp hU h1
    obtain ⟨V, rfl⟩ : ∃ V, U1 = V + 1 := ⟨U1 - 1, by omega⟩
    rw [x_X12_behindComment_L68, h.1, nI_1, ce]
    by_cases hlast : p + 1 < T.length
    · rw [if_pos ((ltI (by omega) (by omega)).mpr hlast), h.at (by omega), b1_eq, l42, ifA h.2.2.2 (by decide), h.at (by omega), b1_eq, l47, ifA h.2.2.2 (by decide)]
      unfold x_X12_behindComment_100
      rw [nI_1]
      obtain ⟨e, g1, g2⟩ := ih (p + 1) V (by omega) (by omega) h1
      by_cases c1 : T[p]? = some 42
      · rw [if_pos c1]
        by_cases c2 : T[p + 1]? = some 47
        · rw [if_pos c2, if_pos ⟨c1, c2⟩]; exact ⟨p, rfl, rfl⟩
        · rw [if_neg c2, if_neg (fun q => c2 q.2)]; exact ⟨e, g1, g2⟩
      · rw [if_neg c1, if_neg (fun q => c1 q.1)]; exact ⟨e, g1, g2⟩
    · rw [if_neg (fun q => hlast ((ltI (by omega) (by omega)).mp q)), if_neg (fun q => by have := (List.getElem?_eq_some_iff.mp q.2).1; omega)]
      have : j = 0 := by omega
      subst this
      exact ⟨p, rfl, by show _ ∧ _; omega⟩
theorem X12_behindComment {U p : Nat} {σ : SG} {T : List Nat} {u : Bool} (hU : 4000 < U) (h : LR σ T) (hp : p ≤ T.length) (hu : sI σ 1101 76 = zI u) : ∃ q u' τ, x_X12_behindComment U 1101 (nI p) σ = some (nI q, τ) ∧ sI τ 1101 76 = zI u' ∧ f1 1101 [76] σ τ ∧ p ≤ q ∧ q ≤ T.length ∧ (bP pB T p = false → (if q = p then bbS T p u = (p, u) ∧ u' = u else bbS T p u = bbS T q u')) := by
  have hl := h.2.2.1
  have hok := h.2.2.2
  unfold x_X12_behindComment
  rw [h.at (by omega), b1_eq, l47, ifA hok (by decide), nI_1, h.at (by omega), b1_eq, ifA hok (by decide), b1_eq, l42, ifA hok (by decide)]
  have stop : (T[p]? = some 47 → T[p + 1]? ≠ some 47 ∧ T[p + 1]? ≠ some 42) → ∃ q u' τ, (some (nI p, σ) : Option (Int32 × SG)) = some (nI q, τ) ∧ sI τ 1101 76 = zI u' ∧ f1 1101 [76] σ τ ∧ p ≤ q ∧ q ≤ T.length ∧ (bP pB T p = false → (if q = p then bbS T p u = (p, u) ∧ u' = u else bbS T p u = bbS T q u')) :=
    fun hs => ⟨p, u, σ, rfl, hu, f1_refl _ _ _, Nat.le_refl _, hp, fun hb => by rw [if_pos rfl]; exact ⟨bbS_stop hb hs, rfl⟩⟩
  by_cases h47 : T[p]? = some 47
  · rw [if_pos h47]
    have e2 : nI p + 2 = nI (p + 2) := nI_add p 2
    by_cases hs : T[p + 1]? = some 47
    · have h2l := (List.getElem?_eq_some_iff.mp hs).1
      have h3 := rn_le' (f := pN) (T := T) (p := p + 2) (by omega)
      rw [if_pos hs, e2, X12_line_L h (T.length - (p + 2)) (p + 2) U (by omega) (by omega)]
      exact ⟨_, u, σ, rfl, hu, f1_refl _ _ _, by omega, h3, fun _ => by rw [if_neg (by omega)]; exact bbS_line h47 hs⟩
    · rw [if_neg hs]
      by_cases ht : T[p + 1]? = some 42
      · have h2l := (List.getElem?_eq_some_iff.mp ht).1
        rw [if_pos ht, e2]
        obtain ⟨e, g1, g2⟩ := X12_star_L (U := U) (k := fun w21 => x_X12_behindComment_106 U 1101 w21 σ) h (T.length - (p + 2)) (p + 2) U (by omega) (by omega) (by omega)
        rw [g1]
        unfold x_X12_behindComment_106 x_X12_behindComment_121
        cases hq : ce T (T.length - (p + 2)) (p + 2) with
        | some q =>
          rw [hq] at g2
          simp only at g2
          subst g2
          obtain ⟨c1, c2, c3⟩ := ce_at _ _ _ hq
          have h4 := (List.getElem?_eq_some_iff.mp c2).1
          rw [nI_1, h.1, if_pos ((ltI (by omega) (by omega)).mpr h4), if_pos ((ltI (by omega) (by omega)).mpr h4)]
          have e3 : nI e + 2 = nI (e + 2) := nI_add e 2
          rw [e3]
          exact ⟨_, u, σ, rfl, hu, f1_refl _ _ _, by omega, by omega, fun _ => by rw [if_neg (by omega), bbS_star h47 ht, hq]⟩
        | none =>
          rw [hq] at g2
          simp only at g2
          rw [nI_1, h.1, if_neg (fun q => by have := (ltI (by omega) (by omega)).mp q; omega), sb_eq, sI_o (by decide), h.1, if_neg (fun q => by have := (ltI (by omega) (by omega)).mp q; omega)]
          exact ⟨T.length, true, _, rfl, sI_s _ _ _ _, f1_u (by decide), by omega, Nat.le_refl _, fun _ => by rw [if_neg (by omega), bbS_star h47 ht, hq, bbS_none (List.getElem?_eq_none (Nat.le_refl _))]⟩
      · rw [if_neg ht]; exact stop (fun _ => ⟨hs, ht⟩)
  · rw [if_neg h47]; exact stop (fun q => absurd q h47)
theorem X12_behindBlanks_L {U : Nat} {T : List Nat} (hU : 4000 < U) : ∀ (n p U1 : Nat) (σ : SG) (u : Bool), T.length ≤ p + n → n + 1 < U1 → p ≤ T.length → LR σ T → sI σ 1101 76 = zI u →
    ∃ τ, x_X12_behindBlanks_L4 U 1101 U1 (nI p) 1 σ = some (nI (bbS T p u).1, τ) ∧ sI τ 1101 76 = zI (bbS T p u).2 ∧ f1 1101 [76] σ τ := by
  intro n
  induction n with
  | zero =>
    intro p U1 σ u hn hU1 hp h hu
    have hl := h.2.2.1
    obtain ⟨V, rfl⟩ : ∃ V, U1 = V + 1 + 1 := ⟨U1 - 2, by omega⟩
    have hnone : T[p]? = none := List.getElem?_eq_none (by omega)
    have hb : bP pB T p = false := by unfold bP; rw [hnone]
    obtain ⟨q, u', τ, g1, g2, g3, g4, g5, g6⟩ := X12_behindComment hU h hp hu
    have hq : q = p := by omega
    have g7 := g6 hb
    rw [if_pos hq] at g7
    refine ⟨τ, ?_, ?_, g3⟩
    · rw [x_X12_behindBlanks_L4, if_neg (by decide), h.at (by omega), b1_eq, V_isBlank h.2.2.2, b1_eq, ifz, hb, if_neg (by decide), g1, b2_eq]
      unfold x_X12_behindBlanks_30 x_X12_behindBlanks_43
      rw [if_neg (fun z => by have := (ltI (by omega) (by omega)).mp z; omega), x_X12_behindBlanks_L4, if_pos rfl, g7.1, hq]
    · rw [g7.1, g2, g7.2]
  | succ n ih =>
    intro p U1 σ u hn hU1 hp h hu
    have hl := h.2.2.1
    obtain ⟨V, rfl⟩ : ∃ V, U1 = V + 1 + 1 := ⟨U1 - 2, by omega⟩
    rw [x_X12_behindBlanks_L4, if_neg (by decide), h.at (by omega), b1_eq, V_isBlank h.2.2.2, b1_eq, ifz]
    cases hb : bP pB T p with
    | true =>
      have hpl := (rn_yes hb).1
      rw [if_pos rfl]
      unfold x_X12_behindBlanks_30 x_X12_behindBlanks_43
      rw [nI_1, if_pos ((ltI (by omega) (by omega)).mpr (by omega)), bbS_blank hb]
      exact ih (p + 1) (V + 1) σ u (by omega) (by omega) (by omega) h hu
    | false =>
      obtain ⟨q, u', τ, g1, g2, g3, g4, g5, g6⟩ := X12_behindComment hU h hp hu
      have g7 := g6 hb
      rw [if_neg (by decide), g1, b2_eq]
      unfold x_X12_behindBlanks_30 x_X12_behindBlanks_43
      by_cases hq : q = p
      · rw [if_pos hq] at g7
        refine ⟨τ, ?_, ?_, g3⟩
        · rw [if_neg (fun z => by have := (ltI (by omega) (by omega)).mp z; omega), x_X12_behindBlanks_L4, if_pos rfl, g7.1, hq]
        · rw [g7.1, g2, g7.2]
      · rw [if_neg hq] at g7
        rw [if_pos ((ltI (by omega) (by omega)).mpr (by omega)), g7]
        obtain ⟨υ, k1, k2, k3⟩ := ih q (V + 1) τ u' (by omega) (by omega) g5 (h.f1 g3 (by decide)) g2
        exact ⟨υ, k1, k2, f1_trans g3 k3⟩
theorem X12_behindBlanks {U p : Nat} {σ : SG} {T : List Nat} {u : Bool} (hU : 4000 < U) (h : LR σ T) (hp : p ≤ T.length) (hu : sI σ 1101 76 = zI u) : ∃ τ, x_X12_behindBlanks U 1101 (nI p) σ = some (nI (bbS T p u).1, τ) ∧ sI τ 1101 76 = zI (bbS T p u).2 ∧ f1 1101 [76] σ τ := by
  have hl := h.2.2.1
  exact X12_behindBlanks_L hU (T.length - p) p U σ u (by omega) (by omega) hp h hu
/-! ===== words: the spec, and the class ===== -/
def dg (h : Bool) (c : Nat) : Bool := if h then pH c else pD c
def dV (h : Bool) (c : Nat) : Int32 := if dg h c then nI (hexV c) else -1
def rl (f : Nat → Bool) (T : List Nat) (p : Nat) : List Nat := (T.drop p).takeWhile f
theorem rl_len (f : Nat → Bool) (T : List Nat) (p : Nat) : (rl f T p).length = rn f T p := rfl
theorem rl_no {f : Nat → Bool} {T : List Nat} {p : Nat} (h : bP f T p = false) : rl f T p = [] := List.eq_nil_of_length_eq_zero (rn_no h)
theorem rl_yes {f : Nat → Bool} {T : List Nat} {p c : Nat} (h : T[p]? = some c) (hf : f c = true) : rl f T p = c :: rl f T (p + 1) := by
  have hp := (List.getElem?_eq_some_iff.mp h)
  unfold rl
  rw [List.drop_eq_getElem_cons hp.1, List.takeWhile_cons, hp.2, hf]; try rfl
/-- a number's worth, held down at 2^40 as the class does -/
def cf (b : Nat) (A : Nat) (L : List Nat) : Nat := L.foldl (fun a c => min (a * b + hexV c) (2 ^ 40)) A
def bs (h : Bool) : Nat := if h then 16 else 10
theorem hexV_lt {h : Bool} {c : Nat} (hc : dg h c = true) : hexV c < 16 := by
  have key : ∀ c, c < 256 → pH c = true → hexV c < 16 := by decide +kernel
  have p1 : pH c = true := by
    cases h with
    | true => exact hc
    | false => unfold pH; have : pD c = true := hc; rw [this]; try rfl
  rcases Nat.lt_or_ge c 256 with q | q
  · exact key c q p1
  · exfalso; unfold pH pD at p1; simp at p1; omega
theorem W_digit {σ : SG} {w p : Nat} {T : List Nat} (hx : LX σ w T) (h : Bool) (hp : p < 2 ^ 31) : x_X10_digit w (nI p) (nI (bs h)) σ = some (match T[p]? with | some c => dV h c | none => -1) := by
  unfold x_X10_digit
  rw [hx.at hp, b1_eq]
  have key : ∀ h : Bool, ∀ c, c < 256 → (if nI c < 48 then x_X10_digit_26 0 (nI (bs h)) (nI c) σ0 else if 57 < nI c then x_X10_digit_26 0 (nI (bs h)) (nI c) σ0 else some (nI c - 48)) = some (dV h c) := by decide +kernel
  have key2 : ∀ h : Bool, (if (-1 : Int32) < 48 then x_X10_digit_26 0 (nI (bs h)) (-1) σ0 else if 57 < (-1 : Int32) then x_X10_digit_26 0 (nI (bs h)) (-1) σ0 else some (-1 - 48)) = some (-1) := by decide +kernel
  cases e : T[p]? with
  | none => rw [bA_none e]; exact key2 h
  | some c => rw [bA_some e]; exact key h c (hx.ok8 c (List.mem_of_getElem? e))
theorem dV_neg {h : Bool} {c : Nat} (hc : dg h c = false) : dV h c < 0 := by unfold dV; rw [hc, if_neg (by decide)]; decide
theorem dV_pos {h : Bool} {c : Nat} (hc : dg h c = true) : dV h c = nI (hexV c) := by unfold dV; rw [hc]; try rfl
theorem l40 : (1099511627776 : Int64) = lN (2 ^ 40) := rfl
theorem bs_le (h : Bool) : bs h ≤ 16 := by cases h <;> decide
theorem X10_digits_L {U w : Nat} {σ : SG} {T : List Nat} {k : Int64 → Int32 → Option (Int32 × SG)} {v1 v2 v3 : Int32} {h : Bool} (hx : LX σ w T) : ∀ (j p U1 A : Nat), p + j = T.length → j < U1 → A ≤ 2 ^ 40 →
    x_X10_addNumber_L65 U w k v1 v2 v3 (nI (bs h)) σ U1 (lN A) (nI p) = k (lN (cf (bs h) A (rl (dg h) T p))) (nI (p + rn (dg h) T p)) := by
  have hl := hx.2.2.2
  intro j
  induction j with
  | zero =>
    intro p U1 A hp hU hA
    obtain ⟨V, rfl⟩ : ∃ V, U1 = V + 1 := ⟨U1 - 1, by omega⟩
    have hb : bP (dg h) T p = false := by unfold bP; rw [List.getElem?_eq_none (by omega)]
    rw [x_X10_addNumber_L65, hx.2.2.1, if_neg (fun q => by have := (ltI (by omega) (by omega)).mp q; omega), rl_no hb, rn_no hb]; try rfl
  | succ j ih =>
    intro p U1 A hp hU hA
    obtain ⟨V, rfl⟩ : ∃ V, U1 = V + 1 := ⟨U1 - 1, by omega⟩
    have hpl : p < T.length := by omega
    have e := List.getElem?_eq_getElem hpl
    rw [x_X10_addNumber_L65, hx.2.2.1, if_pos ((ltI (by omega) (by omega)).mpr (by omega)), W_digit hx h (by omega), e]
    simp only
    rw [b1_eq, b1_eq]
    cases hd : dg h T[p] with
    | false =>
      have hb : bP (dg h) T p = false := by unfold bP; rw [e]; exact hd
      rw [if_pos (dV_neg hd), rl_no hb, rn_no hb]; try rfl
    | true =>
      have hb : bP (dg h) T p = true := by unfold bP; rw [e]; exact hd
      have hv := hexV_lt hd
      have hbs := bs_le h
      have hm : A * bs h ≤ 2 ^ 40 * 16 := Nat.mul_le_mul hA hbs
      rw [dV_pos hd, if_neg (nI_neg (by omega)), (rn_yes hb).2, rl_yes e hd, nI_l (by omega), nI_l (by omega), lN_mul, lN_add, l40]
      have em : lmin (lN (A * bs h + hexV T[p])) (lN (2 ^ 40)) = lN (min (A * bs h + hexV T[p]) (2 ^ 40)) := by
        unfold lmin
        by_cases q : 2 ^ 40 < A * bs h + hexV T[p]
        · rw [if_pos ((pk_lLT (by omega) (by omega)).mpr q), Nat.min_eq_right (by omega)]
        · rw [if_neg (fun z => q ((pk_lLT (by omega) (by omega)).mp z)), Nat.min_eq_left (by omega)]
      rw [em, nI_1, ih (p + 1) V _ (by omega) (by omega) (Nat.min_le_right _ _)]
      congr 2; omega
/-- the rows of words -/
abbrev Wd : Type := Nat × Nat × Nat × Int64
def WA (σ : SG) (w : Nat) (Ws : List Wd) : Prop := sI σ w 5 = nI Ws.length ∧ Ws.length ≤ 701 ∧ ∀ i x, Ws[i]? = some x → sI σ (w + 1) i = nI x.1 ∧ sI σ (w + 2) i = nI x.2.1 ∧ sI σ (w + 3) i = nI x.2.2.1 ∧ sL σ (w + 4) i = x.2.2.2
def fWd (w : Nat) (K : List Nat) (σ τ : SG) : Prop := (∀ b, b < w ∨ w + 4 < b → sm σ τ b) ∧ (∀ k, k ∉ K → sI τ w k = sI σ w k) ∧ (∀ k, sL τ w k = sL σ w k) ∧ ∀ k, sP τ w k = sP σ w k
theorem fWd_refl (w : Nat) (K : List Nat) (σ : SG) : fWd w K σ σ := ⟨fun b _ => sm_refl σ b, fun _ _ => rfl, fun _ => rfl, fun _ => rfl⟩
theorem fWd_trans {w : Nat} {K : List Nat} {σ τ υ : SG} (h : fWd w K σ τ) (h' : fWd w K τ υ) : fWd w K σ υ := ⟨fun b hb => sm_trans (h.1 b hb) (h'.1 b hb), fun k hk => (h'.2.1 k hk).trans (h.2.1 k hk), fun k => (h'.2.2.1 k).trans (h.2.2.1 k), fun k => (h'.2.2.2 k).trans (h.2.2.2 k)⟩
theorem fWd_f1 {w : Nat} {K J : List Nat} {σ τ : SG} (h : f1 w K σ τ) (hs : ∀ k ∈ K, k ∈ J) : fWd w J σ τ := ⟨fun b hb => h.1 b (by omega), fun k hk => h.2.1 k (fun q => hk (hs k q)), h.2.2.1, h.2.2.2⟩
theorem fWd_mono {w : Nat} {K J : List Nat} {σ τ : SG} (h : fWd w K σ τ) (hs : ∀ k ∈ K, k ∈ J) : fWd w J σ τ := ⟨h.1, fun k hk => h.2.1 k (fun q => hk (hs k q)), h.2.2⟩
theorem LX.fWd {σ τ : SG} {w : Nat} {T : List Nat} {K : List Nat} (h : LX σ w T) (hf : fWd w K σ τ) (h6 : 6 ∉ K) : LX τ w T := by
  have := h.w
  exact ⟨h.1, h.2.1.sm (hf.1 _ (by omega)) (hf.1 _ (by omega)), (hf.2.1 6 h6).trans h.2.2.1, h.2.2.2⟩
theorem WA.f1 {σ τ : SG} {w : Nat} {Ws : List Wd} {K : List Nat} (h : WA σ w Ws) (hf : f1 w K σ τ) (h5 : 5 ∉ K) : WA τ w Ws := by
  refine ⟨(hf.2.1 5 h5).trans h.1, h.2.1, fun i x hi => ?_⟩
  obtain ⟨a1, a2, a3, a4⟩ := h.2.2 i x hi
  exact ⟨((hf.1 _ (by omega)) i).1.trans a1, ((hf.1 _ (by omega)) i).1.trans a2, ((hf.1 _ (by omega)) i).1.trans a3, ((hf.1 _ (by omega)) i).2.1.trans a4⟩
theorem l701 : (701 : Int32) = nI 701 := rfl
theorem X10_push {w : Nat} {σ : SG} {Ws : List Wd} {kd s e : Nat} {v : Int64} (h : WA σ w Ws) (hl : Ws.length < 701) (hk : kd < 6) : ∃ τ, x_X10_push w (nI kd) (nI s) (nI e) v σ = some (nI (if kd = 5 then s else e), τ) ∧ WA τ w (Ws ++ [(kd, s, e, v)]) ∧ fWd w [5] σ τ := by
  obtain ⟨h1, h2, h3⟩ := h
  have hc : sI σ w 5 < 701 := by rw [h1, l701]; exact (ltI (by omega) (by omega)).mpr hl
  refine ⟨uI (uL (uI (uI (uI σ (w + 1) Ws.length (nI kd)) (w + 2) Ws.length (nI s)) (w + 3) Ws.length (nI e)) (w + 4) Ws.length v) w 5 (nI (Ws.length + 1)), ?_, ⟨?_, ?_, ?_⟩, ?_⟩
  · unfold x_X10_push
    rw [if_neg (by rw [h1]; exact nI_neg (by omega)), if_pos hc, if_pos hc, if_pos hc, if_pos hc, h1, ix_in hl (by decide), sb_eq, sI_o (Or.inl (by omega)), h1, ix_in hl (by decide), sb_eq, sI_o (Or.inl (by omega)), sI_o (Or.inl (by omega)), h1, ix_in hl (by decide), sb_eq, sI_o (Or.inl (by omega)), sI_o (Or.inl (by omega)), sI_o (Or.inl (by omega)), h1, ix_in hl (by decide), sb_eq, sb_eq, sI_uL, sI_o (Or.inl (by omega)), sI_o (Or.inl (by omega)), sI_o (Or.inl (by omega)), h1, nI_1, show (5 : Int32) = nI 5 from rfl]
    by_cases q : kd = 5
    · subst q; rw [if_pos rfl, if_pos rfl]
    · rw [if_neg (fun z => q ((nI_eq (a := kd) (b := 5) (by omega) (by decide)).mp z)), if_neg q]
  · rw [sI_s, List.length_append]; try rfl
  · rw [List.length_append, List.length_singleton]; omega
  · intro i x hi
    by_cases hj : i = Ws.length
    · subst hj
      rw [List.getElem?_append_right (Nat.le_refl _)] at hi
      simp at hi
      subst hi
      refine ⟨?_, ?_, ?_, ?_⟩
      · rw [sI_o (Or.inl (by omega)), sI_uL, sI_o (Or.inl (by omega)), sI_o (Or.inl (by omega)), sI_s]
      · rw [sI_o (Or.inl (by omega)), sI_uL, sI_o (Or.inl (by omega)), sI_s]
      · rw [sI_o (Or.inl (by omega)), sI_uL, sI_s]
      · rw [sL_uI, sL_s]
    · have hi' : Ws[i]? = some x := by
        rcases Nat.lt_or_ge i Ws.length with q | q
        · rw [List.getElem?_append_left q] at hi; exact hi
        · rw [List.getElem?_eq_none (by rw [List.length_append, List.length_singleton]; omega)] at hi; cases hi
      obtain ⟨a1, a2, a3, a4⟩ := h3 i x hi'
      refine ⟨?_, ?_, ?_, ?_⟩
      · rw [sI_o (Or.inl (by omega)), sI_uL, sI_o (Or.inl (by omega)), sI_o (Or.inl (by omega)), sI_o (Or.inr hj), a1]
      · rw [sI_o (Or.inl (by omega)), sI_uL, sI_o (Or.inl (by omega)), sI_o (Or.inr hj), sI_o (Or.inl (by omega)), a2]
      · rw [sI_o (Or.inl (by omega)), sI_uL, sI_o (Or.inr hj), sI_o (Or.inl (by omega)), sI_o (Or.inl (by omega)), a3]
      · rw [sL_uI, sL_o (Or.inr hj), sL_uI, sL_uI, sL_uI, a4]
  · refine ⟨fun b hb => ?_, fun k hk => ?_, fun k => ?_, fun k => rfl⟩
    · exact sm_trans (sm_trans (sm_trans (sm_trans (sm_uI (by omega)) (sm_uI (by omega))) (sm_uI (by omega))) (sm_uL (by omega))) (sm_uI (by omega))
    · rw [sI_o (Or.inr (by simpa using hk)), sI_uL, sI_o (Or.inl (by omega)), sI_o (Or.inl (by omega)), sI_o (Or.inl (by omega))]
    · rw [sL_uI, sL_o (Or.inl (by omega)), sL_uI, sL_uI, sL_uI]
/-! which word of a list -/
def wI (S : List Nat) : List Nat → Nat → Nat → Bool → Option Nat
  | [], i, m, z => if z = true ∧ m = S.length then some i else none
  | c :: r, i, m, z => if c = 32 then (if z = true ∧ m = S.length then some i else wI S r (i + 1) 0 true) else wI S r i (m + 1) (z && decide (S[m]? = some c))
def oI (o : Option Nat) : Int32 := match o with
  | some i => nI i
  | none => -1
theorem tby_ok : ∀ k, k < 24 → ∀ c ∈ tby.getD k [], c < 256 := by decide +kernel
theorem tlen_le : ∀ k, tlen k ≤ 200 := by
  intro k
  rcases Nat.lt_or_ge k 24 with h | h
  · exact (by decide +kernel : ∀ k, k < 24 → tlen k ≤ 200) k h
  · unfold tlen; rw [List.getD_eq_getElem?_getD, List.getElem?_eq_none (by exact h)]; decide
theorem l32 : (32 : Int32) = nI 32 := rfl
theorem X0_wordIn_L {U a k s e : Nat} {σ : SG} {T : List Nat} {z : Int32} (hR : RB σ a T z) (hk : k < 24) (hse : s ≤ e) (he : e ≤ T.length) (hT : T.length ≤ 4000) : ∀ (j c U1 i m : Nat) (q : Bool), c + j = tlen k → j + 1 < U1 → m ≤ c → (q = true → m ≤ e - s) → i ≤ c →
    x_X0_wordIn_L12 U a k (nI s) (nI e) σ U1 (nI i) (nI (s + m)) (zI q) (nI c) = some (oI (wI ((T.drop s).take (e - s)) ((tby.getD k []).drop c) i m q)) := by
  have hok : ok8 T := hR.2.2.2.2
  have htl := tlen_le k
  have hSl : ((T.drop s).take (e - s)).length = e - s := by rw [List.length_take, List.length_drop]; omega
  intro j
  induction j with
  | zero =>
    intro c U1 i m q hc hU hm hq hi
    obtain ⟨V, rfl⟩ : ∃ V, U1 = V + 1 + 1 := ⟨U1 - 2, by omega⟩
    rw [x_X0_wordIn_L12, if_neg (fun z => by have := (ltI (by omega) (by omega)).mp z; omega), if_neg (fun z => by have := (ltI (by omega) (by omega)).mp z; omega), show (tby.getD k []).drop c = [] from List.drop_eq_nil_of_le (by show tlen k ≤ c; omega), wI, hSl]
    unfold x_X0_wordIn_41 x_X0_wordIn_99 x_X0_wordIn_108
    rw [if_pos rfl, ifz]
    have last : x_X0_wordIn_L12 U a k (nI s) (nI e) σ (V + 1) (nI i + 1) (nI s) 1 (nI c + 1) = some (-1) := by
      rw [nI_1, nI_1, x_X0_wordIn_L12, if_pos ((ltI (by omega) (by omega)).mpr (by omega))]
    cases q with
    | false => rw [if_neg (by decide), if_neg (fun z => by cases z.1)]; exact last
    | true =>
      rw [if_pos rfl]
      by_cases hm2 : s + m = e
      · rw [if_pos (by rw [hm2]), if_pos ⟨rfl, by omega⟩]; try rfl
      · rw [if_neg (fun z => hm2 ((nI_eq (by omega) (by omega)).mp z)), if_neg (fun z => hm2 (by omega))]; exact last
  | succ j ih =>
    intro c U1 i m q hc hU hm hq hi
    obtain ⟨V, rfl⟩ : ∃ V, U1 = V + 1 := ⟨U1 - 1, by omega⟩
    have hcl : c < (tby.getD k []).length := by show c < tlen k; omega
    have hch : (tby.getD k [])[c] < 256 := tby_ok k hk _ (List.getElem_mem hcl)
    have htc : tchr k c = nI (tby.getD k [])[c] := by
      unfold tchr; rw [List.getD_eq_getElem?_getD (l := tby.getD k []), List.getElem?_eq_getElem hcl]; try rfl
    rw [x_X0_wordIn_L12, if_neg (fun z => by have := (ltI (by omega) (by omega)).mp z; omega), if_pos ((ltI (by omega) (by omega)).mpr (by omega)), ix_in (by omega) (by omega), htc, List.drop_eq_getElem_cons hcl, wI, hSl]
    generalize (tby.getD k [])[c] = ch at hch
    unfold x_X0_wordIn_41 x_X0_wordIn_99 x_X0_wordIn_76 x_X0_wordIn_77 x_X0_wordIn_108
    by_cases h32 : ch = 32
    · rw [if_pos (by rw [h32]; rfl), if_pos h32, ifz]
      have next : x_X0_wordIn_L12 U a k (nI s) (nI e) σ V (nI i + 1) (nI s) 1 (nI c + 1) = some (oI (wI ((T.drop s).take (e - s)) ((tby.getD k []).drop (c + 1)) (i + 1) 0 true)) := by
        rw [nI_1, nI_1]
        exact ih (c + 1) V (i + 1) 0 true (by omega) (by omega) (by omega) (by omega) (by omega)
      cases q with
      | false => rw [if_neg (by decide), if_neg (fun z => by cases z.1)]; exact next
      | true =>
        rw [if_pos rfl]
        by_cases hm2 : s + m = e
        · rw [if_pos (by rw [hm2]), if_pos ⟨rfl, by omega⟩]; try rfl
        · rw [if_neg (fun z => hm2 ((nI_eq (by omega) (by omega)).mp z)), if_neg (fun z => hm2 (by omega))]; exact next
    · rw [if_neg (show ¬ nI ch = 32 from fun z => h32 ((nI_eq (a := ch) (b := 32) (by omega) (by decide)).mp z)), if_neg h32, ifz]
      have hS : ∀ m', m' < e - s → ((T.drop s).take (e - s))[m']? = T[s + m']? := by
        intro m' h'
        rw [List.getElem?_take_of_lt h', List.getElem?_drop]
      have nextF : x_X0_wordIn_L12 U a k (nI s) (nI e) σ V (nI i) (nI (s + m) + 1) 0 (nI c + 1) = some (oI (wI ((T.drop s).take (e - s)) ((tby.getD k []).drop (c + 1)) i (m + 1) false)) := by
        rw [nI_1, nI_1]
        exact ih (c + 1) V i (m + 1) false (by omega) (by omega) (by omega) (fun z => by cases z) (by omega)
      cases q with
      | false => rw [if_neg (by decide), Bool.false_and]; exact nextF
      | true =>
        rw [if_pos rfl, Bool.true_and]
        have hmle := hq rfl
        by_cases hm2 : s + m < e
        · rw [if_pos ((ltI (by omega) (by omega)).mpr hm2), X0_at hR (by omega), b1_eq, ifA hok hch, hS m (by omega)]
          by_cases ht : T[s + m]? = some ch
          · rw [if_pos ht, decide_eq_true ht, nI_1, nI_1]
            exact ih (c + 1) V i (m + 1) true (by omega) (by omega) (by omega) (fun _ => by omega) (by omega)
          · rw [if_neg ht, decide_eq_false ht]; exact nextF
        · rw [if_neg (fun z => hm2 ((ltI (by omega) (by omega)).mp z)), List.getElem?_eq_none (by rw [hSl]; omega)]
          exact nextF
theorem X0_wordIn {U a k s e : Nat} {σ : SG} {T : List Nat} {z : Int32} (hU : 4000 < U) (hR : RB σ a T z) (hk : k < 24) (hse : s ≤ e) (he : e ≤ T.length) : x_X0_wordIn U a k (nI s) (nI e) σ = some (oI (wI ((T.drop s).take (e - s)) (tby.getD k []) 0 0 true)) := by
  have hT : T.length ≤ 4000 := Nat.le_trans hR.2.2.1 (ln_small _)
  have htl := tlen_le k
  have := X0_wordIn_L (U := U) hR hk hse he hT (tlen k) 0 U 0 0 true (by omega) (by omega) (by omega) (by omega) (by omega)
  rw [List.drop_zero, Nat.add_zero] at this
  exact this
/-! ===== the class's splitting into words ===== -/
def slc (T : List Nat) (s e : Nat) : List Nat := (T.drop s).take (e - s)
/-- a name's or a text's code -/
def cdS (S : List Nat) : Int32 := match wI S (tby.getD 3 []) 0 0 true with
  | some i => nI i
  | none => match wI S (tby.getD 4 []) 0 0 true with
    | some i => nI (20 + i)
    | none => match wI S (tby.getD 5 []) 0 0 true with
      | some _ => 40
      | none => -1
theorem wI_le {S : List Nat} : ∀ (r : List Nat) (i m : Nat) (z : Bool) (x : Nat), wI S r i m z = some x → x ≤ i + r.length := by
  intro r
  induction r with
  | nil =>
    intro i m z x h
    rw [wI] at h
    split at h
    · cases h; simp
    · cases h
  | cons c r ih =>
    intro i m z x h
    rw [wI] at h
    rw [List.length_cons]
    split at h
    · split at h
      · cases h; omega
      · have := ih _ _ _ _ h; omega
    · have := ih _ _ _ _ h; omega
theorem X10_codeBetween {U w s e : Nat} {σ : SG} {T : List Nat} (hU : 4000 < U) (h : LX σ w T) (hse : s ≤ e) (he : e ≤ T.length) : x_X10_codeBetween U w (nI s) (nI e) σ = some (cdS (slc T s e)) := by
  unfold x_X10_codeBetween cdS
  rw [X0_wordIn hU h.2.1 (by decide) hse he, b1_eq]
  show _ = some (match wI (slc T s e) _ 0 0 true with | some i => _ | none => _)
  unfold slc
  have bnd : ∀ k x, wI ((T.drop s).take (e - s)) (tby.getD k []) 0 0 true = some x → x ≤ 200 := fun k x hx => by
    have := wI_le _ _ _ _ _ hx
    have h2 : (tby.getD k []).length ≤ 200 := tlen_le k
    omega
  cases h1 : wI ((T.drop s).take (e - s)) (tby.getD 3 []) 0 0 true with
  | some i => rw [if_neg (by show ¬ nI i < 0; have := bnd _ _ h1; exact nI_neg (by omega))]; try rfl
  | none =>
    rw [if_pos (by decide), X0_wordIn hU h.2.1 (by decide) hse he, b1_eq]
    cases h2 : wI ((T.drop s).take (e - s)) (tby.getD 4 []) 0 0 true with
    | some i => rw [if_neg (by show ¬ nI i < 0; have := bnd _ _ h2; exact nI_neg (by omega))]; exact congrArg some (nI_add 20 i)
    | none =>
      rw [if_pos (by decide), X0_wordIn hU h.2.1 (by decide) hse he, b1_eq]
      cases h3 : wI ((T.drop s).take (e - s)) (tby.getD 5 []) 0 0 true with
      | some i => rw [if_neg (by show ¬ nI i < 0; have := bnd _ _ h3; exact nI_neg (by omega))]
      | none => rw [if_pos (by decide)]
/-- the number that begins at p: is it written by sixteen; where its digits begin and end; is it right -/
def hx (T : List Nat) (p : Nat) : Bool := decide (T[p]? = some 48 ∧ T[p + 1]? = some 120)
def nbg (T : List Nat) (p : Nat) : Nat := if hx T p then p + 2 else p
def nen (T : List Nat) (p : Nat) : Nat := nbg T p + rn (dg (hx T p)) T (nbg T p)
def nok (T : List Nat) (p : Nat) : Bool := decide (nbg T p < nen T p) && !(!(hx T p) && decide (T[p]? = some 48) && decide (p + 1 < nen T p)) && !(bP pW T (nen T p))
def nvC (T : List Nat) (p : Nat) : Nat := cf (bs (hx T p)) 0 (rl (dg (hx T p)) T (nbg T p))
theorem nbg_le {T : List Nat} {p : Nat} (hp : p < T.length) : nbg T p ≤ T.length ∧ p ≤ nbg T p := by
  unfold nbg
  cases h : hx T p with
  | false => rw [if_neg (by decide)]; omega
  | true =>
    unfold hx at h
    have := (List.getElem?_eq_some_iff.mp (of_decide_eq_true h).2).1
    rw [if_pos rfl]; omega
theorem nen_le {T : List Nat} {p : Nat} (hp : p < T.length) : nen T p ≤ T.length ∧ nbg T p ≤ nen T p := by
  unfold nen
  exact ⟨rn_le' (nbg_le hp).1, by omega⟩
theorem l48 : (48 : Int32) = nI 48 := rfl
theorem l120 : (120 : Int32) = nI 120 := rfl
theorem l34 : (34 : Int32) = nI 34 := rfl
theorem l92 : (92 : Int32) = nI 92 := rfl
theorem X10_num_fin {U w p e : Nat} {σ : SG} {v : Int64} {Ws : List Wd} (hW : WA σ w Ws) (hl : Ws.length < 701) (s0 : Bool) : ∃ τ, x_X10_addNumber_178 U w (nI p) v (nI e) (zI s0) σ = some (nI (if s0 then e else p), τ) ∧ WA τ w (Ws ++ [(if s0 then 2 else 5, p, e, v)]) ∧ fWd w [5] σ τ := by
  unfold x_X10_addNumber_178 x_X10_addNumber_191
  rw [ifz]
  cases s0 with
  | false =>
    obtain ⟨τ, g1, g2, g3⟩ := X10_push (kd := 5) (s := p) (e := e) (v := v) hW hl (by decide)
    refine ⟨τ, ?_, g2, g3⟩
    rw [if_neg (by decide), show (5 : Int32) = nI 5 from rfl, g1, b2_eq]; try rfl
  | true =>
    obtain ⟨τ, g1, g2, g3⟩ := X10_push (kd := 2) (s := p) (e := e) (v := v) hW hl (by decide)
    refine ⟨τ, ?_, g2, g3⟩
    rw [if_pos rfl, show (2 : Int32) = nI 2 from rfl, g1, b2_eq]; try rfl
theorem X10_num_mid {U w p g e : Nat} {σ : SG} {T : List Nat} {v : Int64} (h : LX σ w T) (hg : g ≤ T.length) (he : e ≤ T.length) (z0 : Bool) : x_X10_addNumber_145 U w (nI p) (nI g) v (nI e) (zI z0) σ = x_X10_addNumber_178 U w (nI p) v (nI e) (zI (decide (g < e) && !z0 && !(bP pW T e))) σ := by
  have hlen := h.2.2.2
  unfold x_X10_addNumber_145 x_X10_addNumber_177
  rw [h.at (by omega), b1_eq, W_isWordByte h.ok8, b1_eq, ifz, ifz]
  by_cases q : g < e
  · rw [if_pos ((ltI (by omega) (by omega)).mpr q), decide_eq_true q]
    cases z0 <;> cases bP pW T e <;> simp [zI]
  · rw [if_neg (fun z => q ((ltI (by omega) (by omega)).mp z)), decide_eq_false q]; simp [zI]
theorem X10_num_front {U w p g e : Nat} {σ : SG} {T : List Nat} {v : Int64} (h : LX σ w T) (hp : p < T.length) (hg : g ≤ T.length) (he : e ≤ T.length) (hh : Bool) : x_X10_addNumber_115 U w (nI p) (zI hh) (nI g) v (nI e) σ = x_X10_addNumber_178 U w (nI p) v (nI e) (zI (decide (g < e) && !(!hh && decide (T[p]? = some 48) && decide (p + 1 < e)) && !(bP pW T e))) σ := by
  have hlen := h.2.2.2
  unfold x_X10_addNumber_115 x_X10_addNumber_144
  rw [h.at (by omega), b1_eq, l48, ifA h.ok8 (by decide), ifz, nI_1]
  have m1 := X10_num_mid (U := U) (p := p) (v := v) h hg he true
  have m0 := X10_num_mid (U := U) (p := p) (v := v) h hg he false
  rw [zI1] at m1
  rw [zI0] at m0
  rw [m1, m0]
  cases hh with
  | true => rw [if_pos rfl]; simp
  | false =>
    rw [if_neg (by decide)]
    by_cases c1 : T[p]? = some 48
    · rw [if_pos c1]
      by_cases c2 : p + 1 < e
      · rw [if_pos ((ltI (by omega) (by omega)).mpr c2)]; simp [c1, c2]
      · rw [if_neg (fun z => c2 ((ltI (by omega) (by omega)).mp z))]; simp [c1, c2]
    · rw [if_neg c1]; simp [c1]
theorem X10_num_45 {U w p g : Nat} {σ : SG} {T : List Nat} (hU : 4000 < U) (h : LX σ w T) (hp : p < T.length) (hg : g ≤ T.length) (hh : Bool) : x_X10_addNumber_45 U w (nI p) (zI hh) (nI g) σ = x_X10_addNumber_115 U w (nI p) (zI hh) (nI g) (lN (cf (bs hh) 0 (rl (dg hh) T g))) (nI (g + rn (dg hh) T g)) σ := by
  have hlen := h.2.2.2
  have e0 : x_X10_addNumber_45 U w (nI p) (zI hh) (nI g) σ = x_X10_addNumber_57 U w (nI p) (zI hh) (nI g) (nI (bs hh)) σ := by
    unfold x_X10_addNumber_45
    rw [ifz]
    try (cases hh <;> rfl)
  rw [e0]
  unfold x_X10_addNumber_57
  exact X10_digits_L (U := U) (k := fun w15 w16 => x_X10_addNumber_115 U w (nI p) (zI hh) (nI g) w15 w16 σ) h (T.length - g) g U 0 (by omega) (by omega) (Nat.zero_le _)
theorem X10_addNumber {U w p : Nat} {σ : SG} {T : List Nat} {Ws : List Wd} (hU : 4000 < U) (h : LX σ w T) (hp : p < T.length) (hW : WA σ w Ws) (hl : Ws.length < 701) :
    ∃ τ, x_X10_addNumber U w (nI p) σ = some (nI (if nok T p then nen T p else p), τ) ∧ WA τ w (Ws ++ [(if nok T p then 2 else 5, p, nen T p, lN (nvC T p))]) ∧ fWd w [5] σ τ := by
  have hlen := h.2.2.2
  have hok := h.ok8
  obtain ⟨hb1, hb2⟩ := nbg_le hp
  obtain ⟨he1, he2⟩ := nen_le hp
  obtain ⟨τ, g1, g2, g3⟩ := X10_num_fin (U := U) (p := p) (e := nen T p) (v := lN (nvC T p)) hW hl (nok T p)
  refine ⟨τ, ?_, g2, g3⟩
  have e1 : x_X10_addNumber U w (nI p) σ = x_X10_addNumber_45 U w (nI p) (zI (hx T p)) (nI (nbg T p)) σ := by
    unfold x_X10_addNumber x_X10_addNumber_32 x_X10_addNumber_33
    rw [h.at (by omega), b1_eq, l48, ifA hok (by decide), nI_1, h.at (by omega), b1_eq, l120, ifA hok (by decide)]
    have e2 : nI p + 2 = nI (p + 2) := nI_add p 2
    have nh : hx T p = false → nbg T p = p := fun q => by unfold nbg; rw [q, if_neg (by decide)]
    have yh : hx T p = true → nbg T p = p + 2 := fun q => by unfold nbg; rw [q, if_pos rfl]
    by_cases c1 : T[p]? = some 48
    · rw [if_pos c1]
      by_cases c2 : T[p + 1]? = some 120
      · have hh : hx T p = true := by unfold hx; exact decide_eq_true ⟨c1, c2⟩
        rw [if_pos c2, if_neg (by decide), e2, yh hh, hh, zI1]
      · have hh : hx T p = false := by unfold hx; exact decide_eq_false (fun z => c2 z.2)
        rw [if_neg c2, if_pos rfl, nh hh, hh, zI0]
    · have hh : hx T p = false := by unfold hx; exact decide_eq_false (fun z => c1 z.1)
      rw [if_neg c1, if_pos rfl, nh hh, hh, zI0]
  rw [e1, X10_num_45 hU h hp hb1]
  show x_X10_addNumber_115 U w (nI p) (zI (hx T p)) (nI (nbg T p)) (lN (nvC T p)) (nI (nen T p)) σ = _
  rw [X10_num_front h hp hb1 he1]
  exact g1
/-- where a text's bytes end -/
def ten (T : List Nat) (p : Nat) : Nat := p + 1 + rn pT T (p + 1)
theorem pT_bad : ∀ c, c < 256 → (pT c = true ↔ ¬ nI c = 34 ∧ ¬ nI c < 32 ∧ ¬ 126 < nI c ∧ ¬ nI c = 92) := by decide +kernel
theorem X10_text_L {U w : Nat} {σ : SG} {T : List Nat} {k27 : Int32 → Option (Int32 × SG)} {k64 : Option (Int32 × SG)} {v1 : Int32} (h : LX σ w T) : ∀ (j p U1 : Nat), p + j = T.length → j < U1 →
    x_X10_addText_L4 U w k27 k64 k64 v1 σ U1 (nI p) = if T[p + rn pT T p]? = some 34 then k27 (nI (p + rn pT T p)) else k64 := by
  have hl := h.2.2.2
  intro j
  induction j with
  | zero =>
    intro p U1 hp hU
    obtain ⟨V, rfl⟩ : ∃ V, U1 = V + 1 := ⟨U1 - 1, by omega⟩
    rw [x_X10_addText_L4, h.2.2.1, if_neg (fun q => by have := (ltI (by omega) (by omega)).mp q; omega), rn_ge (by omega), if_neg (by rw [List.getElem?_eq_none (by omega)]; exact fun z => by cases z)]
  | succ j ih =>
    intro p U1 hp hU
    obtain ⟨V, rfl⟩ : ∃ V, U1 = V + 1 := ⟨U1 - 1, by omega⟩
    have hpl : p < T.length := by omega
    have e := List.getElem?_eq_getElem hpl
    have hc := h.ok8 _ (List.mem_of_getElem? e)
    rw [x_X10_addText_L4, h.2.2.1, if_pos ((ltI (by omega) (by omega)).mpr (by omega)), h.at (by omega), b1_eq, bA_some e]
    cases hb : pT T[p] with
    | true =>
      obtain ⟨a1, a2, a3, a4⟩ := (pT_bad _ hc).mp hb
      have hbp : bP pT T p = true := by unfold bP; rw [e]; exact hb
      rw [if_neg a1, if_neg a2, if_neg a3, if_neg a4, nI_1, ih (p + 1) V (by omega) (by omega), (rn_yes hbp).2, show p + (rn pT T (p + 1) + 1) = p + 1 + rn pT T (p + 1) by omega]
    | false =>
      have hbp : bP pT T p = false := by unfold bP; rw [e]; exact hb
      rw [rn_no hbp, Nat.add_zero, e]
      by_cases q : T[p] = 34
      · rw [if_pos (by rw [q]; rfl), if_pos (by rw [q])]
      · rw [if_neg (show ¬ nI T[p] = 34 from fun z => q ((nI_eq (a := T[p]) (b := 34) (by omega) (by decide)).mp z)), if_neg (fun z => q (Option.some.inj z))]
        have hn := fun z => Bool.false_ne_true (hb.symm.trans ((pT_bad _ hc).mpr z))
        by_cases q2 : nI T[p] < 32
        · rw [if_pos q2]
        · rw [if_neg q2]
          by_cases q3 : 126 < nI T[p]
          · rw [if_pos q3]
          · rw [if_neg q3]
            by_cases q4 : nI T[p] = 92
            · rw [if_pos q4]
            · exact absurd ⟨show ¬ nI T[p] = 34 from fun z => q ((nI_eq (a := T[p]) (b := 34) (by omega) (by decide)).mp z), q2, q3, q4⟩ hn
theorem X10_addText {U w p : Nat} {σ : SG} {T : List Nat} {Ws : List Wd} (hU : 4000 < U) (h : LX σ w T) (hp : p < T.length) (hW : WA σ w Ws) (hl : Ws.length < 701) :
    ∃ τ, x_X10_addText U w (nI p) σ = some (nI (if T[ten T p]? = some 34 then ten T p + 1 else p), τ) ∧ WA τ w (Ws ++ [if T[ten T p]? = some 34 then (3, p, ten T p + 1, Int32.toInt64 (cdS (slc T (p + 1) (ten T p)))) else (5, p, p, -1)]) ∧ fWd w [5] σ τ := by
  have hlen := h.2.2.2
  unfold x_X10_addText
  rw [nI_1, X10_text_L h (T.length - (p + 1)) (p + 1) U (by omega) (by omega)]
  show ∃ τ, (if T[ten T p]? = some 34 then _ else _) = _ ∧ _ ∧ _
  by_cases q : T[ten T p]? = some 34
  · have hq := (List.getElem?_eq_some_iff.mp q).1
    rw [if_pos q, if_pos q, if_pos q]
    obtain ⟨τ, g1, g2, g3⟩ := X10_push (kd := 3) (s := p) (e := ten T p + 1) (v := Int32.toInt64 (cdS (slc T (p + 1) (ten T p)))) hW hl (by decide)
    refine ⟨τ, ?_, g2, g3⟩
    show b1 (x_X10_codeBetween U w (nI (p + 1)) (nI (ten T p)) σ) (fun v10 => b2 (x_X10_push w 3 (nI p) (nI (ten T p) + 1) (Int32.toInt64 v10) σ) fun v12 σ13 => some (v12, σ13)) = _
    rw [X10_codeBetween hU h (by unfold ten; omega) (by omega), b1_eq, nI_1, show (3 : Int32) = nI 3 from rfl, g1, b2_eq]; try rfl
  · rw [if_neg q, if_neg q, if_neg q]
    obtain ⟨τ, g1, g2, g3⟩ := X10_push (kd := 5) (s := p) (e := p) (v := -1) hW hl (by decide)
    refine ⟨τ, ?_, g2, g3⟩
    unfold x_X10_addText_73
    rw [show (5 : Int32) = nI 5 from rfl, g1, b2_eq]; try rfl
/-! ===== the list of words ===== -/
/-- the word at a place behind blanks: kind, start, end, and what the class notes of it -/
def lx (T : List Nat) (p : Nat) (u : Bool) : Wd := match T[p]? with
  | none => (if u then 5 else 0, p, p, -1)
  | some c => if pL c then (1, p, p + rn pW T p, Int32.toInt64 (cdS (slc T p (p + rn pW T p)))) else if pD c then (if nok T p then 2 else 5, p, nen T p, lN (nvC T p)) else if c = 34 then (if T[ten T p]? = some 34 then (3, p, ten T p + 1, Int32.toInt64 (cdS (slc T (p + 1) (ten T p)))) else (5, p, p, -1)) else (4, p, p + 1, Int32.toInt64 (nI c))
theorem pL_W : ∀ c, pL c = true → pW c = true := fun c h => by unfold pW; rw [h]; try rfl
theorem lx_start (T : List Nat) (p : Nat) (u : Bool) : (lx T p u).2.1 = p := by
  unfold lx
  cases T[p]? with
  | none => rfl
  | some c => simp only; split; rfl; split; rfl; split; split <;> rfl; try rfl
theorem lx_kind (T : List Nat) (p : Nat) (u : Bool) : (lx T p u).1 < 6 := by
  unfold lx
  cases T[p]? with
  | none => simp only; split <;> decide
  | some c =>
    simp only
    split
    · show 1 < 6; decide
    · split
      · show (if nok T p = true then 2 else 5) < 6; split <;> decide
      · split
        · split
          · show 3 < 6; decide
          · show 5 < 6; decide
        · show 4 < 6; decide
theorem lx_end {T : List Nat} {p : Nat} {u : Bool} (h0 : (lx T p u).1 ≠ 0) (h5 : (lx T p u).1 ≠ 5) : p < (lx T p u).2.2.1 ∧ (lx T p u).2.2.1 ≤ T.length ∧ ∃ c, T[p]? = some c := by
  unfold lx at *
  cases e : T[p]? with
  | none => rw [e] at h0 h5; simp only at h0 h5; cases u <;> simp at h0 h5
  | some c =>
    have hp := (List.getElem?_eq_some_iff.mp e).1
    rw [e] at h0 h5
    simp only at h0 h5 ⊢
    refine ⟨?_, ?_, c, rfl⟩
    all_goals
      by_cases q1 : pL c = true
      · rw [if_pos q1]
        have hb : bP pW T p = true := by unfold bP; rw [e]; exact pL_W c q1
        have := (rn_yes hb).2
        have := rn_le' (f := pW) (T := T) (p := p) (by omega)
        simp only; omega
      · rw [if_neg q1] at h0 h5 ⊢
        by_cases q2 : pD c = true
        · rw [if_pos q2] at h0 h5 ⊢
          have h1 := nen_le hp
          have h2 := nbg_le hp
          simp only at h5 ⊢
          cases hn : nok T p with
          | false => rw [hn] at h5; simp at h5
          | true =>
            have : nbg T p < nen T p := by unfold nok at hn; simp at hn; exact hn.1.1
            omega
        · rw [if_neg q2] at h0 h5 ⊢
          by_cases q3 : c = 34
          · rw [if_pos q3] at h0 h5 ⊢
            by_cases q4 : T[ten T p]? = some 34
            · rw [if_pos q4]
              have := (List.getElem?_eq_some_iff.mp q4).1
              have h3 : p + 1 ≤ ten T p := by unfold ten; omega
              simp only; omega
            · rw [if_neg q4] at h5; simp at h5
          · rw [if_neg q3]; simp only; omega
theorem lx_0 {T : List Nat} {p : Nat} {u : Bool} (h0 : (lx T p u).1 = 0) : (lx T p u).2.2.1 = p := by
  unfold lx at *
  cases e : T[p]? with
  | none => rfl
  | some c =>
    rw [e] at h0
    simp only at h0
    split at h0
    · cases h0
    · split at h0
      · simp only at h0; split at h0 <;> cases h0
      · split at h0
        · split at h0 <;> cases h0
        · cases h0
theorem X10_addWord {U w p : Nat} {σ : SG} {T : List Nat} {Ws : List Wd} {u : Bool} (hU : 4000 < U) (h : LX σ w T) (hp : p ≤ T.length) (hW : WA σ w Ws) (hl : Ws.length < 701) (hu : sI σ w 7 = zI u) :
    ∃ τ, x_X10_addWord U w (nI p) σ = some (nI (if (lx T p u).1 = 5 then p else (lx T p u).2.2.1), τ) ∧ WA τ w (Ws ++ [lx T p u]) ∧ fWd w [5] σ τ := by
  have hlen := h.2.2.2
  have hok := h.ok8
  unfold x_X10_addWord
  rw [h.at (by omega), b1_eq, hu]
  cases e : T[p]? with
  | none =>
    have el : lx T p u = (if u then 5 else 0, p, p, -1) := by unfold lx; rw [e]
    rw [el, if_pos ((bA_neg hok).mpr e), ifz]
    unfold x_X10_addWord_26
    cases u with
    | true =>
      obtain ⟨τ, g1, g2, g3⟩ := X10_push (kd := 5) (s := p) (e := p) (v := -1) hW hl (by decide)
      exact ⟨τ, by rw [if_pos rfl, show (5 : Int32) = nI 5 from rfl, g1, b2_eq]; rfl, g2, g3⟩
    | false =>
      obtain ⟨τ, g1, g2, g3⟩ := X10_push (kd := 0) (s := p) (e := p) (v := -1) hW hl (by decide)
      exact ⟨τ, by rw [if_neg (by decide), show (0 : Int32) = nI 0 from rfl, g1, b2_eq]; rfl, g2, g3⟩
  | some c =>
    have hpl := (List.getElem?_eq_some_iff.mp e).1
    have hc := hok c (List.mem_of_getElem? e)
    rw [if_neg (fun q => by rw [(bA_neg hok).mp q] at e; cases e), W_isLetter hok, b1_eq, ifz]
    have hbL : bP pL T p = pL c := by unfold bP; rw [e]
    rw [hbL]
    cases q1 : pL c with
    | true =>
      have el : lx T p u = (1, p, p + rn pW T p, Int32.toInt64 (cdS (slc T p (p + rn pW T p)))) := by unfold lx; rw [e]; simp only; rw [if_pos q1]
      have hr := rn_le' (f := pW) (T := T) (p := p) (by omega)
      rw [el, if_pos rfl, X10_nameEnd hU h hp, b1_eq, X10_codeBetween hU h (by omega) hr, b1_eq]
      obtain ⟨τ, g1, g2, g3⟩ := X10_push (kd := 1) (s := p) (e := p + rn pW T p) (v := Int32.toInt64 (cdS (slc T p (p + rn pW T p)))) hW hl (by decide)
      exact ⟨τ, by rw [show (1 : Int32) = nI 1 from rfl, g1, b2_eq], g2, g3⟩
    | false =>
      rw [if_neg (by decide), bA_some e]
      have hd : ∀ c, c < 256 → (pD c = true ↔ ¬ nI c < 48 ∧ ¬ 57 < nI c) := by decide +kernel
      cases q2 : pD c with
      | true =>
        obtain ⟨a1, a2⟩ := (hd c hc).mp q2
        have el : lx T p u = (if nok T p then 2 else 5, p, nen T p, lN (nvC T p)) := by unfold lx; rw [e]; simp only; rw [if_neg (by rw [q1]; decide), if_pos q2]
        rw [el, if_neg a1, if_neg a2]
        obtain ⟨τ, g1, g2, g3⟩ := X10_addNumber hU h hpl hW hl
        refine ⟨τ, ?_, g2, g3⟩
        rw [g1, b2_eq]
        try (cases nok T p <;> rfl)
      | false =>
        have other : ∃ τ, x_X10_addWord_81 U w (nI p) (nI c) σ = some (nI (if (lx T p u).1 = 5 then p else (lx T p u).2.2.1), τ) ∧ WA τ w (Ws ++ [lx T p u]) ∧ fWd w [5] σ τ := by
          unfold x_X10_addWord_81
          by_cases q3 : c = 34
          · have el : lx T p u = (if T[ten T p]? = some 34 then (3, p, ten T p + 1, Int32.toInt64 (cdS (slc T (p + 1) (ten T p)))) else (5, p, p, -1)) := by unfold lx; rw [e]; simp only; rw [if_neg (by rw [q1]; decide), if_neg (by rw [q2]; decide), if_pos q3]
            rw [if_pos (by rw [q3]; rfl), el]
            obtain ⟨τ, g1, g2, g3⟩ := X10_addText hU h hpl hW hl
            refine ⟨τ, ?_, g2, g3⟩
            rw [g1, b2_eq]
            by_cases q4 : T[ten T p]? = some 34
            · rw [if_pos q4, if_pos q4]; try rfl
            · rw [if_neg q4, if_neg q4]; try rfl
          · have el : lx T p u = (4, p, p + 1, Int32.toInt64 (nI c)) := by unfold lx; rw [e]; simp only; rw [if_neg (by rw [q1]; decide), if_neg (by rw [q2]; decide), if_neg q3]
            rw [if_neg (show ¬ nI c = 34 from fun z => q3 ((nI_eq (a := c) (b := 34) (by omega) (by decide)).mp z)), el, nI_1]
            obtain ⟨τ, g1, g2, g3⟩ := X10_push (kd := 4) (s := p) (e := p + 1) (v := Int32.toInt64 (nI c)) hW hl (by decide)
            exact ⟨τ, by rw [show (4 : Int32) = nI 4 from rfl, g1, b2_eq], g2, g3⟩
        by_cases a1 : nI c < 48
        · rw [if_pos a1]; exact other
        · rw [if_neg a1]
          by_cases a2 : 57 < nI c
          · rw [if_pos a2]; exact other
          · exact absurd ((hd c hc).mpr ⟨a1, a2⟩) (by rw [q2]; decide)
/-- the next word from a place on -/
def nw (T : List Nat) (p : Nat) : Wd := lx T (bbS T p false).1 (bbS T p false).2
/-- the words from a place on; the last one is the end or one that can't be -/
def wl (T : List Nat) : Nat → Nat → List Wd
  | 0, _ => []
  | n + 1, p => if (nw T p).1 = 0 ∨ (nw T p).1 = 5 then [nw T p] else nw T p :: wl T n (nw T p).2.2.1
theorem bbS_true {T : List Nat} : ∀ (n p : Nat), T.length < p + n → (bbS T p false).2 = true → (bbS T p false).1 = T.length := by
  intro n
  induction n with
  | zero => intro p h h'; rw [bbS_none (List.getElem?_eq_none (by omega))] at h'; cases h'
  | succ n ih =>
    intro p h h'
    rw [bbS_eq] at h' ⊢
    cases hp : T[p]? with
    | none => rw [hp] at h'; cases h'
    | some c =>
      rw [hp] at h'
      simp only at h' ⊢
      split at h'
      · next hc => rw [if_pos hc]; exact ih (p + 1) (by omega) h'
      · next hc =>
        rw [if_neg hc]
        split at h'
        · next hd => rw [if_pos hd]; exact ih _ (by omega) h'
        · next hd =>
          rw [if_neg hd]
          split at h'
          · next he =>
            rw [if_pos he]
            cases hq : ce T (T.length - (p + 2)) (p + 2) with
            | none => rfl
            | some q =>
              rw [hq] at h'
              have := (ce_at _ _ _ hq).2.2
              exact ih (q + 2) (by omega) h'
          · cases h'
theorem nw_pos {T : List Nat} {p : Nat} (hp : p ≤ T.length) (h0 : (nw T p).1 ≠ 0) (h5 : (nw T p).1 ≠ 5) : p < (nw T p).2.2.1 ∧ (nw T p).2.2.1 ≤ T.length ∧ (bbS T p false).2 = false := by
  obtain ⟨e1, e2, c, e3⟩ := lx_end h0 h5
  have hb := (bbS_le (T := T) (T.length + 1) p false (by omega) hp).2
  refine ⟨by unfold nw; omega, e2, ?_⟩
  cases hu : (bbS T p false).2 with
  | false => rfl
  | true =>
    have := bbS_true (T.length + 1) p (by omega) hu
    have h4 := (List.getElem?_eq_some_iff.mp e3).1
    omega
theorem X10_split_L {U w : Nat} {T : List Nat} (hU : 4000 < U) : ∀ (n c p U1 : Nat) (σ : SG) (Ws : List Wd), c + n = 701 → n < U1 → Ws.length = c → c ≤ p → p ≤ T.length → LX σ w T → sI σ w 7 = 0 → WA σ w Ws →
    ∃ τ, x_X10_split_L25 U w U1 (nI p) (nI c) σ = some τ ∧ WA τ w (Ws ++ wl T n p) ∧ fWd w [5, 7] σ τ := by
  intro n
  induction n with
  | zero =>
    intro c p U1 σ Ws hc hU1 hWs hcp hp h hu hW
    have := h.2.2.2; omega
  | succ n ih =>
    intro c p U1 σ Ws hc hU1 hWs hcp hp h hu hW
    have hlen := h.2.2.2
    obtain ⟨V, rfl⟩ : ∃ V, U1 = V + 1 := ⟨U1 - 1, by omega⟩
    obtain ⟨τ, g1, g2, g3⟩ := X10_behindBlanks (u := false) hU h hp (by rw [hu]; rfl)
    have hb := bbS_le (T := T) (T.length + 1) p false (by omega) hp
    obtain ⟨υ, k1, k2, k3⟩ := X10_addWord hU (h.f1 g3 (by decide)) hb.1 (hW.f1 g3 (by decide)) (by omega) g2
    have fr : fWd w [5, 7] σ υ := fWd_trans (fWd_f1 g3 (by decide)) (fWd_mono k3 (by decide))
    rw [x_X10_split_L25, l700, if_neg (fun q => by have := (ltI (by omega) (by omega)).mp q; omega), g1, b2_eq, k1, b2_eq, wl]
    have hnw : lx T (bbS T p false).1 (bbS T p false).2 = nw T p := rfl
    rw [hnw] at k2 ⊢
    by_cases hz : (nw T p).1 = 0 ∨ (nw T p).1 = 5
    · rw [if_pos hz]
      refine ⟨υ, ?_, k2, fr⟩
      rw [if_neg]
      rcases hz with h0 | h5
      · rw [if_neg (by rw [h0]; decide)]
        have := lx_0 h0
        rw [show (nw T p).2.2.1 = (bbS T p false).1 from this]
        exact fun q => absurd ((ltI (by omega) (by omega)).mp q) (Nat.lt_irrefl _)
      · rw [if_pos h5]
        exact fun q => absurd ((ltI (by omega) (by omega)).mp q) (Nat.lt_irrefl _)
    · have h0 : (nw T p).1 ≠ 0 := fun q => hz (Or.inl q)
      have h5 : (nw T p).1 ≠ 5 := fun q => hz (Or.inr q)
      obtain ⟨e1, e2, e3⟩ := nw_pos hp h0 h5
      have e4 := (lx_end h0 h5).1
      rw [if_neg hz, if_neg h5, if_pos ((ltI (by omega) (by omega)).mpr (show (bbS T p false).1 < (nw T p).2.2.1 from e4)), nI_1]
      have hu7 : sI υ w 7 = 0 := by rw [k3.2.1 7 (by decide), g2, e3]; try rfl
      obtain ⟨φ, m1, m2, m3⟩ := ih (c + 1) (nw T p).2.2.1 V υ (Ws ++ [nw T p]) (by omega) (by omega) (by rw [List.length_append, List.length_singleton]; omega) (by omega) e2 (h.fWd fr (by decide)) hu7 k2
      refine ⟨φ, m1, ?_, fWd_trans fr m3⟩
      rw [List.append_assoc] at m2
      exact m2
theorem X10_split {U w : Nat} {σ : SG} {T : List Nat} (hU : 4000 < U) (hs : sh w = 10) (hR : RB σ (w - 184) T 0) (hl : T.length ≤ 700) : ∃ τ, x_X10_split U w σ = some τ ∧ LX τ w T ∧ WA τ w (wl T 701 0) ∧ fWd w [5, 6, 7] σ τ := by
  have hw := shX10 hs
  have f5 : f1 w [5, 6, 7] σ (uI σ w 5 0) := f1_u (by decide)
  have hR1 : RB (uI σ w 5 0) (w - 184) T 0 := hR.sm (f5.1 _ (by omega)) (f5.1 _ (by omega))
  have f6 : f1 w [5, 6, 7] σ (uI (uI σ w 5 0) w 6 (nI T.length)) := f1_trans f5 (f1_u (by decide))
  have f7 : f1 w [5, 6, 7] σ (uI (uI (uI σ w 5 0) w 6 (nI T.length)) w 7 0) := f1_trans f6 (f1_u (by decide))
  have hL : LX (uI (uI (uI σ w 5 0) w 6 (nI T.length)) w 7 0) w T := ⟨hs, hR.sm (f7.1 _ (by omega)) (f7.1 _ (by omega)), by rw [sI_o (Or.inr (by decide)), sI_s], hl⟩
  have hW : WA (uI (uI (uI σ w 5 0) w 6 (nI T.length)) w 7 0) w [] := ⟨by rw [sI_o (Or.inr (by decide)), sI_o (Or.inr (by decide)), sI_s]; rfl, by simp, fun i x hx => by simp at hx⟩
  obtain ⟨τ, g1, g2, g3⟩ := X10_split_L hU 701 0 0 U _ [] (by omega) (by omega) rfl (Nat.le_refl _) (Nat.zero_le _) hL (sI_s _ _ _ _) hW
  refine ⟨τ, ?_, hL.fWd g3 (by decide), g2, fWd_trans (fWd_f1 f7 (fun k hk => hk)) (fWd_mono g3 (by decide))⟩
  unfold x_X10_split
  rw [sb_eq, X0_size hR1, b1_eq, sb_eq, sb_eq]
  exact g1
/-! ===== the reference's look ===== -/
/-- of the reference's object alone, ints at K and the long at 77 -/
def fq (K : List Nat) (σ τ : SG) : Prop := (∀ b, b ≠ 1101 → sm σ τ b) ∧ (∀ k, k ∉ K → sI τ 1101 k = sI σ 1101 k) ∧ (∀ k, k ≠ 77 → sL τ 1101 k = sL σ 1101 k) ∧ ∀ k, sP τ 1101 k = sP σ 1101 k
theorem fq_refl (K : List Nat) (σ : SG) : fq K σ σ := ⟨fun b _ => sm_refl σ b, fun _ _ => rfl, fun _ _ => rfl, fun _ => rfl⟩
theorem fq_trans {K : List Nat} {σ τ υ : SG} (h : fq K σ τ) (h' : fq K τ υ) : fq K σ υ := ⟨fun b hb => sm_trans (h.1 b hb) (h'.1 b hb), fun k hk => (h'.2.1 k hk).trans (h.2.1 k hk), fun k hk => (h'.2.2.1 k hk).trans (h.2.2.1 k hk), fun k => (h'.2.2.2 k).trans (h.2.2.2 k)⟩
theorem fq_mono {K J : List Nat} {σ τ : SG} (h : fq K σ τ) (hs : ∀ k ∈ K, k ∈ J) : fq J σ τ := ⟨h.1, fun k hk => h.2.1 k (fun q => hk (hs k q)), h.2.2⟩
theorem fq_u {k : Nat} {K : List Nat} {σ : SG} {v : Int32} (hk : k ∈ K) : fq K σ (uI σ 1101 k v) := ⟨fun b hb => sm_uI hb, fun j hj => sI_o (Or.inr (fun q => hj (q ▸ hk))), fun _ _ => rfl, fun _ => rfl⟩
theorem fq_L {K : List Nat} {σ : SG} {v : Int64} : fq K σ (uL σ 1101 77 v) := ⟨fun b hb => sm_uL hb, fun _ _ => rfl, fun _ hk => sL_o (Or.inr hk), fun _ => rfl⟩
theorem fq_f1 {K : List Nat} {σ τ : SG} (h : f1 1101 K σ τ) : fq K σ τ := ⟨h.1, h.2.1, fun k _ => h.2.2.1 k, h.2.2.2⟩
theorem LR.fq {σ τ : SG} {T : List Nat} {K : List Nat} (h : LR σ T) (hf : fq K σ τ) (h6 : 73 ∉ K) : LR τ T := ⟨(hf.2.1 73 h6).trans h.1, h.2.1.sm (hf.1 _ (by decide)), h.2.2⟩
/-- a number's worth as the reference holds it -/
def rf (b : Nat) (A : Nat) (L : List Nat) : Nat := L.foldl (fun a c => if a < 10 ^ 15 then a * b + hexV c else a) A
/-- the two ways to hold a number: the same below 2^40 -/
def NV (v w : Nat) : Prop := (v = w ∧ w < 2 ^ 40) ∨ (2 ^ 40 ≤ v ∧ w = 2 ^ 40)
theorem NV_fold {b : Nat} (hb : 1 ≤ b) : ∀ (L : List Nat) (v w : Nat), NV v w → NV (rf b v L) (cf b w L) := by
  intro L
  induction L with
  | nil => intro v w h; exact h
  | cons c L ih =>
    intro v w h
    show NV (rf b (if v < 10 ^ 15 then v * b + hexV c else v) L) (cf b (min (w * b + hexV c) (2 ^ 40)) L)
    apply ih
    rcases h with ⟨rfl, h2⟩ | ⟨h1, rfl⟩
    · rw [if_pos (by omega)]
      by_cases q : v * b + hexV c < 2 ^ 40
      · left; rw [Nat.min_eq_left (by omega)]; exact ⟨rfl, q⟩
      · right; rw [Nat.min_eq_right (by omega)]; exact ⟨by omega, rfl⟩
    · have h3 : v ≤ v * b := Nat.le_mul_of_pos_right v hb
      have h4 : 2 ^ 40 ≤ 2 ^ 40 * b := Nat.le_mul_of_pos_right _ hb
      right
      refine ⟨?_, by rw [Nat.min_eq_right (by omega)]⟩
      split <;> omega
theorem V_sixteenth {T : List Nat} (hT : ok8 T) (p : Nat) (σ : SG) : x_X12_sixteenth (bA T p) σ = some (match T[p]? with | some c => dV true c | none => -1) := by
  have key : ∀ c, c < 256 → x_X12_sixteenth (nI c) σ0 = some (dV true c) := by decide +kernel
  have key2 : x_X12_sixteenth (-1) σ0 = some (-1) := by decide +kernel
  cases e : T[p]? with
  | none => rw [bA_none e]; exact key2
  | some c => rw [bA_some e]; exact key c (hT c (List.mem_of_getElem? e))
theorem dg_H {h : Bool} {c : Nat} (hc : dg h c = true) : dg true c = true := by
  cases h with
  | true => exact hc
  | false => show pH c = true; unfold pH; have : pD c = true := hc; rw [this]; try rfl
theorem l15 : (1000000000000000 : Int64) = lN (10 ^ 15) := rfl
theorem X12_digits_L {U : Nat} {T : List Nat} {k : Int32 → SG → Option SG} {v3 : Int32} {h : Bool} : ∀ (j p U1 : Nat) (σ : SG) (A : Nat), p + j = T.length → j < U1 → A < 2 ^ 54 → LR σ T → sL σ 1101 77 = lN A →
    ∃ τ, x_X12_readNumber_L52 U 1101 k (zI h) v3 U1 (nI p) σ = k (nI (p + rn (dg h) T p)) τ ∧ sL τ 1101 77 = lN (rf (bs h) A (rl (dg h) T p)) ∧ rf (bs h) A (rl (dg h) T p) < 2 ^ 54 ∧ fq [] σ τ := by
  intro j
  induction j with
  | zero =>
    intro p U1 σ A hp hU hA hR hv
    have hl := hR.2.2.1
    obtain ⟨V, rfl⟩ : ∃ V, U1 = V + 1 := ⟨U1 - 1, by omega⟩
    have e : T[p]? = none := List.getElem?_eq_none (by omega)
    have hb : bP (dg h) T p = false := by unfold bP; rw [e]
    refine ⟨σ, ?_, by rw [rl_no hb]; exact hv, by rw [rl_no hb]; exact hA, fq_refl _ _⟩
    rw [x_X12_readNumber_L52, hR.at (by omega), b1_eq, b1_eq, V_isDigit hR.2.2.2, b1_eq, V_sixteenth hR.2.2.2, e, rn_no hb, ifz]
    simp only
    rw [b1_eq, ifz, show bP pD T p = false by unfold bP; rw [e], if_pos (show (-1 : Int32) < 0 by decide)]
    try (cases h <;> rfl)
  | succ j ih =>
    intro p U1 σ A hp hU hA hR hv
    have hl := hR.2.2.1
    obtain ⟨V, rfl⟩ : ∃ V, U1 = V + 1 := ⟨U1 - 1, by omega⟩
    have hpl : p < T.length := by omega
    have e := List.getElem?_eq_getElem hpl
    rw [x_X12_readNumber_L52, hR.at (by omega), b1_eq, b1_eq, V_isDigit hR.2.2.2, b1_eq, V_sixteenth hR.2.2.2, e, ifz]
    simp only
    rw [b1_eq, ifz]
    have hbD : bP pD T p = pD T[p] := by unfold bP; rw [e]
    rw [hbD]
    cases hd : dg h T[p] with
    | false =>
      have hb : bP (dg h) T p = false := by unfold bP; rw [e]; exact hd
      refine ⟨σ, ?_, by rw [rl_no hb]; exact hv, by rw [rl_no hb]; exact hA, fq_refl _ _⟩
      rw [rn_no hb, Nat.add_zero]
      cases h with
      | true => rw [if_pos rfl, if_pos (dV_neg hd)]
      | false => rw [if_neg (by decide), show pD T[p] = false from hd, if_neg (by decide)]
    | true =>
      have hb : bP (dg h) T p = true := by unfold bP; rw [e]; exact hd
      have hvv := hexV_lt hd
      have hbs := bs_le h
      -- one more digit
      have step : ∃ τ, x_X12_readNumber_81 U 1101 (x_X12_readNumber_L52 U 1101 k (zI h) v3 V) k (nI p) (zI h) v3 σ = k (nI (p + rn (dg h) T p)) τ ∧ sL τ 1101 77 = lN (rf (bs h) A (rl (dg h) T p)) ∧ rf (bs h) A (rl (dg h) T p) < 2 ^ 54 ∧ fq [] σ τ := by
        rw [(rn_yes hb).2, rl_yes e hd]
        unfold x_X12_readNumber_81
        rw [hv, l15]
        show ∃ τ, _ = _ ∧ sL τ 1101 77 = lN (rf (bs h) (if A < 10 ^ 15 then A * bs h + hexV T[p] else A) (rl (dg h) T (p + 1))) ∧ rf (bs h) (if A < 10 ^ 15 then A * bs h + hexV T[p] else A) (rl (dg h) T (p + 1)) < 2 ^ 54 ∧ _
        by_cases q : A < 10 ^ 15
        · have hm : A * bs h ≤ 10 ^ 15 * 16 := Nat.mul_le_mul (by omega) hbs
          rw [if_pos ((pk_lLT (by omega) (by omega)).mpr q), if_pos q]
          have go : x_X12_readNumber_108 U 1101 (x_X12_readNumber_L52 U 1101 k (zI h) v3 V) k (nI p) (zI h) v3 (nI (bs h)) (lN A) σ = x_X12_readNumber_L52 U 1101 k (zI h) v3 V (nI (p + 1)) (uL σ 1101 77 (lN (A * bs h + hexV T[p]))) := by
            unfold x_X12_readNumber_108 x_X12_readNumber_123
            rw [hR.at (by omega), b1_eq, V_sixteenth hR.2.2.2, e]
            simp only
            rw [b1_eq, sb_eq, dV_pos (dg_H hd), nI_l (by omega), nI_l (by omega), lN_mul, lN_add, nI_1]
          have fr : fq [] σ (uL σ 1101 77 (lN (A * bs h + hexV T[p]))) := fq_L
          obtain ⟨τ, g1, g2, g3, g4⟩ := ih (p + 1) V _ (A * bs h + hexV T[p]) (by omega) (by omega) (by omega) (hR.fq fr (by decide)) (sL_s _ _ _ _)
          refine ⟨τ, ?_, g2, g3, fq_trans fr g4⟩
          rw [ifz]
          have e2 : p + (rn (dg h) T (p + 1) + 1) = p + 1 + rn (dg h) T (p + 1) := by omega
          rw [e2, ← g1, ← go]
          try (cases h <;> rfl)
        · rw [if_neg (fun z => q ((pk_lLT (by omega) (by omega)).mp z)), if_neg q]
          unfold x_X12_readNumber_123
          obtain ⟨τ, g1, g2, g3, g4⟩ := ih (p + 1) V σ A (by omega) (by omega) hA hR hv
          refine ⟨τ, ?_, g2, g3, g4⟩
          rw [nI_1, g1]
          congr 2; omega
      cases h with
      | true => rw [if_pos rfl, dV_pos hd, if_neg (nI_neg (by omega))]; exact step
      | false => rw [if_neg (by decide), show pD T[p] = true from hd, if_pos rfl]; exact step
def nvR (T : List Nat) (p : Nat) : Nat := rf (bs (hx T p)) 0 (rl (dg (hx T p)) T (nbg T p))
theorem NV_num (T : List Nat) (p : Nat) : NV (nvR T p) (nvC T p) := NV_fold (by cases hx T p <;> decide) _ 0 0 (Or.inl ⟨rfl, by decide⟩)
theorem X12_readNumber {U p : Nat} {σ : SG} {T : List Nat} (hU : 4000 < U) (h : LR σ T) (hp : p < T.length) (h71 : sI σ 1101 71 = nI p) : ∃ τ, x_X12_readNumber U 1101 σ = some τ ∧ sI τ 1101 70 = nI (if nok T p then 2 else 5) ∧ sI τ 1101 72 = nI (nen T p) ∧ sL τ 1101 77 = lN (nvR T p) ∧ nvR T p < 2 ^ 54 ∧ fq [70, 72] σ τ := by
  have hl := h.2.2.1
  have hok := h.2.2.2
  obtain ⟨hb1, hb2⟩ := nbg_le hp
  obtain ⟨he1, he2⟩ := nen_le hp
  let σ2 := uL (uI σ 1101 70 2) 1101 77 0
  have f2 : fq [70, 72] σ σ2 := fq_trans (fq_u (by decide)) fq_L
  have hR2 : LR σ2 T := h.fq f2 (by decide)
  have h71' : sI σ2 1101 71 = nI p := (f2.2.1 71 (by decide)).trans h71
  obtain ⟨τ, g1, g2, g3, g4⟩ := X12_digits_L (U := U) (k := fun w28 σ29 => x_X12_readNumber_129 U 1101 w28 (zI (hx T p)) (nI (nbg T p)) σ29) (v3 := nI (nbg T p)) (h := hx T p) (T.length - nbg T p) (nbg T p) U σ2 0 (by omega) (by omega) (by decide) hR2 (sL_s _ _ _ _)
  have hRτ : LR τ T := hR2.fq g4 (by decide)
  have h71τ : sI τ 1101 71 = nI p := (g4.2.1 71 (by decide)).trans h71'
  have e1 : x_X12_readNumber U 1101 σ = x_X12_readNumber_50 U 1101 (nI (nbg T p)) (zI (hx T p)) σ2 := by
    unfold x_X12_readNumber
    rw [sb_eq, sb_eq]
    show b1 (x_X12_byteAt 1101 (sI σ2 1101 71) σ2) (fun v4 => if v4 = 48 then b1 (x_X12_byteAt 1101 (sI σ2 1101 71 + 1) σ2) (fun v7 => if v7 = 120 then x_X12_readNumber_42 U 1101 (sI σ2 1101 71) 1 σ2 else x_X12_readNumber_41 U 1101 (sI σ2 1101 71) σ2) else x_X12_readNumber_41 U 1101 (sI σ2 1101 71) σ2) = _
    unfold x_X12_readNumber_41 x_X12_readNumber_42
    rw [h71', hR2.at (by omega), b1_eq, l48, ifA hok (by decide), nI_1, hR2.at (by omega), b1_eq, l120, ifA hok (by decide)]
    have e2 : nI p + 2 = nI (p + 2) := nI_add p 2
    have nh : hx T p = false → nbg T p = p := fun q => by unfold nbg; rw [q, if_neg (by decide)]
    have yh : hx T p = true → nbg T p = p + 2 := fun q => by unfold nbg; rw [q, if_pos rfl]
    by_cases c1 : T[p]? = some 48
    · rw [if_pos c1]
      by_cases c2 : T[p + 1]? = some 120
      · have hh : hx T p = true := by unfold hx; exact decide_eq_true ⟨c1, c2⟩
        rw [if_pos c2, if_neg (by decide), e2, yh hh, hh, zI1]
      · have hh : hx T p = false := by unfold hx; exact decide_eq_false (fun z => c2 z.2)
        rw [if_neg c2, if_pos rfl, nh hh, hh, zI0]
    · have hh : hx T p = false := by unfold hx; exact decide_eq_false (fun z => c1 z.1)
      rw [if_neg c1, if_pos rfl, nh hh, hh, zI0]
  have good : ∃ υ, x_X12_readNumber_177 U 1101 (nI (nen T p)) τ = some υ ∧ sI υ 1101 70 = 2 ∧ sI υ 1101 72 = nI (nen T p) ∧ sL υ 1101 77 = lN (nvR T p) ∧ fq [70, 72] σ υ := by
    refine ⟨uI τ 1101 72 (nI (nen T p)), rfl, ?_, sI_s _ _ _ _, g2, fq_trans f2 (fq_trans (fq_mono g4 (by simp)) (fq_u (by decide)))⟩
    rw [sI_o (by decide), g4.2.1 70 (by simp)]
    show sI (uL (uI σ 1101 70 2) 1101 77 0) 1101 70 = 2
    rw [sI_uL, sI_s]
  have badd : ∃ υ, x_X12_readNumber_172 U 1101 (nI (nen T p)) τ = some υ ∧ sI υ 1101 70 = 5 ∧ sI υ 1101 72 = nI (nen T p) ∧ sL υ 1101 77 = lN (nvR T p) ∧ fq [70, 72] σ υ := by
    refine ⟨uI (uI τ 1101 70 5) 1101 72 (nI (nen T p)), rfl, ?_, sI_s _ _ _ _, g2, fq_trans f2 (fq_trans (fq_mono g4 (by simp)) (fq_trans (fq_u (by decide)) (fq_u (by decide))))⟩
    rw [sI_o (by decide), sI_s]
  have e3 : x_X12_readNumber U 1101 σ = if nok T p then x_X12_readNumber_177 U 1101 (nI (nen T p)) τ else x_X12_readNumber_172 U 1101 (nI (nen T p)) τ := by
    rw [e1]
    unfold x_X12_readNumber_50
    refine g1.trans ?_
    show x_X12_readNumber_129 U 1101 (nI (nen T p)) (zI (hx T p)) (nI (nbg T p)) τ = _
    unfold x_X12_readNumber_129
    rw [hRτ.at (by omega), b1_eq, V_isPart hok, b1_eq, ifz, ifz, h71τ, hRτ.at (by omega), b1_eq, l48, ifA hok (by decide), nI_1]
    unfold nok
    by_cases c0 : nbg T p < nen T p
    · rw [if_neg (fun z => by have := (nI_eq (by omega) (by omega)).mp z; omega), decide_eq_true c0]
      cases bP pW T (nen T p) with
      | true => rw [if_pos rfl]; simp
      | false =>
        rw [if_neg (by decide)]
        cases hx T p with
        | true => rw [if_pos rfl]; simp
        | false =>
          rw [if_neg (by decide)]
          by_cases c1 : T[p]? = some 48
          · rw [if_pos c1]
            by_cases c2 : p + 1 < nen T p
            · rw [if_pos ((ltI (by omega) (by omega)).mpr c2)]; simp [c1, c2]
            · rw [if_neg (fun z => c2 ((ltI (by omega) (by omega)).mp z))]; simp [c1, c2]
          · rw [if_neg c1]; simp [c1]
    · have : nen T p = nbg T p := by omega
      rw [if_pos (by rw [this]), decide_eq_false c0]; simp
  rw [e3]
  cases nok T p with
  | true => obtain ⟨υ, k1, k2, k3, k4, k5⟩ := good; exact ⟨υ, k1, k2, k3, k4, g3, k5⟩
  | false => obtain ⟨υ, k1, k2, k3, k4, k5⟩ := badd; exact ⟨υ, k1, k2, k3, k4, g3, k5⟩
/-! ===== the reference's current word ===== -/
def CW (σ : SG) (x : Wd) : Prop := sI σ 1101 70 = nI x.1 ∧ sI σ 1101 71 = nI x.2.1 ∧ (x.1 ≠ 0 → x.1 ≠ 5 → sI σ 1101 72 = nI x.2.2.1 ∧ sI σ 1101 76 = 0) ∧ (x.1 = 2 → ∃ v n, sL σ 1101 77 = lN v ∧ v < 2 ^ 54 ∧ NV v n ∧ x.2.2.2 = lN n)
theorem X12_text_L {U : Nat} {σ : SG} {T : List Nat} {k : Int32 → Option SG} (h : LR σ T) : ∀ (j p U1 : Nat), p + j = T.length → j < U1 → x_X12_readText_L7 U 1101 k σ U1 (nI p) = k (nI (p + rn pT T p)) := by
  have hl := h.2.2.1
  have hok := h.2.2.2
  intro j
  induction j with
  | zero =>
    intro p U1 hp hU
    obtain ⟨V, rfl⟩ : ∃ V, U1 = V + 1 := ⟨U1 - 1, by omega⟩
    have e : T[p]? = none := List.getElem?_eq_none (by omega)
    rw [x_X12_readText_L7, h.at (by omega), b1_eq, bA_none e, if_pos (by decide), rn_ge (by omega)]; try rfl
  | succ j ih =>
    intro p U1 hp hU
    obtain ⟨V, rfl⟩ : ∃ V, U1 = V + 1 := ⟨U1 - 1, by omega⟩
    have hpl : p < T.length := by omega
    have e := List.getElem?_eq_getElem hpl
    have hc := hok _ (List.mem_of_getElem? e)
    rw [x_X12_readText_L7, h.at (by omega), b1_eq, b1_eq, b1_eq, b1_eq, bA_some e]
    cases hb : pT T[p] with
    | true =>
      obtain ⟨a1, a2, a3, a4⟩ := (pT_bad _ hc).mp hb
      have hbp : bP pT T p = true := by unfold bP; rw [e]; exact hb
      rw [if_neg a2, if_neg a3, if_neg a1, if_neg a4, nI_1, ih (p + 1) V (by omega) (by omega), (rn_yes hbp).2]
      congr 2; omega
    | false =>
      have hbp : bP pT T p = false := by unfold bP; rw [e]; exact hb
      rw [rn_no hbp, Nat.add_zero]
      have hn := fun z => Bool.false_ne_true (hb.symm.trans ((pT_bad _ hc).mpr z))
      by_cases q2 : nI T[p] < 32
      · rw [if_pos q2]
      · rw [if_neg q2]
        by_cases q3 : 126 < nI T[p]
        · rw [if_pos q3]
        · rw [if_neg q3]
          by_cases q1 : nI T[p] = 34
          · rw [if_pos q1]
          · rw [if_neg q1]
            by_cases q4 : nI T[p] = 92
            · rw [if_pos q4]
            · exact absurd ⟨q1, q2, q3, q4⟩ hn
theorem X12_readText {U p : Nat} {σ : SG} {T : List Nat} (hU : 4000 < U) (h : LR σ T) (hp : p < T.length) (h71 : sI σ 1101 71 = nI p) : ∃ τ, x_X12_readText U 1101 σ = some τ ∧ sI τ 1101 70 = nI (if T[ten T p]? = some 34 then 3 else 5) ∧ sI τ 1101 72 = nI (ten T p + 1) ∧ fq [70, 72] σ τ := by
  have hl := h.2.2.1
  have he : ten T p ≤ T.length := rn_le' (by omega)
  unfold x_X12_readText
  rw [h71, nI_1, X12_text_L h (T.length - (p + 1)) (p + 1) U (by omega) (by omega)]
  show ∃ τ, x_X12_readText_53 U 1101 (nI (ten T p)) σ = some τ ∧ _
  unfold x_X12_readText_53 x_X12_readText_69
  rw [h.at (by omega), b1_eq, l34, ifA h.2.2.2 (by decide), nI_1]
  by_cases q : T[ten T p]? = some 34
  · rw [if_pos q, if_pos q]
    refine ⟨_, rfl, ?_, sI_s _ _ _ _, fq_trans (fq_u (by decide)) (fq_u (by decide))⟩
    rw [sI_o (by decide), sI_s]; try rfl
  · rw [if_neg q, if_neg q]
    refine ⟨_, rfl, ?_, sI_s _ _ _ _, fq_trans (fq_u (by decide)) (fq_u (by decide))⟩
    rw [sI_o (by decide), sI_s]; try rfl
theorem X12_name_L {U : Nat} {T : List Nat} : ∀ (j p U1 : Nat) (σ : SG), p + j = T.length → j < U1 → LR σ T → sI σ 1101 72 = nI p → ∃ τ, x_X12_look_L65 U 1101 U1 σ = some τ ∧ sI τ 1101 72 = nI (p + rn pW T p) ∧ fq [72] σ τ := by
  intro j
  induction j with
  | zero =>
    intro p U1 σ hp hU h h72
    have hl := h.2.2.1
    obtain ⟨V, rfl⟩ : ∃ V, U1 = V + 1 := ⟨U1 - 1, by omega⟩
    have hb : bP pW T p = false := by unfold bP; rw [List.getElem?_eq_none (by omega)]
    refine ⟨σ, ?_, by rw [rn_no hb]; exact h72, fq_refl _ _⟩
    rw [x_X12_look_L65, h72, h.at (by omega), b1_eq, V_isPart h.2.2.2, b1_eq, ifz, hb, if_neg (by decide)]
  | succ j ih =>
    intro p U1 σ hp hU h h72
    have hl := h.2.2.1
    obtain ⟨V, rfl⟩ : ∃ V, U1 = V + 1 := ⟨U1 - 1, by omega⟩
    rw [x_X12_look_L65, h72, h.at (by omega), b1_eq, V_isPart h.2.2.2, b1_eq, ifz]
    cases hb : bP pW T p with
    | false => rw [if_neg (by decide), rn_no hb]; exact ⟨σ, rfl, h72, fq_refl _ _⟩
    | true =>
      rw [if_pos rfl, sb_eq, nI_1, (rn_yes hb).2]
      have f := fq_u (k := 72) (K := [72]) (σ := σ) (v := nI (p + 1)) (by decide)
      obtain ⟨τ, g1, g2, g3⟩ := ih (p + 1) V _ (by omega) (by omega) (h.fq f (by decide)) (sI_s _ _ _ _)
      refine ⟨τ, g1, ?_, fq_trans f g3⟩
      rw [g2]; congr 1; omega
theorem lm1 {T : List Nat} {p : Nat} (hT : ok8 T) : bA T p = -1 ↔ T[p]? = none := by
  cases e : T[p]? with
  | none => rw [bA_none e]; exact ⟨fun _ => rfl, fun _ => rfl⟩
  | some c => rw [bA_some e]; exact ⟨fun q => absurd q.symm ((by decide +kernel : ∀ c, c < 256 → ¬ (-1 : Int32) = nI c) c (hT c (List.mem_of_getElem? e))), fun q => by cases q⟩
theorem X12_look {U p : Nat} {σ : SG} {T : List Nat} (hU : 4000 < U) (h : LR σ T) (hp : p ≤ T.length) (h76 : sI σ 1101 76 = 0) : ∃ τ, x_X12_look U 1101 (nI p) σ = some τ ∧ CW τ (nw T p) ∧ fq [70, 71, 72, 76] σ τ := by
  have hl := h.2.2.1
  have hok := h.2.2.2
  obtain ⟨σ3, g1, g2, g3⟩ := X12_behindBlanks (u := false) hU h hp (by rw [h76]; rfl)
  have hq := (bbS_le (T := T) (T.length + 1) p false (by omega) hp).1
  have hnwE : nw T p = lx T (bbS T p false).1 (bbS T p false).2 := rfl
  have hpos := fun h0 h5 => (nw_pos (T := T) hp h0 h5).2.2
  rw [hnwE] at hpos ⊢
  generalize (bbS T p false).1 = q at *
  generalize (bbS T p false).2 = u at *
  let σ7 := uI (uI σ3 1101 71 (nI q)) 1101 72 (nI (q + 1))
  have f7 : fq [70, 71, 72, 76] σ σ7 := fq_trans (fq_mono (fq_f1 g3) (by decide)) (fq_trans (fq_u (by decide)) (fq_u (by decide)))
  have h7 : LR σ7 T := h.fq f7 (by decide)
  have h4 : LR (uI σ3 1101 71 (nI q)) T := h.fq (K := [70, 71, 72, 76]) (fq_trans (fq_mono (fq_f1 g3) (by decide)) (fq_u (by decide))) (by decide)
  have i71 : sI σ7 1101 71 = nI q := by show sI (uI (uI σ3 1101 71 (nI q)) 1101 72 (nI (q + 1))) 1101 71 = _; rw [sI_o (by decide), sI_s]
  have i72 : sI σ7 1101 72 = nI (q + 1) := sI_s _ _ _ _
  have i76 : sI σ7 1101 76 = zI u := by show sI (uI (uI σ3 1101 71 (nI q)) 1101 72 (nI (q + 1))) 1101 76 = _; rw [sI_o (by decide), sI_o (by decide), g2]
  have e1 : x_X12_look U 1101 (nI p) σ = x_X12_look_50 U 1101 (bA T q) (nI (match T[q]? with | none => (if u then 5 else 0) | some _ => 4)) σ7 := by
    unfold x_X12_look
    rw [g1, b2_eq, sb_eq, sI_s, h4.at (by omega), b1_eq, sb_eq, nI_1]
    show (if bA T q = -1 then (if sI σ7 1101 76 = 0 then _ else _) else _) = _
    rw [i76, ifz]
    cases e : T[q]? with
    | none => rw [if_pos ((lm1 hok).mpr e)]; try (cases u <;> rfl)
    | some c => rw [if_neg (fun z => by rw [(lm1 hok).mp z] at e; cases e)]; try rfl
  rw [e1]
  unfold x_X12_look_50
  rw [sb_eq, V_isLetter hok, b1_eq, ifz, V_isDigit hok, b1_eq, ifz]
  have f10 : ∀ v, fq [70, 71, 72, 76] σ (uI σ7 1101 70 v) := fun v => fq_trans f7 (fq_u (by decide))
  have j71 : ∀ v, sI (uI σ7 1101 70 v) 1101 71 = nI q := fun v => by rw [sI_o (by decide), i71]
  have j72 : ∀ v, sI (uI σ7 1101 70 v) 1101 72 = nI (q + 1) := fun v => by rw [sI_o (by decide), i72]
  have j76 : ∀ v, sI (uI σ7 1101 70 v) 1101 76 = zI u := fun v => by rw [sI_o (by decide), i76]
  cases e : T[q]? with
  | none =>
    have el : lx T q u = (if u then 5 else 0, q, q, -1) := by unfold lx; rw [e]
    have n1 : bP pL T q = false := by unfold bP; rw [e]
    have n2 : bP pD T q = false := by unfold bP; rw [e]
    rw [n1, n2, if_neg (by decide), if_neg (by decide), if_neg (by rw [bA_none e]; decide), el]
    refine ⟨_, rfl, ⟨sI_s _ _ _ _, j71 _, fun h0 h5 => ?_, fun h2 => ?_⟩, f10 _⟩
    · cases u <;> simp at h0 h5
    · cases u <;> simp at h2
  | some c =>
    have hql := (List.getElem?_eq_some_iff.mp e).1
    have hc := hok c (List.mem_of_getElem? e)
    have n1 : bP pL T q = pL c := by unfold bP; rw [e]
    have n2 : bP pD T q = pD c := by unfold bP; rw [e]
    rw [n1, n2]
    simp only
    cases q1 : pL c with
    | true =>
      have el : lx T q u = (1, q, q + rn pW T q, Int32.toInt64 (cdS (slc T q (q + rn pW T q)))) := by unfold lx; rw [e]; simp only; rw [if_pos q1]
      rw [el] at hpos ⊢
      have hu := hpos (show (1 : Nat) ≠ 0 by decide) (show (1 : Nat) ≠ 5 by decide)
      subst hu
      rw [if_pos rfl, sb_eq]
      have f11 : fq [70, 71, 72, 76] σ (uI (uI σ7 1101 70 (nI 4)) 1101 70 1) := fq_trans (f10 _) (fq_u (by decide))
      obtain ⟨τ, k1, k2, k3⟩ := X12_name_L (U := U) (T.length - (q + 1)) (q + 1) U (uI (uI σ7 1101 70 (nI 4)) 1101 70 1) (by omega) (by omega) (h.fq f11 (by decide)) (by rw [sI_o (by decide)]; exact j72 _)
      have hb : bP pW T q = true := by unfold bP; rw [e]; exact pL_W c q1
      refine ⟨τ, k1, ⟨?_, ?_, fun _ _ => ⟨?_, ?_⟩, fun h2 => by cases h2⟩, fq_trans f11 (fq_mono k3 (by decide))⟩
      · rw [k3.2.1 70 (by decide), sI_s]; try rfl
      · rw [k3.2.1 71 (by decide), sI_o (by decide), j71]
      · rw [k2]; show nI _ = nI (q + rn pW T q); rw [(rn_yes hb).2]; congr 1; omega
      · rw [k3.2.1 76 (by decide), sI_o (by decide), j76]; try rfl
    | false =>
      rw [if_neg (by decide)]
      cases q2 : pD c with
      | true =>
        have el : lx T q u = (if nok T q then 2 else 5, q, nen T q, lN (nvC T q)) := by unfold lx; rw [e]; simp only; rw [if_neg (by rw [q1]; decide), if_pos q2]
        rw [el] at hpos ⊢
        rw [if_pos rfl]
        obtain ⟨τ, k1, k2, k3, k4, k5, k6⟩ := X12_readNumber hU (h.fq (f10 (nI 4)) (by decide)) hql (j71 _)
        rw [k1, b1_eq]
        refine ⟨τ, rfl, ⟨k2, ?_, fun h0 h5 => ⟨k3, ?_⟩, fun _ => ⟨_, _, k4, k5, NV_num T q, rfl⟩⟩, fq_trans (f10 _) (fq_mono k6 (by decide))⟩
        · rw [k6.2.1 71 (by decide), j71]
        · rw [k6.2.1 76 (by decide), j76, hpos h0 h5]; try rfl
      | false =>
        rw [if_neg (by decide)]
        by_cases q3 : c = 34
        · have el : lx T q u = (if T[ten T q]? = some 34 then (3, q, ten T q + 1, Int32.toInt64 (cdS (slc T (q + 1) (ten T q)))) else (5, q, q, -1)) := by unfold lx; rw [e]; simp only; rw [if_neg (by rw [q1]; decide), if_neg (by rw [q2]; decide), if_pos q3]
          rw [el] at hpos ⊢
          rw [if_pos (by rw [bA_some e, q3]; rfl)]
          obtain ⟨τ, k1, k2, k3, k4⟩ := X12_readText hU (h.fq (f10 (nI 4)) (by decide)) hql (j71 _)
          rw [k1, b1_eq]
          refine ⟨τ, rfl, ?_, fq_trans (f10 _) (fq_mono k4 (by decide))⟩
          have m71 : sI τ 1101 71 = nI q := by rw [k4.2.1 71 (by decide), j71]
          by_cases q4 : T[ten T q]? = some 34
          · rw [if_pos q4] at hpos k2 ⊢
            refine ⟨k2, m71, fun h0 h5 => ⟨k3, ?_⟩, fun h2 => by cases h2⟩
            rw [k4.2.1 76 (by decide), j76, hpos h0 h5]; try rfl
          · rw [if_neg q4] at k2 ⊢
            exact ⟨k2, m71, fun _ h5 => absurd rfl h5, fun h2 => by cases h2⟩
        · have el : lx T q u = (4, q, q + 1, Int32.toInt64 (nI c)) := by unfold lx; rw [e]; simp only; rw [if_neg (by rw [q1]; decide), if_neg (by rw [q2]; decide), if_neg q3]
          rw [el] at hpos ⊢
          rw [if_neg (by rw [bA_some e]; exact fun z => q3 ((nI_eq (a := c) (b := 34) (by omega) (by decide)).mp z))]
          refine ⟨_, rfl, ⟨sI_s _ _ _ _, j71 _, fun h0 h5 => ⟨j72 _, ?_⟩, fun h2 => by cases h2⟩, f10 _⟩
          rw [j76, hpos h0 h5]; try rfl
/-! ===== names held against constants: the reference's isPlain, the class's codes ===== -/
def lcnt (w : Int64) : Nat → Nat → Nat
  | 0, n => n
  | j + 1, n => if lush w (8 * nI n) = 0 then n else lcnt w j (n + 1)
theorem X12_letters_L {U : Nat} {σ : SG} {w : Int64} : ∀ (j n U1 : Nat), n + j = 8 → j < U1 → x_X12_letters_L2 U w σ U1 (nI n) = some (nI (lcnt w j n)) := by
  intro j
  induction j with
  | zero =>
    intro n U1 hn hU
    obtain ⟨V, rfl⟩ : ∃ V, U1 = V + 1 := ⟨U1 - 1, by omega⟩
    obtain rfl : n = 8 := by omega
    rw [x_X12_letters_L2, if_neg (by decide)]; try rfl
  | succ j ih =>
    intro n U1 hn hU
    obtain ⟨V, rfl⟩ : ∃ V, U1 = V + 1 := ⟨U1 - 1, by omega⟩
    have e8 : nI n < 8 := (ltI (b := 8) (by omega) (by decide)).mpr (by omega)
    rw [x_X12_letters_L2, if_pos e8, lcnt]
    by_cases q : lush w (8 * nI n) = 0
    · rw [if_pos q, if_pos q]
    · rw [if_neg q, if_neg q, nI_1, ih (n + 1) V (by omega) (by omega)]
theorem X12_letters {U : Nat} {σ : SG} {w : Int64} (hU : 4000 < U) : x_X12_letters U w σ = some (nI (lcnt w 8 0)) := X12_letters_L 8 0 U (by omega) (by omega)
def lch (w : Int64) (i : Nat) : Nat := lo8 (Int64.toInt32 (lush w (8 * ((nI (lcnt w 8 0) - 1) - nI i))))
theorem X12_letter {U i : Nat} {σ : SG} {w : Int64} (hU : 4000 < U) : x_X12_letter U w (nI i) σ = some (nI (lch w i)) := by
  unfold x_X12_letter; rw [X12_letters hU, b1_eq, and255]; try rfl
/-- the bytes of a packed constant -/
def bw (w : Int64) : List Nat := (List.range (lcnt w 8 0)).map (lch w)
theorem bw_len (w : Int64) : (bw w).length = lcnt w 8 0 := by unfold bw; rw [List.length_map, List.length_range]
theorem bw_get {w : Int64} {i : Nat} (h : i < lcnt w 8 0) : (bw w)[i]? = some (lch w i) := by unfold bw; rw [List.getElem?_map, List.getElem?_range h]; try rfl
theorem lcnt_le (w : Int64) : ∀ j n, n + j = 8 → lcnt w j n ≤ 8
  | 0, n, h => by rw [lcnt]; omega
  | j + 1, n, h => by
    rw [lcnt]
    split
    · omega
    · exact lcnt_le w j (n + 1) (by omega)
theorem slc_len {T : List Nat} {s e : Nat} (hse : s ≤ e) (he : e ≤ T.length) : (slc T s e).length = e - s := by unfold slc; rw [List.length_take, List.length_drop]; omega
theorem slc_get {T : List Nat} {s e i : Nat} (h : i < e - s) : (slc T s e)[i]? = T[s + i]? := by unfold slc; rw [List.getElem?_take_of_lt h, List.getElem?_drop]
theorem X12_isPlain_L {U s e : Nat} {σ : SG} {T : List Nat} {w : Int64} (hU : 4000 < U) (hT : RI σ 1102 T) (hok : ok8 T) (hl : T.length ≤ 700) (hse : s ≤ e) (he : e ≤ T.length) (hn : e - s = lcnt w 8 0) : ∀ (j p U1 : Nat), p + j = e → s ≤ p → j < U1 → (∀ i, i < p - s → (slc T s e)[i]? = (bw w)[i]?) →
    x_X12_isPlain_L15 U 1101 (nI s) (nI e) w σ U1 (nI p) = some (zI (decide (slc T s e = bw w))) := by
  intro j
  induction j with
  | zero =>
    intro p U1 hp hsp hU1 hpre
    obtain ⟨V, rfl⟩ : ∃ V, U1 = V + 1 := ⟨U1 - 1, by omega⟩
    have heq : slc T s e = bw w := by
      apply List.ext_getElem?
      intro i
      rcases Nat.lt_or_ge i (p - s) with q | q
      · exact hpre i q
      · rw [List.getElem?_eq_none (by rw [slc_len hse he]; omega), List.getElem?_eq_none (by rw [bw_len]; omega)]
    rw [x_X12_isPlain_L15, if_neg (fun q => by have := (ltI (by omega) (by omega)).mp q; omega), decide_eq_true heq]; try rfl
  | succ j ih =>
    intro p U1 hp hsp hU1 hpre
    obtain ⟨V, rfl⟩ : ∃ V, U1 = V + 1 := ⟨U1 - 1, by omega⟩
    have hpl : p < T.length := by omega
    have e1 := List.getElem?_eq_getElem hpl
    have hc := hok _ (List.mem_of_getElem? e1)
    have hch := lo8_lt (Int64.toInt32 (lush w (8 * ((nI (lcnt w 8 0) - 1) - nI (p - s)))))
    rw [x_X12_isPlain_L15, if_pos ((ltI (by omega) (by omega)).mpr (by omega)), ix_in (by omega) (by decide), nI_sub hsp, X12_letter hU, b1_eq, hT p _ e1]
    have g1 : (slc T s e)[p - s]? = some T[p] := by rw [slc_get (by omega), show s + (p - s) = p by omega]; exact e1
    have g2 : (bw w)[p - s]? = some (lch w (p - s)) := bw_get (by omega)
    by_cases q : T[p] = lch w (p - s)
    · rw [if_pos (by rw [q]), nI_1]
      refine ih (p + 1) V (by omega) (by omega) (by omega) (fun i hi => ?_)
      rcases Nat.lt_or_ge i (p - s) with r | r
      · exact hpre i r
      · obtain rfl : i = p - s := by omega
        rw [g1, g2, q]
    · rw [if_neg (fun z => q ((nI_eq (by omega) (show lch w (p - s) < 2 ^ 31 by unfold lch; omega)).mp z)), decide_eq_false (fun z => q (by rw [z, g2] at g1; exact (Option.some.inj g1).symm))]; try rfl
theorem X12_isPlain {U s e : Nat} {σ : SG} {T : List Nat} {w : Int64} (hU : 4000 < U) (hT : RI σ 1102 T) (hok : ok8 T) (hl : T.length ≤ 700) (hse : s ≤ e) (he : e ≤ T.length) : x_X12_isPlain U 1101 (nI s) (nI e) w σ = some (zI (decide (slc T s e = bw w))) := by
  have h8 := lcnt_le w 8 0 rfl
  unfold x_X12_isPlain
  rw [X12_letters hU, b1_eq, nI_sub hse]
  by_cases hn : e - s = lcnt w 8 0
  · rw [if_pos (by rw [hn])]
    exact X12_isPlain_L hU hT hok hl hse he hn (e - s) s U (by omega) (Nat.le_refl _) (by omega) (fun i hi => by omega)
  · rw [if_neg (fun z => hn ((nI_eq (by omega) (by omega)).mp z)), decide_eq_false (fun z => hn (by have := congrArg List.length z; rw [slc_len hse he, bw_len] at this; exact this))]; try rfl
/-- the place of a list of bytes among words between blanks -/
def fi (S : List Nat) : List (List Nat) → Nat → Option Nat
  | [], _ => none
  | x :: r, i => if S = x then some i else fi S r (i + 1)
def jn : List (List Nat) → List Nat
  | [] => []
  | [x] => x
  | x :: y :: r => x ++ 32 :: jn (y :: r)
theorem wI_word {S : List Nat} {rest : List Nat} {i : Nat} : ∀ (x pre : List Nat) (m : Nat), (∀ c ∈ x, c ≠ 32) → pre.length = m → ∀ z : Bool, (z = true ↔ S.take m = pre ∧ m ≤ S.length) →
    ∃ z', wI S (x ++ rest) i m z = wI S rest i (m + x.length) z' ∧ (z' = true ↔ S.take (m + x.length) = pre ++ x ∧ m + x.length ≤ S.length) := by
  intro x
  induction x with
  | nil => intro pre m _ hp z hz; exact ⟨z, rfl, by simpa using hz⟩
  | cons c x ih =>
    intro pre m hx hp z hz
    rw [List.cons_append, wI, if_neg (hx c List.mem_cons_self)]
    have hz' : ((z && decide (S[m]? = some c)) = true ↔ S.take (m + 1) = pre ++ [c] ∧ m + 1 ≤ S.length) := by
      rw [Bool.and_eq_true, hz, decide_eq_true_iff]
      constructor
      · rintro ⟨⟨h1, h2⟩, h3⟩
        have h4 := (List.getElem?_eq_some_iff.mp h3)
        refine ⟨?_, by have := h4.1; omega⟩
        rw [List.take_succ_eq_append_getElem h4.1, h1, h4.2]
      · rintro ⟨h1, h2⟩
        have hlt : m < S.length := by omega
        rw [List.take_succ_eq_append_getElem hlt] at h1
        have h3 := List.append_inj h1 (by rw [List.length_take, hp]; omega)
        refine ⟨⟨h3.1, by omega⟩, ?_⟩
        rw [List.getElem?_eq_getElem hlt]
        exact congrArg some (List.cons.inj h3.2).1
    obtain ⟨z2, g1, g2⟩ := ih (pre ++ [c]) (m + 1) (fun d hd => hx d (List.mem_cons_of_mem _ hd)) (by simp [hp]) _ hz'
    refine ⟨z2, ?_, ?_⟩
    · rw [g1]; congr 1; simp; omega
    · rw [g2]; simp [List.append_assoc]; constructor <;> (rintro ⟨a, b⟩; exact ⟨by simpa [Nat.add_assoc, Nat.add_comm, Nat.add_left_comm] using a, by omega⟩)
theorem wI_fi {S : List Nat} : ∀ (L : List (List Nat)) (i : Nat), L ≠ [] → (∀ x ∈ L, ∀ c ∈ x, c ≠ 32) → wI S (jn L) i 0 true = fi S L i := by
  intro L
  induction L with
  | nil => intro i h; exact absurd rfl h
  | cons x r ih =>
    intro i _ hx
    have hxx := hx x List.mem_cons_self
    have eqv : ∀ z' : Bool, (z' = true ↔ S.take (0 + x.length) = [] ++ x ∧ 0 + x.length ≤ S.length) → ((z' = true ∧ 0 + x.length = S.length) ↔ S = x) := by
      intro z' hz
      rw [hz]
      constructor
      · rintro ⟨⟨h1, h2⟩, h3⟩; rw [Nat.zero_add] at h1 h3; rw [h3, List.take_length] at h1; exact h1
      · intro h; subst h; simp
    cases r with
    | nil =>
      obtain ⟨z', g1, g2⟩ := wI_word (S := S) (rest := []) (i := i) x [] 0 hxx rfl true (by simp)
      rw [List.append_nil] at g1
      show wI S x i 0 true = _
      rw [g1, wI, fi, fi]
      by_cases q : S = x
      · rw [if_pos ((eqv z' g2).mpr q), if_pos q]
      · rw [if_neg (fun h => q ((eqv z' g2).mp h)), if_neg q]
    | cons y r =>
      obtain ⟨z', g1, g2⟩ := wI_word (S := S) (rest := 32 :: jn (y :: r)) (i := i) x [] 0 hxx rfl true (by simp)
      show wI S (x ++ 32 :: jn (y :: r)) i 0 true = _
      rw [g1, wI, if_pos rfl, fi]
      by_cases q : S = x
      · rw [if_pos ((eqv z' g2).mpr q), if_pos q]
      · rw [if_neg (fun h => q ((eqv z' g2).mp h)), if_neg q]
        exact ih (i + 1) (by simp) (fun w hw => hx w (List.mem_cons_of_mem _ hw))
/-! ===== what a word is, to both ===== -/
def tyW : List (List Nat) := [[105, 110, 116, 51, 50], [105, 110, 116, 54, 52], [117, 105, 110, 116, 51, 50], [117, 105, 110, 116, 54, 52], [115, 105, 110, 116, 51, 50], [115, 105, 110, 116, 54, 52], [102, 105, 120, 101, 100, 51, 50], [102, 105, 120, 101, 100, 54, 52], [115, 102, 105, 120, 101, 100, 51, 50], [115, 102, 105, 120, 101, 100, 54, 52], [98, 111, 111, 108], [115, 116, 114, 105, 110, 103], [98, 121, 116, 101, 115]]
def kwW : List (List Nat) := [[109, 101, 115, 115, 97, 103, 101], [101, 110, 117, 109], [111, 110, 101, 111, 102], [114, 101, 112, 101, 97, 116, 101, 100], [115, 121, 110, 116, 97, 120], [112, 97, 99, 107, 101, 100], [116, 114, 117, 101], [102, 97, 108, 115, 101], [112, 114, 111, 116, 111, 51]]
def fbW : List (List Nat) := [[105, 109, 112, 111, 114, 116], [112, 97, 99, 107, 97, 103, 101], [111, 112, 116, 105, 111, 110], [115, 101, 114, 118, 105, 99, 101], [101, 120, 116, 101, 110, 100], [109, 97, 112], [111, 112, 116, 105, 111, 110, 97, 108], [114, 101, 113, 117, 105, 114, 101, 100], [103, 114, 111, 117, 112], [101, 120, 116, 101, 110, 115, 105, 111, 110, 115], [114, 101, 115, 101, 114, 118, 101, 100], [114, 112, 99]]
theorem fi_get {S : List Nat} : ∀ (L : List (List Nat)) (i k : Nat), fi S L i = some k → i ≤ k ∧ L[k - i]? = some S := by
  intro L
  induction L with
  | nil => intro i k h; cases h
  | cons x r ih =>
    intro i k h
    rw [fi] at h
    by_cases q : S = x
    · rw [if_pos q] at h; cases h; exact ⟨Nat.le_refl _, by simp [q]⟩
    · rw [if_neg q] at h
      obtain ⟨h1, h2⟩ := ih (i + 1) k h
      refine ⟨by omega, ?_⟩
      rw [show k - i = (k - (i + 1)) + 1 by omega, List.getElem?_cons_succ]; exact h2
theorem fi_none {S : List Nat} : ∀ (L : List (List Nat)) (i : Nat), fi S L i = none → S ∉ L := by
  intro L
  induction L with
  | nil => intro i _; exact List.not_mem_nil
  | cons x r ih =>
    intro i h
    rw [fi] at h
    by_cases q : S = x
    · rw [if_pos q] at h; cases h
    · rw [if_neg q] at h
      exact fun hm => (List.mem_cons.mp hm).elim q (ih (i + 1) h)
theorem cdS_eq (S : List Nat) : cdS S = (match fi S tyW 0 with
  | some i => nI i
  | none => match fi S kwW 0 with
    | some i => nI (20 + i)
    | none => match fi S fbW 0 with
      | some _ => 40
      | none => -1) := by
  unfold cdS
  rw [show tby.getD 3 [] = jn tyW from by decide +kernel, show tby.getD 4 [] = jn kwW from by decide +kernel, show tby.getD 5 [] = jn fbW from by decide +kernel, wI_fi tyW 0 (by decide) (by decide +kernel), wI_fi kwW 0 (by decide) (by decide +kernel), wI_fi fbW 0 (by decide) (by decide +kernel)]
  try rfl
theorem cdS_cases (S : List Nat) : (∃ k, k < 13 ∧ cdS S = nI k ∧ tyW[k]? = some S) ∨ (∃ k, k < 9 ∧ cdS S = nI (20 + k) ∧ kwW[k]? = some S) ∨ (cdS S = 40 ∧ S ∈ fbW) ∨ (cdS S = -1 ∧ S ∉ fbW) := by
  have e := cdS_eq S
  cases h1 : fi S tyW 0 with
  | some i =>
    have g := fi_get _ _ _ h1
    rw [Nat.sub_zero] at g
    rw [h1] at e
    exact Or.inl ⟨i, (List.getElem?_eq_some_iff.mp g.2).1, e, g.2⟩
  | none =>
    cases h2 : fi S kwW 0 with
    | some i =>
      have g := fi_get _ _ _ h2
      rw [Nat.sub_zero] at g
      rw [h1, h2] at e
      exact Or.inr (Or.inl ⟨i, (List.getElem?_eq_some_iff.mp g.2).1, e, g.2⟩)
    | none =>
      cases h3 : fi S fbW 0 with
      | some i =>
        have g := fi_get _ _ _ h3
        rw [h1, h2, h3] at e
        exact Or.inr (Or.inr (Or.inl ⟨e, List.mem_of_getElem? g.2⟩))
      | none =>
        rw [h1, h2, h3] at e
        exact Or.inr (Or.inr (Or.inr ⟨e, fi_none _ _ h3⟩))
theorem cd_ty {S : List Nat} {k : Nat} (hk : k < 13) : cdS S = nI k ↔ tyW[k]? = some S := by
  constructor
  · intro h
    rcases cdS_cases S with ⟨j, hj, e, g⟩ | ⟨j, hj, e, g⟩ | ⟨e, g⟩ | ⟨e, g⟩
    · rw [h, nI_eq (by omega) (by omega)] at e; rw [e]; exact g
    · rw [h, nI_eq (by omega) (by omega)] at e; omega
    · rw [h] at e; have := (nI_eq (a := k) (b := 40) (by omega) (by decide)).mp e; omega
    · rw [h] at e; exact absurd e.symm ((by decide +kernel : ∀ c, c < 256 → ¬ (-1 : Int32) = nI c) k (by omega))
  · intro h
    have := (by decide +kernel : ∀ k, k < 13 → cdS (tyW.getD k []) = nI k) k hk
    rw [List.getD_eq_getElem?_getD, h] at this; exact this
theorem cd_kw {S : List Nat} {k : Nat} (hk : k < 9) : cdS S = nI (20 + k) ↔ kwW[k]? = some S := by
  constructor
  · intro h
    rcases cdS_cases S with ⟨j, hj, e, g⟩ | ⟨j, hj, e, g⟩ | ⟨e, g⟩ | ⟨e, g⟩
    · rw [h, nI_eq (by omega) (by omega)] at e; omega
    · rw [h, nI_eq (by omega) (by omega)] at e; rw [show k = j by omega]; exact g
    · rw [h] at e; have := (nI_eq (a := 20 + k) (b := 40) (by omega) (by decide)).mp e; omega
    · rw [h] at e; exact absurd e.symm ((by decide +kernel : ∀ c, c < 256 → ¬ (-1 : Int32) = nI c) (20 + k) (by omega))
  · intro h
    have := (by decide +kernel : ∀ k, k < 9 → cdS (kwW.getD k []) = nI (20 + k)) k hk
    rw [List.getD_eq_getElem?_getD, h] at this; exact this
theorem cd_fb {S : List Nat} : cdS S = 40 ↔ S ∈ fbW := by
  constructor
  · intro h
    rcases cdS_cases S with ⟨j, hj, e, g⟩ | ⟨j, hj, e, g⟩ | ⟨e, g⟩ | ⟨e, g⟩
    · rw [h] at e; have := (nI_eq (a := 40) (b := j) (by decide) (by omega)).mp e; omega
    · rw [h] at e; have := (nI_eq (a := 40) (b := 20 + j) (by decide) (by omega)).mp e; omega
    · exact g
    · rw [h] at e; exact absurd e (by decide)
  · intro h
    exact (by decide +kernel : ∀ S ∈ fbW, cdS S = 40) S h
/-- a word of a text -/
def gw (T : List Nat) (x : Wd) : Prop := x.1 < 6 ∧ x.2.1 ≤ T.length ∧ (x.1 ≠ 0 → x.1 ≠ 5 → x.2.1 < x.2.2.1 ∧ x.2.2.1 ≤ T.length) ∧ (x.1 = 1 → x.2.2.2 = Int32.toInt64 (cdS (slc T x.2.1 x.2.2.1))) ∧ (x.1 = 3 → x.2.1 + 2 ≤ x.2.2.1 ∧ x.2.2.2 = Int32.toInt64 (cdS (slc T (x.2.1 + 1) (x.2.2.1 - 1)))) ∧ (x.1 = 4 → x.2.2.1 = x.2.1 + 1 ∧ ∃ c, T[x.2.1]? = some c ∧ x.2.2.2 = Int32.toInt64 (nI c)) ∧ (x.1 = 2 → ∃ n, n ≤ 2 ^ 40 ∧ x.2.2.2 = lN n)
theorem cf_le (b : Nat) : ∀ (L : List Nat) (A : Nat), A ≤ 2 ^ 40 → cf b A L ≤ 2 ^ 40
  | [], A, h => h
  | c :: L, A, h => cf_le b L _ (Nat.min_le_right _ _)
theorem gw_lx {T : List Nat} {p : Nat} {u : Bool} (hp : p ≤ T.length) : gw T (lx T p u) := by
  refine ⟨lx_kind T p u, by rw [lx_start]; exact hp, fun h0 h5 => by rw [lx_start]; exact ⟨(lx_end h0 h5).1, (lx_end h0 h5).2.1⟩, ?_⟩
  unfold lx
  cases e : T[p]? with
  | none => cases u <;> (refine ⟨fun h => ?_, fun h => ?_, fun h => ?_, fun h => ?_⟩ <;> simp at h)
  | some c =>
    simp only
    by_cases q1 : pL c = true
    · rw [if_pos q1]; exact ⟨fun _ => rfl, fun h => (by cases h), fun h => (by cases h), fun h => (by cases h)⟩
    · rw [if_neg q1]
      by_cases q2 : pD c = true
      · rw [if_pos q2]
        cases nok T p <;> exact ⟨fun h => (by cases h), fun h => (by cases h), fun h => (by cases h), fun _ => ⟨nvC T p, cf_le _ _ _ (Nat.zero_le _), rfl⟩⟩
      · rw [if_neg q2]
        by_cases q3 : c = 34
        · rw [if_pos q3]
          by_cases q4 : T[ten T p]? = some 34
          · rw [if_pos q4]; exact ⟨fun h => (by cases h), fun _ => ⟨by show p + 2 ≤ ten T p + 1; unfold ten; omega, rfl⟩, fun h => (by cases h), fun h => (by cases h)⟩
          · rw [if_neg q4]; exact ⟨fun h => (by cases h), fun h => (by cases h), fun h => (by cases h), fun h => (by cases h)⟩
        · rw [if_neg q3]; exact ⟨fun h => (by cases h), fun h => (by cases h), fun _ => ⟨rfl, c, e, rfl⟩, fun h => (by cases h)⟩
theorem gw_nw {T : List Nat} {p : Nat} (hp : p ≤ T.length) : gw T (nw T p) := gw_lx (bbS_le (T := T) (T.length + 1) p false (by omega) hp).1
/-- a name's code, -1 for what is no name -/
def cdX (x : Wd) : Int32 := if x.1 = 1 then Int64.toInt32 x.2.2.2 else -1
def sgX (T : List Nat) (x : Wd) (c : Nat) : Bool := decide (x.1 = 4 ∧ T[x.2.1]? = some c)
theorem toI (v : Int32) : Int64.toInt32 (Int32.toInt64 v) = v := Int32.toInt32_toInt64 v
theorem cdX_1 {T : List Nat} {x : Wd} (h : gw T x) (h1 : x.1 = 1) : cdX x = cdS (slc T x.2.1 x.2.2.1) := by unfold cdX; rw [if_pos h1, h.2.2.2.1 h1, toI]
theorem X12_isWord {U : Nat} {σ : SG} {T : List Nat} {x : Wd} {w : Int64} (hU : 4000 < U) (h : LR σ T) (hx : gw T x) (hc : CW σ x) : x_X12_isWord U 1101 w σ = some (zI (decide (x.1 = 1 ∧ slc T x.2.1 x.2.2.1 = bw w))) := by
  have h6 := hx.1
  unfold x_X12_isWord
  rw [hc.1]
  by_cases q : x.1 = 1
  · have hb := hx.2.2.1 (by omega) (by omega)
    rw [if_pos (by rw [q]; rfl), hc.2.1, (hc.2.2.1 (by omega) (by omega)).1, X12_isPlain hU h.2.1 h.2.2.2 h.2.2.1 (by omega) hb.2, b1_eq, ifz]
    by_cases r : slc T x.2.1 x.2.2.1 = bw w
    · rw [decide_eq_true r, decide_eq_true ⟨q, r⟩]; try rfl
    · rw [decide_eq_false r, decide_eq_false (fun z => r z.2)]; try rfl
  · rw [if_neg (show ¬ nI x.1 = 1 from fun z => q ((nI_eq (a := x.1) (b := 1) (by omega) (by decide)).mp z)), decide_eq_false (fun z => q z.1)]; try rfl
theorem isW_kw {T : List Nat} {x : Wd} {w : Int64} {k : Nat} (hx : gw T x) (hk : k < 9) (hw : kwW[k]? = some (bw w)) : decide (x.1 = 1 ∧ slc T x.2.1 x.2.2.1 = bw w) = decide (cdX x = nI (20 + k)) := by
  apply decide_eq_decide.mpr
  constructor
  · rintro ⟨h1, h2⟩; rw [cdX_1 hx h1, cd_kw hk, h2]; exact hw
  · intro h
    by_cases q : x.1 = 1
    · refine ⟨q, ?_⟩
      rw [cdX_1 hx q, cd_kw hk, hw] at h
      exact (Option.some.inj h).symm
    · unfold cdX at h; rw [if_neg q] at h
      exact absurd h ((by decide +kernel : ∀ c, c < 256 → ¬ (-1 : Int32) = nI c) (20 + k) (by omega))
theorem isW_ty {T : List Nat} {x : Wd} {w : Int64} {k : Nat} (hx : gw T x) (hk : k < 13) (hw : tyW[k]? = some (bw w)) : decide (x.1 = 1 ∧ slc T x.2.1 x.2.2.1 = bw w) = decide (cdX x = nI k) := by
  apply decide_eq_decide.mpr
  constructor
  · rintro ⟨h1, h2⟩; rw [cdX_1 hx h1, cd_ty hk, h2]; exact hw
  · intro h
    by_cases q : x.1 = 1
    · refine ⟨q, ?_⟩
      rw [cdX_1 hx q, cd_ty hk, hw] at h
      exact (Option.some.inj h).symm
    · unfold cdX at h; rw [if_neg q] at h
      exact absurd h ((by decide +kernel : ∀ c, c < 256 → ¬ (-1 : Int32) = nI c) k (by omega))
theorem X12_isSign {σ : SG} {T : List Nat} {x : Wd} {c : Nat} (h : LR σ T) (hx : gw T x) (hc : CW σ x) (hc8 : c < 256) : x_X12_isSign 1101 (nI c) σ = some (zI (sgX T x c)) := by
  have h6 := hx.1
  have hl := h.2.2.1
  unfold x_X12_isSign sgX
  rw [hc.1]
  by_cases q : x.1 = 4
  · obtain ⟨e1, d, e2, e3⟩ := hx.2.2.2.2.2.1 q
    have hd := (List.getElem?_eq_some_iff.mp e2).1
    have hd8 := h.2.2.2 d (List.mem_of_getElem? e2)
    rw [if_pos (by rw [q]; rfl), hc.2.1, ix_in (by omega) (by decide), h.2.1 _ _ e2, e2]
    by_cases r : d = c
    · rw [if_pos (by rw [r]), decide_eq_true ⟨q, by rw [r]⟩]; try rfl
    · rw [if_neg (fun z => r ((nI_eq (by omega) (by omega)).mp z)), decide_eq_false (fun z => r (Option.some.inj z.2))]; try rfl
  · rw [if_neg (show ¬ nI x.1 = 4 from fun z => q ((nI_eq (a := x.1) (b := 4) (by omega) (by decide)).mp z)), decide_eq_false (fun z => q z.1)]; try rfl
/-! ===== the reference's questions about the current word; the class's ===== -/
theorem isW_fb {T : List Nat} {x : Wd} (hx : gw T x) : decide (x.1 = 1 ∧ slc T x.2.1 x.2.2.1 ∈ fbW) = decide (cdX x = 40) := by
  apply decide_eq_decide.mpr
  constructor
  · rintro ⟨h1, h2⟩; rw [cdX_1 hx h1, cd_fb]; exact h2
  · intro h
    by_cases q : x.1 = 1
    · exact ⟨q, by rw [cdX_1 hx q, cd_fb] at h; exact h⟩
    · unfold cdX at h; rw [if_neg q] at h; exact absurd h (by decide)
theorem slc_app {T : List Nat} {s m e : Nat} (h1 : s ≤ m) (h2 : m ≤ e) (he : e ≤ T.length) : slc T s e = slc T s m ++ slc T m e := by
  apply List.ext_getElem?
  intro i
  rcases Nat.lt_or_ge i (m - s) with q | q
  · rw [slc_get (by omega), List.getElem?_append_left (by rw [slc_len h1 (by omega)]; exact q), slc_get q]
  · rw [List.getElem?_append_right (by rw [slc_len h1 (by omega)]; exact q), slc_len h1 (by omega)]
    rcases Nat.lt_or_ge i (e - s) with r | r
    · rw [slc_get r, slc_get (by omega), show m + (i - (m - s)) = s + i by omega]
    · rw [List.getElem?_eq_none (by rw [slc_len (by omega) he]; exact r), List.getElem?_eq_none (by rw [slc_len h2 he]; omega)]
def extW : List Nat := [101, 120, 116, 101, 110, 115, 105, 111, 110, 115]
theorem X12_isExtensions {U : Nat} {σ : SG} {T : List Nat} {x : Wd} (hU : 4000 < U) (h : LR σ T) (hx : gw T x) (hc : CW σ x) : x_X12_isExtensions U 1101 σ = some (zI (decide (x.1 = 1 ∧ slc T x.2.1 x.2.2.1 = extW))) := by
  have h6 := hx.1
  have hl := h.2.2.1
  unfold x_X12_isExtensions
  rw [hc.1]
  by_cases q : x.1 = 1
  · have hb := hx.2.2.1 (by omega) (by omega)
    rw [if_pos (by rw [q]; rfl), hc.2.1, (hc.2.2.1 (by omega) (by omega)).1, nI_sub (by omega)]
    by_cases h10 : x.2.2.1 - x.2.1 = 10
    · have e8 : nI x.2.1 + 8 = nI (x.2.1 + 8) := nI_add _ 8
      rw [if_pos (by rw [h10]; rfl), e8, X12_isPlain hU h.2.1 h.2.2.2 h.2.2.1 (by omega) (by omega), b1_eq, ifz, X12_isPlain hU h.2.1 h.2.2.2 h.2.2.1 (by omega) hb.2, b1_eq, ifz]
      have ea := slc_app (T := T) (s := x.2.1) (m := x.2.1 + 8) (e := x.2.2.1) (by omega) (by omega) hb.2
      have eb : extW = bw 7311721974029576559 ++ bw 28275 := by decide +kernel
      by_cases r1 : slc T x.2.1 (x.2.1 + 8) = bw 7311721974029576559
      · rw [decide_eq_true r1]
        by_cases r2 : slc T (x.2.1 + 8) x.2.2.1 = bw 28275
        · rw [decide_eq_true r2, decide_eq_true ⟨q, by rw [ea, r1, r2, eb]⟩]; try rfl
        · rw [decide_eq_false r2, decide_eq_false (fun z => r2 (by have := z.2; rw [ea, eb] at this; exact (List.append_inj this (by rw [r1])).2))]; try rfl
      · rw [decide_eq_false r1, decide_eq_false (show ¬ (x.1 = 1 ∧ slc T x.2.1 x.2.2.1 = extW) from fun z => r1 (by have := z.2; rw [ea, eb] at this; exact (List.append_inj this (by rw [slc_len (by omega) (by omega), bw_len, show x.2.1 + 8 - x.2.1 = 8 by omega]; decide +kernel)).1))]; try rfl
    · rw [if_neg (show ¬ nI (x.2.2.1 - x.2.1) = 10 from fun z => h10 ((nI_eq (b := 10) (by omega) (by decide)).mp z)), decide_eq_false (fun z => h10 (by have := congrArg List.length z.2; rw [slc_len (by omega) hb.2] at this; exact this))]; try rfl
  · rw [if_neg (show ¬ nI x.1 = 1 from fun z => q ((nI_eq (a := x.1) (b := 1) (by omega) (by decide)).mp z)), decide_eq_false (fun z => q z.1)]; try rfl

theorem X12_isForeign {U : Nat} {σ : SG} {T : List Nat} {x : Wd} (hU : 4000 < U) (h : LR σ T) (hx : gw T x) (hc : CW σ x) : x_X12_isForeign U 1101 σ = some (zI (decide (cdX x = 40))) := by
  rw [← isW_fb hx]
  unfold x_X12_isForeign
  rw [X12_isWord hU h hx hc, b1_eq, ifz]
  rw [X12_isWord hU h hx hc, b1_eq, ifz]
  rw [X12_isWord hU h hx hc, b1_eq, ifz]
  rw [X12_isWord hU h hx hc, b1_eq, ifz]
  rw [X12_isWord hU h hx hc, b1_eq, ifz]
  rw [X12_isWord hU h hx hc, b1_eq, ifz]
  rw [X12_isWord hU h hx hc, b1_eq, ifz]
  rw [X12_isWord hU h hx hc, b1_eq, ifz]
  rw [X12_isWord hU h hx hc, b1_eq, ifz]
  rw [X12_isExtensions hU h hx hc, b1_eq, ifz]
  rw [X12_isWord hU h hx hc, b1_eq, ifz]
  rw [X12_isWord hU h hx hc, b1_eq, ifz]
  by_cases q : x.1 = 1
  · generalize slc T x.2.1 x.2.2.1 = S
    have e : fbW = [(bw 115918758703732), (bw 31632277022795621), (bw 122528780087150), (bw 32481164609020773), (bw 111568023285348), (bw 7168368), (bw 8030046131791487340), (bw 8243119442065778020), (bw 444301538672), extW, (bw 8243121572520813924), (bw 7499875)] := by decide +kernel
    rw [e]
    simp only [q, true_and, List.mem_cons, List.not_mem_nil, or_false]
    by_cases r0 : S = (bw 115918758703732)
    · simp [r0, zI]
    simp only [r0, decide_false, Bool.false_eq_true, if_false, false_or]
    by_cases r1 : S = (bw 31632277022795621)
    · simp [r1, zI]
    simp only [r1, decide_false, Bool.false_eq_true, if_false, false_or]
    by_cases r2 : S = (bw 122528780087150)
    · simp [r2, zI]
    simp only [r2, decide_false, Bool.false_eq_true, if_false, false_or]
    by_cases r3 : S = (bw 32481164609020773)
    · simp [r3, zI]
    simp only [r3, decide_false, Bool.false_eq_true, if_false, false_or]
    by_cases r4 : S = (bw 111568023285348)
    · simp [r4, zI]
    simp only [r4, decide_false, Bool.false_eq_true, if_false, false_or]
    by_cases r5 : S = (bw 7168368)
    · simp [r5, zI]
    simp only [r5, decide_false, Bool.false_eq_true, if_false, false_or]
    by_cases r6 : S = (bw 8030046131791487340)
    · simp [r6, zI]
    simp only [r6, decide_false, Bool.false_eq_true, if_false, false_or]
    by_cases r7 : S = (bw 8243119442065778020)
    · simp [r7, zI]
    simp only [r7, decide_false, Bool.false_eq_true, if_false, false_or]
    by_cases r8 : S = (bw 444301538672)
    · simp [r8, zI]
    simp only [r8, decide_false, Bool.false_eq_true, if_false, false_or]
    by_cases r9 : S = extW
    · simp [r9, zI]
    simp only [r9, decide_false, Bool.false_eq_true, if_false, false_or]
    by_cases r10 : S = (bw 8243121572520813924)
    · simp [r10, zI]
    simp only [r10, decide_false, Bool.false_eq_true, if_false, false_or]
    by_cases r11 : S = (bw 7499875)
    · simp [r11, zI]
    simp only [r11, decide_false, Bool.false_eq_true, if_false, false_or]
    try rfl
  · simp [q, zI]
def nty (x : Wd) : Int32 := if 0 ≤ cdX x ∧ cdX x < 13 then cdX x else -1
theorem X12_numberType {U : Nat} {σ : SG} {T : List Nat} {x : Wd} (hU : 4000 < U) (h : LR σ T) (hx : gw T x) (hc : CW σ x) : x_X12_numberType U 1101 σ = some (nty x) := by
  unfold x_X12_numberType nty
  rw [X12_isWord hU h hx hc, isW_ty (k := 0) hx (by decide) (by decide +kernel), b1_eq, ifz]
  rw [X12_isWord hU h hx hc, isW_ty (k := 1) hx (by decide) (by decide +kernel), b1_eq, ifz]
  rw [X12_isWord hU h hx hc, isW_ty (k := 2) hx (by decide) (by decide +kernel), b1_eq, ifz]
  rw [X12_isWord hU h hx hc, isW_ty (k := 3) hx (by decide) (by decide +kernel), b1_eq, ifz]
  rw [X12_isWord hU h hx hc, isW_ty (k := 4) hx (by decide) (by decide +kernel), b1_eq, ifz]
  rw [X12_isWord hU h hx hc, isW_ty (k := 5) hx (by decide) (by decide +kernel), b1_eq, ifz]
  rw [X12_isWord hU h hx hc, isW_ty (k := 6) hx (by decide) (by decide +kernel), b1_eq, ifz]
  rw [X12_isWord hU h hx hc, isW_ty (k := 7) hx (by decide) (by decide +kernel), b1_eq, ifz]
  rw [X12_isWord hU h hx hc, isW_ty (k := 8) hx (by decide) (by decide +kernel), b1_eq, ifz]
  rw [X12_isWord hU h hx hc, isW_ty (k := 9) hx (by decide) (by decide +kernel), b1_eq, ifz]
  rw [X12_isWord hU h hx hc, isW_ty (k := 10) hx (by decide) (by decide +kernel), b1_eq, ifz]
  rw [X12_isWord hU h hx hc, isW_ty (k := 11) hx (by decide) (by decide +kernel), b1_eq, ifz]
  rw [X12_isWord hU h hx hc, isW_ty (k := 12) hx (by decide) (by decide +kernel), b1_eq, ifz]
  by_cases r0 : cdX x = nI 0
  · rw [decide_eq_true r0]; rw [r0]; try rfl
  rw [decide_eq_false r0]
  simp only [Bool.false_eq_true, if_false]
  by_cases r1 : cdX x = nI 1
  · rw [decide_eq_true r1]; rw [r1]; try rfl
  rw [decide_eq_false r1]
  simp only [Bool.false_eq_true, if_false]
  by_cases r2 : cdX x = nI 2
  · rw [decide_eq_true r2]; rw [r2]; try rfl
  rw [decide_eq_false r2]
  simp only [Bool.false_eq_true, if_false]
  by_cases r3 : cdX x = nI 3
  · rw [decide_eq_true r3]; rw [r3]; try rfl
  rw [decide_eq_false r3]
  simp only [Bool.false_eq_true, if_false]
  by_cases r4 : cdX x = nI 4
  · rw [decide_eq_true r4]; rw [r4]; try rfl
  rw [decide_eq_false r4]
  simp only [Bool.false_eq_true, if_false]
  by_cases r5 : cdX x = nI 5
  · rw [decide_eq_true r5]; rw [r5]; try rfl
  rw [decide_eq_false r5]
  simp only [Bool.false_eq_true, if_false]
  by_cases r6 : cdX x = nI 6
  · rw [decide_eq_true r6]; rw [r6]; try rfl
  rw [decide_eq_false r6]
  simp only [Bool.false_eq_true, if_false]
  by_cases r7 : cdX x = nI 7
  · rw [decide_eq_true r7]; rw [r7]; try rfl
  rw [decide_eq_false r7]
  simp only [Bool.false_eq_true, if_false]
  by_cases r8 : cdX x = nI 8
  · rw [decide_eq_true r8]; rw [r8]; try rfl
  rw [decide_eq_false r8]
  simp only [Bool.false_eq_true, if_false]
  by_cases r9 : cdX x = nI 9
  · rw [decide_eq_true r9]; rw [r9]; try rfl
  rw [decide_eq_false r9]
  simp only [Bool.false_eq_true, if_false]
  by_cases r10 : cdX x = nI 10
  · rw [decide_eq_true r10]; rw [r10]; try rfl
  rw [decide_eq_false r10]
  simp only [Bool.false_eq_true, if_false]
  by_cases r11 : cdX x = nI 11
  · rw [decide_eq_true r11]; rw [r11]; try rfl
  rw [decide_eq_false r11]
  simp only [Bool.false_eq_true, if_false]
  by_cases r12 : cdX x = nI 12
  · rw [decide_eq_true r12]; rw [r12]; try rfl
  rw [decide_eq_false r12]
  simp only [Bool.false_eq_true, if_false]
  rw [if_neg]
  rintro ⟨h1, h2⟩
  obtain ⟨k, hk, e⟩ := nI_of (x := cdX x) (Int32.not_lt.mpr h1)
  have hk13 : k < 13 := by rw [e] at h2; exact (ltI (b := 13) hk (by decide)).mp h2
  rw [e] at r0 r1 r2 r3 r4 r5 r6 r7 r8 r9 r10 r11 r12
  have n0 : k ≠ 0 := fun z => r0 (by rw [z])
  have n1 : k ≠ 1 := fun z => r1 (by rw [z])
  have n2 : k ≠ 2 := fun z => r2 (by rw [z])
  have n3 : k ≠ 3 := fun z => r3 (by rw [z])
  have n4 : k ≠ 4 := fun z => r4 (by rw [z])
  have n5 : k ≠ 5 := fun z => r5 (by rw [z])
  have n6 : k ≠ 6 := fun z => r6 (by rw [z])
  have n7 : k ≠ 7 := fun z => r7 (by rw [z])
  have n8 : k ≠ 8 := fun z => r8 (by rw [z])
  have n9 : k ≠ 9 := fun z => r9 (by rw [z])
  have n10 : k ≠ 10 := fun z => r10 (by rw [z])
  have n11 : k ≠ 11 := fun z => r11 (by rw [z])
  have n12 : k ≠ 12 := fun z => r12 (by rw [z])
  omega
def rsv (x : Wd) : Bool := decide (cdX x = nI 20) || decide (cdX x = nI 21) || decide (cdX x = nI 22) || decide (cdX x = nI 23)
theorem X12_isReservedName {U : Nat} {σ : SG} {T : List Nat} {x : Wd} (hU : 4000 < U) (h : LR σ T) (hx : gw T x) (hc : CW σ x) : x_X12_isReservedName U 1101 σ = some (zI (rsv x)) := by
  unfold x_X12_isReservedName rsv
  rw [X12_isWord hU h hx hc, isW_kw (k := 0) hx (by decide) (by decide +kernel), b1_eq, ifz]
  rw [X12_isWord hU h hx hc, isW_kw (k := 1) hx (by decide) (by decide +kernel), b1_eq, ifz]
  rw [X12_isWord hU h hx hc, isW_kw (k := 2) hx (by decide) (by decide +kernel), b1_eq, ifz]
  rw [X12_isWord hU h hx hc, isW_kw (k := 3) hx (by decide) (by decide +kernel), b1_eq, ifz]
  cases decide (cdX x = nI 20) <;> cases decide (cdX x = nI 21) <;> cases decide (cdX x = nI 22) <;> cases decide (cdX x = nI 23) <;> rfl
theorem X12_isProto3 {U : Nat} {σ : SG} {T : List Nat} {x : Wd} (hU : 4000 < U) (h : LR σ T) (hx : gw T x) (hc : CW σ x) : x_X12_isProto3 U 1101 σ = some (zI (decide (x.1 = 3 ∧ x.2.2.2 = Int32.toInt64 (nI 28)))) := by
  have h6 := hx.1
  have hl := h.2.2.1
  unfold x_X12_isProto3
  rw [hc.1]
  by_cases q : x.1 = 3
  · have hb := hx.2.2.1 (by omega) (by omega)
    obtain ⟨e1, e2⟩ := hx.2.2.2.2.1 q
    have es : nI x.2.2.1 - 1 = nI (x.2.2.1 - 1) := nI_sub (b := 1) (by omega)
    rw [if_pos (by rw [q]; rfl), hc.2.1, (hc.2.2.1 (by omega) (by omega)).1, nI_1, es, X12_isPlain hU h.2.1 h.2.2.2 h.2.2.1 (by omega) (by omega), b1_eq, ifz, e2]
    have key : (slc T (x.2.1 + 1) (x.2.2.1 - 1) = bw 123636798484275) ↔ Int32.toInt64 (cdS (slc T (x.2.1 + 1) (x.2.2.1 - 1))) = Int32.toInt64 (nI 28) := by
      constructor
      · intro z; rw [z]; exact congrArg _ ((cd_kw (k := 8) (by decide)).mpr (by decide +kernel))
      · intro z
        have z2 := congrArg Int64.toInt32 z
        rw [toI, toI] at z2
        have := (cd_kw (k := 8) (by decide)).mp z2
        rw [show kwW[8]? = some (bw 123636798484275) by decide +kernel] at this
        exact (Option.some.inj this).symm
    by_cases r : slc T (x.2.1 + 1) (x.2.2.1 - 1) = bw 123636798484275
    · rw [decide_eq_true r, decide_eq_true ⟨q, key.mp r⟩]; try rfl
    · rw [decide_eq_false r, decide_eq_false (fun z => r (key.mpr z.2))]; try rfl
  · rw [if_neg (show ¬ nI x.1 = 3 from fun z => q ((nI_eq (a := x.1) (b := 3) (by omega) (by decide)).mp z)), decide_eq_false (fun z => q z.1)]; try rfl
/-! the class's questions -/
theorem X10_kindOf {w k : Nat} {σ : SG} {Ws : List Wd} {x : Wd} (h : WA σ w Ws) (hk : Ws[k]? = some x) : x_X10_kindOf w (nI k) σ = some (nI x.1) := by
  have h1 := (List.getElem?_eq_some_iff.mp hk).1
  have h2 := h.2.1
  unfold x_X10_kindOf
  rw [if_neg (nI_neg (by omega)), h.1, if_pos ((ltI (by omega) (by omega)).mpr h1), l701, if_pos ((ltI (by omega) (by decide)).mpr (by omega)), ix_in (by omega) (by decide), (h.2.2 k x hk).1]
theorem X10_startOf {w k : Nat} {σ : SG} {Ws : List Wd} {x : Wd} (h : WA σ w Ws) (hk : Ws[k]? = some x) : x_X10_startOf w (nI k) σ = some (nI x.2.1) := by
  have h1 := (List.getElem?_eq_some_iff.mp hk).1
  have h2 := h.2.1
  unfold x_X10_startOf
  rw [if_neg (nI_neg (by omega)), h.1, if_pos ((ltI (by omega) (by omega)).mpr h1), l701, if_pos ((ltI (by omega) (by decide)).mpr (by omega)), ix_in (by omega) (by decide), (h.2.2 k x hk).2.1]
theorem X10_endOf {w k : Nat} {σ : SG} {Ws : List Wd} {x : Wd} (h : WA σ w Ws) (hk : Ws[k]? = some x) : x_X10_endOf w (nI k) σ = some (nI x.2.2.1) := by
  have h1 := (List.getElem?_eq_some_iff.mp hk).1
  have h2 := h.2.1
  unfold x_X10_endOf
  rw [if_neg (nI_neg (by omega)), h.1, if_pos ((ltI (by omega) (by omega)).mpr h1), l701, if_pos ((ltI (by omega) (by decide)).mpr (by omega)), ix_in (by omega) (by decide), (h.2.2 k x hk).2.2.1]
theorem X10_valueOf {w k : Nat} {σ : SG} {Ws : List Wd} {x : Wd} (h : WA σ w Ws) (hk : Ws[k]? = some x) : x_X10_valueOf w (nI k) σ = some x.2.2.2 := by
  have h1 := (List.getElem?_eq_some_iff.mp hk).1
  have h2 := h.2.1
  unfold x_X10_valueOf
  rw [if_neg (nI_neg (by omega)), h.1, if_pos ((ltI (by omega) (by omega)).mpr h1), l701, if_pos ((ltI (by omega) (by decide)).mpr (by omega)), ix_in (by omega) (by decide), (h.2.2 k x hk).2.2.2]
theorem X10_codeOf {w k : Nat} {σ : SG} {Ws : List Wd} {x : Wd} (h : WA σ w Ws) (hk : Ws[k]? = some x) (h6 : x.1 < 6) : x_X10_codeOf w (nI k) σ = some (cdX x) := by
  have h1 := (List.getElem?_eq_some_iff.mp hk).1
  have h2 := h.2.1
  unfold x_X10_codeOf x_X10_codeOf_44 x_X10_codeOf_45 cdX
  rw [if_neg (nI_neg (by omega)), h.1, if_pos ((ltI (by omega) (by omega)).mpr h1), l701, if_pos ((ltI (by omega) (by decide)).mpr (by omega)), if_pos ((ltI (by omega) (by decide)).mpr (by omega)), ix_in (by omega) (by decide), (h.2.2 k x hk).1]
  by_cases q : x.1 = 1
  · rw [if_pos (show nI x.1 = 1 by rw [q]; rfl), if_pos q, if_neg (by decide), ix_in (by omega) (by decide), (h.2.2 k x hk).2.2.2]
  · rw [if_neg (show ¬ nI x.1 = 1 from fun z => q ((nI_eq (a := x.1) (b := 1) (by omega) (by decide)).mp z)), if_neg q, if_pos rfl]
theorem X10_isSign {w k c : Nat} {σ : SG} {T : List Nat} {Ws : List Wd} {x : Wd} (h : WA σ w Ws) (hk : Ws[k]? = some x) (hx : gw T x) (hok : ok8 T) (hc8 : c < 256) : x_X10_isSign w (nI k) (nI c) σ = some (zI (sgX T x c)) := by
  have h1 := (List.getElem?_eq_some_iff.mp hk).1
  have h2 := h.2.1
  have h6 := hx.1
  unfold x_X10_isSign sgX
  rw [if_neg (nI_neg (by omega)), h.1, if_pos ((ltI (by omega) (by omega)).mpr h1), l701, if_pos ((ltI (by omega) (by decide)).mpr (by omega)), if_pos ((ltI (by omega) (by decide)).mpr (by omega)), ix_in (by omega) (by decide), (h.2.2 k x hk).1, ix_in (by omega) (by decide), (h.2.2 k x hk).2.2.2]
  by_cases q : x.1 = 4
  · obtain ⟨e1, d, e2, e3⟩ := hx.2.2.2.2.2.1 q
    have hd8 := hok d (List.mem_of_getElem? e2)
    rw [if_pos (by rw [q]; rfl), e3, e2]
    by_cases r : d = c
    · rw [if_pos (by rw [r]), decide_eq_true ⟨q, by rw [r]⟩]; try rfl
    · rw [if_neg (fun z => r (by have z2 := congrArg Int64.toInt32 z; rw [toI, toI] at z2; exact (nI_eq (by omega) (by omega)).mp z2)), decide_eq_false (fun z => r (Option.some.inj z.2))]; try rfl
  · rw [if_neg (show ¬ nI x.1 = 4 from fun z => q ((nI_eq (a := x.1) (b := 4) (by omega) (by decide)).mp z)), decide_eq_false (fun z => q z.1)]; try rfl
