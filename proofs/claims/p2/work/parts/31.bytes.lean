/-! ===== rows of bytes: writing ===== -/
/-- one more byte on a row of room m; what comes beyond it is left out and remembered -/
def wr1 (m : Nat) (w : List Nat × Int32) (c : Nat) : List Nat × Int32 := if w.1.length < m then (w.1 ++ [c], w.2) else (w.1, 1)
def wrL (m : Nat) (w : List Nat × Int32) (L : List Nat) : List Nat × Int32 := L.foldl (wr1 m) w
theorem wrL_nil (m : Nat) (w : List Nat × Int32) : wrL m w [] = w := rfl
theorem wrL_cons (m : Nat) (w : List Nat × Int32) (c : Nat) (L : List Nat) : wrL m w (c :: L) = wrL m (wr1 m w c) L := rfl
theorem wrL_app (m : Nat) (w : List Nat × Int32) (L K : List Nat) : wrL m w (L ++ K) = wrL m (wrL m w L) K := by unfold wrL; rw [List.foldl_append]
theorem wrL_fit {m : Nat} : ∀ (L : List Nat) (w : List Nat × Int32), w.1.length + L.length ≤ m → wrL m w L = (w.1 ++ L, w.2) := by
  intro L
  induction L with
  | nil => intro w _; rw [wrL_nil, List.append_nil]
  | cons c L ih =>
    intro w h
    rw [List.length_cons] at h
    rw [wrL_cons]
    have e : wr1 m w c = (w.1 ++ [c], w.2) := by unfold wr1; rw [if_pos (by omega)]
    rw [e, ih _ (by simp; omega)]
    simp
def RW (σ : SG) (a : Nat) (w : List Nat × Int32) : Prop := RB σ a w.1 w.2
/-- nothing but the row at a is touched -/
def fb (a : Nat) (σ τ : SG) : Prop := ∀ b, b ≠ a → b ≠ a + 1 → sm σ τ b
theorem fb_refl (a : Nat) (σ : SG) : fb a σ σ := fun b _ _ => sm_refl σ b
theorem fb_trans {a : Nat} {σ τ υ : SG} (h : fb a σ τ) (h' : fb a τ υ) : fb a σ υ := fun b h1 h2 => sm_trans (h b h1 h2) (h' b h1 h2)
def apt (a b : Nat) : Prop := a ≠ b ∧ a ≠ b + 1 ∧ a + 1 ≠ b
theorem RB.fb {σ τ : SG} {a b : Nat} {T : List Nat} {z : Int32} (h : RB σ b T z) (hf : fb a σ τ) (hp : apt a b) : RB τ b T z := h.sm (hf b (Ne.symm hp.1) (Ne.symm hp.2.2)) (hf (b + 1) (Ne.symm hp.2.1) (fun q => hp.1 (by omega)))
theorem X0_addW {σ : SG} {a : Nat} {x : Int32} {w : List Nat × Int32} (h : RW σ a w) : ∃ τ, x_X0_add a x σ = some τ ∧ RW τ a (wr1 (ln (a + 1)) w (lo8 x)) ∧ fb a σ τ := by
  unfold RW wr1 at *
  by_cases hr : w.1.length < ln (a + 1)
  · rw [if_pos hr]; exact X0_add h hr
  · rw [if_neg hr]
    obtain ⟨τ, h1, h2, h3⟩ := X0_addF (x := x) h (Nat.le_antisymm h.2.2.1 (Nat.le_of_not_lt hr))
    exact ⟨τ, h1, h2, fun b hb _ => h3 b hb⟩
theorem X0_addAll_L {a b : Nat} {S : List Nat} {zs : Int32} {U to : Nat} (hb : sh b = 0) (hp : apt a b) (hto : to ≤ S.length) (hS : S.length ≤ 4000) : ∀ (j k U1 : Nat) (σ : SG) (w : List Nat × Int32), k + j = to → j < U1 → RW σ a w → RB σ b S zs →
    ∃ τ, x_X0_addAll_L3 U a (some b) (nI to) U1 (nI k) σ = some τ ∧ RW τ a (wrL (ln (a + 1)) w ((S.drop k).take j)) ∧ fb a σ τ := by
  intro j
  induction j with
  | zero =>
    intro k U1 σ w hk hU hw hR
    obtain ⟨V, rfl⟩ : ∃ V, U1 = V + 1 := ⟨U1 - 1, by omega⟩
    refine ⟨σ, ?_, by simpa [wrL_nil] using hw, fb_refl a σ⟩
    rw [x_X0_addAll_L3, if_neg (fun q => by have := (ltI (by omega) (by omega)).mp q; omega)]
  | succ j ih =>
    intro k U1 σ w hk hU hw hR
    obtain ⟨V, rfl⟩ : ∃ V, U1 = V + 1 := ⟨U1 - 1, by omega⟩
    have hkl : k < S.length := by omega
    obtain ⟨τ, h1, h2, h3⟩ := X0_addW (x := bA S k) hw
    have hc : S[k] < 256 := hR.2.2.2.2 _ (List.getElem_mem hkl)
    have e : lo8 (bA S k) = S[k] := by unfold bA; rw [List.getElem?_eq_getElem hkl]; exact lo8_nI hc
    rw [e] at h2
    obtain ⟨υ, g1, g2, g3⟩ := ih (k + 1) V τ _ (by omega) (by omega) h2 (hR.fb h3 hp)
    refine ⟨υ, ?_, ?_, fb_trans h3 g3⟩
    · rw [x_X0_addAll_L3, if_pos ((ltI (by omega) (by omega)).mpr (by omega)), ck_eq hb, X0_at hR (by omega), b1_eq, h1, b1_eq, nI_1]
      exact g1
    · rw [List.drop_eq_getElem_cons hkl, List.take_succ_cons, wrL_cons]; exact g2
theorem X0_addAll {a b : Nat} {S : List Nat} {zs : Int32} {U k to : Nat} {σ : SG} {w : List Nat × Int32} (hb : sh b = 0) (hp : apt a b) (hk : k ≤ to) (hto : to ≤ S.length) (hU : 4000 < U) (hw : RW σ a w) (hR : RB σ b S zs) :
    ∃ τ, x_X0_addAll U a (some b) (nI k) (nI to) σ = some τ ∧ RW τ a (wrL (ln (a + 1)) w ((S.drop k).take (to - k))) ∧ fb a σ τ := by
  have hS : S.length ≤ 4000 := Nat.le_trans hR.2.2.1 (ln_small _)
  unfold x_X0_addAll
  exact X0_addAll_L hb hp hto hS (to - k) k U σ w (by omega) (by omega) hw hR
/-! ===== feed, out, turn of the class ===== -/
/-- the bytes that a feed brings -/
def fdB (b : Int64) : Nat → List Nat
  | 0 => []
  | n + 1 => lo8 (Int64.toInt32 (lush b (8 * nI n))) :: fdB b n
theorem fdB_len (b : Int64) : ∀ n, (fdB b n).length = n
  | 0 => rfl
  | n + 1 => by rw [fdB, List.length_cons, fdB_len b n]
theorem lo8_lit8 (n : Nat) : (8 : Int32) * nI n = 8 * nI n := rfl
theorem X11_feed_L {U : Nat} {b : Int64} {k : SG → Option (mm_R × SG)} : ∀ (j U1 : Nat) (σ : SG) (w : List Nat × Int32), j < 9 → j < U1 → RW σ 1 w →
    ∃ τ, x_X11_feed_L51 U 0 k b U1 (nI j - 1) σ = k τ ∧ RW τ 1 (wrL 700 w (fdB b j)) ∧ fb 1 σ τ := by
  intro j
  induction j with
  | zero =>
    intro U1 σ w hj hU hw
    obtain ⟨V, rfl⟩ : ∃ V, U1 = V + 1 := ⟨U1 - 1, by omega⟩
    refine ⟨σ, ?_, hw, fb_refl 1 σ⟩
    rw [x_X11_feed_L51, if_pos (by decide)]
  | succ j ih =>
    intro U1 σ w hj hU hw
    obtain ⟨V, rfl⟩ : ∃ V, U1 = V + 1 := ⟨U1 - 1, by omega⟩
    obtain ⟨τ, h1, h2, h3⟩ := X0_addW (x := Int64.toInt32 (lush b (8 * nI j))) hw
    obtain ⟨υ, g1, g2, g3⟩ := ih V τ _ (by omega) (by omega) h2
    refine ⟨υ, ?_, g2, fb_trans h3 g3⟩
    rw [nI_pred, x_X11_feed_L51, if_neg (nI_neg (by omega)), h1, b1_eq]
    exact g1
