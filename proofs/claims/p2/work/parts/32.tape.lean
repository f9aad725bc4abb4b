/-! ===== tape and OUT of both sides; feed, out, turn ===== -/
/-- a row of ints of the reference that holds bytes -/
def RI (σ : SG) (r : Nat) (T : List Nat) : Prop := ∀ i c, T[i]? = some c → sI σ r i = nI c
theorem RI.sm {σ τ : SG} {r : Nat} {T : List Nat} (h : RI σ r T) (h1 : sm σ τ r) : RI τ r T := fun i c hi => (h1 i).1.trans (h i c hi)
theorem RI_nil (σ : SG) (r : Nat) : RI σ r [] := fun i c h => by simp at h
theorem RI_snoc {σ : SG} {r : Nat} {T : List Nat} {c : Nat} (h : RI σ r T) : RI (uI σ r T.length (nI c)) r (T ++ [c]) := by
  intro i x hi
  rw [sI_uI]
  by_cases hj : i = T.length
  · subst hj
    rw [List.getElem?_append_right (Nat.le_refl _)] at hi
    simp at hi
    rw [if_pos ⟨rfl, rfl⟩, hi]
  · rw [if_neg (fun q => hj q.2)]
    rcases Nat.lt_or_ge i T.length with q | q
    · rw [List.getElem?_append_left q] at hi; exact h i x hi
    · rw [List.getElem?_eq_none (by rw [List.length_append, List.length_singleton]; omega)] at hi; cases hi
/-- the reference's tape -/
def RTr (σ : SG) (T : List Nat) : Prop := sI σ 1101 1 = nI T.length ∧ RI σ 1102 T
/-- the reference's OUT, and whether it ran over -/
def ROr (σ : SG) (w : List Nat × Int32) : Prop := sI σ 1101 3 = nI w.1.length ∧ sI σ 1101 4 = w.2 ∧ RI σ 1103 w.1 ∧ w.1.length ≤ 4000
/-- the reference's object alone, at some places -/
def fo (K : List Nat) (σ τ : SG) : Prop := (∀ k, k ∉ K → sI τ 1101 k = sI σ 1101 k) ∧ (∀ k, sL τ 1101 k = sL σ 1101 k) ∧ ∀ k, sP τ 1101 k = sP σ 1101 k
theorem fo_refl (K : List Nat) (σ : SG) : fo K σ σ := ⟨fun _ _ => rfl, fun _ => rfl, fun _ => rfl⟩
theorem fo_trans {K : List Nat} {σ τ υ : SG} (h : fo K σ τ) (h' : fo K τ υ) : fo K σ υ := ⟨fun k hk => (h'.1 k hk).trans (h.1 k hk), fun k => (h'.2.1 k).trans (h.2.1 k), fun k => (h'.2.2 k).trans (h.2.2 k)⟩
theorem fo_mono {K J : List Nat} {σ τ : SG} (h : fo K σ τ) (hs : ∀ k ∈ K, k ∈ J) : fo J σ τ := ⟨fun k hk => h.1 k (fun q => hk (hs k q)), h.2⟩
theorem fo_uI {K : List Nat} {σ : SG} {k : Nat} {v : Int32} (hk : k ∈ K) : fo K σ (uI σ 1101 k v) := ⟨fun j hj => sI_o (Or.inr (fun q => hj (q ▸ hk))), fun _ => rfl, fun _ => rfl⟩
theorem fo_row {K : List Nat} {σ : SG} {a k : Nat} {v : Int32} (ha : a ≠ 1101) : fo K σ (uI σ a k v) := ⟨fun j _ => sI_o (Or.inl (Ne.symm ha)), fun _ => rfl, fun _ => rfl⟩
/-- what a write to OUT touches -/
def fw (σ τ : SG) : Prop := (∀ b, b ≠ 1101 → b ≠ 1103 → sm σ τ b) ∧ fo [3, 4] σ τ
theorem fw_refl (σ : SG) : fw σ σ := ⟨fun b _ _ => sm_refl σ b, fo_refl _ σ⟩
theorem fw_trans {σ τ υ : SG} (h : fw σ τ) (h' : fw τ υ) : fw σ υ := ⟨fun b h1 h2 => sm_trans (h.1 b h1 h2) (h'.1 b h1 h2), fo_trans h.2 h'.2⟩
theorem X12_put {σ : SG} {w : List Nat × Int32} {c : Nat} (h : ROr σ w) : ∃ τ, x_X12_put 1101 (nI c) σ = some τ ∧ ROr τ (wr1 4000 w c) ∧ fw σ τ := by
  obtain ⟨h1, h2, h3, h4⟩ := h
  unfold x_X12_put wr1
  by_cases hr : w.1.length < 4000
  · rw [if_pos hr, h1, if_neg (fun q => by have : nI w.1.length = nI 4000 := q; rw [nI_eq (by omega) (by omega)] at this; omega), ix_in hr (by decide), sb_eq, sb_eq]
    refine ⟨_, rfl, ⟨?_, ?_, ?_, ?_⟩, ?_, ?_⟩
    · rw [sI_uI, if_pos ⟨rfl, rfl⟩, sI_uI, if_neg (by omega), h1, nI_1, List.length_append]; rfl
    · rw [sI_uI, if_neg (by omega), sI_uI, if_neg (by omega), h2]
    · exact (RI_snoc h3).sm (sm_uI (by decide))
    · rw [List.length_append, List.length_singleton]; omega
    · intro b hb hb'; exact sm_trans (sm_uI hb') (sm_uI hb)
    · exact fo_trans (fo_row (by decide)) (fo_uI (by decide))
  · have e : w.1.length = 4000 := by omega
    rw [if_neg hr, h1, if_pos (by rw [e]; rfl), sb_eq]
    refine ⟨_, rfl, ⟨?_, ?_, ?_, h4⟩, ?_, ?_⟩
    · rw [sI_uI, if_neg (by omega), h1]
    · rw [sI_uI, if_pos ⟨rfl, rfl⟩]
    · exact h3.sm (sm_uI (by decide))
    · intro b hb _; exact sm_uI hb
    · exact fo_uI (by decide)
theorem X12_emptyOut {σ : SG} : ∃ τ, x_X12_emptyOut 1101 σ = some τ ∧ ROr τ ([], 0) ∧ fw σ τ := by
  refine ⟨_, rfl, ⟨?_, ?_, RI_nil _ _, by simp⟩, ?_, ?_⟩
  · rw [sI_uI, if_neg (by omega), sI_uI, if_pos ⟨rfl, rfl⟩]; rfl
  · rw [sI_uI, if_pos ⟨rfl, rfl⟩]
  · intro b hb _; exact sm_trans (sm_uI hb) (sm_uI hb)
  · exact fo_trans (fo_uI (by decide)) (fo_uI (by decide))
/-- what a byte at a place of a tape says to the reference -/
theorem X12_byteAt {σ : SG} {T : List Nat} {p : Nat} (h : sI σ 1101 73 = nI T.length) (hT : RI σ 1102 T) (hl : T.length ≤ 700) (hp : p < 2 ^ 31) : x_X12_byteAt 1101 (nI p) σ = some (bA T p) := by
  unfold x_X12_byteAt bA
  rw [h]
  by_cases hq : p < T.length
  · rw [if_pos ((ltI hp (by omega)).mpr hq), ix_in (by omega) (by decide), List.getElem?_eq_getElem hq]
    simp only
    rw [hT p _ (List.getElem?_eq_getElem hq)]
  · rw [if_neg (fun q => hq ((ltI hp (by omega)).mp q)), List.getElem?_eq_none (by omega)]
/-! feed -/
def isN (n : Int32) : Prop := ¬ n < 1 ∧ ¬ 8 < n
theorem feed_n {n : Int32} (h1 : ¬ n < 1) (h8 : ¬ 8 < n) : ∃ k, n = nI k ∧ 1 ≤ k ∧ k ≤ 8 := by
  obtain ⟨k, hk, rfl⟩ := nI_of (x := n) (fun q => h1 (Int32.lt_trans q (by decide)))
  refine ⟨k, rfl, ?_, ?_⟩
  · rcases Nat.lt_or_ge k 1 with q | q
    · exact absurd ((ltI hk (by decide)).mpr q) h1
    · exact q
  · rcases Nat.lt_or_ge 8 k with q | q
    · exact absurd ((ltI (by decide) hk).mpr q) h8
    · exact q
def IAE : String := "java/lang/IllegalArgumentException"
def ISE : String := "java/lang/IllegalStateException"
def UOE : String := "java/lang/UnsupportedOperationException"
def IOB : String := "java/lang/IndexOutOfBoundsException"
/-- what feed answers, and the tape then -/
noncomputable def fdS (T : List Nat) (b : Int64) (n : Int32) : mm_R × List Nat := if n < 1 ∨ 8 < n then (.inr IAE, T) else if 700 < T.length + n.toNatClampNeg then (.inr ISE, T) else (.inl (some (.int (nI (T.length + n.toNatClampNeg)))), T ++ fdB b n.toNatClampNeg)
theorem X11_feed {U : Nat} {σ : SG} {T : List Nat} {b : Int64} {n : Int32} (hU : 4000 < U) (h : RB σ 1 T 0) : ∃ τ, x_X11_feed U 0 b n σ = some ((fdS T b n).1, τ) ∧ RB τ 1 (fdS T b n).2 0 ∧ fb 1 σ τ := by
  have hl : T.length ≤ 700 := h.2.2.1
  unfold x_X11_feed fdS
  by_cases h1 : n < 1
  · rw [if_pos h1, if_pos (Or.inl h1)]; exact ⟨σ, rfl, h, fb_refl 1 σ⟩
  rw [if_neg h1]
  by_cases h8 : 8 < n
  · rw [if_pos h8, if_pos (Or.inr h8)]; exact ⟨σ, rfl, h, fb_refl 1 σ⟩
  rw [if_neg h8, if_neg (fun q => q.elim h1 h8), X0_size h, b1_eq]
  obtain ⟨k, rfl, hk1, hk8⟩ := feed_n h1 h8
  rw [nI_add, nI_clamp (by omega)]
  rw [l700]
  by_cases h7 : 700 < T.length + k
  · rw [if_pos ((ltI (a := 700) (by decide) (by omega)).mpr h7), if_pos h7]; exact ⟨σ, rfl, h, fb_refl 1 σ⟩
  · rw [if_neg (fun q => h7 ((ltI (a := 700) (by decide) (by omega)).mp q)), if_neg h7]
    obtain ⟨τ, g1, g2, g3⟩ := X11_feed_L (U := U) (b := b) (k := fun σ9 => b1 (x_X0_size 1 σ9) fun v11 => some (.inl (some (.int v11)), σ9)) k U σ (T, 0) (by omega) (by omega) h
    rw [wrL_fit _ _ (by rw [fdB_len]; show T.length + k ≤ 700; omega)] at g2
    have g2' : RB τ 1 (T ++ fdB b k) 0 := g2
    refine ⟨τ, ?_, g2', g3⟩
    show x_X11_feed_L51 U 0 _ b U (nI k - 1) σ = _
    rw [g1, X0_size g2', b1_eq, List.length_append, fdB_len]
def fdC (r : mm_R) : Int32 := match r with
  | .inl _ => 0
  | .inr E => if E = IAE then 1 else 2
/-- what a call that only reads and writes the tape touches in the reference -/
def ft (σ τ : SG) : Prop := (∀ b, b ≠ 1101 → b ≠ 1102 → sm σ τ b) ∧ fo [1, 5] σ τ
theorem ft_trans {σ τ υ : SG} (h : ft σ τ) (h' : ft τ υ) : ft σ υ := ⟨fun b h1 h2 => sm_trans (h.1 b h1 h2) (h'.1 b h1 h2), fo_trans h.2 h'.2⟩
theorem X12_feed_L {U : Nat} {b : Int64} : ∀ (j U1 : Nat) (σ : SG) (T : List Nat), j < U1 → T.length + j ≤ 700 → RTr σ T →
    ∃ τ, x_X12_feed_L50 U 1101 b U1 (nI j - 1) σ = some (nI (T.length + j), τ) ∧ RTr τ (T ++ fdB b j) ∧ ft σ τ ∧ sI τ 1101 5 = sI σ 1101 5 := by
  intro j
  induction j with
  | zero =>
    intro U1 σ T hU hl h
    obtain ⟨V, rfl⟩ : ∃ V, U1 = V + 1 := ⟨U1 - 1, by omega⟩
    refine ⟨σ, ?_, by simpa [fdB] using h, ⟨fun b _ _ => sm_refl σ b, fo_refl _ σ⟩, rfl⟩
    rw [x_X12_feed_L50, if_pos (by decide), h.1]; rfl
  | succ j ih =>
    intro U1 σ T hU hl h
    obtain ⟨V, rfl⟩ : ∃ V, U1 = V + 1 := ⟨U1 - 1, by omega⟩
    let c := lo8 (Int64.toInt32 (lush b (8 * nI j)))
    have hT : RTr (uI (uI σ 1102 T.length (nI c)) 1101 1 (nI (T.length + 1))) (T ++ [c]) := by
      refine ⟨?_, (RI_snoc h.2).sm (sm_uI (by decide))⟩
      rw [sI_uI, if_pos ⟨rfl, rfl⟩, List.length_append]; rfl
    obtain ⟨υ, g1, g2, g3, g4⟩ := ih V _ (T ++ [c]) (by omega) (by rw [List.length_append, List.length_singleton]; omega) hT
    refine ⟨υ, ?_, ?_, ft_trans ⟨fun b h1 h2 => sm_trans (sm_uI h2) (sm_uI h1), fo_trans (fo_row (by decide)) (fo_uI (by decide))⟩ g3, ?_⟩
    · rw [nI_pred, x_X12_feed_L50, if_neg (nI_neg (by omega)), h.1, ix_in (by omega) (by decide), sb_eq, and255, sb_eq, sI_uI, if_neg (by omega), h.1, nI_1, g1, List.length_append, List.length_singleton]
      congr 2; congr 1; omega
    · rw [fdB]; simpa [c] using g2
    · rw [g4, sI_uI, if_neg (by omega), sI_uI, if_neg (by omega)]
theorem X12_feed {U : Nat} {σ : SG} {T : List Nat} {b : Int64} {n : Int32} (hU : 4000 < U) (hl : T.length ≤ 700) (h : RTr σ T) : ∃ v τ, x_X12_feed U 1101 b n σ = some (v, τ) ∧ RTr τ (fdS T b n).2 ∧ ft σ τ ∧ sI τ 1101 5 = fdC (fdS T b n).1 ∧ ((fdS T b n).1 = .inl (some (.int v)) ∨ ∃ E, (fdS T b n).1 = .inr E) := by
  have h5 : ∀ v, RTr (uI σ 1101 5 v) T := fun v => ⟨by rw [sI_uI, if_neg (by omega)]; exact h.1, h.2.sm (sm_uI (by decide))⟩
  have f5 : ∀ v, ft σ (uI σ 1101 5 v) := fun v => ⟨fun b h1 _ => sm_uI h1, fo_uI (by decide)⟩
  unfold x_X12_feed fdS
  by_cases h1 : n < 1
  · rw [if_pos h1, if_pos (Or.inl h1)]
    refine ⟨0, _, ?_, h5 1, f5 1, ?_, Or.inr ⟨_, rfl⟩⟩
    · unfold x_X12_feed_12 x_X12_feed_33; rw [sb_eq, sI_s, if_neg (by decide)]
    · rw [sI_uI, if_pos ⟨rfl, rfl⟩]; rfl
  rw [if_neg h1]
  by_cases h8 : 8 < n
  · rw [if_pos h8, if_pos (Or.inr h8)]
    refine ⟨0, _, ?_, h5 1, f5 1, ?_, Or.inr ⟨_, rfl⟩⟩
    · unfold x_X12_feed_12 x_X12_feed_33; rw [sb_eq, sI_s, if_neg (by decide)]
    · rw [sI_uI, if_pos ⟨rfl, rfl⟩]; rfl
  rw [if_neg h8, if_neg (show ¬ (n < 1 ∨ 8 < n) from fun q => q.elim h1 h8), h.1]
  obtain ⟨k, rfl, hk1, hk8⟩ := feed_n h1 h8
  rw [nI_add, nI_clamp (by omega)]
  rw [l700]
  by_cases h7 : 700 < T.length + k
  · rw [if_pos ((ltI (a := 700) (by decide) (by omega)).mpr h7), if_pos h7]
    refine ⟨0, _, ?_, h5 2, f5 2, ?_, Or.inr ⟨_, rfl⟩⟩
    · unfold x_X12_feed_33; rw [sb_eq, sI_s, if_neg (by decide)]
    · rw [sI_uI, if_pos ⟨rfl, rfl⟩]; rfl
  · rw [if_neg (fun q => h7 ((ltI (a := 700) (by decide) (by omega)).mp q)), if_neg h7]
    obtain ⟨υ, g1, g2, g3, g4⟩ := X12_feed_L (U := U) (b := b) k U _ T (by omega) (by omega) (h5 0)
    refine ⟨nI (T.length + k), υ, ?_, g2, ft_trans (f5 0) g3, ?_, Or.inl rfl⟩
    · unfold x_X12_feed_33; rw [sb_eq, sI_s, if_pos rfl, g1]
    · rw [g4, sI_uI, if_pos ⟨rfl, rfl⟩]; rfl
