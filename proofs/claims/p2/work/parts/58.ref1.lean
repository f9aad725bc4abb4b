/-! ===== the reference's reader: its current word is the k-th ===== -/
def QX (σ : SG) (T : List Nat) (Ws : List Wd) (k : Nat) : Prop := LR σ T ∧ ∃ x, Ws[k]? = some x ∧ CW σ x
def KF : List Nat := [70, 71, 72, 74, 75, 76]
theorem CW.fq {σ τ : SG} {x : Wd} {K : List Nat} (h : CW σ x) (h0 : sm σ τ 1101) : CW τ x := by
  obtain ⟨a, b, c, d⟩ := h
  refine ⟨(h0 70).1.trans a, (h0 71).1.trans b, fun p q => ⟨(h0 72).1.trans (c p q).1, (h0 76).1.trans (c p q).2⟩, fun p => ?_⟩
  obtain ⟨v, n, g⟩ := d p
  exact ⟨v, n, (h0 77).2.1.trans g.1, g.2⟩
/-- cells of the reference that the current word doesn't lie in -/
theorem CW.u {σ : SG} {x : Wd} {k : Nat} {v : Int32} (h : CW σ x) (hk : k ∉ [70, 71, 72, 76]) : CW (uI σ 1101 k v) x := by
  have o : ∀ j, j ∈ [70, 71, 72, 76] → sI (uI σ 1101 k v) 1101 j = sI σ 1101 j := fun j hj => sI_o (Or.inr (fun z => hk (z ▸ hj)))
  obtain ⟨a, b, c, d⟩ := h
  exact ⟨(o 70 (by decide)).trans a, (o 71 (by decide)).trans b, fun p q => ⟨(o 72 (by decide)).trans (c p q).1, (o 76 (by decide)).trans (c p q).2⟩, d⟩
theorem CW.o {σ : SG} {x : Wd} {b k : Nat} {v : Int32} (h : CW σ x) (hb : b ≠ 1101) : CW (uI σ b k v) x := CW.fq (K := []) h (sm_uI (fun z => hb z.symm))
theorem CW.oL {σ : SG} {x : Wd} {b k : Nat} {v : Int64} (h : CW σ x) (hb : b ≠ 1101) : CW (uL σ b k v) x := CW.fq (K := []) h (sm_uL (fun z => hb z.symm))
theorem LR.u {σ : SG} {T : List Nat} {k : Nat} {v : Int32} (h : LR σ T) (hk : k ≠ 73) : LR (uI σ 1101 k v) T := ⟨(sI_o (Or.inr (fun z => hk z.symm))).trans h.1, h.2.1.sm (sm_uI (by decide)), h.2.2⟩
theorem LR.o {σ : SG} {T : List Nat} {b k : Nat} {v : Int32} (h : LR σ T) (hb : b ≠ 1101) (hb2 : b ≠ 1102) : LR (uI σ b k v) T := ⟨(sI_o (Or.inl (fun z => hb z.symm))).trans h.1, h.2.1.sm (sm_uI (fun z => hb2 z.symm)), h.2.2⟩
theorem LR.oL {σ : SG} {T : List Nat} {b k : Nat} {v : Int64} (h : LR σ T) (hb2 : b ≠ 1102) : LR (uL σ b k v) T := ⟨h.1, h.2.1.sm (sm_uL (fun z => hb2 z.symm)), h.2.2⟩
theorem N_next {U k : Nat} {σ : SG} {T : List Nat} {Ws : List Wd} (hU : 4000 < U) (hS : WS T Ws) (h : QX σ T Ws k) (h0 : sK Ws k ≠ 0) (h5 : sK Ws k ≠ 5) : ∃ τ, x_X12_next U 1101 σ = some τ ∧ QX τ T Ws (k + 1) ∧ fq [70, 71, 72, 76] σ τ := by
  obtain ⟨hL, x, hx, hc⟩ := h
  rw [sK_some hx] at h0 h5
  obtain ⟨g1, g2, _⟩ := hS.2.2.2 k x hx
  have g3 := g1.2.2.1 h0 h5
  have c3 := hc.2.2.1 h0 h5
  unfold x_X12_next
  rw [c3.1]
  obtain ⟨τ, e1, e2, e3⟩ := X12_look hU hL g3.2 c3.2
  rw [e1, b1_eq]
  exact ⟨τ, rfl, ⟨hL.fq e3 (by decide), _, g2 h0 h5, e2⟩, e3⟩
theorem N_fail {σ : SG} {v w : Int32} (hv : ¬ v = 0) : ∃ τ, x_X12_fail 1101 v w σ = some τ ∧ ¬ sI τ 1101 74 = 0 ∧ fq [74, 75] σ τ := by
  unfold x_X12_fail
  by_cases h : sI σ 1101 74 = 0
  · rw [if_pos h, sb_eq, sb_eq]
    exact ⟨_, rfl, by rw [sI_o (Or.inr (by decide)), sI_s]; exact hv, fq_trans (fq_u (by decide)) (fq_u (by decide))⟩
  · rw [if_neg h]
    exact ⟨σ, rfl, h, fq_refl _ σ⟩
/-- an outcome: the word that is read next, or an error -/
def NO (K : List Nat) (σ : SG) (T : List Nat) (Ws : List Wd) (o : Option Nat) (x : Option SG) : Prop := ∃ τ, x = some τ ∧ fq K σ τ ∧ (∀ k', o = some k' → sI τ 1101 74 = 0 ∧ QX τ T Ws k') ∧ (o = none → ¬ sI τ 1101 74 = 0)
theorem N_takeSign {U k q : Nat} {σ : SG} {T : List Nat} {Ws : List Wd} (hU : 4000 < U) (hS : WS T Ws) (h : QX σ T Ws k) (h74 : sI σ 1101 74 = 0) (hq : q < 256) : NO KF σ T Ws (if sS T Ws q k then some (k + 1) else none) (x_X12_takeSign U 1101 (nI q) σ) := by
  obtain ⟨hL, x, hx, hc⟩ := h
  unfold x_X12_takeSign
  rw [if_pos h74, X12_isSign hL (hS.G.2 _ _ hx) hc hq, b1_eq, ifz, sS_some hx]
  cases e : sgX T x q with
  | true =>
    simp only [if_true]
    obtain ⟨τ, e1, e2, e3⟩ := N_next hU hS ⟨hL, x, hx, hc⟩ (by rw [sK_some hx, sg_4 e]; decide) (by rw [sK_some hx, sg_4 e]; decide)
    rw [e1, b1_eq]
    exact ⟨τ, rfl, fq_mono e3 (by decide), fun k' z => (by cases z; exact ⟨(e3.2.1 74 (by decide)).trans h74, e2⟩), fun z => (by cases z)⟩
  | false =>
    simp only [Bool.false_eq_true, if_false]
    obtain ⟨τ, e1, e2, e3⟩ := N_fail (σ := σ) (v := 1) (w := sI σ 1101 71) (by decide)
    rw [e1, b1_eq]
    exact ⟨τ, rfl, fq_mono e3 (by decide), fun k' z => (by cases z), fun _ => e2⟩
theorem N_takeSign_e {U : Nat} {v : Int32} {σ : SG} (h74 : ¬ sI σ 1101 74 = 0) : x_X12_takeSign U 1101 v σ = some σ := by
  unfold x_X12_takeSign; rw [if_neg h74]
theorem N_takeWord_e {U : Nat} {v : Int64} {σ : SG} (h74 : ¬ sI σ 1101 74 = 0) : x_X12_takeWord U 1101 v σ = some σ := by
  unfold x_X12_takeWord; rw [if_neg h74]
theorem N_declare_e {U : Nat} {v : Int32} {σ : SG} (h74 : ¬ sI σ 1101 74 = 0) : x_X12_declare U 1101 v σ = some σ := by
  unfold x_X12_declare; rw [if_neg h74]
theorem N_takeType_e {U : Nat} {v : Int32} {σ : SG} (h74 : ¬ sI σ 1101 74 = 0) : x_X12_takeType U 1101 v σ = some σ := by
  unfold x_X12_takeType; rw [if_neg h74]
theorem N_takeWord {U k q : Nat} {w : Int64} {σ : SG} {T : List Nat} {Ws : List Wd} (hU : 4000 < U) (hS : WS T Ws) (h : QX σ T Ws k) (h74 : sI σ 1101 74 = 0) (hq : q < 9) (hw : kwW[q]? = some (bw w)) : NO KF σ T Ws (if sC Ws k = nI (20 + q) then some (k + 1) else none) (x_X12_takeWord U 1101 w σ) := by
  obtain ⟨hL, x, hx, hc⟩ := h
  have hg := hS.G.2 _ _ hx
  unfold x_X12_takeWord
  rw [if_pos h74, X12_isWord hU hL hg hc, isW_kw (k := q) hg hq hw, b1_eq, ifz]
  have hs : sC Ws k = cdX x := by unfold sC; rw [hx]
  rw [hs]
  by_cases e : cdX x = nI (20 + q)
  · rw [if_pos e, decide_eq_true e]
    simp only [if_true]
    have h1 := cd_1 (by omega) e
    obtain ⟨τ, e1, e2, e3⟩ := N_next hU hS ⟨hL, x, hx, hc⟩ (by rw [sK_some hx, h1]; decide) (by rw [sK_some hx, h1]; decide)
    rw [e1, b1_eq]
    exact ⟨τ, rfl, fq_mono e3 (by decide), fun k' z => (by cases z; exact ⟨(e3.2.1 74 (by decide)).trans h74, e2⟩), fun z => (by cases z)⟩
  · rw [if_neg e, decide_eq_false e]
    simp only [Bool.false_eq_true, if_false]
    obtain ⟨τ, e1, e2, e3⟩ := N_fail (σ := σ) (v := 1) (w := sI σ 1101 71) (by decide)
    rw [e1, b1_eq]
    exact ⟨τ, rfl, fq_mono e3 (by decide), fun k' z => (by cases z), fun _ => e2⟩
