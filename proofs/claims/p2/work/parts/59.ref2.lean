/-! ===== the reference's reader: what lies below the counts stays ===== -/
def fP (P : Nat → Nat → Prop) (σ τ : SG) : Prop := ∀ b k, ¬ P b k → sI τ b k = sI σ b k ∧ sL τ b k = sL σ b k ∧ sP τ b k = sP σ b k
theorem fP_refl (P : Nat → Nat → Prop) (σ : SG) : fP P σ σ := fun _ _ _ => ⟨rfl, rfl, rfl⟩
theorem fP_trans {P : Nat → Nat → Prop} {σ τ υ : SG} (h : fP P σ τ) (h' : fP P τ υ) : fP P σ υ := fun b k hk => ⟨(h' b k hk).1.trans (h b k hk).1, (h' b k hk).2.1.trans (h b k hk).2.1, (h' b k hk).2.2.trans (h b k hk).2.2⟩
theorem fP_mono {P Q : Nat → Nat → Prop} {σ τ : SG} (h : fP P σ τ) (hPQ : ∀ b k, P b k → Q b k) : fP Q σ τ := fun b k hk => h b k (fun z => hk (hPQ b k z))
theorem fP_u {P : Nat → Nat → Prop} {σ : SG} {a j : Nat} {v : Int32} (h : P a j) : fP P σ (uI σ a j v) := fun b k hk => ⟨by
  rw [sI_uI, if_neg (fun z => hk (by rw [z.1, z.2]; exact h))], rfl, rfl⟩
theorem fP_L {P : Nat → Nat → Prop} {σ : SG} {a j : Nat} {v : Int64} (h : P a j) : fP P σ (uL σ a j v) := fun b k hk => ⟨rfl, by
  rw [sL_uL, if_neg (fun z => hk (by rw [z.1, z.2]; exact h))], rfl⟩
theorem fP_q {P : Nat → Nat → Prop} {σ τ : SG} {K : List Nat} (h : fq K σ τ) (hK : ∀ j, j ∈ K → P 1101 j) (h77 : P 1101 77) : fP P σ τ := by
  intro b k hk
  by_cases hb : b = 1101
  · subst hb
    exact ⟨h.2.1 k (fun z => hk (hK k z)), h.2.2.1 k (fun z => hk (z ▸ h77)), h.2.2.2 k⟩
  · exact h.1 b hb k
/-- the counts: messages, enums, fields, values, parts, names -/
abbrev CT := Nat × Nat × Nat × Nat × Nat × Nat
def tM (c : CT) : Nat := c.1
def tE (c : CT) : Nat := c.2.1
def tF (c : CT) : Nat := c.2.2.1
def tV (c : CT) : Nat := c.2.2.2.1
def tP (c : CT) : Nat := c.2.2.2.2.1
def tN (c : CT) : Nat := c.2.2.2.2.2
def KR : List Nat := [32, 33, 34, 35, 36, 37, 38, 70, 71, 72, 74, 75, 76, 77]
def PX (c : CT) (b k : Nat) : Prop := (b = 1101 ∧ k ∈ KR) ∨ (1128 ≤ b ∧ b ≤ 1130 ∧ tM c ≤ k) ∨ (1131 ≤ b ∧ b ≤ 1133 ∧ tE c ≤ k) ∨ (1134 ≤ b ∧ b ≤ 1148 ∧ tF c ≤ k) ∨ (1149 ≤ b ∧ b ≤ 1153 ∧ tV c ≤ k) ∨ (1154 ≤ b ∧ b ≤ 1155 ∧ tP c ≤ k) ∨ (1156 ≤ b ∧ b ≤ 1158 ∧ tN c ≤ k)
def ctl (c d : CT) : Prop := tM c ≤ tM d ∧ tE c ≤ tE d ∧ tF c ≤ tF d ∧ tV c ≤ tV d ∧ tP c ≤ tP d ∧ tN c ≤ tN d
theorem PX_le {c d : CT} (h : ctl c d) {b k : Nat} (hp : PX d b k) : PX c b k := by
  obtain ⟨h1, h2, h3, h4, h5, h6⟩ := h
  rcases hp with z | z | z | z | z | z | z
  · exact Or.inl z
  · exact Or.inr (Or.inl ⟨z.1, z.2.1, by omega⟩)
  · exact Or.inr (Or.inr (Or.inl ⟨z.1, z.2.1, by omega⟩))
  · exact Or.inr (Or.inr (Or.inr (Or.inl ⟨z.1, z.2.1, by omega⟩)))
  · exact Or.inr (Or.inr (Or.inr (Or.inr (Or.inl ⟨z.1, z.2.1, by omega⟩))))
  · exact Or.inr (Or.inr (Or.inr (Or.inr (Or.inr (Or.inl ⟨z.1, z.2.1, by omega⟩)))))
  · exact Or.inr (Or.inr (Or.inr (Or.inr (Or.inr (Or.inr ⟨z.1, z.2.1, by omega⟩)))))
theorem PX_n {c : CT} {b k : Nat} (h1 : 1156 ≤ b) (h2 : b ≤ 1158) (h : tN c ≤ k) : PX c b k := Or.inr (Or.inr (Or.inr (Or.inr (Or.inr (Or.inr ⟨h1, h2, h⟩)))))
theorem PX_p {c : CT} {b k : Nat} (h1 : 1154 ≤ b) (h2 : b ≤ 1155) (h : tP c ≤ k) : PX c b k := Or.inr (Or.inr (Or.inr (Or.inr (Or.inr (Or.inl ⟨h1, h2, h⟩)))))
theorem PX_v {c : CT} {b k : Nat} (h1 : 1149 ≤ b) (h2 : b ≤ 1153) (h : tV c ≤ k) : PX c b k := Or.inr (Or.inr (Or.inr (Or.inr (Or.inl ⟨h1, h2, h⟩))))
theorem PX_f {c : CT} {b k : Nat} (h1 : 1134 ≤ b) (h2 : b ≤ 1148) (h : tF c ≤ k) : PX c b k := Or.inr (Or.inr (Or.inr (Or.inl ⟨h1, h2, h⟩)))
theorem PX_e {c : CT} {b k : Nat} (h1 : 1131 ≤ b) (h2 : b ≤ 1133) (h : tE c ≤ k) : PX c b k := Or.inr (Or.inr (Or.inl ⟨h1, h2, h⟩))
theorem PX_m {c : CT} {b k : Nat} (h1 : 1128 ≤ b) (h2 : b ≤ 1130) (h : tM c ≤ k) : PX c b k := Or.inr (Or.inl ⟨h1, h2, h⟩)
theorem PX_0 {c : CT} {k : Nat} (h : k ∈ KR) : PX c 1101 k := Or.inl ⟨rfl, h⟩
theorem fX_q {c : CT} {σ τ : SG} {K : List Nat} (h : fq K σ τ) (hK : ∀ j, j ∈ K → j ∈ KR) : fP (PX c) σ τ := fP_q h (fun j hj => PX_0 (hK j hj)) (PX_0 (by decide))
/-- a name is declared, or an error -/
theorem N_declare {U k n : Nat} {v : Int32} {σ : SG} {T : List Nat} {Ws : List Wd} {x : Wd} {c : CT} (hU : 4000 < U) (hS : WS T Ws) (h : QX σ T Ws k) (hx : Ws[k]? = some x) (h74 : sI σ 1101 74 = 0) (hn : sI σ 1101 38 = nI n) (hn4 : n < 400) (hc : tN c = n) :
    ∃ τ, x_X12_declare U 1101 v σ = some τ ∧ fP (PX c) σ τ ∧ (x.1 ≠ 1 → ¬ sI τ 1101 74 = 0 ∧ fq KF σ τ) ∧ (x.1 = 1 → sI τ 1101 74 = 0 ∧ QX τ T Ws (k + 1) ∧ sI τ 1101 38 = nI (n + 1) ∧ sI τ 1156 n = v ∧ sI τ 1157 n = nI x.2.1 ∧ sI τ 1158 n = nI (x.2.2.1 - x.2.1) ∧ ∀ j, j ∉ [38, 70, 71, 72, 76] → sI τ 1101 j = sI σ 1101 j) := by
  obtain ⟨hL, x', hx', hC⟩ := h
  rw [hx] at hx'
  cases hx'
  have hg := hS.G.2 _ _ hx
  have h6 := hg.1
  unfold x_X12_declare
  rw [if_pos h74, hC.1]
  by_cases q : x.1 = 1
  · rw [if_pos (show nI x.1 = 1 by rw [q]; rfl), hn, ix_in hn4 (by decide), sb_eq]
    have n1 : sI (uI σ 1156 n v) 1101 38 = nI n := by rw [sI_o (Or.inl (by decide))]; exact hn
    rw [n1, ix_in hn4 (by decide), sb_eq]
    have e1 : sI (uI σ 1156 n v) 1101 71 = nI x.2.1 := by rw [sI_o (Or.inl (by decide))]; exact hC.2.1
    rw [e1]
    have n2 : sI (uI (uI σ 1156 n v) 1157 n (nI x.2.1)) 1101 38 = nI n := by rw [sI_o (Or.inl (by decide))]; exact n1
    have b := hg.2.2.1 (by omega) (by omega)
    have e2 : sI (uI (uI σ 1156 n v) 1157 n (nI x.2.1)) 1101 72 - sI (uI (uI σ 1156 n v) 1157 n (nI x.2.1)) 1101 71 = nI (x.2.2.1 - x.2.1) := by
      rw [sI_o (Or.inl (by decide)), sI_o (Or.inl (by decide)), sI_o (Or.inl (by decide)), sI_o (Or.inl (by decide)), hC.2.1, (hC.2.2.1 (by omega) (by omega)).1, nI_sub (by omega)]
    rw [n2, ix_in hn4 (by decide), sb_eq, e2, sb_eq]
    have n3 : sI (uI (uI (uI σ 1156 n v) 1157 n (nI x.2.1)) 1158 n (nI (x.2.2.1 - x.2.1))) 1101 38 = nI n := by rw [sI_o (Or.inl (by decide))]; exact n2
    rw [n3, nI_1]
    have Q : QX (uI (uI (uI (uI σ 1156 n v) 1157 n (nI x.2.1)) 1158 n (nI (x.2.2.1 - x.2.1))) 1101 38 (nI (n + 1))) T Ws k :=
      ⟨(((hL.o (by decide) (by decide)).o (by decide) (by decide)).o (by decide) (by decide)).u (by decide), x, hx, (((hC.o (by decide)).o (by decide)).o (by decide)).u (by decide)⟩
    obtain ⟨τ, g1, g2, g3⟩ := N_next hU hS Q (by rw [sK_some hx]; omega) (by rw [sK_some hx]; omega)
    rw [g1, b1_eq]
    have fr0 : fP (PX c) σ (uI (uI (uI (uI σ 1156 n v) 1157 n (nI x.2.1)) 1158 n (nI (x.2.2.1 - x.2.1))) 1101 38 (nI (n + 1))) :=
      fP_trans (fP_trans (fP_trans (fP_u (PX_n (by decide) (by decide) (by omega))) (fP_u (PX_n (by decide) (by decide) (by omega)))) (fP_u (PX_n (by decide) (by decide) (by omega)))) (fP_u (PX_0 (by decide)))
    have o1 : ∀ j, j ≠ 38 → sI (uI (uI (uI (uI σ 1156 n v) 1157 n (nI x.2.1)) 1158 n (nI (x.2.2.1 - x.2.1))) 1101 38 (nI (n + 1))) 1101 j = sI σ 1101 j := fun j hj => by
      rw [sI_o (Or.inr hj), sI_o (Or.inl (by decide)), sI_o (Or.inl (by decide)), sI_o (Or.inl (by decide))]
    refine ⟨τ, rfl, fP_trans fr0 (fX_q g3 (by decide)), fun z => absurd q z, fun _ => ⟨?_, g2, ?_, ?_, ?_, ?_, ?_⟩⟩
    · rw [g3.2.1 74 (by decide), o1 74 (by decide)]; exact h74
    · rw [g3.2.1 38 (by decide), sI_s]
    · rw [(g3.1 1156 (by decide) n).1, sI_o (Or.inl (by decide)), sI_o (Or.inl (by decide)), sI_o (Or.inl (by decide)), sI_s]
    · rw [(g3.1 1157 (by decide) n).1, sI_o (Or.inl (by decide)), sI_o (Or.inl (by decide)), sI_s]
    · rw [(g3.1 1158 (by decide) n).1, sI_o (Or.inl (by decide)), sI_s]
    · intro j hj
      rw [g3.2.1 j (fun z => hj (List.mem_cons_of_mem _ z)), o1 j (fun z => hj (by rw [z]; decide))]
  · rw [if_neg (show ¬ nI x.1 = 1 from fun z => q ((nI_eq (b := 1) (by omega) (by decide)).mp z))]
    obtain ⟨τ, e1, e2, e3⟩ := N_fail (σ := σ) (v := 1) (w := sI σ 1101 71) (by decide)
    rw [e1, b1_eq]
    exact ⟨τ, rfl, fX_q e3 (by decide), fun _ => ⟨e2, fq_mono e3 (by decide)⟩, fun z => absurd z q⟩
