/-! ===== the class puts a length in front ===== -/
theorem X0_addE {σ : SG} {a : Nat} {x : Int32} {n : Nat} (h1 : sI σ a 1 = nI n) (hn : n < ln (a + 1)) (hl : ln (a + 1) ≤ 4000) : x_X0_add a x σ = some (uI (uI σ (a + 1) n (nB (lo8 x))) a 1 (nI (n + 1))) := by
  unfold x_X0_add
  rw [h1, if_neg (nI_neg (by omega)), if_pos ((ltI (by omega) (by omega)).mpr hn), ix_in hn (by omega), sb_eq, sb_eq, sI_o (Or.inl (by omega)), h1, nI_1, nar_lo8]
theorem vb_small {u j : Nat} (h : u < 128) : vb j u = [u] := by
  cases j with
  | zero => rfl
  | succ j => rw [vb, if_pos h]
/-- a short varint, cell by cell -/
theorem X0_varE {U a n u : Nat} {σ : SG} (hU4 : 4000 < U) (h1 : sI σ a 1 = nI n) (hu : u < 16384) (hn : n + (vb 9 u).length ≤ ln (a + 1)) (hl : ln (a + 1) ≤ 4000) : ∃ τ, x_X0_addVarint U a (lN u) σ = some τ ∧ (∀ i c, (vb 9 u)[i]? = some c → sI τ (a + 1) (n + i) = nB c) ∧ (∀ k, (k < n ∨ n + (vb 9 u).length ≤ k) → sI τ (a + 1) k = sI σ (a + 1) k) ∧ sI τ a 2 = sI σ a 2 ∧ fb a σ τ := by
  have h64 : u < 2 ^ 64 := by omega
  unfold x_X0_addVarint
  obtain ⟨V, rfl⟩ : ∃ V, U = V + 1 + 1 := ⟨U - 2, by omega⟩
  rw [x_X0_addVarint_L5, if_pos (show (0 : Int32) < 9 by decide), lush7 h64, ifd (lN_zero (show u / 128 < 2 ^ 64 by omega))]
  unfold x_X0_addVarint_46
  by_cases q : u < 128
  · rw [vb_small q] at hn ⊢
    have hn' : n + 1 ≤ ln (a + 1) := hn
    rw [if_pos (show u / 128 = 0 by omega), lN_i, X0_addE h1 (by omega) hl, b1_eq, lo8_nI (by omega)]
    refine ⟨_, rfl, fun i c hc => ?_, fun k hk => ?_, ?_, fun b hb1 hb2 => sm_trans (sm_uI hb2) (sm_uI hb1)⟩
    · cases i with
      | zero => cases hc; rw [sI_o (Or.inl (by omega))]; exact sI_s _ _ _ _
      | succ i => cases hc
    · have hk' : k < n ∨ n + 1 ≤ k := hk
      rw [sI_o (Or.inl (by omega)), sI_o (Or.inr (by omega))]
    · rw [sI_o (Or.inr (by decide)), sI_o (Or.inl (by omega))]
  · have ev : vb 9 u = [u % 128 + 128, u / 128] := by rw [vb, if_neg q, vb_small (by omega)]
    rw [ev] at hn ⊢
    have hn' : n + 2 ≤ ln (a + 1) := hn
    rw [if_neg (show ¬ u / 128 = 0 by omega), and127N h64, lN_i, or128 _ (Nat.mod_lt _ (by decide)), X0_addE h1 (by omega) hl, b1_eq, lo8_nI (by omega), x_X0_addVarint_L5, if_pos (show (0 : Int32) + 1 < 9 by decide), lush7 (by omega), ifd (lN_zero (show u / 128 / 128 < 2 ^ 64 by omega)), if_pos (show u / 128 / 128 = 0 by omega), lN_i, X0_addE (n := n + 1) (sI_s _ _ _ _) (by omega) hl, b1_eq, lo8_nI (by omega)]
    refine ⟨_, rfl, fun i c hc => ?_, fun k hk => ?_, ?_, fun b hb1 hb2 => sm_trans (sm_trans (sm_uI hb2) (sm_uI hb1)) (sm_trans (sm_uI hb2) (sm_uI hb1))⟩
    · match i, hc with
      | 0, hc => cases hc; rw [sI_o (Or.inl (by omega)), sI_o (Or.inr (by omega)), sI_o (Or.inl (by omega))]; exact sI_s _ _ _ _
      | 1, hc => cases hc; rw [sI_o (Or.inl (by omega)), sI_s]
      | i + 2, hc => cases hc
    · have hk' : k < n ∨ n + 2 ≤ k := hk
      rw [sI_o (Or.inl (by omega)), sI_o (Or.inr (by omega)), sI_o (Or.inl (by omega)), sI_o (Or.inr (by omega))]
    · rw [sI_o (Or.inr (by decide)), sI_o (Or.inl (by omega)), sI_o (Or.inr (by decide)), sI_o (Or.inl (by omega))]
theorem clampN {n : Nat} (h : n < 2 ^ 31) : (nI n).toNatClampNeg = n := by
  show (Int32.toInt (nI n)).toNat = n
  rw [nI_toInt h]
  rfl
theorem nB_nar : ∀ c, c < 256 → (nB c).toInt8.toInt32 = nB c := by decide +kernel
theorem vb_len2 {u : Nat} (h : u < 16384) : (vb 9 u).length = if u < 128 then 1 else 2 := by
  by_cases q : u < 128
  · rw [vb_small q, if_pos q]; rfl
  · rw [vb, if_neg q, vb_small (by omega), if_neg q]; rfl
theorem X0_insL {U a : Nat} {σ : SG} {W C : List Nat} (hU4 : 4000 < U) (hl : ln (a + 1) ≤ 4000) (h : RB σ a (W ++ C) 0) (hr : W.length + (vB (lN C.length)).length + C.length ≤ ln (a + 1)) : ∃ τ, x_X0_insertLength U a (nI W.length) σ = some τ ∧ RB τ a (W ++ (vB (lN C.length) ++ C)) 0 ∧ fb a σ τ := by
  have hc16 : C.length < 16384 := by omega
  have ev : vB (lN C.length) = vb 9 C.length := by unfold vB; rw [uN_lN (by omega)]
  rw [ev] at hr ⊢
  have hvl := vb_len2 hc16
  obtain ⟨g1, g2, g3, g4, g5⟩ := h
  rw [List.length_append] at g1 g3
  have main : ∀ (k : Nat), k = (vb 9 C.length).length → ∃ τ, x_X0_insertLength_19 U a (nI W.length) (nI C.length) (nI k) σ = some τ ∧ RB τ a (W ++ (vb 9 C.length ++ C)) 0 ∧ fb a σ τ := by
    intro k hk
    unfold x_X0_insertLength_19
    rw [if_neg (nI_neg (by omega)), if_neg (nI_neg (by omega)), if_pos (show nI C.length < 16384 from (ltI (b := 16384) (by omega) (by decide)).mpr hc16), g1, nI_add, nI_add, nI_add, if_neg (fun z => by have := (ltI (by omega) (by omega)).mp z; omega)]
    unfold acopy
    have hmv : ∀ i, i < C.length → (sI σ (a + 1) (W.length + i)).toInt8.toInt32 = sI σ (a + 1) (W.length + i) := fun i hi => by
      have hil : W.length + i < (W ++ C).length := by rw [List.length_append]; omega
      have := g4 (W.length + i) _ (List.getElem?_eq_getElem hil)
      rw [this]
      exact nB_nar _ (g5 _ (List.getElem_mem hil))
    rw [clampN (by omega), clampN (by omega), clampN (by omega), if_pos ⟨nI_neg (by omega), nI_neg (by omega), nI_neg (by omega), by omega, by omega, hmv⟩]
    · -- the bytes moved
      simp only [sb_eq]
      have cell : ∀ b j, sI (cpy9 σ (a + 1) W.length (W.length + k) C.length) b j = if b = a + 1 ∧ W.length + k ≤ j ∧ j < W.length + k + C.length then sI σ (a + 1) (W.length + (j - (W.length + k))) else sI σ b j := fun b j => rfl
      have fr : ∀ b, b ≠ a + 1 → sm σ (cpy9 σ (a + 1) W.length (W.length + k) C.length) b := fun b hb j => ⟨by rw [cell, if_neg (fun z => hb z.1)], rfl, rfl⟩
      obtain ⟨τ, t1, t2, t3, t4, t5⟩ := X0_varE (U := U) (a := a) (n := W.length) (u := C.length) (σ := uI (cpy9 σ (a + 1) W.length (W.length + k) C.length) a 1 (nI W.length)) hU4 (sI_s _ _ _ _) hc16 (by omega) hl
      rw [nI_l (by omega), t1, b1_eq]
      have hlen : (W ++ (vb 9 C.length ++ C)).length = W.length + k + C.length := by rw [List.length_append, List.length_append, ← hk]; omega
      refine ⟨_, rfl, ⟨by rw [sI_s, hlen], ?_, by rw [hlen]; omega, fun i c hi => ?_, fun c hc => ?_⟩, fun b hb1 hb2 => sm_trans (sm_trans (fr b hb2) (sm_uI hb1)) (sm_trans (t5 b hb1 hb2) (sm_uI hb1))⟩
      · rw [sI_o (Or.inr (by decide)), t4, sI_o (Or.inr (by decide)), cell, if_neg (fun z => by omega)]
        exact g2
      · rw [sI_o (Or.inl (by omega))]
        by_cases q1 : i < W.length
        · rw [List.getElem?_append_left q1] at hi
          rw [t3 i (Or.inl q1), sI_o (Or.inl (by omega)), cell, if_neg (fun z => by omega)]
          exact g4 i c (by rw [List.getElem?_append_left q1]; exact hi)
        · rw [List.getElem?_append_right (by omega)] at hi
          by_cases q2 : i - W.length < (vb 9 C.length).length
          · rw [List.getElem?_append_left q2] at hi
            have := t2 (i - W.length) c hi
            rw [show W.length + (i - W.length) = i by omega] at this
            exact this
          · rw [List.getElem?_append_right (by omega)] at hi
            have hil := (List.getElem?_eq_some_iff.mp hi).1
            rw [t3 i (Or.inr (by omega)), sI_o (Or.inl (by omega)), cell, if_pos ⟨rfl, by omega, by omega⟩]
            refine g4 _ c ?_
            rw [List.getElem?_append_right (by omega), show W.length + (i - (W.length + k)) - W.length = i - W.length - (vb 9 C.length).length by omega]
            exact hi
      · rcases List.mem_append.mp hc with z | z
        · exact g5 c (List.mem_append.mpr (Or.inl z))
        · rcases List.mem_append.mp z with y | y
          · by_cases q : C.length < 128
            · rw [vb_small q] at y
              rw [List.mem_singleton.mp y]; omega
            · rw [vb, if_neg q, vb_small (by omega)] at y
              rcases List.mem_cons.mp y with x | x
              · rw [x]; omega
              · rw [List.mem_singleton.mp x]; omega
          · exact g5 c (List.mem_append.mpr (Or.inr y))
  unfold x_X0_insertLength
  rw [g1, nI_sub (by omega), show W.length + C.length - W.length = C.length by omega, ifd (show nI C.length < 128 ↔ C.length < 128 from ltI (b := 128) (by omega) (by decide))]
  by_cases q : C.length < 128
  · rw [if_pos q]
    rw [if_pos q] at hvl
    exact main 1 hvl.symm
  · rw [if_neg q]
    rw [if_neg q] at hvl
    exact main 2 hvl.symm
