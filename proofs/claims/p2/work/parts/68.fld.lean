/-! ===== the reference's reader: a field ===== -/
theorem WS.len {T : List Nat} {Ws : List Wd} (h : WS T Ws) : Ws.length ≤ 701 := by
  rcases Nat.lt_or_ge 701 Ws.length with q | q
  · have hx : Ws[701]? = some Ws[701] := List.getElem?_eq_getElem q
    have := h.le _ _ hx
    have := h.2.1
    omega
  · exact q
theorem N_field_e {U j n : Nat} {v : Int32} {σ : SG} {c : CT} (h74 : ¬ sI σ 1101 74 = 0) (h38 : sI σ 1101 38 = nI n) (hn : n ≤ 400) (hj : j < 200) (hc : tF c ≤ j) :
    ∃ τ, x_X12_takeField_52 U 1101 v (nI j) σ = some τ ∧ fP (PX c) σ τ ∧ ¬ sI τ 1101 74 = 0 := by
  unfold x_X12_takeField_52
  rw [N_takeType_e h74, b1_eq, N_declare_e h74, b1_eq]
  obtain ⟨v1, e1⟩ := N_lastAt_any (σ := σ) (n := n) h38 hn
  rw [e1, b1_eq, ix_in hj (by decide), sb_eq]
  obtain ⟨v2, e2⟩ := N_lastLong_any (σ := uI σ 1135 j v1) (n := n) (by rw [sI_o (Or.inl (by decide))]; exact h38) hn
  rw [e2, b1_eq, ix_in hj (by decide), sb_eq]
  have z : ¬ sI (uI (uI σ 1135 j v1) 1136 j v2) 1101 74 = 0 := by
    rw [sI_o (Or.inl (by decide)), sI_o (Or.inl (by decide))]; exact h74
  rw [N_takeSign_e z, b1_eq, if_neg z]
  exact ⟨_, rfl, fP_trans (fP_u (PX_f (by decide) (by decide) hc)) (fP_u (PX_f (by decide) (by decide) hc)), z⟩
theorem PY_X {c : CT} {j p b k : Nat} (hj : tF c ≤ j) (hp : tP c ≤ p) (h : PY j p b k) : PX c b k := by
  rcases h with z | z | z
  · exact Or.inl ⟨z.1, (by decide : ∀ i, i ∈ [37, 70, 71, 72, 74, 75, 76, 77] → i ∈ KR) k z.2⟩
  · exact PX_p z.1 z.2.1 (by omega)
  · exact PX_f (by omega) (by omega) (by omega)
theorem PP_X {c : CT} {j b k : Nat} (hj : tF c ≤ j) (h : PP j b k) : PX c b k := by
  rcases h with z | z
  · exact Or.inl ⟨z.1, (by decide : ∀ i, i ∈ [70, 71, 72, 74, 75, 76, 77] → i ∈ KR) k z.2⟩
  · exact PX_f (by omega) (by omega) (by omega)
theorem N_field_52 {U k p j : Nat} {r : Bool} {σ0 σ : SG} {T : List Nat} {Ws : List Wd} {D : List Dc} {m o : Option Nat} (hU : 4000 < U) (hS : WS T Ws) (hW : WF D) (hM : RM σ0 T Ws D p) (hf0 : fP (PX (ct D p)) σ0 σ) (hc0 : ∀ i, 32 ≤ i → i ≤ 38 → sI σ 1101 i = sI σ0 1101 i) (h : QX σ T Ws k) (h74 : sI σ 1101 74 = 0) (hD : 4 * D.length ≤ pos Ws k) (hp : 2 * p ≤ pos Ws k) (hj : j = cnt D 2) (h134 : sI σ 1134 j = oq D 0 m) (h148 : sI σ 1148 j = oq D 4 o) (h145 : sI σ 1145 j = zI r) (hm : ∀ i, m = some i → i ≤ D.length) (ho : ∀ i, o = some i → i ≤ D.length) :
    ∃ τ, x_X12_takeField_52 U 1101 (oq D 0 m) (nI j) σ = some τ ∧ fP (PX (ct D p)) σ0 τ ∧ (∀ k' d, sFt T Ws m o r k = some (k', d) → sI τ 1101 74 = 0 ∧ QX τ T Ws k' ∧ ∃ p', 2 * p' ≤ pos Ws k' ∧ RM τ T Ws (D ++ [d]) p') ∧ (sFt T Ws m o r k = none → ¬ sI τ 1101 74 = 0) := by
  have hl := hS.len
  have hk := h
  obtain ⟨_, xk, hxk, _⟩ := hk
  have hle := hS.le _ xk hxk
  have hT := hS.2.1
  have hD' := hD
  rw [pos_some hxk] at hD'
  have hcl := cnt_le D 2
  have hj2 : j < 200 := by omega
  have hn : D.length < 400 := by omega
  have h38 : sI σ 1101 38 = nI D.length := (hc0 38 (by decide) (by decide)).trans hM.2.2.1
  have h37 : sI σ 1101 37 = nI p := (hc0 37 (by decide) (by decide)).trans hM.2.1
  have hjc : tF (ct D p) ≤ j := by rw [hj]; exact Nat.le_refl _
  obtain ⟨σ21, a1, a2, a3, a4⟩ := N_takeType hU hS hl hj2 h h74 h37 hp
  have f21 : fP (PX (ct D p)) σ0 σ21 := fP_trans hf0 (fP_mono a2 (fun b i z => PY_X hjc (Nat.le_refl _) z))
  have k21 : ∀ i, i ∉ [37, 70, 71, 72, 74, 75, 76, 77] → sI σ21 1101 i = sI σ 1101 i := fun i hi => fP_at a2 (fun z => by
    rcases z with z | z | z
    · exact hi z.2
    · omega
    · omega)
  unfold sFt
  cases hty : (if sPl Ws k then some (k + 1) else sTy T Ws k) with
  | none =>
    have z21 := a4 hty
    have e52 : x_X12_takeField_52 U 1101 (oq D 0 m) (nI j) σ = x_X12_takeField_52 U 1101 (oq D 0 m) (nI j) σ21 := by
      unfold x_X12_takeField_52
      rw [a1, N_takeType_e z21]
    rw [e52]
    obtain ⟨τ, g1, g2, g3⟩ := N_field_e (U := U) (v := oq D 0 m) z21 ((k21 38 (by decide)).trans h38) (by omega) hj2 hjc
    exact ⟨τ, g1, fP_trans f21 g2, fun k' d z => (by cases z), fun _ => g3⟩
  | some k2 =>
    simp only
    obtain ⟨z21, Q21, t39, t37, tn⟩ := a3 k2 hty
    -- the parts behind the type
    have hp2 : ∃ p2, sI σ21 1101 37 = nI p2 ∧ p ≤ p2 ∧ 2 * p2 ≤ pos Ws k2 + 1 ∧ (sPl Ws k = false → ∃ q, p2 = p + q ∧ sI σ21 1142 j = zI (sS T Ws 46 k) ∧ sI σ21 1143 j = nI p ∧ k2 + 1 = w0 T Ws k + 2 * q ∧ 1 ≤ q ∧ sI σ21 1144 j = nI q ∧ PTs σ21 Ws p (w0 T Ws k) q) := by
      obtain ⟨_, x2, hx2, _⟩ := Q21
      cases hpl : sPl Ws k with
      | true =>
        refine ⟨p, t37 hpl, Nat.le_refl _, ?_, fun z => (by cases z)⟩
        rw [hpl] at hty
        have : k2 = k + 1 := by simp at hty; omega
        subst this
        have := hS.mono hxk 1 x2 hx2
        rw [pos_some hx2]
        rw [pos_some hxk] at hp
        omega
      | false =>
        obtain ⟨b1', b2', q, b3, b4, b5, b6, b7⟩ := tn hpl
        have hw0 : w0 T Ws k = k ∨ w0 T Ws k = k + 1 := by
          unfold w0; split
          · exact Or.inr rfl
          · exact Or.inl rfl
        have b3' : k2 + 1 = w0 T Ws k + 2 * q := b3
        refine ⟨p + q, b5, by omega, ?_, fun _ => ⟨q, rfl, b1', b2', b3', b4, b6, b7⟩⟩
        have := hS.mono hxk (k2 - k) x2 (by rw [show k + (k2 - k) = k2 by omega]; exact hx2)
        rw [pos_some hx2]
        rw [pos_some hxk] at hp
        omega
    obtain ⟨p2, hp37, hpp, hpos2, hnamed⟩ := hp2
    obtain ⟨hL2, x, hx, hC2⟩ := Q21
    have Q21 : QX σ21 T Ws k2 := ⟨hL2, x, hx, hC2⟩
    have h6 := (hS.G.2 _ _ hx).1
    obtain ⟨σ23, b1', b2', b3, b4⟩ := N_declare (v := oq D 0 m) (c := (cnt D 0, cnt D 1, j + 1, cnt D 3, p2, D.length)) hU hS Q21 hx z21 ((k21 38 (by decide)).trans h38) hn rfl
    have f23 : fP (PX (ct D p)) σ0 σ23 := fP_trans f21 (fP_mono b2' (fun b i z => PX_le (c := ct D p) (d := (cnt D 0, cnt D 1, j + 1, cnt D 3, p2, D.length)) ⟨Nat.le_refl _, Nat.le_refl _, by show cnt D 2 ≤ j + 1; omega, Nat.le_refl _, hpp, Nat.le_refl _⟩ z))
    unfold sFe
    rw [hx]
    simp only
    by_cases q1 : x.1 = 1
    · rw [if_pos q1]
      obtain ⟨z23, Q23, n38, n56, n57, n58, o23⟩ := b4 q1
      unfold x_X12_takeField_52
      have l1 : x_X12_lastAt 1101 σ23 = some (nI x.2.1) := by rw [N_lastAt n38 hn, n57]
      rw [a1, b1_eq, b1', b1_eq, l1, b1_eq, ix_in hj2 (by decide), sb_eq]
      have l2 : x_X12_lastLong 1101 (uI σ23 1135 j (nI x.2.1)) = some (nI (x.2.2.1 - x.2.1)) := by
        rw [N_lastLong (n := D.length) (by rw [sI_o (Or.inl (by decide))]; exact n38) hn, sI_o (Or.inl (by decide)), n58]
      rw [l2, b1_eq, ix_in hj2 (by decide), sb_eq]
      have Q37 : QX (uI (uI σ23 1135 j (nI x.2.1)) 1136 j (nI (x.2.2.1 - x.2.1))) T Ws (k2 + 1) := (Q23.o (by decide) (by decide)).o (by decide) (by decide)
      have o37 : ∀ b i, b ≠ 1135 → b ≠ 1136 → sI (uI (uI σ23 1135 j (nI x.2.1)) 1136 j (nI (x.2.2.1 - x.2.1))) b i = sI σ23 b i := fun b i h1 h2 => by
        rw [sI_o (Or.inl h2), sI_o (Or.inl h1)]
      have v35 : sI (uI (uI σ23 1135 j (nI x.2.1)) 1136 j (nI (x.2.2.1 - x.2.1))) 1135 j = nI x.2.1 := by rw [sI_o (Or.inl (by decide)), sI_s]
      have v36 : sI (uI (uI σ23 1135 j (nI x.2.1)) 1136 j (nI (x.2.2.1 - x.2.1))) 1136 j = nI (x.2.2.1 - x.2.1) := sI_s _ _ _ _
      have f37 : fP (PX (ct D p)) σ0 (uI (uI σ23 1135 j (nI x.2.1)) 1136 j (nI (x.2.2.1 - x.2.1))) := fP_trans f23 (fP_trans (fP_u (PX_f (by decide) (by decide) hjc)) (fP_u (PX_f (by decide) (by decide) hjc)))
      generalize (uI (uI σ23 1135 j (nI x.2.1)) 1136 j (nI (x.2.2.1 - x.2.1))) = σ37 at *
      obtain ⟨σ39, s1, s2, s3, s4⟩ := N_takeSign (q := 61) hU hS Q37 ((o37 1101 74 (by decide) (by decide)).trans z23) (by decide)
      have s1' : x_X12_takeSign U 1101 61 σ37 = some σ39 := s1
      rw [s1', b1_eq]
      have f39 : fP (PX (ct D p)) σ0 σ39 := fP_trans f37 (fX_q s2 (by decide))
      cases q2 : sS T Ws 61 (k2 + 1) with
      | false =>
        have z39 := s4 (by rw [q2]; rfl)
        rw [if_neg z39]
        simp only [Bool.false_eq_true, if_false]
        exact ⟨σ39, rfl, f39, fun k' d z => (by cases z), fun _ => z39⟩
      | true =>
        obtain ⟨z39, Q39⟩ := s3 (k2 + 2) (by rw [q2]; rfl)
        rw [if_pos z39]
        simp only [if_true]
        obtain ⟨hL3, y, hy, hC3⟩ := Q39
        have Q39 : QX σ39 T Ws (k2 + 2) := ⟨hL3, y, hy, hC3⟩
        have hy6 := (hS.G.2 _ _ hy).1
        unfold sNu
        rw [hy, N_kind Q39, sK_some hy]
        simp only [Bool.false_eq_true, false_and, if_false]
        by_cases q3 : y.1 = 2
        · rw [if_pos (show nI y.1 = 2 by rw [q3]; rfl), if_pos q3, ix_in hj2 (by decide), sb_eq, ix_in hj2 (by decide), sb_eq]
          have nr := N_num Q39 hy q3 false
          have Q51 : QX (uI (uL σ39 1137 j (sL σ39 1101 77)) 1138 j (sI (uL σ39 1137 j (sL σ39 1101 77)) 1101 71)) T Ws (k2 + 2) := (Q39.oL (by decide) (by decide)).o (by decide) (by decide)
          have o51 : ∀ b i, b ≠ 1138 → sI (uI (uL σ39 1137 j (sL σ39 1101 77)) 1138 j (sI (uL σ39 1137 j (sL σ39 1101 77)) 1101 71)) b i = sI σ39 b i := fun b i hb => by rw [sI_o (Or.inl hb)]; rfl
          have l51 : sL (uI (uL σ39 1137 j (sL σ39 1101 77)) 1138 j (sI (uL σ39 1137 j (sL σ39 1101 77)) 1101 71)) 1137 j = sL σ39 1101 77 := by
            show sL (uL σ39 1137 j (sL σ39 1101 77)) 1137 j = _
            rw [sL_uL, if_pos ⟨rfl, rfl⟩]
          have f51 : fP (PX (ct D p)) σ0 (uI (uL σ39 1137 j (sL σ39 1101 77)) 1138 j (sI (uL σ39 1137 j (sL σ39 1101 77)) 1101 71)) := fP_trans f39 (fP_trans (fP_L (PX_f (by decide) (by decide) hjc)) (fP_u (PX_f (by decide) (by decide) hjc)))
          generalize (uI (uL σ39 1137 j (sL σ39 1101 77)) 1138 j (sI (uL σ39 1137 j (sL σ39 1101 77)) 1101 71)) = σ51 at *
          obtain ⟨σ53, c1, c2, c3⟩ := N_next hU hS Q51 (by rw [sK_some hy]; omega) (by rw [sK_some hy]; omega)
          rw [c1, b1_eq]
          have z53 : sI σ53 1101 74 = 0 := by rw [c3.2.1 74 (by decide), o51 1101 74 (by decide)]; exact z39
          obtain ⟨σ55, d1, d2, d3, d4⟩ := N_takePacked (j := j) hU hS c2 z53 hj2
          rw [d1, b1_eq]
          have f55 : fP (PX (ct D p)) σ0 σ55 := fP_trans f51 (fP_trans (fX_q c3 (by decide)) (fP_mono d2 (fun b i z => PP_X hjc z)))
          simp only
          cases hpk : sPk T Ws (k2 + 2 + 1) with
          | none =>
            simp only
            have z55 := d4 hpk
            rw [N_takeSign_e z55, b1_eq, sb_eq]
            refine ⟨_, rfl, fP_trans f55 (fP_u (PX_0 (by decide))), fun k' d z => (by cases z), fun _ => ?_⟩
            rw [sI_o (Or.inr (by decide))]; exact z55
          | some kp =>
            obtain ⟨k5, pk⟩ := kp
            simp only
            obtain ⟨z55, Q55, v146⟩ := d3 k5 pk hpk
            obtain ⟨σ57, e1, e2, e3, e4⟩ := N_takeSign (q := 59) hU hS Q55 z55 (by decide)
            have e1' : x_X12_takeSign U 1101 59 σ55 = some σ57 := e1
            rw [e1', b1_eq, sb_eq]
            have f57 : fP (PX (ct D p)) σ0 σ57 := fP_trans f55 (fX_q e2 (by decide))
            cases q5 : sS T Ws 59 k5 with
            | false =>
              simp only [Bool.false_eq_true, if_false]
              refine ⟨_, rfl, fP_trans f57 (fP_u (PX_0 (by decide))), fun k' d z => (by cases z), fun _ => ?_⟩
              rw [sI_o (Or.inr (by decide))]; exact e4 (by rw [q5]; rfl)
            | true =>
              simp only [if_true]
              obtain ⟨z57, Q57⟩ := e3 (k5 + 1) (by rw [q5]; rfl)
              -- what stays from σ23 on
              have kb : ∀ b i, b ≠ 1101 → b ≠ 1135 → b ≠ 1136 → b ≠ 1138 → b ≠ 1146 → b ≠ 1147 → sI σ57 b i = sI σ23 b i := fun b i h0 h1 h2 h3 h4 h5 => by
                rw [(e2.1 b h0 i).1, fP_at d2 (fun z => by rcases z with z | z <;> omega), (c3.1 b h0 i).1, o51 b i h3, (s2.1 b h0 i).1, o37 b i h1 h2]
              have k1 : ∀ i, i ∉ [70, 71, 72, 74, 75, 76, 77] → sI σ57 1101 i = sI σ23 1101 i := fun i hi => by
                have hi' : i ∉ [70, 71, 72, 76] := fun z => hi (by simp only [List.mem_cons, List.not_mem_nil, or_false] at z ⊢; omega)
                have hi2 : i ∉ KF := fun z => hi (KF_in i z)
                rw [e2.2.1 i hi2, fP_at d2 (fun z => by
                  rcases z with z | z
                  · exact hi z.2
                  · omega), c3.2.1 i hi', o51 1101 i (by decide), s2.2.1 i hi2, o37 1101 i (by decide) (by decide)]
              have k3 : ∀ b, b = 1135 ∨ b = 1136 → sI σ57 b j = sI σ37 b j := fun b hb => by
                rw [(e2.1 b (by omega) j).1, fP_at d2 (fun z => by rcases z with z | z <;> omega), (c3.1 b (by omega) j).1, o51 b j (by omega), (s2.1 b (by omega) j).1]
              have kL : sL σ57 1137 j = sL σ39 1101 77 := by
                rw [(e2.1 1137 (by decide) j).2.1, (d2 1137 j (fun z => by rcases z with z | z <;> omega)).2.1, (c3.1 1137 (by decide) j).2.1, l51]
              have k46 : sI σ57 1146 j = nI pk := by rw [(e2.1 1146 (by decide) j).1]; exact v146
              -- from σ21 to σ23, below the counts
              have kj : ∀ b, 1134 ≤ b → b ≤ 1148 → sI σ23 b j = sI σ21 b j := fun b h1 h2 => fP_at b2' (nPX_f h1 h2 (Nat.lt_succ_self j))
              have kp : ∀ b i, 1154 ≤ b → b ≤ 1155 → i < p2 → sI σ23 b i = sI σ21 b i := fun b i h1 h2 h3 => fP_at b2' (nPX_p h1 h2 h3)
              have kt : ∀ b, b = 1134 ∨ b = 1145 ∨ b = 1148 → sI σ21 b j = sI σ b j := fun b hb => fP_at a2 (fun z => by rcases z with z | z | z <;> omega)
              have c34 : sI σ57 1101 34 = nI j := by rw [k1 34 (by decide), o23 34 (by decide), k21 34 (by decide), hc0 34 (by decide) (by decide), hj]; exact hM.1 2 (by decide)
              rw [c34, nI_1]
              have hfin : fP (PX (ct D p)) σ0 (uI σ57 1101 34 (nI (j + 1))) := fP_trans f57 (fP_u (PX_0 (by decide)))
              have hfar : far Ws k2 (k5 + 1) 1 := by
                have g1 := far_sK hS (k := k2) (Or.inl (by rw [sK_some hx]; exact q1))
                have g2 := far_sS hS q2
                have g3 := far_sK hS (k := k2 + 2) (Or.inr (by rw [sK_some hy]; exact q3))
                have g4 := far_sPk hS g3.1 hpk
                have g5 := far_sS hS q5
                exact far_le (far_trans g1 (far_trans g2 (far_trans g3 (far_trans g4 g5)))) (by omega)
              refine ⟨_, rfl, hfin, fun k' d z => ?_, fun z => (by cases z)⟩
              cases z
              refine ⟨by rw [sI_o (Or.inr (by decide))]; exact z57, Q57.u (by decide), p2, by have := hfar.2; omega, ?_⟩
              have uo : ∀ b i, b ≠ 1101 → sI (uI σ57 1101 34 (nI (j + 1))) b i = sI σ57 b i := fun b i hb => sI_o (Or.inl hb)
              refine RM_snoc hW hM hfin hpp ?_ ?_ ?_ ?_
              · refine cnt_up (z := 2) hM.1 rfl (by decide) (by rw [show 32 + 2 = 34 by rfl, sI_s, hj]) (fun q h1 h2 => ?_)
                rw [sI_o (Or.inr (by omega)), k1 (32 + q) (by simp only [List.mem_cons, List.not_mem_nil, or_false]; omega), o23 (32 + q) (by simp only [List.mem_cons, List.not_mem_nil, or_false]; omega), k21 (32 + q) (by simp only [List.mem_cons, List.not_mem_nil, or_false]; omega), hc0 (32 + q) (by omega) (by omega)]
              · rw [sI_o (Or.inr (by decide)), k1 37 (by decide), o23 37 (by decide)]; exact hp37
              · rw [sI_o (Or.inr (by decide)), k1 38 (by decide)]; exact n38
              · have hS0 : ∀ (d : Dc), oq (D ++ [d]) 0 m = oq D 0 m := fun d => oq_snoc hm
                have hO4 : ∀ (d : Dc), oq (D ++ [d]) 4 o = oq D 4 o := fun d => oq_snoc ho
                refine ⟨⟨?_, ?_, ?_⟩, fun z => (by cases z), fun z => (by cases z), fun _ => ?_, fun z => (by cases z)⟩
                · rw [uo 1156 _ (by decide), kb 1156 _ (by decide) (by decide) (by decide) (by decide) (by decide) (by decide), n56]; exact (hS0 _).symm
                · rw [uo 1157 _ (by decide), kb 1157 _ (by decide) (by decide) (by decide) (by decide) (by decide) (by decide), n57]; rfl
                · rw [uo 1158 _ (by decide), kb 1158 _ (by decide) (by decide) (by decide) (by decide) (by decide) (by decide), n58]; rfl
                · rw [List.take_append_of_le_length (Nat.le_refl _), List.take_length, ← hj]
                  refine ⟨⟨?_, ?_, ?_⟩, ?_, ?_, ?_, ?_, ?_, ?_, ?_⟩
                  · rw [uo 1134 _ (by decide), kb 1134 _ (by decide) (by decide) (by decide) (by decide) (by decide) (by decide), kj 1134 (by decide) (by decide), kt 1134 (by decide), h134]; exact (hS0 _).symm
                  · rw [uo 1135 _ (by decide), k3 1135 (by decide), v35]; rfl
                  · rw [uo 1136 _ (by decide), k3 1136 (by decide), v36]; rfl
                  · rw [uo 1148 _ (by decide), kb 1148 _ (by decide) (by decide) (by decide) (by decide) (by decide) (by decide), kj 1148 (by decide) (by decide), kt 1148 (by decide), h148]; exact (hO4 _).symm
                  · rw [uo 1145 _ (by decide), kb 1145 _ (by decide) (by decide) (by decide) (by decide) (by decide) (by decide), kj 1145 (by decide) (by decide), kt 1145 (by decide), h145]; rfl
                  · show NR (sL σ57 1137 j) _
                    rw [kL]; exact nr
                  · rw [uo 1146 _ (by decide), k46]; rfl
                  · show (if sPl Ws k then (sC Ws k).toNatClampNeg else 13) < 14
                    cases hpl : sPl Ws k with
                    | false => rw [if_neg (by decide)]; decide
                    | true =>
                      have hh := of_decide_eq_true hpl
                      obtain ⟨q, hq, e⟩ := sC_lt hS.G k hh.1
                      rw [e] at hh ⊢
                      simp only [if_true]
                      have h41 := (by decide +kernel : ∀ q, q < 41 → ¬ 12 < nI q → (nI q).toNatClampNeg < 14) q hq hh.2
                      exact h41
                  · intro h13
                    have h13' : ¬ (if sPl Ws k then (sC Ws k).toNatClampNeg else 13) = 13 := h13
                    show _ = nI (if sPl Ws k then (sC Ws k).toNatClampNeg else 13)
                    rw [uo 1139 _ (by decide), kb 1139 _ (by decide) (by decide) (by decide) (by decide) (by decide) (by decide), kj 1139 (by decide) (by decide), t39]
                    cases hpl : sPl Ws k with
                    | false => rw [hpl] at h13'; exact absurd rfl h13'
                    | true =>
                      have hh := of_decide_eq_true hpl
                      obtain ⟨q, hq, e⟩ := sC_lt hS.G k hh.1
                      rw [e]
                      exact (by decide +kernel : ∀ q, q < 41 → nI q = nI ((nI q).toNatClampNeg)) q hq
                  · intro h13
                    have h13' : (if sPl Ws k then (sC Ws k).toNatClampNeg else 13) = 13 := h13
                    cases hpl : sPl Ws k with
                    | true =>
                      have hh := of_decide_eq_true hpl
                      obtain ⟨q, hq, e⟩ := sC_lt hS.G k hh.1
                      rw [hpl, e] at h13'
                      rw [e] at hh
                      simp only [if_true] at h13'
                      exact absurd h13' ((by decide +kernel : ∀ q, q < 41 → ¬ 12 < nI q → ¬ (nI q).toNatClampNeg = 13) q hq hh.2)
                    | false =>
                      rw [hpl] at t39 hty
                      simp only [Bool.false_eq_true, if_false] at t39 hty
                      obtain ⟨q, g0, g1, g2, g3, g4, g5, g6⟩ := hnamed hpl
                      have kk : ∀ b, 1139 ≤ b → b ≤ 1144 → sI (uI σ57 1101 34 (nI (j + 1))) b j = sI σ21 b j := fun b h1 h2 => by
                        rw [uo b _ (by omega), kb b _ (by omega) (by omega) (by omega) (by omega) (by omega) (by omega), kj b (by omega) (by omega)]
                      refine ⟨by rw [kk 1139 (by decide) (by decide)]; exact t39, p, q, k2, hty, by omega, by rw [kk 1142 (by decide) (by decide)]; exact g1, by rw [kk 1143 (by decide) (by decide)]; exact g2, by rw [kk 1144 (by decide) (by decide)]; exact g5, g3, g4, fun t ht => ?_⟩
                      obtain ⟨w, w1, w2, w3⟩ := g6 t ht
                      refine ⟨w, w1, ?_, ?_⟩
                      · rw [uo 1154 _ (by decide), kb 1154 _ (by decide) (by decide) (by decide) (by decide) (by decide) (by decide), kp 1154 _ (by decide) (by decide) (by omega)]; exact w2
                      · rw [uo 1155 _ (by decide), kb 1155 _ (by decide) (by decide) (by decide) (by decide) (by decide) (by decide), kp 1155 _ (by decide) (by decide) (by omega)]; exact w3
        · rw [if_neg (show ¬ nI y.1 = 2 from fun z => q3 ((nI_eq (b := 2) (by omega) (by decide)).mp z)), if_neg q3]
          obtain ⟨τ, g1, g2, g3⟩ := N_fail (σ := σ39) (v := 1) (w := sI σ39 1101 71) (by decide)
          rw [g1, b1_eq]
          exact ⟨τ, rfl, fP_trans f39 (fX_q g3 (by decide)), fun k' d z => (by cases z), fun _ => g2⟩
    · rw [if_neg q1]
      obtain ⟨z23, f23'⟩ := b3 q1
      have e52 : x_X12_takeField_52 U 1101 (oq D 0 m) (nI j) σ = x_X12_takeField_52 U 1101 (oq D 0 m) (nI j) σ23 := by
        unfold x_X12_takeField_52
        rw [a1, b1_eq, b1', b1_eq, N_takeType_e z23, b1_eq, N_declare_e z23, b1_eq]
      rw [e52]
      obtain ⟨τ, g1, g2, g3⟩ := N_field_e (U := U) (v := oq D 0 m) z23 ((f23'.2.1 38 (by decide)).trans ((k21 38 (by decide)).trans h38)) (by omega) hj2 hjc
      exact ⟨τ, g1, fP_trans f23 g2, fun k' d z => (by cases z), fun _ => g3⟩
