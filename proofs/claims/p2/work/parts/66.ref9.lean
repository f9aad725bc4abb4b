/-! ===== the reference's reader: an enum's value, whole ===== -/
theorem fP_at {P : Nat → Nat → Prop} {σ τ : SG} (h : fP P σ τ) {b k : Nat} (hk : ¬ P b k) : sI τ b k = sI σ b k := (h b k hk).1
/-- what the value leaves -/
def VLo (σ τ : SG) (T : List Nat) (Ws : List Wd) (v : Int32) (n w en k' : Nat) (d : Dc) : Prop := sI τ 1101 74 = 0 ∧ QX τ T Ws k' ∧ sI τ 1101 38 = nI (n + 1) ∧ sI τ 1101 35 = nI (w + 1) ∧ (sI τ 1156 n = v ∧ sI τ 1157 n = nI (dA d) ∧ sI τ 1158 n = nI (dE d - dA d)) ∧ (sI τ 1149 w = nI en ∧ sI τ 1150 w = nI (dA d) ∧ sI τ 1151 w = nI (dE d - dA d) ∧ NR (sL τ 1152 w) (dN d)) ∧ ∀ j, j ∉ [35, 38, 70, 71, 72, 74, 75, 76, 77] → sI τ 1101 j = sI σ 1101 j
theorem N_takeValue {U k n w en : Nat} {v : Int32} {σ : SG} {T : List Nat} {Ws : List Wd} {c : CT} {m e : Option Nat} (hU : 4000 < U) (hS : WS T Ws) (h : QX σ T Ws k) (h74 : sI σ 1101 74 = 0) (h38 : sI σ 1101 38 = nI n) (hn : n < 400) (h35 : sI σ 1101 35 = nI w) (hw : w < 200) (h33 : sI σ 1101 33 = nI (en + 1)) (hcN : tN c = n) (hcV : tV c = w) :
    ∃ τ, x_X12_takeValue U 1101 v σ = some τ ∧ fP (PX c) σ τ ∧ (∀ k' d, (if sC Ws k = 40 then none else sVl T Ws m e k) = some (k', d) → VLo σ τ T Ws v n w en k' d) ∧ ((if sC Ws k = 40 then none else sVl T Ws m e k) = none → ¬ sI τ 1101 74 = 0) := by
  obtain ⟨hL, x, hx, hC⟩ := h
  have h : QX σ T Ws k := ⟨hL, x, hx, hC⟩
  have h6 := (hS.G.2 _ _ hx).1
  unfold x_X12_takeValue
  rw [N_isForeign hU hS h, b1_eq, ifz]
  by_cases q0 : sC Ws k = 40
  · rw [decide_eq_true q0, if_pos q0]
    simp only [if_true]
    obtain ⟨σ3, a1, a2, a3⟩ := N_fail (σ := σ) (v := 2) (w := sI σ 1101 71) (by decide)
    rw [a1, b1_eq]
    obtain ⟨τ, g1, g2, g3⟩ := N_value_e (U := U) (v := v) (c := c) a2 ((a3.2.1 35 (by decide)).trans h35) hw ((a3.2.1 38 (by decide)).trans h38) (by omega) hcV
    exact ⟨τ, g1, fP_trans (fX_q a3 (by decide)) g2, fun k' d z => (by cases z), fun _ => g3⟩
  rw [decide_eq_false q0, if_neg q0]
  simp only [Bool.false_eq_true, if_false]
  unfold sVl
  rw [hx]
  simp only
  obtain ⟨σ5, a1, a2, a3, a4⟩ := N_declare (v := v) (c := c) hU hS h hx h74 h38 hn hcN
  by_cases q1 : x.1 = 1
  · rw [if_pos q1]
    obtain ⟨b1', b2', b3, b4, b5, b6, b7⟩ := a4 q1
    have c35 : sI σ5 1101 35 = nI w := (b7 35 (by decide)).trans h35
    have c33 : sI σ5 1101 33 - 1 = nI en := by rw [b7 33 (by decide), h33, show (1 : Int32) = nI 1 from rfl, nI_sub (by omega)]; rfl
    unfold x_X12_takeValue_16
    rw [a1, b1_eq, c35, ix_in hw (by decide), sb_eq, c33]
    have l1 : x_X12_lastAt 1101 (uI σ5 1149 w (nI en)) = some (nI x.2.1) := by
      rw [N_lastAt (n := n) (by rw [sI_o (Or.inl (by decide))]; exact b3) hn, sI_o (Or.inl (by decide)), b5]
    rw [l1, b1_eq, ix_in hw (by decide), sb_eq]
    have l2 : x_X12_lastLong 1101 (uI (uI σ5 1149 w (nI en)) 1150 w (nI x.2.1)) = some (nI (x.2.2.1 - x.2.1)) := by
      rw [N_lastLong (n := n) (by rw [sI_o (Or.inl (by decide)), sI_o (Or.inl (by decide))]; exact b3) hn, sI_o (Or.inl (by decide)), sI_o (Or.inl (by decide)), b6]
    rw [l2, b1_eq, ix_in hw (by decide), sb_eq]
    have Q24 : QX (uI (uI (uI σ5 1149 w (nI en)) 1150 w (nI x.2.1)) 1151 w (nI (x.2.2.1 - x.2.1))) T Ws (k + 1) := ((b2'.o (by decide) (by decide)).o (by decide) (by decide)).o (by decide) (by decide)
    have o24 : ∀ b j, (b < 1149 ∨ 1151 < b) → sI (uI (uI (uI σ5 1149 w (nI en)) 1150 w (nI x.2.1)) 1151 w (nI (x.2.2.1 - x.2.1))) b j = sI σ5 b j := fun b j hb => by
      rw [sI_o (Or.inl (by omega)), sI_o (Or.inl (by omega)), sI_o (Or.inl (by omega))]
    have v1 : sI (uI (uI (uI σ5 1149 w (nI en)) 1150 w (nI x.2.1)) 1151 w (nI (x.2.2.1 - x.2.1))) 1149 w = nI en := by rw [sI_o (Or.inl (by decide)), sI_o (Or.inl (by decide)), sI_s]
    have v2 : sI (uI (uI (uI σ5 1149 w (nI en)) 1150 w (nI x.2.1)) 1151 w (nI (x.2.2.1 - x.2.1))) 1150 w = nI x.2.1 := by rw [sI_o (Or.inl (by decide)), sI_s]
    have v3 : sI (uI (uI (uI σ5 1149 w (nI en)) 1150 w (nI x.2.1)) 1151 w (nI (x.2.2.1 - x.2.1))) 1151 w = nI (x.2.2.1 - x.2.1) := sI_s _ _ _ _
    have f24 : fP (PX c) σ (uI (uI (uI σ5 1149 w (nI en)) 1150 w (nI x.2.1)) 1151 w (nI (x.2.2.1 - x.2.1))) := fP_trans a2 (fP_trans (fP_trans (fP_u (PX_v (by decide) (by decide) (by omega))) (fP_u (PX_v (by decide) (by decide) (by omega)))) (fP_u (PX_v (by decide) (by decide) (by omega))))
    generalize (uI (uI (uI σ5 1149 w (nI en)) 1150 w (nI x.2.1)) 1151 w (nI (x.2.2.1 - x.2.1))) = σ24 at *
    have z24 : sI σ24 1101 74 = 0 := (o24 1101 74 (by decide)).trans b1'
    obtain ⟨σ26, s1, s2, s3, s4⟩ := N_takeSign (q := 61) hU hS Q24 z24 (by decide)
    have s1' : x_X12_takeSign U 1101 61 σ24 = some σ26 := s1
    rw [s1', b1_eq]
    cases q2 : sS T Ws 61 (k + 1) with
    | false =>
      have z26 := s4 (by rw [q2]; rfl)
      rw [if_neg z26]
      simp only [Bool.false_eq_true, if_false]
      exact ⟨σ26, rfl, fP_trans f24 (fX_q s2 (by decide)), fun k' d z => (by cases z), fun _ => z26⟩
    | true =>
      have r26 := s3 (k + 2) (by rw [q2]; rfl)
      rw [if_pos r26.1]
      simp only [if_true]
      have i45 : x_X12_isSign 1101 45 σ26 = some (zI (sS T Ws 45 (k + 2))) := N_isSign (q := 45) hS r26.2 (by decide)
      rw [i45, b1_eq, ix_in hw (by decide), sb_eq, ifz]
      have f26 : fP (PX c) σ σ26 := fP_trans f24 (fX_q s2 (by decide))
      have r26q := r26.2
      obtain ⟨_, y, hy, _⟩ := r26q
      have Q34 := r26.2.o (b := 1153) (j := w) (v := sI σ26 1101 71) (by decide) (by decide)
      have o34 : ∀ b j, b ≠ 1153 → sI (uI σ26 1153 w (sI σ26 1101 71)) b j = sI σ26 b j := fun b j hb => sI_o (Or.inl hb)
      have f34 : fP (PX c) σ (uI σ26 1153 w (sI σ26 1101 71)) := fP_trans f26 (fP_u (PX_v (by decide) (by decide) (by omega)))
      generalize uI σ26 1153 w (sI σ26 1101 71) = σ34 at *
      -- from the number on
      have fin : ∀ (υ : SG) (k2 : Nat) (y2 : Wd) (ng : Bool), QX υ T Ws k2 → Ws[k2]? = some y2 → fP (PX c) σ υ → fq [70, 71, 72, 76] σ34 υ →
          ∃ τ, x_X12_takeValue_97 U 1101 (nI w) (zI ng) υ = some τ ∧ fP (PX c) σ τ ∧ (y2.1 = 2 → sS T Ws 59 (k2 + 1) = true → VLo σ τ T Ws v n w en (k2 + 2) (3, m, e, x.2.1, x.2.2.1, (ng, nuX y2), 0, 0, false, 0)) ∧ (¬ (y2.1 = 2 ∧ sS T Ws 59 (k2 + 1) = true) → ¬ sI τ 1101 74 = 0) := by
        intro υ k2 y2 ng hQ hy2 hf hq
        have keep : ∀ b j, b ≠ 1101 → b ≠ 1153 → sI υ b j = sI σ24 b j := fun b j h1 h2 => by
          rw [(hq.1 b h1 j).1, o34 b j h2, (s2.1 b h1 j).1]
        have keep1 : ∀ j, j ∉ [70, 71, 72, 74, 75, 76] → sI υ 1101 j = sI σ24 1101 j := fun j hj => by
          rw [hq.2.1 j (fun z => hj (by simp only [List.mem_cons, List.not_mem_nil, or_false] at z ⊢; omega)), o34 1101 j (by decide), s2.2.1 j (fun z => hj z)]
        have z0 : sI υ 1101 74 = 0 := by rw [hq.2.1 74 (by decide), o34 1101 74 (by decide)]; exact r26.1
        obtain ⟨τ, g1, g2, g3, g4⟩ := N_value_97 (ng := ng) hU hS hQ hy2 z0 (by rw [keep1 35 (by decide), o24 1101 35 (by decide)]; exact c35) hw
        refine ⟨τ, g1, fP_trans hf (fP_mono g2 (fun b j z => ?_)), fun y1 y3 => ?_, g4⟩
        · rcases z with z | z
          · exact Or.inl ⟨z.1, (by decide : ∀ i, i ∈ [35, 70, 71, 72, 74, 75, 76, 77] → i ∈ KR) j z.2⟩
          · exact PX_v (by omega) (by omega) (by omega)
        · obtain ⟨t1, t2, t3, t4⟩ := g3 y1 y3
          have kp : ∀ b j, b ≠ 1101 → b ≠ 1153 → b ≠ 1152 → sI τ b j = sI σ24 b j := fun b j h1 h2 h3 => by
            rw [fP_at g2 (fun z => by rcases z with z | z <;> omega)]; exact keep b j h1 h2
          have kp1 : ∀ j, j ∉ [35, 70, 71, 72, 74, 75, 76] → j ≠ 77 → sI τ 1101 j = sI σ24 1101 j := fun j hj hj7 => by
            rw [fP_at g2 (fun z => by
              rcases z with z | z
              · have := z.2
                simp only [List.mem_cons, List.not_mem_nil, or_false] at this hj
                omega
              · omega)]
            exact keep1 j (fun z => hj (List.mem_cons_of_mem _ z))
          refine ⟨t1, t2, ?_, t3, ⟨?_, ?_, ?_⟩, ⟨?_, ?_, ?_, t4⟩, fun j hj => ?_⟩
          · rw [kp1 38 (by decide) (by decide), o24 1101 38 (by decide)]; exact b3
          · rw [kp 1156 n (by decide) (by decide) (by decide), o24 1156 n (by decide)]; exact b4
          · rw [kp 1157 n (by decide) (by decide) (by decide), o24 1157 n (by decide)]; exact b5
          · rw [kp 1158 n (by decide) (by decide) (by decide), o24 1158 n (by decide)]; exact b6
          · rw [kp 1149 w (by decide) (by decide) (by decide)]; exact v1
          · rw [kp 1150 w (by decide) (by decide) (by decide)]; exact v2
          · rw [kp 1151 w (by decide) (by decide) (by decide)]; exact v3
          · have h7 : j ≠ 77 := fun z => hj (by rw [z]; decide)
            rw [kp1 j (fun z => hj (by simp only [List.mem_cons, List.not_mem_nil, or_false] at z ⊢; omega)) h7, o24 1101 j (by decide)]
            exact b7 j (fun z => hj (by simp only [List.mem_cons, List.not_mem_nil, or_false] at z ⊢; omega))
      unfold sNu
      rw [hy]
      simp only [true_and]
      rw [show sS T Ws 45 (k + 2) = sgX T y 45 from sS_some hy]
      cases q3 : sgX T y 45 with
      | true =>
        simp only [if_true]
        have hk4 := sg_4 q3
        obtain ⟨σ51, d1, d2, d3⟩ := N_next hU hS Q34 (by rw [sK_some hy]; omega) (by rw [sK_some hy]; omega)
        rw [d1, b1_eq]
        have d2' := d2
        obtain ⟨_, y2, hy2, _⟩ := d2'
        obtain ⟨τ, g1, g2, g3, g4⟩ := fin σ51 (k + 2 + 1) y2 true d2 hy2 (fP_trans f34 (fX_q d3 (by decide))) d3
        refine ⟨τ, g1, g2, fun k' d z => ?_, fun z => g4 (fun hz => ?_)⟩
        · rw [show k + 3 = k + 2 + 1 by omega] at *
          rw [hy2] at z
          simp only at z
          by_cases w1 : y2.1 = 2
          · rw [if_pos w1] at z
            simp only at z
            cases w2 : sS T Ws 59 (k + 2 + 2) with
            | false => rw [w2] at z; cases z
            | true =>
              rw [w2] at z
              cases z
              exact g3 w1 w2
          · rw [if_neg w1] at z; cases z
        · rw [hy2] at z
          simp only at z
          rw [if_pos hz.1] at z
          simp only at z
          have := hz.2
          rw [show k + 2 + 1 + 1 = k + 2 + 2 by omega] at this
          rw [this] at z
          cases z
      | false =>
        simp only [Bool.false_eq_true, if_false]
        obtain ⟨τ, g1, g2, g3, g4⟩ := fin σ34 (k + 2) y false Q34 hy f34 (fq_refl _ _)
        refine ⟨τ, g1, g2, fun k' d z => ?_, fun z => g4 (fun hz => ?_)⟩
        · by_cases w1 : y.1 = 2
          · rw [if_pos w1] at z
            simp only at z
            cases w2 : sS T Ws 59 (k + 2 + 1) with
            | false => rw [w2] at z; cases z
            | true =>
              rw [w2] at z
              cases z
              exact g3 w1 w2
          · rw [if_neg w1] at z; cases z
        · rw [if_pos hz.1] at z
          simp only at z
          rw [hz.2] at z
          cases z
  · rw [if_neg q1]
    obtain ⟨z5, f5⟩ := a3 q1
    have e16 : x_X12_takeValue_16 U 1101 v σ = x_X12_takeValue_16 U 1101 v σ5 := by
      unfold x_X12_takeValue_16
      rw [a1, N_declare_e z5]
    rw [e16]
    obtain ⟨τ, g1, g2, g3⟩ := N_value_e (U := U) (v := v) (c := c) z5 ((f5.2.1 35 (by decide)).trans h35) hw ((f5.2.1 38 (by decide)).trans h38) (by omega) hcV
    exact ⟨τ, g1, fP_trans a2 g2, fun k' d z => (by cases z), fun _ => g3⟩
