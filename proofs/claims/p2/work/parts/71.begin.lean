/-! ===== the reference's reader: an enum and a oneof, whole ===== -/
theorem lastAt_o {σ : SG} {b i : Nat} {v : Int32} (h1 : b ≠ 1101) (h2 : b ≠ 1157) : x_X12_lastAt 1101 (uI σ b i v) = x_X12_lastAt 1101 σ := by
  unfold x_X12_lastAt
  have e : ∀ j, sI (uI σ b i v) 1101 j = sI σ 1101 j := fun j => sI_o (Or.inl (fun z => h1 z.symm))
  have e2 : ∀ j, sI (uI σ b i v) 1157 j = sI σ 1157 j := fun j => sI_o (Or.inl (fun z => h2 z.symm))
  simp only [e, e2]
theorem lastLong_o {σ : SG} {b i : Nat} {v : Int32} (h1 : b ≠ 1101) (h2 : b ≠ 1158) : x_X12_lastLong 1101 (uI σ b i v) = x_X12_lastLong 1101 σ := by
  unfold x_X12_lastLong
  have e : ∀ j, sI (uI σ b i v) 1101 j = sI σ 1101 j := fun j => sI_o (Or.inl (fun z => h1 z.symm))
  have e2 : ∀ j, sI (uI σ b i v) 1158 j = sI σ 1158 j := fun j => sI_o (Or.inl (fun z => h2 z.symm))
  simp only [e, e2]
/-- what a member leaves: the reading goes on, at the same level -/
def NB (T : List Nat) (Ws : List Wd) (σ : SG) (n : Nat) (s : Rs) (D : List Dc) (x : Option SG) : Prop := ∃ τ, x = some τ ∧ fP PZ σ τ ∧ ((∃ n' k' b' E p', rd T Ws n s D = rd T Ws n' (k', s.2.1, none, none, b') (D ++ E) ∧ 701 ≤ n' + pos Ws k' ∧ n' < n ∧ IV Ws (k', s.2.1, none, none, b') (D ++ E) ∧ cnt (D ++ E) 0 = cnt D 0 ∧ 7 * cnt (D ++ E) 0 ≤ pos Ws k' ∧ 7 * cnt (D ++ E) 1 ≤ pos Ws k' ∧ sI τ 1101 74 = 0 ∧ QX τ T Ws k' ∧ RM τ T Ws (D ++ E) p' ∧ 2 * p' ≤ pos Ws k') ∨ (rd T Ws n s D = none ∧ ¬ sI τ 1101 74 = 0))
/-- behind the beginning of an enum or a oneof -/
theorem NB_of {T : List Nat} {Ws : List Wd} {σ υ : SG} {n k1 : Nat} {s : Rs} {D : List Dc} {d : Dc} {x : Option SG} {o e : Option Nat} {b : Bool} (hr : rd T Ws (n + 1) s D = rd T Ws n (k1, s.2.1, o, e, b) (D ++ [d])) (hf : fP PZ σ υ) (hfar : far Ws s.1 k1 6) (h0 : dK d ≠ 0) (hc0 : 7 * cnt D 0 ≤ pos Ws s.1) (hc1 : 7 * cnt D 1 ≤ pos Ws s.1) (h : NE T Ws υ n (k1, s.2.1, o, e, b) (D ++ [d]) x) : NB T Ws σ (n + 1) s D x := by
  obtain ⟨τ, a1, a2, a3⟩ := h
  refine ⟨τ, a1, fP_trans hf a2, ?_⟩
  rcases a3 with ⟨n', k2, b', E, p', g1, g2, g3, g4, g5, g6, g7, g8⟩ | g
  · refine Or.inl ⟨n', k2, b', d :: E, p', ?_⟩
    have e1 : D ++ d :: E = D ++ [d] ++ E := by simp
    have hfa : far Ws k1 k2 1 := g5
    have hc : cnt (D ++ [d]) 0 = cnt D 0 := by rw [cnt_sn, if_neg h0]; rfl
    have hc' : cnt (D ++ [d]) 1 ≤ cnt D 1 + 1 := by rw [cnt_snoc]; split <;> omega
    have h1 := hfa.2
    have h2 := hfar.2
    rw [e1, hr]
    exact ⟨g1, g2, by omega, g4, by rw [g6, hc], by rw [g6, hc]; omega, by rw [g7]; omega, g8⟩
  · exact Or.inr ⟨by rw [hr]; exact g.1, g.2⟩
theorem N_enum_mid {σ4 : SG} {j : Nat} {p0 va vl : Int32} {G : SG → Option SG} (h33 : sI σ4 1101 33 = nI j) (hj : j < 100) (hva : x_X12_lastAt 1101 σ4 = some va) (hvl : x_X12_lastLong 1101 σ4 = some vl) :
    (ix (sI σ4 1101 33) 100 fun j5 => sb (uI σ4 1131 j5 p0) fun σ9 => b1 (x_X12_lastAt 1101 σ9) fun v11 => ix (sI σ9 1101 33) 100 fun j12 => sb (uI σ9 1132 j12 v11) fun σ16 => b1 (x_X12_lastLong 1101 σ16) fun v18 => ix (sI σ16 1101 33) 100 fun j19 => sb (uI σ16 1133 j19 v18) fun σ23 => sb (uI σ23 1101 33 ((sI σ23 1101 33) + 1)) fun σ24 => G σ24) = G (uI (uI (uI (uI σ4 1131 j p0) 1132 j va) 1133 j vl) 1101 33 (nI (j + 1))) := by
  rw [h33, ix_in hj (by decide), sb_eq, lastAt_o (by decide) (by decide), hva, b1_eq]
  have e1 : sI (uI σ4 1131 j p0) 1101 33 = nI j := by rw [sI_o (Or.inl (by decide))]; exact h33
  rw [e1, ix_in hj (by decide), sb_eq, lastLong_o (by decide) (by decide), lastLong_o (by decide) (by decide), hvl, b1_eq]
  have e2 : sI (uI (uI σ4 1131 j p0) 1132 j va) 1101 33 = nI j := by rw [sI_o (Or.inl (by decide))]; exact e1
  rw [e2, ix_in hj (by decide), sb_eq, sb_eq]
  have e3 : sI (uI (uI (uI σ4 1131 j p0) 1132 j va) 1133 j vl) 1101 33 = nI j := by rw [sI_o (Or.inl (by decide))]; exact e2
  rw [e3, nI_1]
theorem enum_L_e {U U1 : Nat} {v w : Int32} {σ : SG} (h : ¬ sI σ 1101 74 = 0) : x_X12_takeEnum_L63 U 1101 (fun σ35 => x_X12_takeEnum_104 U 1101 σ35) v (U1 + 1) w σ = some σ := by
  rw [x_X12_takeEnum_L63]
  unfold x_X12_takeEnum_104
  rw [if_neg h, N_takeSign_e h, b1_eq]
  split <;> rfl
theorem one_L_e {U U1 : Nat} {v vo w : Int32} {σ : SG} (h : ¬ sI σ 1101 74 = 0) : x_X12_takeOneof_L32 U 1101 (fun σ21 => x_X12_takeOneof_93 U 1101 σ21) v vo (U1 + 1) w σ = some σ := by
  rw [x_X12_takeOneof_L32]
  unfold x_X12_takeOneof_93
  rw [if_neg h, N_takeSign_e h, b1_eq]
  split <;> rfl
theorem sS_not {T : List Nat} {Ws : List Wd} {k q c : Nat} (hq : q < 256) (h : sC Ws k = nI q) : sS T Ws c k = false := by
  cases e : Ws[k]? with
  | none => unfold sS; rw [e]
  | some x =>
    rw [sC_some e] at h
    rw [sS_some e]
    cases z : sgX T x c with
    | false => rfl
    | true => have := sg_4 z; have := cd_1 hq h; omega
theorem atE_k {Ws : List Wd} {k : Nat} {m o e : Option Nat} {b : Bool} (h : sK Ws k ≠ 0) : atE Ws (k, m, o, e, b) = false := decide_eq_false (fun z => h z.1)
/-- an enum or a oneof begins -/
theorem sMm_kw {T : List Nat} {Ws : List Wd} {k q z : Nat} {m : Option Nat} {b : Bool} {D : List Dc} (hC : sC Ws k = nI (20 + q)) (hqz : (q = 0 ∧ z = 0) ∨ (q = 1 ∧ z = 1) ∨ (q = 2 ∧ z = 4 ∧ m ≠ none)) : sStep T Ws (k, m, none, none, b) D = sBg T Ws z (k + 1, m, none, none, b) D := by
  show sMm T Ws (k, m, none, none, b) D = _
  unfold sMm
  have e : sC Ws (k, m, (none : Option Nat), (none : Option Nat), b).1 = nI (20 + q) := hC
  rw [e]
  rcases hqz with ⟨h1, h2⟩ | ⟨h1, h2⟩ | ⟨h1, h2, h3⟩
  · subst h1; subst h2
    rw [if_neg (by decide), if_pos (by decide)]
  · subst h1; subst h2
    rw [if_neg (by decide), if_neg (by decide), if_pos (by decide)]
  · subst h1; subst h2
    have s59 : sS T Ws 59 k = false := sS_not (by decide) hC
    have s125 : sS T Ws 125 k = false := sS_not (by decide) hC
    rw [if_neg (by decide), if_neg (by decide), if_neg (by decide), if_neg h3]
    show (if sS T Ws 59 k = true then _ else if sS T Ws 125 k = true then _ else _) = _
    rw [s59, s125, if_neg (by decide), if_neg (by decide), if_pos (by decide)]
theorem sBg_1 {T : List Nat} {Ws : List Wd} {q k : Nat} {m : Option Nat} {b : Bool} {D : List Dc} {x : Wd} (hx : Ws[k]? = some x) : sBg T Ws q (k, m, none, none, b) D = if x.1 = 1 then (if sS T Ws 123 (k + 1) then some ((k + 2, if q = 0 then some D.length else m, if q = 4 then some D.length else none, if q = 1 then some D.length else none, true), D ++ [d0 q m none x.2.1 x.2.2.1]) else none) else none := by
  unfold sBg
  simp only [hx]
theorem N_takeEnum {U k p n : Nat} {σ : SG} {T : List Nat} {Ws : List Wd} {D : List Dc} {m : Option Nat} {b : Bool} (hU : 4000 < U) (hS : WS T Ws) (hn : 701 ≤ n + pos Ws k) (hI : IV Ws (k, m, none, none, b) D) (hn9 : n < 3000) (hC : sC Ws k = nI 21) (hQ : QX σ T Ws k) (h74 : sI σ 1101 74 = 0) (hM : RM σ T Ws D p) (hp : 2 * p ≤ pos Ws k) (hc0 : 7 * cnt D 0 ≤ pos Ws k) (hc1 : 7 * cnt D 1 ≤ pos Ws k) :
    NB T Ws σ n (k, m, none, none, b) D (x_X12_takeEnum U 1101 (oq D 0 m) σ) := by
  have hlen := hI.len hS
  have hl1 : D.length < 180 := hlen.1
  have hp700 : pos Ws k ≤ 700 := hlen.2.2
  obtain ⟨n0, rfl⟩ : ∃ n0, n = n0 + 1 := by
    cases n with
    | zero => omega
    | succ n0 => exact ⟨n0, rfl⟩
  have hWF := hI.2.2.1
  have hml : ∀ i, m = some i → i ≤ D.length := fun i hi => Nat.le_of_lt (KM_lt (hI.2.2.2.1 i hi))
  have hk1 := far_sC hS (by decide) hC
  have hk4 : far Ws k (k + 1) 4 := far_le (far_kw (q := 1) hS (by decide) hC) (by decide)
  have hst := sMm_kw (T := T) (q := 1) (z := 1) (m := m) (b := b) (D := D) hC (Or.inr (Or.inl ⟨rfl, rfl⟩))
  unfold x_X12_takeEnum
  obtain ⟨σ2, a1, a2, a3⟩ := N_next hU hS hQ (by rw [hk1.2]; decide) (by rw [hk1.2]; decide)
  rw [a1, b1_eq]
  have hp1 : pos Ws (k + 1) ≤ 700 := by
    obtain ⟨x, hx⟩ := hk4.1
    have := hS.le _ x hx
    have := hS.2.1
    rw [pos_some hx]; omega
  have hj : cnt D 1 < 100 := by have := hk4.2; omega
  obtain ⟨hL2, x, hx, hC2⟩ := a2
  have a2 : QX σ2 T Ws (k + 1) := ⟨hL2, x, hx, hC2⟩
  have z2 : sI σ2 1101 74 = 0 := (a3.2.1 74 (by decide)).trans h74
  have c38 : sI σ2 1101 38 = nI D.length := (a3.2.1 38 (by decide)).trans hM.2.2.1
  have c33 : sI σ2 1101 33 = nI (cnt D 1) := (a3.2.1 33 (by decide)).trans (hM.1 1 (by decide))
  obtain ⟨σ4, b1', b2', b3, b4⟩ := N_declare (v := oq D 0 m) (c := ct D p) hU hS a2 hx z2 c38 (by omega) rfl
  rw [b1', b1_eq]
  have f4 : fP (PX (ct D p)) σ σ4 := fP_trans (fX_q a3 (by decide)) b2'
  by_cases q1 : x.1 = 1
  · obtain ⟨z4, Q4, n38, n56, n57, n58, o4⟩ := b4 q1
    rw [N_enum_mid (va := nI x.2.1) (vl := nI (x.2.2.1 - x.2.1)) ((o4 33 (by decide)).trans c33) hj (by rw [N_lastAt n38 (by omega), n57]) (by rw [N_lastLong n38 (by omega), n58])]
    have Q24 : QX (uI (uI (uI (uI σ4 1131 (cnt D 1) (oq D 0 m)) 1132 (cnt D 1) (nI x.2.1)) 1133 (cnt D 1) (nI (x.2.2.1 - x.2.1))) 1101 33 (nI (cnt D 1 + 1))) T Ws (k + 2) := (((Q4.o (by decide) (by decide)).o (by decide) (by decide)).o (by decide) (by decide)).u (by decide)
    have f24 : fP (PX (ct D p)) σ (uI (uI (uI (uI σ4 1131 (cnt D 1) (oq D 0 m)) 1132 (cnt D 1) (nI x.2.1)) 1133 (cnt D 1) (nI (x.2.2.1 - x.2.1))) 1101 33 (nI (cnt D 1 + 1))) := fP_trans f4 (fP_trans (fP_trans (fP_trans (fP_u (PX_e (by decide) (by decide) (Nat.le_refl _))) (fP_u (PX_e (by decide) (by decide) (Nat.le_refl _)))) (fP_u (PX_e (by decide) (by decide) (Nat.le_refl _)))) (fP_u (PX_0 (by decide))))
    have o24 : ∀ i, i ≠ 33 → sI (uI (uI (uI (uI σ4 1131 (cnt D 1) (oq D 0 m)) 1132 (cnt D 1) (nI x.2.1)) 1133 (cnt D 1) (nI (x.2.2.1 - x.2.1))) 1101 33 (nI (cnt D 1 + 1))) 1101 i = sI σ4 1101 i := fun i hi => by
      rw [sI_o (Or.inr hi), sI_o (Or.inl (by decide)), sI_o (Or.inl (by decide)), sI_o (Or.inl (by decide))]
    have M24 : RM (uI (uI (uI (uI σ4 1131 (cnt D 1) (oq D 0 m)) 1132 (cnt D 1) (nI x.2.1)) 1133 (cnt D 1) (nI (x.2.2.1 - x.2.1))) 1101 33 (nI (cnt D 1 + 1))) T Ws (D ++ [d0 1 m none x.2.1 x.2.2.1]) p := by
      refine RM_snoc hWF hM f24 (Nat.le_refl _) (cnt_up (z := 1) hM.1 rfl (by decide) (sI_s _ _ _ _) (fun q h1 h2 => ?_)) ?_ ?_ ?_
      · rw [o24 (32 + q) (by omega), o4 (32 + q) (by simp only [List.mem_cons, List.not_mem_nil, or_false]; omega), a3.2.1 (32 + q) (by simp only [List.mem_cons, List.not_mem_nil, or_false]; omega)]
      · rw [o24 37 (by decide), o4 37 (by decide), a3.2.1 37 (by decide)]; exact hM.2.1
      · rw [o24 38 (by decide)]; exact n38
      · have e1 : oq (D ++ [d0 1 m none x.2.1 x.2.2.1]) 0 m = oq D 0 m := oq_snoc hml
        unfold RwD
        rw [show dS (d0 1 m none x.2.1 x.2.2.1) = m from rfl, e1, List.take_append_of_le_length (Nat.le_refl _), List.take_length]
        refine ⟨⟨?_, ?_, ?_⟩, fun z => (by cases z), fun _ => ⟨?_, ?_, ?_⟩, fun z => (by cases z), fun z => (by cases z)⟩
        · rw [sI_o (Or.inl (by decide)), sI_o (Or.inl (by decide)), sI_o (Or.inl (by decide)), sI_o (Or.inl (by decide))]; exact n56
        · rw [sI_o (Or.inl (by decide)), sI_o (Or.inl (by decide)), sI_o (Or.inl (by decide)), sI_o (Or.inl (by decide))]; exact n57
        · rw [sI_o (Or.inl (by decide)), sI_o (Or.inl (by decide)), sI_o (Or.inl (by decide)), sI_o (Or.inl (by decide))]; exact n58
        · rw [sI_o (Or.inl (by decide)), sI_o (Or.inl (by decide)), sI_o (Or.inl (by decide)), sI_s]
        · rw [sI_o (Or.inl (by decide)), sI_o (Or.inl (by decide)), sI_s]; rfl
        · rw [sI_o (Or.inl (by decide)), sI_s]; rfl
    have z24 : sI (uI (uI (uI (uI σ4 1131 (cnt D 1) (oq D 0 m)) 1132 (cnt D 1) (nI x.2.1)) 1133 (cnt D 1) (nI (x.2.2.1 - x.2.1))) 1101 33 (nI (cnt D 1 + 1))) 1101 74 = 0 := (o24 74 (by decide)).trans z4
    generalize (uI (uI (uI (uI σ4 1131 (cnt D 1) (oq D 0 m)) 1132 (cnt D 1) (nI x.2.1)) 1133 (cnt D 1) (nI (x.2.2.1 - x.2.1))) 1101 33 (nI (cnt D 1 + 1))) = σ24 at *
    obtain ⟨σ26, s1, s2, s3, s4⟩ := N_takeSign (q := 123) hU hS Q24 z24 (by decide)
    have s1' : x_X12_takeSign U 1101 123 σ24 = some σ26 := s1
    rw [s1', b1_eq]
    have hbg : sBg T Ws 1 (k + 1, m, none, none, b) D = if sS T Ws 123 (k + 2) then some ((k + 3, m, none, some D.length, true), D ++ [d0 1 m none x.2.1 x.2.2.1]) else none := by
      rw [sBg_1 hx, if_pos q1]; rfl
    cases q2 : sS T Ws 123 (k + 2) with
    | false =>
      have z26 := s4 (by rw [q2]; rfl)
      cases U with
      | zero => omega
      | succ U2 =>
        rw [enum_L_e z26]
        refine ⟨σ26, rfl, fP_trans (fZ_X f24) (fZ_q s2 (by decide)), Or.inr ⟨rd_no (atE_k (by rw [hk1.2]; decide)) (by rw [hst, hbg, q2]; rfl), z26⟩⟩
    | true =>
      obtain ⟨z26, Q26⟩ := s3 (k + 3) (by rw [q2]; rfl)
      have hst' : sStep T Ws (k, m, none, none, b) D = some ((k + 3, m, none, some D.length, true), D ++ [d0 1 m none x.2.1 x.2.2.1]) := by rw [hst, hbg, q2]; rfl
      have g := sStep_IV hS hI hst'
      have gf : far Ws k (k + 3) 6 := far_le (far_trans hk4 (far_trans (far_sK hS (k := k + 1) (Or.inl (by rw [sK_some hx]; exact q1))) (far_sS hS q2))) (by omega)
      refine NB_of (rd_step (atE_k (by rw [hk1.2]; decide)) hst') (fP_trans (fZ_X f24) (fZ_q s2 (by decide))) gf (show ¬ (1 : Nat) = 0 by decide) hc0 hc1 (N_enum_L hU hS n0 U (k + 3) p true _ σ26 (by omega) (by have := gf.2; omega) g.1 ?_ ?_ Q26 z26 (RM_q M24 s2) (by have := gf.2; omega) (Or.inl rfl))
      · rw [List.take_append_of_le_length (Nat.le_refl _), List.take_length, cnt_sn]; rfl
      · rw [oq_snoc hml]
  · obtain ⟨z4, f4'⟩ := b3 q1
    have c33' : sI σ4 1101 33 = nI (cnt D 1) := (f4'.2.1 33 (by decide)).trans c33
    have c38' : sI σ4 1101 38 = nI D.length := (f4'.2.1 38 (by decide)).trans c38
    obtain ⟨va, hva⟩ := N_lastAt_any c38' (by omega)
    obtain ⟨vl, hvl⟩ := N_lastLong_any c38' (by omega)
    rw [N_enum_mid (va := va) (vl := vl) c33' hj hva hvl]
    have z24 : ¬ sI (uI (uI (uI (uI σ4 1131 (cnt D 1) (oq D 0 m)) 1132 (cnt D 1) va) 1133 (cnt D 1) vl) 1101 33 (nI (cnt D 1 + 1))) 1101 74 = 0 := by
      rw [sI_o (Or.inr (by decide)), sI_o (Or.inl (by decide)), sI_o (Or.inl (by decide)), sI_o (Or.inl (by decide))]; exact z4
    have f24 : fP (PX (ct D p)) σ (uI (uI (uI (uI σ4 1131 (cnt D 1) (oq D 0 m)) 1132 (cnt D 1) va) 1133 (cnt D 1) vl) 1101 33 (nI (cnt D 1 + 1))) := fP_trans f4 (fP_trans (fP_trans (fP_trans (fP_u (PX_e (by decide) (by decide) (Nat.le_refl _))) (fP_u (PX_e (by decide) (by decide) (Nat.le_refl _)))) (fP_u (PX_e (by decide) (by decide) (Nat.le_refl _)))) (fP_u (PX_0 (by decide))))
    rw [N_takeSign_e z24, b1_eq]
    have hbg : sBg T Ws 1 (k + 1, m, none, none, b) D = none := by
      rw [sBg_1 hx, if_neg q1]
    cases U with
    | zero => omega
    | succ U2 =>
      rw [enum_L_e z24]
      exact ⟨_, rfl, fZ_X f24, Or.inr ⟨rd_no (atE_k (by rw [hk1.2]; decide)) (by rw [hst, hbg]), z24⟩⟩
theorem N_takeOneof {U k p n m : Nat} {σ : SG} {T : List Nat} {Ws : List Wd} {D : List Dc} {b : Bool} (hU : 4000 < U) (hS : WS T Ws) (hn : 701 ≤ n + pos Ws k) (hI : IV Ws (k, some m, none, none, b) D) (hn9 : n < 3000) (hC : sC Ws k = nI 22) (hQ : QX σ T Ws k) (h74 : sI σ 1101 74 = 0) (hM : RM σ T Ws D p) (hp : 2 * p ≤ pos Ws k) (hc0 : 7 * cnt D 0 ≤ pos Ws k) (hc1 : 7 * cnt D 1 ≤ pos Ws k) :
    NB T Ws σ n (k, some m, none, none, b) D (x_X12_takeOneof U 1101 (oq D 0 (some m)) σ) := by
  have hlen := hI.len hS
  have hl1 : D.length < 180 := hlen.1
  have hp700 : pos Ws k ≤ 700 := hlen.2.2
  obtain ⟨n0, rfl⟩ : ∃ n0, n = n0 + 1 := by
    cases n with
    | zero => omega
    | succ n0 => exact ⟨n0, rfl⟩
  have hWF := hI.2.2.1
  have hml : ∀ i, some m = some i → i ≤ D.length := fun i hi => Nat.le_of_lt (KM_lt (hI.2.2.2.1 i hi))
  have hk1 := far_sC hS (by decide) hC
  have hk4 : far Ws k (k + 1) 4 := far_le (far_kw (q := 2) hS (by decide) hC) (by decide)
  have hst := sMm_kw (T := T) (q := 2) (z := 4) (m := some m) (b := b) (D := D) hC (Or.inr (Or.inr ⟨rfl, rfl, fun z => (by cases z)⟩))
  unfold x_X12_takeOneof
  obtain ⟨σ2, a1, a2, a3⟩ := N_next hU hS hQ (by rw [hk1.2]; decide) (by rw [hk1.2]; decide)
  rw [a1, b1_eq]
  obtain ⟨hL2, x, hx, hC2⟩ := a2
  have a2 : QX σ2 T Ws (k + 1) := ⟨hL2, x, hx, hC2⟩
  have z2 : sI σ2 1101 74 = 0 := (a3.2.1 74 (by decide)).trans h74
  have c38 : sI σ2 1101 38 = nI D.length := (a3.2.1 38 (by decide)).trans hM.2.2.1
  obtain ⟨σ4, b1', b2', b3, b4⟩ := N_declare (v := oq D 0 (some m)) (c := ct D p) hU hS a2 hx z2 c38 (by omega) rfl
  rw [b1', b1_eq]
  have f4 : fP (PX (ct D p)) σ σ4 := fP_trans (fX_q a3 (by decide)) b2'
  -- an error, behind the sign
  have bad : ∀ υ, ¬ sI υ 1101 74 = 0 → fP PZ σ υ → sBg T Ws 4 (k + 1, some m, none, none, b) D = none → NB T Ws σ (n0 + 1) (k, some m, none, none, b) D (sb (uI υ 1101 36 ((sI υ 1101 36) + 1)) fun σ7 => x_X12_takeOneof_L32 U 1101 (fun σ21 => x_X12_takeOneof_93 U 1101 σ21) (oq D 0 (some m)) (sI υ 1101 36) U 1 σ7) := by
    intro υ zυ fυ hbg
    rw [sb_eq]
    have zz : ¬ sI (uI υ 1101 36 ((sI υ 1101 36) + 1)) 1101 74 = 0 := by rw [sI_o (Or.inr (by decide))]; exact zυ
    cases U with
    | zero => omega
    | succ U2 =>
      rw [one_L_e zz]
      exact ⟨_, rfl, fP_trans fυ (fP_u (Or.inl ⟨rfl, by decide⟩)), Or.inr ⟨rd_no (atE_k (by rw [hk1.2]; decide)) (by rw [hst, hbg]), zz⟩⟩
  by_cases q1 : x.1 = 1
  · obtain ⟨z4, Q4, n38, n56, n57, n58, o4⟩ := b4 q1
    obtain ⟨σ6, s1, s2, s3, s4⟩ := N_takeSign (q := 123) hU hS Q4 z4 (by decide)
    have s1' : x_X12_takeSign U 1101 123 σ4 = some σ6 := s1
    rw [s1', b1_eq]
    have hbg : sBg T Ws 4 (k + 1, some m, none, none, b) D = if sS T Ws 123 (k + 2) then some ((k + 3, some m, some D.length, none, true), D ++ [d0 4 (some m) none x.2.1 x.2.2.1]) else none := by
      rw [sBg_1 hx, if_pos q1]; rfl
    have f6 : fP (PX (ct D p)) σ σ6 := fP_trans f4 (fX_q s2 (by decide))
    cases q2 : sS T Ws 123 (k + 2) with
    | false => exact bad σ6 (s4 (by rw [q2]; rfl)) (fZ_X f6) (by rw [hbg, q2]; rfl)
    | true =>
      obtain ⟨z6, Q6⟩ := s3 (k + 3) (by rw [q2]; rfl)
      have hst' : sStep T Ws (k, some m, none, none, b) D = some ((k + 3, some m, some D.length, none, true), D ++ [d0 4 (some m) none x.2.1 x.2.2.1]) := by rw [hst, hbg, q2]; rfl
      have g := sStep_IV hS hI hst'
      have gf : far Ws k (k + 3) 6 := far_le (far_trans hk4 (far_trans (far_sK hS (k := k + 1) (Or.inl (by rw [sK_some hx]; exact q1))) (far_sS hS q2))) (by omega)
      have k6 : ∀ i, 32 ≤ i → i ≤ 37 → sI σ6 1101 i = sI σ 1101 i := fun i h1 h2 => by
        rw [s2.2.1 i (by unfold KF; simp only [List.mem_cons, List.not_mem_nil, or_false]; omega), o4 i (by simp only [List.mem_cons, List.not_mem_nil, or_false]; omega), a3.2.1 i (by simp only [List.mem_cons, List.not_mem_nil, or_false]; omega)]
      have c36 : sI σ6 1101 36 = nI (cnt D 4) := (k6 36 (by decide) (by decide)).trans (hM.1 4 (by decide))
      rw [sb_eq, c36, nI_1]
      have f7 : fP (PX (ct D p)) σ (uI σ6 1101 36 (nI (cnt D 4 + 1))) := fP_trans f6 (fP_u (PX_0 (by decide)))
      have M7 : RM (uI σ6 1101 36 (nI (cnt D 4 + 1))) T Ws (D ++ [d0 4 (some m) none x.2.1 x.2.2.1]) p := by
        refine RM_snoc hWF hM f7 (Nat.le_refl _) (cnt_up (z := 4) hM.1 rfl (by decide) (sI_s _ _ _ _) (fun q h1 h2 => ?_)) ?_ ?_ ?_
        · rw [sI_o (Or.inr (by omega)), k6 (32 + q) (by omega) (by omega)]
        · rw [sI_o (Or.inr (by decide)), k6 37 (by decide) (by decide)]; exact hM.2.1
        · rw [sI_o (Or.inr (by decide)), s2.2.1 38 (by decide)]; exact n38
        · have e1 : oq (D ++ [d0 4 (some m) none x.2.1 x.2.2.1]) 0 (some m) = oq D 0 (some m) := oq_snoc hml
          unfold RwD
          rw [show dS (d0 4 (some m) none x.2.1 x.2.2.1) = some m from rfl, e1]
          refine ⟨⟨?_, ?_, ?_⟩, fun z => (by cases z), fun z => (by cases z), fun z => (by cases z), fun z => (by cases z)⟩
          · rw [sI_o (Or.inl (by decide)), (s2.1 1156 (by decide) _).1]; exact n56
          · rw [sI_o (Or.inl (by decide)), (s2.1 1157 (by decide) _).1]; exact n57
          · rw [sI_o (Or.inl (by decide)), (s2.1 1158 (by decide) _).1]; exact n58
      refine NB_of (rd_step (atE_k (by rw [hk1.2]; decide)) hst') (fZ_X f7) gf (show ¬ (4 : Nat) = 0 by decide) hc0 hc1 (N_one_L hU hS n0 U (k + 3) p true _ _ (by omega) (by have := gf.2; omega) g.1 ?_ ?_ (Q6.u (by decide)) (by rw [sI_o (Or.inr (by decide))]; exact z6) M7 (by have := gf.2; omega) (Or.inl rfl))
      · rw [oq_snoc hml]
      · unfold oq
        simp only
        rw [List.take_append_of_le_length (Nat.le_refl _), List.take_length]
  · obtain ⟨z4, f4'⟩ := b3 q1
    rw [N_takeSign_e z4, b1_eq]
    refine bad σ4 z4 (fZ_X f4) ?_
    rw [sBg_1 hx, if_neg q1]
