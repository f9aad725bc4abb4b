/-! ===== the reference's reader: messages, members, the whole schema ===== -/
def mo (n : Nat) (f : Nat → Nat) : Option Nat := if n = 0 then none else some (f (n - 1))
def fu (f : Nat → Nat) (d x : Nat) : Nat → Nat := fun t => if t = d then x else f t
theorem fu_s (f : Nat → Nat) (d x : Nat) : fu f d x d = x := if_pos rfl
theorem fu_o {f : Nat → Nat} {d x t : Nat} (h : t ≠ d) : fu f d x t = f t := if_neg h
/-- the open messages: n of them, f says which -/
def ST (σ : SG) (D : List Dc) (n : Nat) (f : Nat → Nat) : Prop := n ≤ cnt D 0 ∧ ∀ t, t < n → sI σ 1159 t = nI (cnt (D.take (f t)) 0) ∧ KM D (f t) ∧ scp D (some (f t)) = mo t f
def P9 (b k : Nat) : Prop := PZ b k ∨ b = 1159
theorem f9_Z {σ τ : SG} (h : fP PZ σ τ) : fP P9 σ τ := fP_mono h (fun _ _ z => Or.inl z)
theorem KM_app {D E : List Dc} {i : Nat} (h : KM D i) : KM (D ++ E) i := by
  have := KM_lt h
  obtain ⟨x, a, b⟩ := h
  exact ⟨x, by rw [List.getElem?_append_left this]; exact a, b⟩
theorem ST_app {σ τ : SG} {D E : List Dc} {n : Nat} {f : Nat → Nat} (h : ST σ D n f) (hf : ∀ t, sI τ 1159 t = sI σ 1159 t) (hc : cnt (D ++ E) 0 = cnt D 0) : ST τ (D ++ E) n f := by
  refine ⟨by rw [hc]; exact h.1, fun t ht => ?_⟩
  obtain ⟨a, b, c⟩ := h.2 t ht
  have hl := KM_lt b
  refine ⟨by rw [hf, List.take_append_of_le_length (Nat.le_of_lt hl)]; exact a, KM_app b, ?_⟩
  rw [← c]
  unfold scp
  simp only
  rw [List.getElem?_append_left hl]
def MI (σ : SG) (T : List Nat) (Ws : List Wd) (k : Nat) (b : Bool) (n : Nat) (f : Nat → Nat) (D : List Dc) (p : Nat) : Prop := IV Ws (k, mo n f, none, none, b) D ∧ ST σ D n f ∧ 7 * cnt D 0 ≤ pos Ws k ∧ 7 * cnt D 1 ≤ pos Ws k ∧ sI σ 1101 74 = 0 ∧ QX σ T Ws k ∧ RM σ T Ws D p ∧ 2 * p ≤ pos Ws k
def NL (T : List Nat) (Ws : List Wd) (σ : SG) (n : Nat) (s : Rs) (D : List Dc) (x : Option (Int32 × SG)) : Prop := ∃ v τ, x = some (v, τ) ∧ fP P9 σ τ ∧ ((∃ n' k' b' D' p' d' f', v = nI d' ∧ rd T Ws n s D = rd T Ws n' (k', mo d' f', none, none, b') D' ∧ 701 ≤ n' + pos Ws k' ∧ n' < n ∧ MI τ T Ws k' b' d' f' D' p') ∨ (rd T Ws n s D = none ∧ ¬ sI τ 1101 74 = 0))
theorem NL_of {T : List Nat} {Ws : List Wd} {σ : SG} {n k d : Nat} {f : Nat → Nat} {b : Bool} {D : List Dc} {x : Option SG} (hT : ST σ D d f) (h : NB T Ws σ n (k, mo d f, none, none, b) D x) : NL T Ws σ n (k, mo d f, none, none, b) D (b1 x fun τ => some (nI d, τ)) := by
  obtain ⟨τ, a1, a2, a3⟩ := h
  rw [a1, b1_eq]
  refine ⟨nI d, τ, rfl, f9_Z a2, ?_⟩
  rcases a3 with ⟨n', k', b', E, p', g1, g2, g3, g4, g5, g6, g7, g8, g9, g10, g11⟩ | g
  · exact Or.inl ⟨n', k', b', D ++ E, p', d, f, rfl, g1, g2, g3, g4, ST_app hT (fun t => fP_at a2 (fun z => by rcases z with z | z <;> omega)) g5, g6, g7, g8, g9, g10, g11⟩
  · exact Or.inr g
theorem N_msg_mid {σ4 : SG} {j d : Nat} {p0 va vl : Int32} {G : SG → Option (Int32 × SG)} (h32 : sI σ4 1101 32 = nI j) (hj : j < 100) (hd : d < 100) (hva : x_X12_lastAt 1101 σ4 = some va) (hvl : x_X12_lastLong 1101 σ4 = some vl) :
    (ix (sI σ4 1101 32) 100 fun j6 => sb (uI σ4 1128 j6 p0) fun σ10 => b1 (x_X12_lastAt 1101 σ10) fun v12 => ix (sI σ10 1101 32) 100 fun j13 => sb (uI σ10 1129 j13 v12) fun σ17 => b1 (x_X12_lastLong 1101 σ17) fun v19 => ix (sI σ17 1101 32) 100 fun j20 => sb (uI σ17 1130 j20 v19) fun σ24 => ix (nI d) 100 fun j25 => sb (uI σ24 1159 j25 (sI σ24 1101 32)) fun σ29 => sb (uI σ29 1101 32 ((sI σ29 1101 32) + 1)) fun σ30 => G σ30) = G (uI (uI (uI (uI (uI σ4 1128 j p0) 1129 j va) 1130 j vl) 1159 d (nI j)) 1101 32 (nI (j + 1))) := by
  rw [h32, ix_in hj (by decide), sb_eq, lastAt_o (by decide) (by decide), hva, b1_eq]
  have e1 : sI (uI σ4 1128 j p0) 1101 32 = nI j := by rw [sI_o (Or.inl (by decide))]; exact h32
  rw [e1, ix_in hj (by decide), sb_eq, lastLong_o (by decide) (by decide), lastLong_o (by decide) (by decide), hvl, b1_eq]
  have e2 : sI (uI (uI σ4 1128 j p0) 1129 j va) 1101 32 = nI j := by rw [sI_o (Or.inl (by decide))]; exact e1
  rw [e2, ix_in hj (by decide), sb_eq, ix_in hd (by decide), sb_eq]
  have e3 : sI (uI (uI (uI σ4 1128 j p0) 1129 j va) 1130 j vl) 1101 32 = nI j := by rw [sI_o (Or.inl (by decide))]; exact e2
  rw [e3, sb_eq]
  have e4 : sI (uI (uI (uI (uI σ4 1128 j p0) 1129 j va) 1130 j vl) 1159 d (nI j)) 1101 32 = nI j := by rw [sI_o (Or.inl (by decide))]; exact e3
  rw [e4, nI_1]
theorem N_begin_16 {U k p n d : Nat} {f : Nat → Nat} {σ : SG} {T : List Nat} {Ws : List Wd} {D : List Dc} {b : Bool} (hU : 4000 < U) (hS : WS T Ws) (hn : 701 ≤ n + pos Ws k) (hC : sC Ws k = nI 20) (hMI : MI σ T Ws k b d f D p) :
    NL T Ws σ n (k, mo d f, none, none, b) D (x_X12_beginMessage_16 U 1101 (nI d) (oq D 0 (mo d f)) σ) := by
  obtain ⟨hI, hT, hc0, hc1, h74, hQ, hM, hp⟩ := hMI
  have hlen := hI.len hS
  have hl1 : D.length < 180 := hlen.1
  have hp700 : pos Ws k ≤ 700 := hlen.2.2
  obtain ⟨n0, rfl⟩ : ∃ n0, n = n0 + 1 := by
    cases n with
    | zero => omega
    | succ n0 => exact ⟨n0, rfl⟩
  have hWF := hI.2.2.1
  have hml : ∀ i, mo d f = some i → i ≤ D.length := fun i hi => Nat.le_of_lt (KM_lt (hI.2.2.2.1 i hi))
  have hk1 := far_sC hS (by decide) hC
  have hk7 : far Ws k (k + 1) 7 := far_le (far_kw (q := 0) hS (by decide) hC) (by decide)
  have hst := sMm_kw (T := T) (q := 0) (z := 0) (m := mo d f) (b := b) (D := D) hC (Or.inl ⟨rfl, rfl⟩)
  unfold x_X12_beginMessage_16
  obtain ⟨σ2, a1, a2, a3⟩ := N_next hU hS hQ (by rw [hk1.2]; decide) (by rw [hk1.2]; decide)
  rw [a1, b1_eq]
  have hp1 : pos Ws (k + 1) ≤ 700 := by
    obtain ⟨x, hx⟩ := hk7.1
    have := hS.le _ x hx
    have := hS.2.1
    rw [pos_some hx]; omega
  have hj : cnt D 0 < 100 := by have := hk7.2; omega
  have hd : d < 100 := by have := hT.1; omega
  obtain ⟨hL2, x, hx, hC2⟩ := a2
  have a2 : QX σ2 T Ws (k + 1) := ⟨hL2, x, hx, hC2⟩
  have z2 : sI σ2 1101 74 = 0 := (a3.2.1 74 (by decide)).trans h74
  have c38 : sI σ2 1101 38 = nI D.length := (a3.2.1 38 (by decide)).trans hM.2.2.1
  have c32 : sI σ2 1101 32 = nI (cnt D 0) := (a3.2.1 32 (by decide)).trans (hM.1 0 (by decide))
  obtain ⟨σ4, b1', b2', b3, b4⟩ := N_declare (v := oq D 0 (mo d f)) (c := ct D p) hU hS a2 hx z2 c38 (by omega) rfl
  rw [b1', b1_eq]
  have f4 : fP (PX (ct D p)) σ σ4 := fP_trans (fX_q a3 (by decide)) b2'
  by_cases q1 : x.1 = 1
  · obtain ⟨z4, Q4, n38, n56, n57, n58, o4⟩ := b4 q1
    rw [N_msg_mid (va := nI x.2.1) (vl := nI (x.2.2.1 - x.2.1)) ((o4 32 (by decide)).trans c32) hj hd (by rw [N_lastAt n38 (by omega), n57]) (by rw [N_lastLong n38 (by omega), n58])]
    have Q30 : QX (uI (uI (uI (uI (uI σ4 1128 (cnt D 0) (oq D 0 (mo d f))) 1129 (cnt D 0) (nI x.2.1)) 1130 (cnt D 0) (nI (x.2.2.1 - x.2.1))) 1159 d (nI (cnt D 0))) 1101 32 (nI (cnt D 0 + 1))) T Ws (k + 2) := ((((Q4.o (by decide) (by decide)).o (by decide) (by decide)).o (by decide) (by decide)).o (by decide) (by decide)).u (by decide)
    have f24 : fP (PX (ct D p)) σ (uI (uI (uI (uI σ4 1128 (cnt D 0) (oq D 0 (mo d f))) 1129 (cnt D 0) (nI x.2.1)) 1130 (cnt D 0) (nI (x.2.2.1 - x.2.1))) 1101 32 (nI (cnt D 0 + 1))) := fP_trans f4 (fP_trans (fP_trans (fP_trans (fP_u (PX_m (by decide) (by decide) (Nat.le_refl _))) (fP_u (PX_m (by decide) (by decide) (Nat.le_refl _)))) (fP_u (PX_m (by decide) (by decide) (Nat.le_refl _)))) (fP_u (PX_0 (by decide))))
    have o24 : ∀ i, i ≠ 32 → sI (uI (uI (uI (uI σ4 1128 (cnt D 0) (oq D 0 (mo d f))) 1129 (cnt D 0) (nI x.2.1)) 1130 (cnt D 0) (nI (x.2.2.1 - x.2.1))) 1101 32 (nI (cnt D 0 + 1))) 1101 i = sI σ4 1101 i := fun i hi => by
      rw [sI_o (Or.inr hi), sI_o (Or.inl (by decide)), sI_o (Or.inl (by decide)), sI_o (Or.inl (by decide))]
    have M24 : RM (uI (uI (uI (uI σ4 1128 (cnt D 0) (oq D 0 (mo d f))) 1129 (cnt D 0) (nI x.2.1)) 1130 (cnt D 0) (nI (x.2.2.1 - x.2.1))) 1101 32 (nI (cnt D 0 + 1))) T Ws (D ++ [d0 0 (mo d f) none x.2.1 x.2.2.1]) p := by
      refine RM_snoc hWF hM f24 (Nat.le_refl _) (cnt_up (z := 0) hM.1 rfl (by decide) (sI_s _ _ _ _) (fun q h1 h2 => ?_)) ?_ ?_ ?_
      · rw [o24 (32 + q) (by omega), o4 (32 + q) (by simp only [List.mem_cons, List.not_mem_nil, or_false]; omega), a3.2.1 (32 + q) (by simp only [List.mem_cons, List.not_mem_nil, or_false]; omega)]
      · rw [o24 37 (by decide), o4 37 (by decide), a3.2.1 37 (by decide)]; exact hM.2.1
      · rw [o24 38 (by decide)]; exact n38
      · have e1 : oq (D ++ [d0 0 (mo d f) none x.2.1 x.2.2.1]) 0 (mo d f) = oq D 0 (mo d f) := oq_snoc hml
        unfold RwD
        rw [show dS (d0 0 (mo d f) none x.2.1 x.2.2.1) = mo d f from rfl, e1, List.take_append_of_le_length (Nat.le_refl _), List.take_length]
        refine ⟨⟨?_, ?_, ?_⟩, fun _ => ⟨?_, ?_, ?_⟩, fun z => (by cases z), fun z => (by cases z), fun z => (by cases z)⟩
        · rw [sI_o (Or.inl (by decide)), sI_o (Or.inl (by decide)), sI_o (Or.inl (by decide)), sI_o (Or.inl (by decide))]; exact n56
        · rw [sI_o (Or.inl (by decide)), sI_o (Or.inl (by decide)), sI_o (Or.inl (by decide)), sI_o (Or.inl (by decide))]; exact n57
        · rw [sI_o (Or.inl (by decide)), sI_o (Or.inl (by decide)), sI_o (Or.inl (by decide)), sI_o (Or.inl (by decide))]; exact n58
        · rw [sI_o (Or.inl (by decide)), sI_o (Or.inl (by decide)), sI_o (Or.inl (by decide)), sI_s]
        · rw [sI_o (Or.inl (by decide)), sI_o (Or.inl (by decide)), sI_s]; rfl
        · rw [sI_o (Or.inl (by decide)), sI_s]; rfl
    have M30 : RM (uI (uI (uI (uI (uI σ4 1128 (cnt D 0) (oq D 0 (mo d f))) 1129 (cnt D 0) (nI x.2.1)) 1130 (cnt D 0) (nI (x.2.2.1 - x.2.1))) 1159 d (nI (cnt D 0))) 1101 32 (nI (cnt D 0 + 1))) T Ws (D ++ [d0 0 (mo d f) none x.2.1 x.2.2.1]) p := by
      refine RM_sm M24 (fun b h1 h2 i => ⟨?_, rfl, rfl⟩) (fun i h1 h2 => ?_)
      · rw [sI_o (Or.inl (by omega)), sI_o (Or.inl (by omega)), sI_o (σ := uI (uI (uI σ4 1128 (cnt D 0) (oq D 0 (mo d f))) 1129 (cnt D 0) (nI x.2.1)) 1130 (cnt D 0) (nI (x.2.2.1 - x.2.1))) (k := 32) (Or.inl (show b ≠ 1101 by omega))]
      · by_cases q : i = 32
        · subst q; rw [sI_s, sI_s]
        · rw [sI_o (Or.inr q), sI_o (Or.inl (by decide)), sI_o (Or.inr q)]
    have f30 : fP P9 σ (uI (uI (uI (uI (uI σ4 1128 (cnt D 0) (oq D 0 (mo d f))) 1129 (cnt D 0) (nI x.2.1)) 1130 (cnt D 0) (nI (x.2.2.1 - x.2.1))) 1159 d (nI (cnt D 0))) 1101 32 (nI (cnt D 0 + 1))) := fP_trans (f9_Z (fZ_X f4)) (fP_trans (fP_trans (fP_trans (fP_trans (fP_u (Or.inl (Or.inr ⟨by decide, by decide⟩))) (fP_u (Or.inl (Or.inr ⟨by decide, by decide⟩)))) (fP_u (Or.inl (Or.inr ⟨by decide, by decide⟩)))) (fP_u (Or.inr rfl))) (fP_u (Or.inl (Or.inl ⟨rfl, by decide⟩))))
    have z30 : sI (uI (uI (uI (uI (uI σ4 1128 (cnt D 0) (oq D 0 (mo d f))) 1129 (cnt D 0) (nI x.2.1)) 1130 (cnt D 0) (nI (x.2.2.1 - x.2.1))) 1159 d (nI (cnt D 0))) 1101 32 (nI (cnt D 0 + 1))) 1101 74 = 0 := by
      rw [sI_o (Or.inr (by decide)), sI_o (Or.inl (by decide)), sI_o (Or.inl (by decide)), sI_o (Or.inl (by decide)), sI_o (Or.inl (by decide))]; exact z4
    have t30 : ∀ t, sI (uI (uI (uI (uI (uI σ4 1128 (cnt D 0) (oq D 0 (mo d f))) 1129 (cnt D 0) (nI x.2.1)) 1130 (cnt D 0) (nI (x.2.2.1 - x.2.1))) 1159 d (nI (cnt D 0))) 1101 32 (nI (cnt D 0 + 1))) 1159 t = if t = d then nI (cnt D 0) else sI σ 1159 t := fun t => by
      rw [sI_o (Or.inl (by decide))]
      by_cases q : t = d
      · subst q; rw [if_pos rfl, sI_s]
      · rw [if_neg q, sI_o (Or.inr q), sI_o (Or.inl (by decide)), sI_o (Or.inl (by decide)), sI_o (Or.inl (by decide))]
        exact fP_at f4 (fun z => by
          have := PX_Z z
          rcases this with y | y <;> omega)
    generalize (uI (uI (uI (uI (uI σ4 1128 (cnt D 0) (oq D 0 (mo d f))) 1129 (cnt D 0) (nI x.2.1)) 1130 (cnt D 0) (nI (x.2.2.1 - x.2.1))) 1159 d (nI (cnt D 0))) 1101 32 (nI (cnt D 0 + 1))) = σ30 at *
    obtain ⟨σ32, s1, s2, s3, s4⟩ := N_takeSign (q := 123) hU hS Q30 z30 (by decide)
    have s1' : x_X12_takeSign U 1101 123 σ30 = some σ32 := s1
    rw [s1', b1_eq, nI_1]
    have hbg : sBg T Ws 0 (k + 1, mo d f, none, none, b) D = if sS T Ws 123 (k + 2) then some ((k + 3, some D.length, none, none, true), D ++ [d0 0 (mo d f) none x.2.1 x.2.2.1]) else none := by
      rw [sBg_1 hx, if_pos q1]; rfl
    refine ⟨nI (d + 1), σ32, rfl, fP_trans f30 (f9_Z (fZ_q s2 (by decide))), ?_⟩
    cases q2 : sS T Ws 123 (k + 2) with
    | false => exact Or.inr ⟨rd_no (atE_k (by rw [hk1.2]; decide)) (by rw [hst, hbg, q2]; rfl), s4 (by rw [q2]; rfl)⟩
    | true =>
      obtain ⟨z32, Q32⟩ := s3 (k + 3) (by rw [q2]; rfl)
      have hst' : sStep T Ws (k, mo d f, none, none, b) D = some ((k + 3, some D.length, none, none, true), D ++ [d0 0 (mo d f) none x.2.1 x.2.2.1]) := by rw [hst, hbg, q2]; rfl
      have g := sStep_IV hS hI hst'
      have gf : far Ws k (k + 3) 7 := far_le (far_trans hk7 (far_trans (far_sK hS (k := k + 1) (Or.inl (by rw [sK_some hx]; exact q1))) (far_sS hS q2))) (by omega)
      have c1 : cnt (D ++ [d0 0 (mo d f) none x.2.1 x.2.2.1]) 0 = cnt D 0 + 1 := by rw [cnt_sn]; rfl
      have c2 : cnt (D ++ [d0 0 (mo d f) none x.2.1 x.2.2.1]) 1 = cnt D 1 := by rw [cnt_sn]; rfl
      have mo1 : mo (d + 1) (fu f d D.length) = some D.length := by
        unfold mo
        rw [if_neg (by omega), show d + 1 - 1 = d by omega, fu_s]
      have mot : ∀ t, t ≤ d → mo t (fu f d D.length) = mo t f := fun t ht => by
        unfold mo
        by_cases q : t = 0
        · rw [if_pos q, if_pos q]
        · rw [if_neg q, if_neg q, fu_o (by omega)]
      refine Or.inl ⟨n0, k + 3, true, _, p, d + 1, fu f d D.length, rfl, ?_, by have := gf.2; omega, by omega, ?_, ⟨by rw [c1]; have := hT.1; omega, fun t ht => ?_⟩, by rw [c1]; have := gf.2; omega, by rw [c2]; have := gf.2; omega, z32, Q32, RM_q M30 s2, by have := gf.2; omega⟩
      · rw [mo1]
        exact rd_step (atE_k (by rw [hk1.2]; decide)) hst'
      · rw [mo1]; exact g.1
      · rw [mot t (by omega), (s2.1 1159 (by decide) t).1, t30]
        by_cases q : t = d
        · subst q
          rw [if_pos rfl, fu_s, List.take_append_of_le_length (Nat.le_refl _), List.take_length]
          refine ⟨rfl, ⟨_, get_snoc_last D _, rfl⟩, ?_⟩
          unfold scp
          simp only
          rw [get_snoc_last]
          rfl
        · rw [if_neg q, fu_o q]
          obtain ⟨w1, w2, w3⟩ := hT.2 t (by omega)
          have hl := KM_lt w2
          refine ⟨by rw [List.take_append_of_le_length (Nat.le_of_lt hl)]; exact w1, KM_snoc w2, ?_⟩
          rw [← w3]
          unfold scp
          simp only
          rw [List.getElem?_append_left hl]
  · obtain ⟨z4, f4'⟩ := b3 q1
    have c32' : sI σ4 1101 32 = nI (cnt D 0) := (f4'.2.1 32 (by decide)).trans c32
    have c38' : sI σ4 1101 38 = nI D.length := (f4'.2.1 38 (by decide)).trans c38
    obtain ⟨va, hva⟩ := N_lastAt_any c38' (by omega)
    obtain ⟨vl, hvl⟩ := N_lastLong_any c38' (by omega)
    rw [N_msg_mid (va := va) (vl := vl) c32' hj hd hva hvl]
    have z24 : ¬ sI (uI (uI (uI (uI (uI σ4 1128 (cnt D 0) (oq D 0 (mo d f))) 1129 (cnt D 0) va) 1130 (cnt D 0) vl) 1159 d (nI (cnt D 0))) 1101 32 (nI (cnt D 0 + 1))) 1101 74 = 0 := by
      rw [sI_o (Or.inr (by decide)), sI_o (Or.inl (by decide)), sI_o (Or.inl (by decide)), sI_o (Or.inl (by decide)), sI_o (Or.inl (by decide))]; exact z4
    have f24 : fP P9 σ (uI (uI (uI (uI (uI σ4 1128 (cnt D 0) (oq D 0 (mo d f))) 1129 (cnt D 0) va) 1130 (cnt D 0) vl) 1159 d (nI (cnt D 0))) 1101 32 (nI (cnt D 0 + 1))) := fP_trans (f9_Z (fZ_X f4)) (fP_trans (fP_trans (fP_trans (fP_trans (fP_u (Or.inl (Or.inr ⟨by decide, by decide⟩))) (fP_u (Or.inl (Or.inr ⟨by decide, by decide⟩)))) (fP_u (Or.inl (Or.inr ⟨by decide, by decide⟩)))) (fP_u (Or.inr rfl))) (fP_u (Or.inl (Or.inl ⟨rfl, by decide⟩))))
    rw [N_takeSign_e z24, b1_eq, nI_1]
    have hbg : sBg T Ws 0 (k + 1, mo d f, none, none, b) D = none := by
      rw [sBg_1 hx, if_neg q1]
    exact ⟨nI (d + 1), _, rfl, f24, Or.inr ⟨rd_no (atE_k (by rw [hk1.2]; decide)) (by rw [hst, hbg]), z24⟩⟩
