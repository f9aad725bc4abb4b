/-! ===== the reference's print, whole ===== -/
def cFp (T : List Nat) (D : List Dc) (A : AV) (cst : Nat → Nat) (n f : Nat) : Nat := match D[f]? with
  | none => 0
  | some d => 1 + ((aE A n f).map (cIt T D cst d)).sum
theorem N_pflds {U s dp n : Nat} {T : List Nat} {D : List Dc} {A : AV} {H : Rh} {K : SG → Option (Int32 × SG)} {rc : Nat → List Nat} {cst : Nat → Nat} (hU4 : 4000 < U) (hs : s < 2) (hg : GSc T D) (hM : isM D (aN A n)) (hal : al T D A n = true) (hn : n < aC A) (hdp : dp < 20)
    (hrc : ∀ m ∈ chN T D A n, ∀ (τ : SG) (w' : List Nat × Int32) (U1 : Nat), PS τ s T D A H w' → TP τ (dp + 1) m 0 0 → cst m < U1 → PL U s T D A H K (dp + 1) w' (rc m ++ clB (dp + 1)) (cst m) (fun υ => sI υ 1101 106 = nI (dp + 1)) U1 τ) : ∀ (j k : Nat) (σ : SG) (w : List Nat × Int32) (U1 : Nat), k + j = (chF D (aN A n)).length → PS σ s T D A H w → TP σ dp n k 0 → (((chF D (aN A n)).drop k).map (cFp T D A cst n)).sum + 1 < U1 → PL U s T D A H K dp w (((chF D (aN A n)).drop k).flatMap (pFd T D A (dp + 1) rc n) ++ clB dp) ((((chF D (aN A n)).drop k).map (cFp T D A cst n)).sum + 1) (fun τ => sI τ 1101 106 = nI dp) U1 σ := by
  have hFl := chF_len (a := aN A n) hg.2.1
  intro j
  induction j with
  | zero =>
    intro k σ w U1 hk hE ht hu
    obtain ⟨V, rfl⟩ : ∃ V, U1 = V + 1 := ⟨U1 - 1, by omega⟩
    have h0 : (chF D (aN A n))[k]? = none := List.getElem?_eq_none (by omega)
    have stp := (N_pstep (U := U) hU4 hs hg hE hM hn hdp (by omega) (Nat.zero_le _) ht).1 h0
    obtain ⟨τ, t1, t2, t3, t4, t5⟩ := PS_end (U := U) (n := n) (k := k) (i := 0) hU4 hE hdp
    rw [List.drop_eq_nil_of_le (by omega), List.flatMap_nil, List.nil_append]
    exact ⟨τ, V, L39_step ht hdp (by rw [stp]; exact t1), by show V + 1 ≤ V + (0 + 1); omega, t2, t3, t4, fun j _ => t5 j⟩
  | succ j ih =>
    intro k σ w U1 hk hE ht hu
    have hkl : k < (chF D (aN A n)).length := by omega
    have hkf := List.getElem?_eq_getElem hkl
    obtain ⟨d, hd⟩ := (chF_mem hg hM).mp (List.getElem_mem hkl)
    rw [List.drop_eq_getElem_cons hkl, List.map_cons, List.sum_cons] at hu
    rw [List.drop_eq_getElem_cons hkl, List.map_cons, List.sum_cons, List.flatMap_cons, List.append_assoc]
    have ec : cFp T D A cst n (chF D (aN A n))[k] = 1 + ((aE A n (chF D (aN A n))[k]).map (cIt T D cst d)).sum := by unfold cFp; rw [hd.1]
    have ee : pFd T D A (dp + 1) rc n (chF D (aN A n))[k] = (aE A n (chF D (aN A n))[k]).flatMap (pIt T D (dp + 1) rc d) := by unfold pFd; rw [hd.1]
    have one : PL U s T D A H K dp w (pFd T D A (dp + 1) rc n (chF D (aN A n))[k]) (cFp T D A cst n (chF D (aN A n))[k]) (fun τ => TP τ dp n (k + 1) 0) U1 σ := by
      rw [ec] at hu
      rw [ee, ec]
      have hEf := (hE.2.1.2.2.2.2.2.2.1 n hal).1 _ d hd
      have key := N_prows (U := U) (K := K) (rc := rc) (cst := cst) hU4 hs hg hM hal hn hdp hkf hd hrc (zR H).length 0 σ w U1 (by omega) hE ht (by rw [List.drop_zero, hEf]; omega)
      rw [List.drop_zero, hEf] at key
      exact key
    obtain ⟨τ, U2, t1, t2, t3, t4, t5, t6⟩ := one
    obtain ⟨υ, U3, u1, u2, u3, u4, u5, u6⟩ := ih (k + 1) τ _ U2 (by omega) t3 t4 (by omega)
    refine ⟨υ, U3, by rw [t1, u1], by omega, by rw [wrL_app]; exact u3, u4, fP_trans t5 u5, fun x hx => ⟨?_, ?_, ?_⟩⟩
    · exact (u6 x hx).1.trans (t6 x hx).1
    · exact (u6 x hx).2.1.trans (t6 x hx).2.1
    · exact (u6 x hx).2.2.trans (t6 x hx).2.2
theorem cFp_congr {T : List Nat} {D : List Dc} {A : AV} {c c' : Nat → Nat} {n f : Nat} (hf : f ∈ chF D (aN A n)) (h : ∀ k ∈ chN T D A n, c k = c' k) : cFp T D A c n f = cFp T D A c' n f := by
  unfold cFp
  cases hd : D[f]? with
  | none => rfl
  | some d =>
    simp only
    congr 2
    apply List.map_congr_left
    intro it hit
    unfold cIt
    by_cases q : fty T D d = 13
    · rw [if_pos q, if_pos q, h _ (chN_mem.mpr ⟨f, hf, by unfold isT; rw [hd]; exact decide_eq_true q, it, hit, rfl⟩)]
    · rw [if_neg q, if_neg q]
def cPs (T : List Nat) (D : List Dc) (A : AV) : Nat → Nat → Nat
  | 0, _ => 0
  | j + 1, n => ((chF D (aN A n)).map (cFp T D A (cPs T D A j) n)).sum + 1
def cPf (T : List Nat) (D : List Dc) (A : AV) (z : Nat → Nat) (n : Nat) : Nat := cPs T D A (21 - z n) n
theorem cPf_eq {T : List Nat} {D : List Dc} {A : AV} {z : Nat → Nat} (h : AW T D A z) {n : Nat} (hn : n < aC A) : cPf T D A z n = ((chF D (aN A n)).map (cFp T D A (cPf T D A z) n)).sum + 1 := by
  obtain ⟨a, b⟩ := h.2.2.1 n hn
  unfold cPf
  rw [show 21 - z n = (20 - z n) + 1 by omega, cPs]
  congr 2
  apply List.map_congr_left
  intro f hf
  apply cFp_congr hf
  intro k hk
  rw [(b k hk).2.2, show 21 - (z n + 1) = 20 - z n by omega]
theorem N_pmsg {U s : Nat} {T : List Nat} {D : List Dc} {A : AV} {H : Rh} {K : SG → Option (Int32 × SG)} {z : Nat → Nat} (hU4 : 4000 < U) (hs : s < 2) (hg : GSc T D) (hK : AK T D A) (hZ : AW T D A z) : ∀ (j dp n : Nat) (σ : SG) (w : List Nat × Int32) (U1 : Nat), dp + j = 20 → z n = dp + 1 → al T D A n = true → PS σ s T D A H w → TP σ dp n 0 0 → cPf T D A z n < U1 → PL U s T D A H K dp w (pMf T D A z n ++ clB dp) (cPf T D A z n) (fun τ => sI τ 1101 106 = nI dp) U1 σ := by
  obtain ⟨_, _, hM⟩ := hK
  have hlt : ∀ n, al T D A n = true → n < aC A := fun n hn => List.mem_range.mp ((alL_lt _).subset (of_decide_eq_true hn))
  intro j
  induction j with
  | zero =>
    intro dp n σ w U1 hj hz hal
    have := (hZ.2.2.1 n (hlt n hal)).1
    omega
  | succ j ih =>
    intro dp n σ w U1 hj hz hal hE ht hu
    have hn := hlt n hal
    rw [cPf_eq hZ hn] at hu ⊢
    rw [pMf_eq hZ hn, hz]
    have key := N_pflds (U := U) (dp := dp) (K := K) (rc := pMf T D A z) (cst := cPf T D A z) hU4 hs hg (hM n hn) hal hn (by omega) (fun m hm τ w' U1 hE' ht' hu' => by
      obtain ⟨a1, a2, a3⟩ := al_child hZ hal hm
      exact ih (dp + 1) m τ w' U1 (by omega) (by rw [((hZ.2.2.1 n hn).2 m hm).2.2, hz]) a1 hE' ht' hu') (chF D (aN A n)).length 0 σ w U1 (by omega) hE ht (by rw [List.drop_zero]; exact hu)
    rw [List.drop_zero] at key
    exact key
theorem cFp_le {T : List Nat} {D : List Dc} {A : AV} {cst : Nat → Nat} {n f : Nat} : cFp T D A cst n f ≤ 1 + ((aE A n f).map (fun it => 1 + if isT T D f then cst it.2.2 else 0)).sum := by
  unfold cFp
  cases hd : D[f]? with
  | none => exact Nat.zero_le _
  | some d =>
    have hT : isT T D f = decide (fty T D d = 13) := by unfold isT; rw [hd]
    simp only
    apply Nat.add_le_add_left
    apply sum_le
    intro it _
    unfold cIt
    rw [hT]
    by_cases q : fty T D d = 13
    · rw [if_pos q, decide_eq_true q, if_pos rfl]; exact Nat.le_refl _
    · rw [if_neg q, decide_eq_false q, if_neg (by decide)]; exact Nat.le_refl _
theorem cPf_le {T : List Nat} {D : List Dc} {A : AV} {z : Nat → Nat} (h : AW T D A z) : ∀ (j n : Nat), n < aC A → z n + j = 21 → cPf T D A z n ≤ twf T D A (wC D A) z n := by
  intro j
  induction j with
  | zero => intro n hn hz; have := (h.2.2.1 n hn).1; omega
  | succ j ih =>
    intro n hn hz
    rw [cPf_eq h hn, twf_eq h hn]
    have h1 := sum_le (f := cFp T D A (cPf T D A z) n) (g := fun f => 1 + ((aE A n f).map (fun it => 1 + if isT T D f then cPf T D A z it.2.2 else 0)).sum) (chF D (aN A n)) (fun f _ => cFp_le)
    have h0 : ((chF D (aN A n)).map (fun f => 1 + ((aE A n f).map (fun it => 1 + if isT T D f then cPf T D A z it.2.2 else 0)).sum)).sum = (chF D (aN A n)).length + ((its D A n).length + ((chN T D A n).map (cPf T D A z)).sum) := by
      rw [sum_add, sum_its (h := cPf T D A z)]
      congr 1
      generalize chF D (aN A n) = F
      induction F with
      | nil => rfl
      | cons a F ih => rw [List.map_cons, List.sum_cons, ih, List.length_cons]; omega
    have h3 : ((chN T D A n).map (cPf T D A z)).sum ≤ ((chN T D A n).map (twf T D A (wC D A) z)).sum := sum_le _ (fun c hc => by
      obtain ⟨_, b⟩ := h.2.2.1 n hn
      obtain ⟨b1, b2, b3⟩ := b c hc
      exact ih c b2 (by omega))
    have e0 : wC D A n = (its D A n).length + ((chF D (aN A n)).length + 1) := rfl
    omega
theorem p_cost {T : List Nat} {D : List Dc} {A : AV} {z : Nat → Nat} (hg : GSc T D) (h : AW T D A z) (hc : aC A ≤ 351) (hv : nV T D A ≤ 200) : cPf T D A z 0 + 1 < 70000 := by
  have h1 := cPf_le h 20 0 h.1 (by rw [h.2.1])
  rw [tw_al h] at h1
  have h2 : ((alL T D A (aC A)).map (wC D A)).sum = nV T D A + ((alL T D A (aC A)).map (fun n => (chF D (aN A n)).length + 1)).sum := by
    unfold nV wC
    exact sum_add _ _ _
  have h3 : ∀ (L : List Nat), (L.map (fun n => (chF D (aN A n)).length + 1)).sum ≤ 181 * L.length := by
    intro L
    induction L with
    | nil => exact Nat.le_refl _
    | cons n L ih =>
      rw [List.map_cons, List.sum_cons, List.length_cons]
      have := chF_len (a := aN A n) hg.2.1
      omega
  have h4 := h3 (alL T D A (aC A))
  have h5 := (alL_lt (T := T) (D := D) (A := A) (aC A)).length_le
  rw [List.length_range] at h5
  omega
def Pprn (b k : Nat) : Prop := PPr b k ∨ (b = 1101 ∧ k = 5)
/-- the reference's print -/
theorem N_print {U s : Nat} {σ : SG} {T : List Nat} {D : List Dc} {A : AV} {H : Rh} {z : Nat → Nat} (hU4 : 4000 < U) (hs : s < 2) (hg : GSc T D) (h79 : sI σ 1101 79 = 1) (hS : RS σ s T D) (hV : VS σ s T D A H) (hZ : AW T D A z) (hK : AK T D A) (hcU : cPf T D A z 0 + 1 < U) : ∃ τ, x_X12_print U 1101 σ = some (nI (prO (pMf T D A z 0)).length, τ) ∧ ROr τ (prO (pMf T D A z 0), 0) ∧ sI τ 1101 5 = (if (pMf T D A z 0).length ≤ 4000 then 0 else 2) ∧ RS τ s T D ∧ VS τ s T D A H ∧ fP Pprn σ τ := by
  unfold x_X12_print x_X12_print_17
  obtain ⟨σ2, a1, a2, a3⟩ := X12_emptyOut (σ := σ)
  have a3' := fw_Pfw a3
  have e79 : sI σ2 1101 79 = 1 := ((fw_I a3 (by decide) (by omega)).1).trans h79
  rw [a1, b1_eq, e79, if_neg (show ¬ (1 : Int32) = 0 by decide), sb_eq, sI_s, if_pos (show (0 : Int32) = 0 from rfl)]
  have S2 := RS_fw hS a3
  have V2 := VS_fw hV a3
  have F4 : fP (fun b k => b = 1101 ∧ k = 5) σ2 (uI σ2 1101 5 0) := fP_u ⟨rfl, rfl⟩
  have S4 : RS (uI σ2 1101 5 0) s T D := RS_keep S2 (fun b k hb => (F4 b k (by unfold PKP at hb; omega)).1)
  have V4 : VS (uI σ2 1101 5 0) s T D A H := VS_keep V2 (fun b k hb => ⟨(F4 b k (by omega)).1, (F4 b k (by omega)).2.1⟩)
  have R4 : ROr (uI σ2 1101 5 0) ([], 0) := ROr_uI a2 (by decide) (by decide)
  have c5 : sI (uI σ2 1101 5 0) 1101 5 = 0 := sI_s _ _ _ _
  generalize uI σ2 1101 5 0 = σ4 at *
  rw [sb_eq]
  have E4 : PS σ4 s T D A H ([], 0) := ⟨S4, V4, R4⟩
  have E8 := PS_uI (b := 1101) (j := 106) (v := 0) E4 (by omega)
  have c106 : sI (uI σ4 1101 106 0) 1101 106 = 0 := sI_s _ _ _ _
  have F8 : fP PPr σ4 (uI σ4 1101 106 0) := fP_u (by unfold PPr; omega)
  generalize uI σ4 1101 106 0 = σ8 at *
  have c106' : sI σ8 1101 106 = nI 0 := c106
  unfold x_X12_goInto
  rw [c106', ix_in (by decide) (by decide), sb_eq, sI_o (Or.inl (by decide)), c106', ix_in (by decide) (by decide), sb_eq, sI_o (Or.inl (by decide)), sI_o (Or.inl (by decide)), c106', ix_in (by decide) (by decide), sb_eq, sb_eq, sI_o (Or.inl (by decide)), sI_o (Or.inl (by decide)), sI_o (Or.inl (by decide)), c106', b1_eq]
  have E9 : PS (uI (uI (uI (uI σ8 1176 0 0) 1179 0 0) 1178 0 0) 1101 106 (nI 0 + 1)) s T D A H ([], 0) := PS_uI (PS_uI (PS_uI (PS_uI E8 (by omega)) (by omega)) (by omega)) (by omega)
  have T9 : TP (uI (uI (uI (uI σ8 1176 0 0) 1179 0 0) 1178 0 0) 1101 106 (nI 0 + 1)) 0 0 0 0 := ⟨rfl, rfl, rfl, rfl⟩
  have F9 : fP PPr σ8 (uI (uI (uI (uI σ8 1176 0 0) 1179 0 0) 1178 0 0) 1101 106 (nI 0 + 1)) := fP_trans (fP_trans (fP_trans (fP_u (by unfold PPr; omega)) (fP_u (by unfold PPr; omega))) (fP_u (by unfold PPr; omega))) (fP_u (by unfold PPr; omega))
  generalize (uI (uI (uI (uI σ8 1176 0 0) 1179 0 0) 1178 0 0) 1101 106 (nI 0 + 1)) = σ9 at *
  have hal0 : al T D A 0 = true := decide_eq_true ((alL_mem _ _ hZ.1).mpr (Or.inl rfl))
  obtain ⟨τ, U2, t1, t2, t3, t4, t5, t6⟩ := N_pmsg (U := U) (K := fun σ12 => if sI σ12 1101 4 = 0 then (some (sI σ12 1101 3, σ12)) else (b1 (x_X12_emptyOut 1101 σ12) fun σ15 => sb (uI σ15 1101 5 2) fun σ16 => some (sI σ16 1101 3, σ16))) hU4 hs hg hK hZ 20 0 0 σ9 ([], 0) U (by omega) hZ.2.1 hal0 E9 T9 (by omega)
  obtain ⟨V, rfl⟩ : ∃ V, U2 = V + 1 := ⟨U2 - 1, by omega⟩
  rw [show clB 0 = [] from rfl, List.append_nil] at t3
  rw [t1, x_X12_print_L39, t4, if_neg (show ¬ (0 : Int32) < nI 0 by decide)]
  have FA : fP Pprn σ τ := fP_trans (fP_mono a3' (fun b k y => Or.inl (by unfold Pfw at y; unfold PPr; omega))) (fP_trans (fP_mono F4 (fun b k y => Or.inr y)) (fP_mono (fP_trans F8 (fP_trans F9 t5)) (fun b k y => Or.inl y)))
  have c5' : sI τ 1101 5 = 0 := (((t5 1101 5 (by unfold PPr; omega)).1).trans (((F9 1101 5 (by unfold PPr; omega)).1).trans ((F8 1101 5 (by unfold PPr; omega)).1))).trans c5
  unfold prO
  by_cases q : (pMf T D A z 0).length ≤ 4000
  · rw [wrL_fit _ _ (by show 0 + (pMf T D A z 0).length ≤ 4000; omega)] at t3
    have R9 : ROr τ (pMf T D A z 0, 0) := t3.2.2
    have r4 : sI τ 1101 4 = 0 := R9.2.1
    rw [if_pos q, if_pos q, r4, if_pos (show (0 : Int32) = 0 from rfl), R9.1]
    exact ⟨τ, rfl, R9, c5', t3.1, t3.2.1, FA⟩
  · have r4 : sI τ 1101 4 = 1 := by rw [t3.2.2.2.1]; exact wrL_over _ _ (by simp) (by simpa using q)
    obtain ⟨υ, u1, u2, u3⟩ := X12_emptyOut (σ := τ)
    rw [if_neg q, if_neg q, r4, if_neg (show ¬ (1 : Int32) = 0 by decide), u1, b1_eq, sb_eq]
    have F5 : fP (fun b k => b = 1101 ∧ k = 5) υ (uI υ 1101 5 2) := fP_u ⟨rfl, rfl⟩
    have R5 : ROr (uI υ 1101 5 2) ([], 0) := ROr_uI u2 (by decide) (by decide)
    rw [R5.1]
    exact ⟨_, rfl, R5, sI_s _ _ _ _, RS_keep (RS_fw t3.1 u3) (fun b k hb => (F5 b k (by unfold PKP at hb; omega)).1), VS_keep (VS_fw t3.2.1 u3) (fun b k hb => ⟨(F5 b k (by omega)).1, (F5 b k (by omega)).2.1⟩), fP_trans FA (fP_trans (fP_mono (fw_Pfw u3) (fun b k y => Or.inl (by unfold Pfw at y; unfold PPr; omega))) (fP_mono F5 (fun b k y => Or.inr y)))⟩
theorem N_print_no {U : Nat} {σ : SG} (h79 : sI σ 1101 79 = 0) : ∃ τ, x_X12_print U 1101 σ = some (0, τ) ∧ ROr τ ([], 0) ∧ sI τ 1101 5 = 1 ∧ fP Pprn σ τ := by
  unfold x_X12_print x_X12_print_17
  obtain ⟨σ2, a1, a2, a3⟩ := X12_emptyOut (σ := σ)
  have e79 : sI σ2 1101 79 = 0 := ((fw_I a3 (by decide) (by omega)).1).trans h79
  rw [a1, b1_eq, e79, if_pos (show (0 : Int32) = 0 from rfl), sb_eq, sI_s, if_neg (show ¬ (1 : Int32) = 0 by decide)]
  exact ⟨_, rfl, ROr_uI a2 (by decide) (by decide), sI_s _ _ _ _, fP_trans (fP_mono (fw_Pfw a3) (fun b k y => Or.inl (by unfold Pfw at y; unfold PPr; omega))) (fP_u (Or.inr ⟨rfl, rfl⟩))⟩
