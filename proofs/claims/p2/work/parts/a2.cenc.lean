/-! ===== the class encodes ===== -/
def PWr (W B : List Nat) (σ : SG) (x : Option SG) : Prop := ∃ τ, x = some τ ∧ RB τ 3 (W ++ B) 0 ∧ fb 3 σ τ
theorem ln4 : ln (3 + 1) = 4000 := by decide
theorem wfit {τ : SG} {W B : List Nat} (h : RW τ 3 (wrL (ln (3 + 1)) (W, 0) B)) (hl : W.length + B.length ≤ 4000) : RB τ 3 (W ++ B) 0 := by
  rw [wrL_fit B (W, 0) (by rw [ln4]; exact hl)] at h
  exact h
theorem C_wvar {U : Nat} {σ : SG} {x : Int64} {W : List Nat} (hU4 : 4000 < U) (h : RB σ 3 W 0) (hl : W.length + (vB x).length ≤ 4000) : PWr W (vB x) σ (x_X0_addVarint U 3 x σ) := by
  obtain ⟨τ, t1, t2, t3⟩ := X0_varW (x := x) (w := (W, 0)) hU4 h
  exact ⟨τ, t1, wfit t2 hl, t3⟩
theorem C_wfix {U n : Nat} {σ : SG} {x : Int64} {W : List Nat} (hU4 : 4000 < U) (hn : n < 100) (h : RB σ 3 W 0) (hl : W.length + (fxB x 0 n).length ≤ 4000) : PWr W (fxB x 0 n) σ (x_X0_addFixed U 3 x (nI n) σ) := by
  obtain ⟨τ, t1, t2, t3⟩ := X0_fixW (x := x) (w := (W, 0)) hU4 hn h
  exact ⟨τ, t1, wfit t2 hl, t3⟩
theorem C_wall {U a b : Nat} {σ : SG} {W P : List Nat} (hU4 : 4000 < U) (h : RB σ 3 W 0) (hP : RB σ 1092 P 0) (hab : a ≤ b) (hb : b ≤ P.length) (hl : W.length + (slc P a b).length ≤ 4000) : PWr W (slc P a b) σ (x_X0_addAll U 3 (some 1092) (nI a) (nI b) σ) := by
  obtain ⟨τ, t1, t2, t3⟩ := X0_addAll (a := 3) (b := 1092) (k := a) (to := b) (w := (W, 0)) (by decide) (by unfold apt; omega) hab hb hU4 h hP
  exact ⟨τ, t1, wfit t2 hl, t3⟩
theorem C_wlen {U : Nat} {σ : SG} {W C : List Nat} (hU4 : 4000 < U) (h : RB σ 3 (W ++ C) 0) (hl : W.length + (lnB C).length ≤ 4000) : PWr W (lnB C) σ (x_X0_insertLength U 3 (nI W.length) σ) := by
  unfold lnB at hl ⊢
  rw [List.length_append] at hl
  obtain ⟨τ, t1, t2, t3⟩ := X0_insL (U := U) (a := 3) hU4 (by rw [ln4]; exact Nat.le_refl _) h (by rw [ln4]; omega)
  exact ⟨τ, t1, t2, t3⟩
theorem C_wnum {U t : Nat} {σ : SG} {x : Int64} {W : List Nat} (hU4 : 4000 < U) (ht : t ≤ 14) (h : RB σ 3 W 0) (hl : W.length + (nuB t x).length ≤ 4000) : PWr W (nuB t x) σ (x_X9_writeNumber U 1094 (nI t) x σ) := by
  unfold x_X9_writeNumber x_X9_writeNumber_53
  unfold nuB at hl ⊢
  have hk8 := (kdO_nmr ht).2
  have e1 : nI (kdO t) = 1 ↔ kdO t = 1 := nI_eq (b := 1) (by omega) (by decide)
  have e5 : nI (kdO t) = 5 ↔ kdO t = 5 := nI_eq (b := 5) (by omega) (by decide)
  have t4 : nI t = 4 ↔ t = 4 := nI_eq (b := 4) (by omega) (by decide)
  have t5 : nI t = 5 ↔ t = 5 := nI_eq (b := 5) (by omega) (by decide)
  rw [X9_kindOf ht, b1_eq, ifd e1, ifd e5, ifd t4, ifd t5, b1_id, b1_id, b1_id, b1_id]
  by_cases q1 : kdO t = 1
  · rw [if_pos q1] at hl ⊢
    rw [if_pos q1]
    exact C_wfix (n := 8) hU4 (by decide) h hl
  rw [if_neg q1] at hl ⊢
  rw [if_neg q1]
  by_cases q5 : kdO t = 5
  · rw [if_pos q5] at hl ⊢
    rw [if_pos q5]
    exact C_wfix (n := 4) hU4 (by decide) h hl
  rw [if_neg q5] at hl ⊢
  rw [if_neg q5]
  by_cases q : t = 4
  · rw [if_pos (Or.inl q)] at hl ⊢
    rw [if_pos q]
    exact C_wvar hU4 h hl
  rw [if_neg q]
  by_cases q' : t = 5
  · rw [if_pos (Or.inr q')] at hl ⊢
    rw [if_pos q']
    exact C_wvar hU4 h hl
  rw [if_neg (show ¬ (t = 4 ∨ t = 5) from fun z => z.elim q q')] at hl ⊢
  rw [if_neg q']
  exact C_wvar hU4 h hl
theorem VG_fb {σ τ : SG} {c : Nat} {T : List Nat} {D : List Dc} {G : Gh} (h : VG σ c T D G) (hf : fb 3 σ τ) : VG τ c T D G := VG_sm h (fun b hb => hf b (by omega) (by omega))
theorem CS_fb {σ τ : SG} {c : Nat} {T : List Nat} {D : List Dc} (h : CS σ c T D) (hcb : cb c) (hf : fb 3 σ τ) : CS τ c T D := by
  have hc : c = 5 ∨ c = 197 := hcb
  exact CS_sm h (fun b h1 h2 => hf b (by omega) (by omega))
theorem C_tag {U c f : Nat} {σ : SG} {T : List Nat} {D : List Dc} {d : Dc} (hcb : cb c) (hg : GSc T D) (hC : CS σ c T D) (hd : D[f]? = some d) (h2 : dK d = 2) : sL σ (c + 5 + f) 6 = lN (dN d).2 := by
  have e := (hg.nu hd h2).1
  rw [nLi_some hd, nmn_some hd] at e
  rw [← e]
  exact (hC.it hd).1.2.2.2.2.2.2.1
theorem C_wfld {U c n f dp : Nat} {σ : SG} {T : List Nat} {D : List Dc} {G : Gh} {e : Eg} {d : Dc} {W : List Nat} {rcC : Option Nat → Int32 → SG → Option SG} {rc : Nat → List Nat} (hU4 : 4000 < U) (hcb : cb c) (hg : GSc T D) (hC : CS σ c T D) (hV : VG σ c T D G) (hn : n < gC G) (he : e ∈ gL G n) (hf : eF e = some f) (hd : isF D (gN G n) f d) (hW : RB σ 3 W 0)
    (hrc : fty T D d = 13 → ∀ (τ : SG) (W' : List Nat), fb 3 σ τ → RB τ 3 W' 0 → W'.length + (rc (eK e)).length ≤ 4000 → PWr W' (rc (eK e)) τ (rcC (some (eA e)) (nI (dp + 1)) τ))
    (hl : W.length + (eIt T D rc d (itm T D d e)).length ≤ 4000) : PWr W (eIt T D rc d (itm T D d e)) σ (x_X9_writeField U rcC 1094 (some (eA e)) (some (c + 5 + f)) (nI dp) σ) := by
  have hl9 := hg.2.1
  have hul := hV.2.1
  have hfl := (List.getElem?_eq_some_iff.mp hd.1).1
  have hft : fty T D d ≤ 14 := dTy_lt (hg.fld hd.1 hd.2.1).2.2.2.1
  have hk8 := (kdO_nmr hft).2
  obtain ⟨e1, e2, e3, e4, ⟨a, b, e5, e6, e7, e8, e9⟩, e10, e11⟩ := hV.e hn he
  have ety : sI σ (c + 5 + f) 8 = nI (fty T D d) := (hC.it hd.1).2.1
  unfold x_X9_writeField x_X9_writeField_96
  unfold eIt at hl ⊢
  rw [List.length_append] at hl
  rw [ck_eq (it_sh hcb (by omega)), ety, X9_kindOf hft, b1_eq, C_tag (U := U) hcb hg hC hd.1 hd.2.1, nI_l (by omega)]
  obtain ⟨τ, t1, t2, t3⟩ := C_wvar (x := (lshl9 (lN (dN d).2) 3) ||| lN (kdO (fty T D d))) hU4 hW (by unfold tgB at hl; omega)
  have t2' : RB τ 3 (W ++ tgB d (kdO (fty T D d))) 0 := t2
  have C1 := CS_fb hC hcb t3
  have V1 := VG_fb hV t3
  obtain ⟨_, _, _, g4, ⟨a', b', g5, g6, g7, g8, g9⟩, _⟩ := V1.e hn he
  have ety1 : sI τ (c + 5 + f) 8 = nI (fty T D d) := (C1.it hd.1).2.1
  rw [t1, b1_eq, X0_size t2', b1_eq, ety1]
  have ek2 : nI (kdO (fty T D d)) = 2 ↔ kdO (fty T D d) = 2 := nI_eq (b := 2) (by omega) (by decide)
  have e13 : nI (fty T D d) = 13 ↔ fty T D d = 13 := nI_eq (b := 13) (by omega) (by decide)
  rw [ifd ek2, ifd e13]
  -- the content, then its length
  have fin : ∀ (C : List Nat) (y : Option SG), (W ++ tgB d (kdO (fty T D d))).length + (lnB C).length ≤ 4000 → PWr (W ++ tgB d (kdO (fty T D d))) C τ y → PWr W (tgB d (kdO (fty T D d)) ++ lnB C) σ (b1 y fun σ13 => b1 (x_X0_insertLength U 3 (nI (W ++ tgB d (kdO (fty T D d))).length) σ13) fun σ15 => some σ15) := by
    intro C y hy hp
    obtain ⟨υ, u1, u2, u3⟩ := hp
    obtain ⟨ω, o1, o2, o3⟩ := C_wlen hU4 u2 hy
    rw [u1, b1_eq, b1_id, o1]
    exact ⟨ω, rfl, by rw [← List.append_assoc]; exact o2, fb_trans t3 (fb_trans u3 o3)⟩
  by_cases q2 : kdO (fty T D d) = 2
  · rw [if_pos q2] at hl ⊢
    rw [if_pos q2]
    have hnm : nmr (fty T D d) = false := (kdO_nmr hft).1.mp q2
    by_cases q13 : fty T D d = 13
    · rw [if_pos q13] at hl ⊢
      rw [if_pos q13]
      have ei : (itm T D d e).2.2 = eK e := by unfold itm; rw [if_pos q13]
      rw [ei] at hl ⊢
      rw [nI_1]
      refine fin (rc (eK e)) _ (by rw [List.length_append]; omega) (hrc q13 τ _ t3 t2' ?_)
      rw [List.length_append]
      unfold lnB at hl
      rw [List.length_append] at hl
      omega
    · rw [if_neg q13] at hl ⊢
      rw [if_neg q13]
      have ei : (itm T D d e).2.1 = eT e := by unfold itm; rw [if_neg q13, hnm, if_neg (show ¬ false = true by decide)]
      rw [ei] at hl ⊢
      rw [ck_eq (nd_sh e1 (by omega)), g5, g6]
      refine fin (eT e) _ (by rw [List.length_append]; omega) ?_
      rw [← g9]
      refine C_wall hU4 t2' V1.2.2.1 g7 g8 ?_
      rw [g9, List.length_append]
      unfold lnB at hl
      rw [List.length_append] at hl
      omega
  · rw [if_neg q2] at hl ⊢
    rw [if_neg q2]
    have hnm : nmr (fty T D d) = true := by
      cases h : nmr (fty T D d) with
      | true => rfl
      | false => exact absurd ((kdO_nmr hft).1.mpr h) q2
    have q13 : fty T D d ≠ 13 := fun z => by rw [z] at hnm; cases hnm
    have ei : (itm T D d e).1 = eV e := by unfold itm; rw [if_neg q13, hnm, if_pos rfl]
    rw [ei] at hl ⊢
    rw [ck_eq (nd_sh e1 (by omega)), g4, b1_id]
    obtain ⟨υ, u1, u2, u3⟩ := C_wnum (t := fty T D d) (x := eV e) hU4 hft t2' (by rw [List.length_append]; omega)
    exact ⟨υ, u1, by rw [← List.append_assoc]; exact u2, fb_trans t3 u3⟩
