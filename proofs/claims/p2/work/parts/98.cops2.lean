/-! ===== the class's value: numbers, texts, unknown bytes, messages ===== -/
theorem VE_of {T : List Nat} {D : List Dc} {G G1 : Gh} {A : AV} {n f a : Nat} {d : Dc} {v v' : Int64} {t t' P' : List Nat} (h : VE T D G A) (hn : n < gC G) (hF : isF D (gN G n) f d) (h13 : fty T D d ≠ 13) (c1 : gC G1 = gC G) (c2 : gN G1 = gN G) (c3 : ∀ m, m ≠ n → gL G1 m = gL G m) (hp : CPt D G G1 n f d a) (hnum : nmr (fty T D d) = true → v' = v ∧ t' = []) (htxt : nmr (fty T D d) = false → v' = 0 ∧ t' = t) : VE T D (gN G1, gH G1, up (gL G1) n (setE a v t (gL G1 n)), gC G1, gU G1, P') (aPut T D A n f d v' t') := by
  obtain ⟨e, e1, e2, e3, e4, e5⟩ := hp.2 v t
  have eL : gL (gN G1, gH G1, up (gL G1) n (setE a v t (gL G1 n)), gC G1, gU G1, P') n = setE a v t (gL G1 n) := up_s _ _ _
  refine VE_put (e := e) h hn hF h13 c1 (fun m _ => by show gN G1 m = _; rw [c2]) (fun m _ hm => ?_) ?_ ?_ (by rw [eL]; exact e3) (fun g hgf => by rw [eL]; exact e4 g hgf) (by rw [eL]; exact e5)
  · show up (gL G1) n _ m = _
    rw [up_o hm]; exact c3 m hm
  · unfold itm
    rw [if_neg h13]
    cases hq : nmr (fty T D d) with
    | true => obtain ⟨w1, w2⟩ := hnum hq; rw [if_pos rfl, e1, w1, w2]
    | false => obtain ⟨w1, w2⟩ := htxt hq; rw [if_neg (by decide), e2, w1, w2]
  · unfold live noth
    cases hq : nmr (fty T D d) with
    | true => obtain ⟨w1, w2⟩ := hnum hq; rw [e1, w1]; rfl
    | false => obtain ⟨w1, w2⟩ := htxt hq; rw [e2, w2]; rfl
/-- what stays while bytes are read into a value -/
def fX (σ τ : SG) : Prop := (∀ b, (b < 389 ∨ b = 390 ∨ 1096 ≤ b) → sm σ τ b) ∧ (∀ k, k ≠ 3 → sI τ 389 k = sI σ 389 k ∧ sL τ 389 k = sL σ 389 k ∧ sP τ 389 k = sP σ 389 k) ∧ sI τ 1094 5 = sI σ 1094 5 ∧ sI τ 1095 5 = sI σ 1095 5 ∧ sI τ 1092 2 = sI σ 1092 2
theorem fX_refl (σ : SG) : fX σ σ := ⟨fun b _ => sm_refl σ b, fun k _ => ⟨rfl, rfl, rfl⟩, rfl, rfl, rfl⟩
theorem fX_trans {σ τ υ : SG} (h : fX σ τ) (h' : fX τ υ) : fX σ υ := ⟨fun b hb => sm_trans (h.1 b hb) (h'.1 b hb), fun k hk => ⟨(h'.2.1 k hk).1.trans (h.2.1 k hk).1, (h'.2.1 k hk).2.1.trans (h.2.1 k hk).2.1, (h'.2.1 k hk).2.2.trans (h.2.1 k hk).2.2⟩, h'.2.2.1.trans h.2.2.1, h'.2.2.2.1.trans h.2.2.2.1, h'.2.2.2.2.trans h.2.2.2.2⟩
theorem fX_V {σ τ : SG} (h : fV σ τ) : fX σ τ := ⟨fun b hb => h.1 b (by omega), h.2, (h.1 1094 (by decide) 5).1, (h.1 1095 (by decide) 5).1, (h.1 1092 (by decide) 2).1⟩
theorem CS_fX {σ τ : SG} {c : Nat} {T : List Nat} {D : List Dc} (h : CS σ c T D) (hcb : cb c) (hf : fX σ τ) : CS τ c T D := CS_sm h (fun b h1 h2 => hf.1 b (by have : c = 5 ∨ c = 197 := hcb; omega))
/-- what the bits of a number mean -/
noncomputable def mng (t : Nat) (x : Int64) : Int64 := (x_X9_meaning (nI t) x).getD 0
theorem X9_meaning {t : Nat} (ht : t ≤ 14) (x : Int64) : x_X9_meaning (nI t) x = some (mng t x) := by
  have : t = 0 ∨ t = 1 ∨ t = 2 ∨ t = 3 ∨ t = 4 ∨ t = 5 ∨ t = 6 ∨ t = 7 ∨ t = 8 ∨ t = 9 ∨ t = 10 ∨ t = 11 ∨ t = 12 ∨ t = 13 ∨ t = 14 := by omega
  unfold mng
  rcases this with z | z | z | z | z | z | z | z | z | z | z | z | z | z | z <;> subst z
  all_goals first | rfl | (unfold x_X9_meaning; simp only [show nI 10 = (10 : Int32) from rfl]; by_cases q : x = 0 <;> simp [q])
/-- a number is put -/
theorem C_setN {c n f a : Nat} {σ : SG} {T : List Nat} {D : List Dc} {G G1 : Gh} {A : AV} {d : Dc} {v : Int64} (hV : VG σ c T D G1) (hE : VE T D G A) (hn : n < gC G) (hF : isF D (gN G n) f d) (h13 : fty T D d ≠ 13) (hnm : nmr (fty T D d) = true) (c1 : gC G1 = gC G) (c2 : gN G1 = gN G) (c3 : ∀ m, m ≠ n → gL G1 m = gL G m) (hp : CPt D G G1 n f d a) : ∃ G2, VG (uL σ a 4 v) c T D G2 ∧ VE T D G2 (aPut T D A n f d v []) ∧ gC G2 = gC G ∧ gN G2 = gN G ∧ gH G2 = gH G1 ∧ gP G2 = gP G1 ∧ gU G2 = gU G1 ∧ fX σ (uL σ a 4 v) := by
  obtain ⟨e, he, hea⟩ := hp.1
  have hn1 : n < gC G1 := by omega
  obtain ⟨b1, b2, b3, b4, ⟨x, y, x1, x2, x3, x4, x5⟩, b6, b7⟩ := hV.e hn1 he
  rw [hea] at b1 b2 x1 x2
  have hu := hV.2.1
  refine ⟨_, VG_set (v := v) (t := eT e) (P' := gP G1) hV hn1 ⟨e, he, hea⟩ (sL_s _ _ _ _) x1 x2 x3 x4 x5 (hV.2.2.1.sm (sm_uL (by omega)) (sm_uL (by omega))) (fun _ _ _ => rfl) (Nat.le_refl _) (fP_L (Or.inl ⟨rfl, Or.inl rfl⟩)), VE_of hE hn hF h13 c1 c2 c3 hp (fun _ => ⟨rfl, rfl⟩) (fun z => by rw [hnm] at z; cases z), c1, c2, rfl, rfl, rfl, ?_⟩
  exact ⟨fun b hb => sm_uL (by omega), fun k hk => ⟨rfl, sL_o (Or.inl (by omega)), rfl⟩, rfl, rfl, rfl⟩
theorem C_num {U c n f : Nat} {σ : SG} {T : List Nat} {D : List Dc} {G : Gh} {A : AV} {d : Dc} (hU : 4000 < U) (hcb : cb c) (hg : GSc T D) (hC : CS σ c T D) (h : VG σ c T D G) (hE : VE T D G A) (hn : n < gC G) (hu : gU G < 700) (hF : isF D (gN G n) f d) (h13 : fty T D d ≠ 13) (hnm : nmr (fty T D d) = true) :
    ∃ τ G', x_X9_putNumber U 1094 (some (gH G n)) (ad c (some f)) σ = some (1, τ) ∧ VG τ c T D G' ∧ VE T D G' (aPut T D A n f d (mng (fty T D d) (sL σ 1094 4)) []) ∧ CS τ c T D ∧ fX σ τ ∧ sI τ 1094 3 = sI σ 1094 3 ∧ gU G' ≤ gU G + 1 ∧ gC G' = gC G ∧ gN G' = gN G ∧ gH G' = gH G ∧ gP G' = gP G := by
  have hl := hg.2.1
  have hfl := (List.getElem?_eq_some_iff.mp hF.1).1
  have hft : fty T D d ≤ 14 := dTy_lt (hg.fld hF.1 hF.2.1).2.2.2.1
  obtain ⟨a, υ, G1, p1, p2, p3, p4, p5, p6, p7, p8, p9, p10, p11, p12, p13⟩ := C_put hU hcb hg hC h hn hu hF h13
  unfold x_X9_putNumber
  have ety : sI υ (c + 5 + f) 8 = nI (fty T D d) := (p3.it hF.1).2.1
  have enum : sL υ 1094 4 = sL σ 1094 4 := (p2.1 1094 (by decide) 4).2.1
  rw [p1, b2_eq, if_neg (by intro z; cases z), ad_some, ck_eq (it_sh hcb (by omega)), ety, enum, X9_meaning hft, b1_eq, ck_eq (nd_sh p5 (by omega)), sb_eq]
  obtain ⟨G2, q1, q2, q3, q4, q5, q6, q7, q8⟩ := C_setN (v := mng (fty T D d) (sL σ 1094 4)) p4 hE hn hF h13 hnm p7 p8 p10 p13
  refine ⟨_, G2, rfl, q1, q2, CS_fX p3 hcb q8, fX_trans (fX_V p2) q8, ?_, by omega, q3, q4, by rw [q5]; exact p9, by rw [q6]; exact p11⟩
  show sI υ 1094 3 = _
  exact (p2.1 1094 (by decide) 3).1
theorem slc_pre {P Q : List Nat} {x y : Nat} (hy : y ≤ P.length) : slc (P ++ Q) x y = slc P x y := by
  by_cases q : x ≤ y
  · unfold slc
    rw [List.drop_append_of_le_length (by omega), List.take_append_of_le_length (by rw [List.length_drop]; omega)]
  · rw [slc_nil (by omega), slc_nil (by omega)]
/-- the value's own cells alone are read -/
theorem VG_sm {σ τ : SG} {c : Nat} {T : List Nat} {D : List Dc} {G : Gh} (h : VG σ c T D G) (hs : ∀ b, (b = 389 ∨ (391 ≤ b ∧ b ≤ 1093)) → sm σ τ b) : VG τ c T D G := by
  have H := h
  obtain ⟨g1, g2, g3, g4, g5, g6, g7, g8, g9, g10⟩ := h
  refine ⟨((hs 389 (Or.inl rfl) 3).1).trans g1, g2, g3.sm (hs _ (by omega)) (hs _ (by omega)), g4, g5, g6, g7, g8, g9, fun m hm => ?_⟩
  have hh := H.h hm
  refine VN_keep (g10 m hm) ((hs _ (by omega) 2).2.2) ((hs _ (by omega) 3).2.2) (fun e he => ?_)
  have hx := H.e hm he
  have h1 := hx.1
  have h2 := hx.2.1
  have c := hs (eA e) (by omega)
  exact ⟨(c 0).2.2, (c 1).2.2, (c 4).2.1, (c 5).1, (c 6).1, fun _ => (c 2).2.2⟩
/-- a text is copied to a node -/
theorem C_copy {U c n f a p q : Nat} {σ : SG} {T S : List Nat} {D : List Dc} {G G1 : Gh} (hU : 4000 < U) (hcb : cb c) (hC : CS σ c T D) (hV : VG σ c T D G1) (hS : RB σ 1 S 0) (hn1 : n < gC G1) (ha : ∃ e ∈ gL G1 n, eA e = a) (hpq : p ≤ q) (hq : q ≤ S.length) (hP : (gP G1).length + (q - p) ≤ 1000) :
    ∃ v τ, x_X9_copy U 1094 (some a) (nI p) (nI q) σ = some (1, τ) ∧ VG τ c T D (gN G1, gH G1, up (gL G1) n (setE a v (slc S p q) (gL G1 n)), gC G1, gU G1, gP G1 ++ slc S p q) ∧ CS τ c T D ∧ fX σ τ ∧ sI τ 1094 3 = nI q := by
  obtain ⟨e, he, hea⟩ := ha
  obtain ⟨b1, b2, b3, b4, b5, b6, b7⟩ := hV.e hn1 he
  rw [hea] at b1 b2 b4
  have hu := hV.2.1
  have hSl : S.length ≤ 700 := hS.2.2.1
  have hT := hV.2.2.1
  unfold x_X9_copy
  rw [X0_size hT, b1_eq, ck_eq (nd_sh b1 (by omega)), sb_eq]
  have S1 : RB (uI σ a 5 (nI (gP G1).length)) 1 S 0 := hS.sm (sm_uI (by omega)) (sm_uI (by omega))
  have T1 : RB (uI σ a 5 (nI (gP G1).length)) 1092 (gP G1) 0 := hT.sm (sm_uI (by omega)) (sm_uI (by omega))
  obtain ⟨υ, a1, a2, a3⟩ := X0_addAll (a := 1092) (b := 1) (k := p) (to := q) (w := (gP G1, 0)) (by decide) (by unfold apt; omega) hpq hq hU T1 S1
  have e1 : (S.drop p).take (q - p) = slc S p q := rfl
  rw [e1, wrL_fit _ _ (show (gP G1).length + (slc S p q).length ≤ ln (1092 + 1) by rw [slc_len hpq hq]; exact hP)] at a2
  have a2' : RB υ 1092 (gP G1 ++ slc S p q) 0 := a2
  rw [a1, b1_eq, X0_size a2', b1_eq, sb_eq, sb_eq]
  have hlen : (gP G1 ++ slc S p q).length = (gP G1).length + (q - p) := by rw [List.length_append, slc_len hpq hq]
  have cell : ∀ b k, b < 1092 → (b ≠ a ∨ (k ≠ 5 ∧ k ≠ 6)) → sI (uI (uI υ a 6 (nI (gP G1 ++ slc S p q).length)) 1094 3 (nI q)) b k = sI σ b k ∧ sL (uI (uI υ a 6 (nI (gP G1 ++ slc S p q).length)) 1094 3 (nI q)) b k = sL σ b k ∧ sP (uI (uI υ a 6 (nI (gP G1 ++ slc S p q).length)) 1094 3 (nI q)) b k = sP σ b k := fun b k h1 h2 => by
    obtain ⟨y1, y2, y3⟩ := a3 b (by omega) (by omega) k
    refine ⟨?_, y2, y3⟩
    rw [sI_o (Or.inl (by omega)), sI_o (by omega), y1, sI_o (by omega)]
  refine ⟨eV e, _, rfl, ?_, ?_, ?_, sI_s _ _ _ _⟩
  · -- the wire's place is no cell of the value
    have V3 := VG_set (τ := uI υ a 6 (nI (gP G1 ++ slc S p q).length)) (v := eV e) (t := slc S p q) (P' := gP G1 ++ slc S p q) (x := (gP G1).length) (y := (gP G1 ++ slc S p q).length) hV hn1 ⟨e, he, hea⟩ ?_ ?_ (sI_s _ _ _ _) (by omega) (Nat.le_refl _) ?_ ?_ ?_ (by omega) ?_
    · exact VG_sm V3 (fun b hb => sm_uI (by omega))
    · show sL υ a 4 = _
      rw [(a3 a (by omega) (by omega) 4).2.1]; exact b4
    · rw [sI_o (Or.inr (by decide)), (a3 a (by omega) (by omega) 5).1, sI_s]
    · unfold slc
      rw [List.drop_left, List.take_of_length_le]
      rw [List.length_append, Nat.add_sub_cancel_left]
      exact Nat.le_refl _
    · exact a2'.sm (sm_uI (by omega)) (sm_uI (by omega))
    · exact fun x y hy => slc_pre hy
    · intro b k hk
      by_cases hb : b = 1092 ∨ b = 1093
      · exact absurd (Or.inr hb) hk
      · obtain ⟨y1, y2, y3⟩ := a3 b (fun z => hb (Or.inl z)) (fun z => hb (Or.inr z)) k
        refine ⟨?_, y2, y3⟩
        rw [sI_o (ne2 (fun z => hk (Or.inl ⟨z.1, Or.inr (Or.inr z.2)⟩))), y1, sI_o (ne2 (fun z => hk (Or.inl ⟨z.1, Or.inr (Or.inl z.2)⟩)))]
  · exact CS_sm hC (fun b h1 h2 k => cell b k (by have : c = 5 ∨ c = 197 := hcb; omega) (Or.inl (by have : c = 5 ∨ c = 197 := hcb; omega)))
  · refine ⟨fun b hb k => ?_, fun k hk => cell 389 k (by decide) (Or.inl (by omega)), ?_, ?_, ?_⟩
    · rcases Nat.lt_or_ge b 1092 with z | z
      · exact cell b k z (Or.inl (by omega))
      · obtain ⟨y1, y2, y3⟩ := a3 b (by omega) (by omega) k
        refine ⟨?_, y2, y3⟩
        rw [sI_o (Or.inl (by omega)), sI_o (Or.inl (by omega)), y1, sI_o (Or.inl (by omega))]
    · rw [sI_o (Or.inr (by decide)), sI_o (Or.inl (by omega)), (a3 1094 (by omega) (by omega) 5).1, sI_o (Or.inl (by omega))]
    · rw [sI_o (Or.inl (by decide)), sI_o (Or.inl (by omega)), (a3 1095 (by omega) (by omega) 5).1, sI_o (Or.inl (by omega))]
    · rw [sI_o (Or.inl (by decide)), sI_o (Or.inl (by omega)), a2'.2.1, hT.2.1]
