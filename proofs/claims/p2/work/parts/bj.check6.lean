/-! ===== the reference's check ===== -/
theorem N_krun {U : Nat} {T E' : List Nat} {D E : List Dc} {K : Int32 → SG → Option (Int32 × SG)} (hU : 4000 < U) (hg : GSc T D) (hh : GSc E' E) : ∀ (j U1 : Nat) (stk : List Fr) (met : List Nat) (σ : SG) (r : Nat) (stk2 : List Fr), kRun T E' D E j stk met = some (r, stk2) → 2 * j + 4 < U1 → KRr σ T E' D E stk met → KI T E' D E stk met → ∃ τ, x_X12_check_L75 U 1101 K U1 0 σ = K (nI r) τ ∧ RS τ 0 T D ∧ sI τ 1101 106 = nI stk2.length ∧ (r ≠ 0 → RFw D τ stk2 ∧ ∃ met2, KI T E' D E stk2 met2) ∧ fP PCk σ τ ∧ r ≤ 3 := by
  intro j
  induction j with
  | zero => intro U1 stk met σ r stk2 h; cases h
  | succ j ih =>
    intro U1 stk met σ r stk2 h hu hR hK
    cases stk with
    | nil =>
      cases h
      obtain ⟨V, rfl⟩ : ∃ V, U1 = V + 1 := ⟨U1 - 1, by omega⟩
      rw [x_X12_check_L75, hR.2.2.1, if_neg (show ¬ (0 : Int32) < nI ([] : List Fr).length by decide)]
      exact ⟨σ, rfl, hR.1, hR.2.2.1, fun z => absurd rfl z, fP_refl _ σ, by omega⟩
    | cons fr Q =>
      rw [kRun] at h
      obtain ⟨n0, n1⟩ := N_kstep (U := U) (K := K) hU hg hh hR hK
      have hK2 := KI_step hg hh hK
      by_cases q : (kSt T E' D E (fr :: Q) met).1 = 0
      · rw [if_pos q] at h
        obtain ⟨τ, ⟨c, c1, c2, c3⟩, t2, t3⟩ := n0 q
        obtain ⟨V, rfl⟩ : ∃ V, U1 = V + 2 := ⟨U1 - 2, by omega⟩
        rw [c3 V]
        obtain ⟨υ, u1, u2, u3, u4, u5, u6⟩ := ih (V + 2 - c) _ _ τ r stk2 h (by omega) t2 hK2
        exact ⟨υ, u1, u2, u3, u4, fP_trans t3 u5, u6⟩
      · rw [if_neg q] at h
        obtain ⟨e1, e2⟩ := Prod.mk.inj (Option.some.inj h)
        obtain ⟨τ, t1, t2, t3, t4, t5⟩ := n1 q
        obtain ⟨V, rfl⟩ : ∃ V, U1 = V + 3 := ⟨U1 - 3, by omega⟩
        rw [t1 V, ← e1, ← e2]
        have hr3 : (kSt T E' D E (fr :: Q) met).1 ≤ 3 := by
          obtain ⟨m, u, k, b⟩ := fr
          obtain ⟨hM, hN, _⟩ := hK.1 _ (List.mem_cons_self ..)
          rcases kSt_cases (k := k) (b := b) (Q := Q) (met := met) hg hh (show isM D m from hM) (show isM E u from hN) with ⟨_, e⟩ | ⟨f, d, hf, hd, ⟨_, e⟩ | ⟨g, e0, hgf, he, ⟨_, e⟩ | ⟨_, _, e⟩ | ⟨q1, q2, ⟨t, v, t1, t2, t3, t4, t5, t6, t7, e⟩ | ⟨t1, e⟩⟩⟩⟩
          · rw [e]; exact Nat.zero_le 3
          · rw [e]; exact Nat.zero_le 3
          · rw [e]; show (1 : Nat) ≤ 3; decide
          · rw [e]; show (2 : Nat) ≤ 3; decide
          · rw [e]; exact Nat.zero_le 3
          · rw [e]
            split
            · exact Nat.le_refl 3
            · exact Nat.zero_le 3
        exact ⟨τ, rfl, t2, t3, fun _ => ⟨t4, _, hK2⟩, t5, hr3⟩
/-- where a check stops every frame has its field -/
theorem stop_f {T E' : List Nat} {D E : List Dc} (hg : GSc T D) (hh : GSc E' E) : ∀ (j : Nat) (stk : List Fr) (met : List Nat) (r : Nat) (stk2 : List Fr), kRun T E' D E j stk met = some (r, stk2) → KI T E' D E stk met → r ≠ 0 → ∀ fr ∈ stk2, ∃ f d, (chF D fr.1)[fr.2.2.1]? = some f ∧ isF D fr.1 f d := by
  intro j
  induction j with
  | zero => intro stk met r stk2 h; cases h
  | succ j ih =>
    intro stk met r stk2 h hK hr
    cases stk with
    | nil => cases h; exact absurd rfl hr
    | cons fr Q =>
      rw [kRun] at h
      by_cases q : (kSt T E' D E (fr :: Q) met).1 = 0
      · rw [if_pos q] at h
        exact ih _ _ r stk2 h (KI_step hg hh hK) hr
      · rw [if_neg q] at h
        obtain ⟨e1, e2⟩ := Prod.mk.inj (Option.some.inj h)
        obtain ⟨m, u, k, b⟩ := fr
        obtain ⟨i1, i2, _⟩ := hK
        have i2' : ∀ fr ∈ Q, fr.2.2.2 = true := i2
        obtain ⟨hM, hN, _⟩ := i1 _ (List.mem_cons_self ..)
        have hQ : ∀ fr ∈ Q, ∃ f d, (chF D fr.1)[fr.2.2.1]? = some f ∧ isF D fr.1 f d := by
          intro fr hfr
          obtain ⟨x1, x2, x3, _⟩ := i1 fr (List.mem_cons_of_mem _ hfr)
          obtain ⟨f, _, _, _, _, _, y1, _⟩ := x3 (i2' fr hfr)
          obtain ⟨d, hd⟩ := (chF_mem hg x1).mp (List.mem_of_getElem? y1)
          exact ⟨f, d, y1, hd⟩
        have top : ∀ f d, (chF D m)[k]? = some f → isF D m f d → ∀ fr ∈ (m, u, k, b) :: Q, ∃ f d, (chF D fr.1)[fr.2.2.1]? = some f ∧ isF D fr.1 f d := by
          intro f d hf hd fr hfr
          rcases List.mem_cons.mp hfr with z | z
          · rw [z]; exact ⟨f, d, hf, hd⟩
          · exact hQ fr z
        rw [← e2]
        rcases kSt_cases (k := k) (b := b) (Q := Q) (met := met) hg hh (show isM D m from hM) (show isM E u from hN) with ⟨_, e⟩ | ⟨f, d, hf, hd, ⟨_, e⟩ | ⟨g, e0, hgf, he, ⟨_, e⟩ | ⟨_, _, e⟩ | ⟨q1, q2, ⟨t, v, t1, t2, t3, t4, t5, t6, t7, e⟩ | ⟨t1, e⟩⟩⟩⟩
        · rw [e] at q; exact absurd rfl q
        · rw [e] at q; exact absurd rfl q
        · rw [e]; exact top f d hf hd
        · rw [e]; exact top f d hf hd
        · rw [e] at q; exact absurd rfl q
        · rw [e] at q ⊢
          split
          · exact top f d hf hd
          · rename_i z
            rw [if_neg z] at q
            exact absurd rfl q
theorem RFw_get {D : List Dc} {σ : SG} : ∀ (Q : List Fr), RFw D σ Q → ∀ k, k < Q.length → ∃ fr a, Q.reverse[k]? = some fr ∧ sI σ 1182 k = nI (ordM D fr.1) ∧ (a = 2 * fr.2.2.1 + 1 ∨ a = 2 * fr.2.2.1 + 2) ∧ sI σ 1184 k = nI a := by
  intro Q
  induction Q with
  | nil => intro _ k hk; simp at hk
  | cons fr Q ih =>
    intro h k hk
    rw [List.length_cons] at hk
    rw [List.reverse_cons]
    by_cases q : k = Q.length
    · obtain ⟨h1, ⟨a, h2, h3⟩, _⟩ := h
      refine ⟨fr, a, ?_, by rw [q]; exact h1, h2, by rw [q]; exact h3⟩
      rw [List.getElem?_append_right (by rw [List.length_reverse]; omega), List.length_reverse, q, Nat.sub_self]
      rfl
    · obtain ⟨fr', a, h1, h2⟩ := ih h.2.2 k (by omega)
      refine ⟨fr', a, ?_, h2⟩
      rw [List.getElem?_append_left (by rw [List.length_reverse]; omega)]
      exact h1
theorem RFw_keep {D : List Dc} {σ τ : SG} : ∀ (Q : List Fr), RFw D σ Q → (∀ b k, (b = 1182 ∨ b = 1184) → sI τ b k = sI σ b k) → RFw D τ Q := by
  intro Q
  induction Q with
  | nil => intro _ _; exact trivial
  | cons fr Q ih =>
    intro h hk
    obtain ⟨h1, ⟨a, h2, h3⟩, h4⟩ := h
    exact ⟨(hk 1182 _ (by omega)).trans h1, ⟨a, h2, (hk 1184 _ (by omega)).trans h3⟩, ih h4 hk⟩
theorem N_way_L {U r : Nat} {T : List Nat} {D : List Dc} {stk : List Fr} (hU : 4000 < U) (hg : GSc T D) (hr : r ≠ 0) (hr3 : r ≤ 3) (hF : ∀ fr ∈ stk, isM D fr.1 ∧ fr.2.2.1 < 300 ∧ ∃ f d, (chF D fr.1)[fr.2.2.1]? = some f ∧ isF D fr.1 f d) (hlen : stk.length ≤ 256) : ∀ (j k U1 : Nat) (σ : SG) (w : List Nat × Int32), k + j = stk.length → j < U1 → RS σ 0 T D → sI σ 1101 106 = nI stk.length → RFw D σ stk → ROr σ w → ∃ τ, x_X12_check_L97 U 1101 (nI r) U1 (nI k) σ = some (nI r, τ) ∧ ROr τ (wrL 4000 w ((stk.reverse.drop k).flatMap (wyB D))) ∧ fw σ τ := by
  have hr0 : ¬ nI r = 0 := fun z => hr ((nI_eq (b := 0) (by omega) (by decide)).mp z)
  intro j
  induction j with
  | zero =>
    intro k U1 σ w hk hu hS h6 hW hw
    obtain ⟨V, rfl⟩ : ∃ V, U1 = V + 1 := ⟨U1 - 1, by omega⟩
    refine ⟨σ, ?_, ?_, fw_refl σ⟩
    · rw [x_X12_check_L97, h6, if_neg (fun z => by have := (ltI (by omega) (by omega)).mp z; omega)]
    · rw [List.drop_eq_nil_of_le (by rw [List.length_reverse]; omega)]; exact hw
  | succ j ih =>
    intro k U1 σ w hk hu hS h6 hW hw
    obtain ⟨V, rfl⟩ : ∃ V, U1 = V + 1 := ⟨U1 - 1, by omega⟩
    obtain ⟨fr, a, hfr, g1, g2, g3⟩ := RFw_get stk hW k (by omega)
    have hkl := (List.getElem?_eq_some_iff.mp hfr).1
    have hfe : stk.reverse[k] = fr := (List.getElem?_eq_some_iff.mp hfr).2
    have hmem : fr ∈ stk := List.mem_reverse.mp (List.mem_of_getElem? hfr)
    obtain ⟨hM, hk3, f, d, hf, hd⟩ := hF fr hmem
    have ha1 : nI a - 1 = nI (a - 1) := nI_sub (b := 1) (by omega)
    have ek : (a - 1) / 2 = fr.2.2.1 := by omega
    have hmA : mAt (chF D fr.1) (nI fr.2.2.1) = (chF D fr.1)[fr.2.2.1]? := by unfold mAt; rw [if_neg (nI_neg (by omega)), clampN (by omega)]
    have hfa := N_fieldAt (U := U) (s := 0) (x := nI fr.2.2.1) hU (by decide) hg hS hM
    have hfa' : x_X12_fieldAt U 1101 0 (nI (ordM D fr.1)) (nI fr.2.2.1) σ = some (nI (fx D 0 f)) := by
      rw [show nI (fx D 0 f) = fIx D 0 (some f) from rfl, ← hf, ← hmA]; exact hfa
    obtain ⟨f1, _, f3, _⟩ := hS.f hd.1 hd.2.1
    have hbd := (hg.fld hd.1 hd.2.1).2.2.1
    obtain ⟨τ, t1, t2, t3⟩ := N_varW (U := U) (x := lN (dN d).2) hU hw
    rw [x_X12_check_L97, h6, if_pos ((ltI (by omega) (by omega)).mpr (by omega)), if_neg hr0, ix_in (by omega) (by decide), ix_in (by omega) (by decide), g1, g3, ha1, half2 _ (by omega), ek, hfa', b1_eq, ix_in (by omega) (by decide), f3, nI_l (by omega), t1, b1_eq, nI_1]
    obtain ⟨υ, u1, u2, u3⟩ := ih (k + 1) V τ _ (by omega) (by omega) (RS_fw hS t3) (((fw_I t3 (by decide) (by omega)).1).trans h6) (RFw_keep stk hW (fun b k hb => (fw_I t3 (by omega) (by omega)).1)) t2
    refine ⟨υ, u1, ?_, fw_trans t3 u3⟩
    have ewy : wyB D fr = vB (lN (dN d).2) := by unfold wyB; rw [hf]; simp only; rw [nmn_some hd.1]
    rw [List.drop_eq_getElem_cons hkl, List.flatMap_cons, hfe, ewy, wrL_app]
    exact u2
theorem N_ck_0 {U : Nat} {K : SG → Option (Int32 × SG)} {v1 v2 : Int32} : ∀ (j k U1 : Nat) (σ : SG), k + j = 256 → j < U1 → (∀ c, c < k → sI σ 1181 c = 0) → ∃ τ, x_X12_check_L42 U 1101 K v1 v2 U1 (nI k) σ = K τ ∧ (∀ c, c < 256 → sI τ 1181 c = 0) ∧ fP PCk σ τ ∧ (∀ k, sI τ 1101 k = sI σ 1101 k) := by
  intro j
  induction j with
  | zero =>
    intro k U1 σ hk hu h
    obtain ⟨V, rfl⟩ : ∃ V, U1 = V + 1 := ⟨U1 - 1, by omega⟩
    have : k = 256 := by omega
    subst this
    rw [x_X12_check_L42, if_neg (show ¬ nI 256 < 256 by decide)]
    exact ⟨σ, rfl, h, fP_refl _ σ, fun _ => rfl⟩
  | succ j ih =>
    intro k U1 σ hk hu h
    obtain ⟨V, rfl⟩ : ∃ V, U1 = V + 1 := ⟨U1 - 1, by omega⟩
    rw [x_X12_check_L42, if_pos (show nI k < 256 from (ltI (b := 256) (by omega) (by decide)).mpr (by omega)), ix_in (by omega) (by decide), sb_eq, nI_1]
    obtain ⟨τ, t1, t2, t3, t4⟩ := ih (k + 1) V (uI σ 1181 k (vp_nar .boolean 0)) (by omega) (by omega) (fun c hc => by
      by_cases q : c = k
      · rw [q, sI_s]; decide
      · rw [sI_o (Or.inr q)]; exact h c (by omega))
    exact ⟨τ, t1, t2, fP_trans (fP_u (by unfold PCk; omega)) t3, fun k' => (t4 k').trans (sI_o (Or.inl (by decide)))⟩
def PchK (b k : Nat) : Prop := PCk b k ∨ (b = 1101 ∧ (k = 3 ∨ k = 4 ∨ k = 5)) ∨ b = 1103
theorem fw_PchK {σ τ : SG} (h : fw σ τ) : fP PchK σ τ := fun b k hb => by
  by_cases q : b = 1101
  · subst q
    have : k ∉ [3, 4] := by unfold PchK at hb; simp; omega
    exact ⟨h.2.1 k this, h.2.2.1 k, h.2.2.2 k⟩
  · exact h.1 b q (fun z => hb (by unfold PchK; omega)) k
theorem RS_PchK {σ τ : SG} {s : Nat} {T : List Nat} {D : List Dc} (h : RS σ s T D) (hf : fP PchK σ τ) : RS τ s T D := RS_keep h (fun b k hb => (hf b k (by unfold PKP at hb; unfold PchK PCk; omega)).1)
/-- the reference's check -/
theorem N_check {U : Nat} {σ : SG} {T E' : List Nat} {D E : List Dc} {x y : Int32} (hU : 210000 < U) (hg : GSc T D) (hh : GSc E' E) (hS : RS σ 0 T D) (hS' : RS σ 1 E' E) : ∃ v τ, x_X12_check U 1101 x y σ = some (v, τ) ∧ ROr τ ((chS T E' D E x y).2, 0) ∧ sI τ 1101 5 = fdC (chS T E' D E x y).1 ∧ (∀ w, (chS T E' D E x y).1 = .inl (some (.int w)) → v = w) ∧ fP PchK σ τ := by
  have hU4 : 4000 < U := by omega
  have hl := hg.2.1
  have hl' := hh.2.1
  unfold x_X12_check x_X12_check_27
  obtain ⟨σ2, a1, a2, a3⟩ := X12_emptyOut (σ := σ)
  have S2 := RS_fw hS a3
  have S2' := RS_fw hS' a3
  have i1 : x_X12_isMessage 1101 0 x σ2 = some (zI (msg D x).isSome) := N_isMessage (s := 0) (by decide) hl S2
  have i2 : x_X12_isMessage 1101 1 y σ2 = some (zI (msg E y).isSome) := N_isMessage (s := 1) (by decide) hl' S2'
  rw [a1, b1_eq, i1, b1_eq, ifz, i2, b1_eq, ifz]
  have F2 := fw_PchK a3
  have bad : ∃ v τ, x_X12_check_28 U 1101 x y 1 σ2 = some (v, τ) ∧ ROr τ ([], 0) ∧ sI τ 1101 5 = 1 ∧ fP PchK σ τ := by
    unfold x_X12_check_28
    rw [sb_eq, sI_s, if_neg (show ¬ (1 : Int32) = 0 by decide)]
    exact ⟨0, _, rfl, ROr_uI a2 (by decide) (by decide), sI_s _ _ _ _, fP_trans F2 (fP_u (by unfold PchK; omega))⟩
  unfold chS
  cases hm : msg D x with
  | none =>
    obtain ⟨v, τ, b1', b2', b3', b4'⟩ := bad
    rw [Option.isSome_none, if_neg (show ¬ false = true by decide)]
    exact ⟨v, τ, b1', b2', b3', fun w z => (by cases z), b4'⟩
  | some m =>
    rw [Option.isSome_some, if_pos (show true = true from rfl)]
    cases hu : msg E y with
    | none =>
      obtain ⟨v, τ, b1', b2', b3', b4'⟩ := bad
      rw [Option.isSome_none, if_neg (show ¬ false = true by decide)]
      exact ⟨v, τ, b1', b2', b3', fun w z => (by cases z), b4'⟩
    | some u =>
      rw [Option.isSome_some, if_pos (show true = true from rfl)]
      obtain ⟨hM, hx⟩ := msg_some hm
      obtain ⟨hN, hy⟩ := msg_some hu
      simp only
      unfold x_X12_check_28
      rw [sb_eq, sI_s, if_pos (show (0 : Int32) = 0 from rfl)]
      have F5 : fP PchK σ2 (uI σ2 1101 5 0) := fP_u (by unfold PchK; omega)
      have R5 : ROr (uI σ2 1101 5 0) ([], 0) := ROr_uI a2 (by decide) (by decide)
      have c5 : sI (uI σ2 1101 5 0) 1101 5 = 0 := sI_s _ _ _ _
      generalize uI σ2 1101 5 0 = σ5 at *
      have S5 := RS_PchK S2 F5
      have S5' := RS_PchK S2' F5
      obtain ⟨τ2, b1', b2', b3', b4'⟩ := N_ck_0 (U := U) (K := fun σ14 => sb (uI σ14 1101 106 0) fun σ15 => b1 (x_X12_open 1101 x y σ15) fun σ17 => x_X12_check_L75 U 1101 (fun w23 σ24 => x_X12_check_94 U 1101 w23 σ24) U 0 σ17) (v1 := x) (v2 := y) 256 0 U σ5 (by omega) (by omega) (fun c hc => by omega)
      have b1'' : x_X12_check_L42 U 1101 (fun σ14 => sb (uI σ14 1101 106 0) fun σ15 => b1 (x_X12_open 1101 x y σ15) fun σ17 => x_X12_check_L75 U 1101 (fun w23 σ24 => x_X12_check_94 U 1101 w23 σ24) U 0 σ17) x y U 0 σ5 = _ := b1'
      rw [b1'', sb_eq]
      have F6 : fP PCk σ5 (uI τ2 1101 106 0) := fP_trans b3' (fP_u (by unfold PCk; omega))
      have c106 : sI (uI τ2 1101 106 0) 1101 106 = nI 0 := sI_s _ _ _ _
      have c81 : ∀ c, c < 256 → sI (uI τ2 1101 106 0) 1181 c = 0 := fun c hc => (sI_o (Or.inl (by decide))).trans (b2' c hc)
      generalize uI τ2 1101 106 0 = τ3 at *
      obtain ⟨τ4, o1, o2, o3, o4, o5, o6, o7, o8, o9⟩ := N_open hg hh hM hN c106 (by decide)
      have o1' : x_X12_open 1101 x y τ3 = some τ4 := by rw [hx, hy]; exact o1
      rw [o1', b1_eq]
      have F7 := fP_trans F6 o2
      have K1 : KRr τ4 T E' D E [(m, u, 0, false)] [cod D E m u] := ⟨RS_PCk S5 F7, RS_PCk S5' F7, o3, ⟨o4, o5, o6, trivial⟩, fun c hc => by
        by_cases q : c = cod D E m u
        · rw [q, o8, decide_eq_true (List.mem_singleton.mpr rfl)]
        · rw [o9 c q, c81 c hc, decide_eq_false (fun z => q (List.mem_singleton.mp z))]; rfl⟩
      obtain ⟨⟨r, stk⟩, hr⟩ := kRun_0 hg hh hM hN
      obtain ⟨τ5, z1, z2, z3, z4, z5, z6⟩ := N_krun (U := U) (K := fun w23 σ24 => x_X12_check_94 U 1101 w23 σ24) hU4 hg hh 103000 U _ _ τ4 r stk hr (by omega) K1 (KI_0 hg hh hM hN)
      rw [z1]
      have F8 : fP PCk σ5 τ5 := fP_trans F7 z5
      have FA : fP PchK σ τ5 := fP_trans (fP_trans F2 F5) (fP_mono F8 (fun b k z => Or.inl z))
      have R8 : ROr τ5 ([], 0) := ⟨((F8 1101 3 (by unfold PCk; omega)).1).trans R5.1, ((F8 1101 4 (by unfold PCk; omega)).1).trans R5.2.1, fun i c hi => (by cases hi), Nat.zero_le _⟩
      have c58 : sI τ5 1101 5 = 0 := ((F8 1101 5 (by unfold PCk; omega)).1).trans c5
      unfold ckS x_X12_check_94
      rw [hr]
      simp only
      by_cases q0 : r = 0
      · subst q0
        rw [if_pos rfl]
        obtain ⟨V, rfl⟩ : ∃ V, U = V + 1 := ⟨U - 1, by omega⟩
        rw [x_X12_check_L97, if_pos (show nI 0 = 0 from rfl), ite_self]
        exact ⟨_, τ5, rfl, R8, c58, fun w z => (by cases z; rfl), FA⟩
      · obtain ⟨hW, met2, hK2⟩ := z4 q0
        have hst := stop_f hg hh 103000 _ _ r stk hr (KI_0 hg hh hM hN) q0
        obtain ⟨k1, k2, k3, k4, k5⟩ := hK2
        have hlen : stk.length ≤ 256 := by
          have := nd_len 256 _ k4 0 (fun a ha => ⟨Nat.zero_le _, k5 a ha⟩)
          omega
        obtain ⟨τ6, w1, w2, w3⟩ := N_way_L (U := U) (r := r) (stk := stk) hU4 hg q0 z6 (fun fr hfr => ⟨(k1 fr hfr).1, by
          have := (k1 fr hfr).2.2.2
          have := chF_len (a := fr.1) hl
          omega, hst fr hfr⟩) hlen stk.length 0 U τ5 ([], 0) (by omega) (by omega) z2 z3 hW R8
        have w1' : x_X12_check_L97 U 1101 (nI r) U 0 τ5 = some (nI r, τ6) := w1
        rw [w1', if_neg q0]
        have hwl := wy_len (D := D) stk.reverse
        rw [List.length_reverse] at hwl
        rw [List.drop_zero, wrL_fit _ _ (by show 0 + _ ≤ 4000; omega)] at w2
        exact ⟨_, τ6, rfl, w2, ((fw_I w3 (by decide) (by omega)).1).trans c58, fun w z => (by cases z; rfl), fP_trans FA (fw_PchK w3)⟩
