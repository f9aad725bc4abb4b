/-! ===== check: the class's loop ===== -/
theorem C_look {U : Nat} {fr : Fr} {Q : List Fr} {met : List Nat} {σ : SG} {T E' : List Nat} {D E : List Dc} (hU : 4000 < U) (hg : GSc T D) (hh : GSc E' E) (h : KCs σ T E' D E (fr :: Q) met) (hK : KI T E' D E (fr :: Q) met) : ∃ τ, x_X1_look U 1097 σ = some (nI (kSt T E' D E (fr :: Q) met).1, τ) ∧ KCs τ T E' D E (kSt T E' D E (fr :: Q) met).2.1 (kSt T E' D E (fr :: Q) met).2.2 ∧ fKc σ τ := by
  obtain ⟨m, u, k, b⟩ := fr
  have hS := h
  obtain ⟨h1, h2, h3, ⟨c1, c2, c3⟩, h5⟩ := h
  obtain ⟨k1, k2, k3, k4, k5⟩ := id hK
  obtain ⟨hM, hN, _⟩ := k1 _ (List.mem_cons_self ..)
  have hM' : isM D m := hM
  have hN' : isM E u := hN
  have hl := hg.2.1
  have hl' := hh.2.1
  rw [List.length_cons] at h3 k3
  have hm256 : met.length ≤ 256 := by
    have := nd_len 256 _ k4 0 (fun a ha => ⟨Nat.zero_le _, k5 a ha⟩)
    omega
  obtain ⟨dm, hdm, _⟩ := id hM'
  have hml := (List.getElem?_eq_some_iff.mp hdm).1
  obtain ⟨du, hdu, _⟩ := id hN'
  have hul := (List.getElem?_eq_some_iff.mp hdu).1
  have e1 : nI (Q.length + 1) - 1 = nI Q.length := nI_sub (b := 1) (by omega)
  have c1' : sP σ 1098 Q.length = ad 5 ((chF D m)[k]?) := c1
  have c2' : sP σ 1099 Q.length = some (197 + 5 + u) := c2
  have lt256 : nI Q.length < 256 := (ltI (b := 256) (by omega) (by decide)).mpr (by omega)
  unfold x_X1_look
  rw [h3, e1, if_neg (nI_neg (by omega)), if_pos lt256, if_pos lt256, ix_in (by omega) (by decide), c1', ix_in (by omega) (by decide), c2', if_neg (show ¬ some (197 + 5 + u) = none by intro z; cases z), ix_in (by omega) (by decide), c2']
  -- on to the next field
  have adv : ∀ f, (chF D m)[k]? = some f → ∃ τ, (ck 3 (some (5 + 5 + f)) fun q16 => ix (nI Q.length) 256 fun j19 => ckN 3 (sP σ q16 16) <| sb (uP σ 1098 j19 (sP σ q16 16)) fun σ23 => some ((0 : Int32), σ23)) = some (0, τ) ∧ KCs τ T E' D E ((m, u, k + 1, false) :: Q) met ∧ fKc σ τ := by
    intro f hf
    have hfl := chF_lt (List.mem_of_getElem? hf)
    have hnx := LK_next _ _ k f (h1.ch hml) hf
    rw [ck_eq (it_sh cb5 (by omega)), ix_in (by omega) (by decide), hnx, ckN_ad cb5 (fun i hi => by have := chF_lt (List.mem_of_getElem? hi); omega), sb_eq]
    have F : fKc σ (uP σ 1098 Q.length (ad 5 ((chF D m)[k + 1]?))) := fun b _ b2 _ _ => sm_uP b2
    refine ⟨_, rfl, ⟨CS_fKc h1 cb5 F, CS_fKc h2 cb197 F, by rw [List.length_cons]; exact h3, ⟨sP_s _ _ _ _, (sP_o (Or.inl (by decide))).trans c2, CF_keep Q c3 (fun k' hk' => ⟨sP_o (Or.inr (by omega)), sP_o (Or.inl (by decide))⟩)⟩, h5⟩, F⟩
  rcases kSt_cases (k := k) (b := b) (Q := Q) (met := met) hg hh hM' hN' with ⟨hf, e⟩ | ⟨f, d, hf, hd, hrest⟩
  · rw [e, hf, if_pos (show ad 5 none = none from rfl), sb_eq]
    have F : fKc σ (uI σ 1097 4 (nI Q.length)) := fun b b1 _ _ _ => sm_uI b1
    exact ⟨_, rfl, ⟨CS_fKc h1 cb5 F, CS_fKc h2 cb197 F, sI_s _ _ _ _, CF_keep Q c3 (fun _ _ => ⟨rfl, rfl⟩), fun c hc => (sI_o (Or.inl (by decide))).trans (h5 c hc)⟩, F⟩
  · have hfl := (List.getElem?_eq_some_iff.mp hd.1).1
    have hft : fty T D d ≤ 14 := dTy_lt (hg.fld hd.1 hd.2.1).2.2.2.1
    rw [hf, if_neg (show ¬ ad 5 (some f) = none by intro z; cases z), ad_some, ck_eq (it_sh cb5 (by omega)), ck_eq (it_sh cb197 (by omega)), C_fresh hU hg hh h1 h2 hN' hd, b1_eq]
    unfold x_X1_look_80
    rcases hrest with ⟨hgf, e⟩ | ⟨g, x, hgf, hx, hrest⟩
    · rw [e, hgf, if_pos (show ad 197 none = none from rfl)]
      exact adv f hf
    · have hgl := (List.getElem?_eq_some_iff.mp hx.1).1
      have hfu : fty E' E x ≤ 14 := dTy_lt (hh.fld hx.1 hx.2.1).2.2.2.1
      have o11 : sI σ (5 + 5 + f) 11 = zI (dR d) := (h1.it hd.1).1.2.2.2.2.2.2.2.2.1
      have g11 : sI σ (197 + 5 + g) 11 = zI (dR x) := (h2.it hx.1).1.2.2.2.2.2.2.2.2.1
      have o8 : sI σ (5 + 5 + f) 8 = nI (fty T D d) := (h1.it hd.1).2.1
      have g8 : sI σ (197 + 5 + g) 8 = nI (fty E' E x) := (h2.it hx.1).2.1
      have o10 : sP σ (5 + 5 + f) 10 = ad 5 (ftg T D d) := (h1.it hd.1).2.2.1
      have g10 : sP σ (197 + 5 + g) 10 = ad 197 (ftg E' E x) := (h2.it hx.1).2.2.1
      have er : zI (dR d) = zI (dR x) ↔ dR d = dR x := by cases dR d <;> cases dR x <;> decide
      have e13 : nI (fty T D d) = 13 ↔ fty T D d = 13 := nI_eq (b := 13) (by omega) (by decide)
      rw [hgf, if_neg (show ¬ ad 197 (some g) = none by intro z; cases z), ad_some, ck_eq (it_sh cb5 (by omega)), ck_eq (it_sh cb197 (by omega)), o11, g11, ifd er, o8, g8, C_und _ (by omega) _ (by omega), b1_eq, ifz, ifd e13, o10, g10]
      -- the oneofs
      have torn : ∀ υ, υ = σ → ∃ τ, x_X1_look_152 U 1097 (nI Q.length) (some (5 + 5 + f)) (some (197 + 5 + g)) υ = some (nI (if trn D E m u f g then (3, (m, u, k, b) :: Q, met) else (0, (m, u, k + 1, false) :: Q, met)).1, τ) ∧ KCs τ T E' D E (if trn D E m u f g then (3, (m, u, k, b) :: Q, met) else (0, (m, u, k + 1, false) :: Q, met)).2.1 (if trn D E m u f g then (3, (m, u, k, b) :: Q, met) else (0, (m, u, k + 1, false) :: Q, met)).2.2 ∧ fKc σ τ := by
        intro υ hυ
        subst hυ
        unfold x_X1_look_152
        rw [ix_in (by omega) (by decide), c2', C_torn hU hg hh h1 h2 hM' hN' hd hx, b1_eq, ifz]
        cases trn D E m u f g with
        | true =>
          rw [if_pos (show true = true from rfl), if_pos (show true = true from rfl)]
          exact ⟨υ, rfl, hS, fKc_refl υ⟩
        | false =>
          rw [if_neg (show ¬ false = true by decide), if_neg (show ¬ false = true by decide)]
          exact adv f hf
      rcases hrest with ⟨q1, e⟩ | ⟨q1, q2, e⟩ | ⟨q1, q2, ⟨t, v, t1, t2, t3, t4, t5, t6, t7, e⟩ | ⟨t1, e⟩⟩
      · rw [e, if_neg q1]
        exact ⟨σ, rfl, hS, fKc_refl σ⟩
      · rw [e, if_pos q1, q2, if_neg (show ¬ false = true by decide)]
        exact ⟨σ, rfl, hS, fKc_refl σ⟩
      · rw [e, if_pos q1, q2, if_pos (show true = true from rfl), if_pos t1, t3, t4]
        obtain ⟨τ, y1, y2, y3, y4, y5, y6, y7⟩ := (C_enter hg hh hS (by rw [List.length_cons]; exact k3) k4 k5 t5 t6).2 t7
        rw [y1, b2_eq, if_neg (show ¬ (1 : Int32) = 0 by decide)]
        rw [List.length_cons] at y3 y4 y5 y6
        refine ⟨τ, rfl, ⟨CS_fKc h1 cb5 y2, CS_fKc h2 cb197 y2, by rw [List.length_cons, List.length_cons]; exact y3, ⟨by rw [List.length_cons]; exact y4, by rw [List.length_cons]; exact y5, ?_, ?_, ?_⟩, y7⟩, y2⟩
        · exact ((y6 Q.length (by omega)).1).trans c1
        · exact ((y6 Q.length (by omega)).2).trans c2
        · exact CF_keep Q c3 (fun k' hk' => y6 k' (by omega))
      · rw [e, if_pos q1, q2, if_pos (show true = true from rfl)]
        by_cases q13 : fty T D d = 13
        · obtain ⟨t, v, x2, x3, x4, x5, x6, x7⟩ := t1 q13
          rw [if_pos q13, x3, x4, (C_enter hg hh hS (by rw [List.length_cons]; exact k3) k4 k5 x5 x6).1 x7, b2_eq, if_pos (show (0 : Int32) = 0 from rfl)]
          exact torn σ rfl
        · rw [if_neg q13]
          exact torn σ rfl
theorem C_cmp_L {U : Nat} {T E' : List Nat} {D E : List Dc} {K : Int32 → SG → Option (Int32 × SG)} (hU : 4000 < U) (hg : GSc T D) (hh : GSc E' E) : ∀ (j v U1 : Nat) (stk : List Fr) (met : List Nat) (σ : SG) (r : Nat) (stk2 : List Fr), kRun T E' D E j stk met = some (r, stk2) → v + j < 900000 → j < U1 → KCs σ T E' D E stk met → KI T E' D E stk met → ∃ τ met2, x_X1_compare_L38 U 1097 K U1 (nI v) σ = (if r = 0 then some (0, τ) else K (nI r) τ) ∧ KCs τ T E' D E stk2 met2 ∧ KI T E' D E stk2 met2 ∧ fKc σ τ ∧ r ≤ 3 := by
  intro j
  induction j with
  | zero => intro v U1 stk met σ r stk2 h; cases h
  | succ j ih =>
    intro v U1 stk met σ r stk2 h hv hu hC hK
    obtain ⟨V, rfl⟩ : ∃ V, U1 = V + 1 := ⟨U1 - 1, by omega⟩
    have h10 : nI v < 1000000 := (ltI (b := 1000000) (by omega) (by decide)).mpr (by omega)
    rw [x_X1_compare_L38, if_pos h10, hC.2.2.1]
    cases stk with
    | nil =>
      cases h
      rw [if_neg (show ¬ (0 : Int32) < nI ([] : List Fr).length by decide)]
      exact ⟨σ, met, (if_pos rfl).symm, hC, hK, fKc_refl σ, by omega⟩
    | cons fr Q =>
      have hlen : (fr :: Q).length ≤ 256 := by
        obtain ⟨_, _, k3, k4, k5⟩ := hK
        have := nd_len 256 _ k4 0 (fun a ha => ⟨Nat.zero_le _, k5 a ha⟩)
        omega
      rw [kRun] at h
      rw [if_pos (show (0 : Int32) < nI (fr :: Q).length from (ltI (a := 0) (by decide) (by omega)).mpr (by simp))]
      obtain ⟨τ, t1, t2, t3⟩ := C_look hU hg hh hC hK
      have hK2 := KI_step hg hh hK
      have hr3 : (kSt T E' D E (fr :: Q) met).1 ≤ 3 := by
        obtain ⟨m, u, k, b⟩ := fr
        obtain ⟨hM, hN, _⟩ := hK.1 _ (List.mem_cons_self ..)
        rcases kSt_cases (k := k) (b := b) (Q := Q) (met := met) hg hh (show isM D m from hM) (show isM E u from hN) with ⟨_, e⟩ | ⟨f, d, hf, hd, ⟨_, e⟩ | ⟨g, e0, hgf, he, ⟨_, e⟩ | ⟨_, _, e⟩ | ⟨q1, q2, ⟨t, v, t1, t2, t3, t4, t5, t6, t7, e⟩ | ⟨t1, e⟩⟩⟩⟩
        · rw [e]; exact Nat.zero_le 3
        · rw [e]; exact Nat.zero_le 3
        · rw [e]; show (1 : Nat) ≤ 3; decide
        · rw [e]; show (2 : Nat) ≤ 3; decide
        · rw [e]; exact Nat.zero_le 3
        · rw [e]
          split
          · exact Nat.le_refl 3
          · exact Nat.zero_le 3
      have e0 : nI (kSt T E' D E (fr :: Q) met).1 = 0 ↔ (kSt T E' D E (fr :: Q) met).1 = 0 := nI_eq (b := 0) (by omega) (by decide)
      rw [t1, b2_eq, ifd e0, nI_1]
      by_cases q : (kSt T E' D E (fr :: Q) met).1 = 0
      · rw [if_pos q] at h ⊢
        obtain ⟨υ, met2, u1, u2, u3, u4, u5⟩ := ih (v + 1) V _ _ τ r stk2 h (by omega) (by omega) t2 hK2
        exact ⟨υ, met2, u1, u2, u3, fKc_trans t3 u4, u5⟩
      · rw [if_neg q] at h ⊢
        obtain ⟨e1, e2⟩ := Prod.mk.inj (Option.some.inj h)
        rw [← e1, ← e2]
        exact ⟨τ, _, (if_neg q).symm, t2, hK2, t3, hr3⟩
/-- the numbers of a way -/
def wyB (D : List Dc) (fr : Fr) : List Nat := match (chF D fr.1)[fr.2.2.1]? with
  | none => []
  | some f => vB (lN (nmn D f))
theorem CF_get {D : List Dc} {σ : SG} : ∀ (Q : List Fr), CF D σ Q → ∀ k, k < Q.length → ∃ fr, Q.reverse[k]? = some fr ∧ sP σ 1098 k = ad 5 ((chF D fr.1)[fr.2.2.1]?) := by
  intro Q
  induction Q with
  | nil => intro _ k hk; simp at hk
  | cons fr Q ih =>
    intro h k hk
    rw [List.length_cons] at hk
    rw [List.reverse_cons]
    by_cases q : k = Q.length
    · refine ⟨fr, ?_, by rw [q]; exact h.1⟩
      rw [List.getElem?_append_right (by rw [List.length_reverse]; omega), List.length_reverse, q, Nat.sub_self]
      rfl
    · obtain ⟨fr', h1, h2⟩ := ih h.2.2 k (by omega)
      refine ⟨fr', ?_, h2⟩
      rw [List.getElem?_append_left (by rw [List.length_reverse]; omega)]
      exact h1
theorem C_way_L {U : Nat} {T : List Nat} {D : List Dc} {stk : List Fr} (hU : 4000 < U) (hg : GSc T D) (hM : ∀ fr ∈ stk, isM D fr.1) (hlen : stk.length ≤ 256) : ∀ (j k U1 : Nat) (σ : SG) (w : List Nat × Int32), k + j = stk.length → j < U1 → CS σ 5 T D → sI σ 1097 4 = nI stk.length → CF D σ stk → RW σ 3 w → ∃ τ, x_X1_tellWay_L2 U 1097 U1 (nI k) σ = some τ ∧ RW τ 3 (wrL 4000 w ((stk.reverse.drop k).flatMap (wyB D))) ∧ fb 3 σ τ := by
  have hl := hg.2.1
  intro j
  induction j with
  | zero =>
    intro k U1 σ w hk hu hC h4 hF hw
    obtain ⟨V, rfl⟩ : ∃ V, U1 = V + 1 := ⟨U1 - 1, by omega⟩
    refine ⟨σ, ?_, ?_, fb_refl 3 σ⟩
    · rw [x_X1_tellWay_L2, h4, if_neg (fun z => by have := (ltI (by omega) (by omega)).mp z; omega)]
    · rw [List.drop_eq_nil_of_le (by rw [List.length_reverse]; omega)]; exact hw
  | succ j ih =>
    intro k U1 σ w hk hu hC h4 hF hw
    obtain ⟨V, rfl⟩ : ∃ V, U1 = V + 1 := ⟨U1 - 1, by omega⟩
    obtain ⟨fr, hfr, hp⟩ := CF_get stk hF k (by omega)
    have hkl := (List.getElem?_eq_some_iff.mp hfr).1
    have hfe : stk.reverse[k] = fr := (List.getElem?_eq_some_iff.mp hfr).2
    have hmem : fr ∈ stk := List.mem_reverse.mp (List.mem_of_getElem? hfr)
    have next : ∀ τ w', CS τ 5 T D → fb 3 σ τ → RW τ 3 w' → ∃ υ, x_X1_tellWay_44 U 1097 (x_X1_tellWay_L2 U 1097 V) (nI k) τ = some υ ∧ RW υ 3 (wrL 4000 w' ((stk.reverse.drop (k + 1)).flatMap (wyB D))) ∧ fb 3 τ υ := by
      intro τ w' hC' hf' hw'
      unfold x_X1_tellWay_44
      rw [nI_1]
      exact ih (k + 1) V τ w' (by omega) (by omega) hC' (((hf' 1097 (by decide) (by decide)) 4).1.trans h4) (CF_keep stk hF (fun i _ => ⟨((hf' 1098 (by decide) (by decide)) i).2.2, ((hf' 1099 (by decide) (by decide)) i).2.2⟩)) hw'
    rw [x_X1_tellWay_L2, h4, if_pos ((ltI (by omega) (by omega)).mpr (by omega)), if_pos (show nI k < 256 from (ltI (b := 256) (by omega) (by decide)).mpr (by omega)), ix_in (by omega) (by decide), hp, ix_in (by omega) (by decide), hp, List.drop_eq_getElem_cons hkl, List.flatMap_cons, hfe]
    have ewy : wyB D fr = match (chF D fr.1)[fr.2.2.1]? with
      | none => []
      | some f => vB (lN (nmn D f)) := rfl
    rw [ewy]
    cases hcf : (chF D fr.1)[fr.2.2.1]? with
    | none =>
      rw [if_pos (show ad 5 none = none from rfl)]
      exact next σ w hC (fb_refl 3 σ) hw
    | some f =>
      obtain ⟨d, hd⟩ := (chF_mem hg (hM fr hmem)).mp (List.mem_of_getElem? hcf)
      have hfl := (List.getElem?_eq_some_iff.mp hd.1).1
      rw [if_neg (show ¬ ad 5 (some f) = none by intro z; cases z), ad_some, ck_eq (it_sh cb5 (by omega)), C_tag (U := U) cb5 hg hC hd.1 hd.2.1]
      obtain ⟨τ, t1, t2, t3⟩ := X0_varW (U := U) (x := lN (dN d).2) hU hw
      rw [ln4] at t2
      rw [t1, b1_eq]
      obtain ⟨υ, u1, u2, u3⟩ := next τ _ (CS_fb hC cb5 t3) t3 t2
      refine ⟨υ, u1, ?_, fb_trans t3 u3⟩
      simp only
      rw [nmn_some hd.1, wrL_app]
      exact u2
theorem C_cmp_0 {U : Nat} {T E' : List Nat} {D E : List Dc} {K : SG → Option (Int32 × SG)} {v1 v2 : Option Nat} : ∀ (j k U1 : Nat) (σ : SG), k + j = 256 → j < U1 → (∀ c, c < k → sI σ 1100 c = 0) → ∃ τ, x_X1_compare_L2 U 1097 K v1 v2 U1 (nI k) σ = K τ ∧ (∀ c, c < 256 → sI τ 1100 c = 0) ∧ ∀ b, b ≠ 1100 → sm σ τ b := by
  intro j
  induction j with
  | zero =>
    intro k U1 σ hk hu h
    obtain ⟨V, rfl⟩ : ∃ V, U1 = V + 1 := ⟨U1 - 1, by omega⟩
    have : k = 256 := by omega
    subst this
    rw [x_X1_compare_L2, if_neg (show ¬ nI 256 < 256 by decide)]
    exact ⟨σ, rfl, h, fun b _ => sm_refl σ b⟩
  | succ j ih =>
    intro k U1 σ hk hu h
    obtain ⟨V, rfl⟩ : ∃ V, U1 = V + 1 := ⟨U1 - 1, by omega⟩
    rw [x_X1_compare_L2, if_pos (show nI k < 256 from (ltI (b := 256) (by omega) (by decide)).mpr (by omega)), ix_in (by omega) (by decide), sb_eq, nI_1]
    obtain ⟨τ, t1, t2, t3⟩ := ih (k + 1) V (uI σ 1100 k (vp_nar .boolean 0)) (by omega) (by omega) (fun c hc => by
      by_cases q : c = k
      · rw [q, sI_s]; decide
      · rw [sI_o (Or.inr q)]; exact h c (by omega))
    exact ⟨τ, t1, t2, fun b hb => sm_trans (sm_uI hb) (t3 b hb)⟩
/-- the answer of a check: the reason, and the way -/
def ckS (T E' : List Nat) (D E : List Dc) (m u : Nat) : Nat × List Nat := match kRun T E' D E 103000 [(m, u, 0, false)] [cod D E m u] with
  | none => (0, [])
  | some (r, stk) => if r = 0 then (0, []) else (r, stk.reverse.flatMap (wyB D))
theorem KI_0 {T E' : List Nat} {D E : List Dc} {m u : Nat} (hg : GSc T D) (hh : GSc E' E) (hM : isM D m) (hN : isM E u) : KI T E' D E [(m, u, 0, false)] [cod D E m u] := ⟨fun fr hfr => by
  rw [List.mem_singleton.mp hfr]
  exact ⟨hM, hN, fun z => (by cases z), Nat.zero_le _⟩, fun fr hfr => (by cases hfr), Nat.le_refl _, List.nodup_cons.mpr ⟨by simp, List.nodup_nil⟩, fun c hc => by
  rw [List.mem_singleton.mp hc]
  exact cod_lt hg hh hM hN⟩
theorem kRun_0 {T E' : List Nat} {D E : List Dc} {m u : Nat} (hg : GSc T D) (hh : GSc E' E) (hM : isM D m) (hN : isM E u) : ∃ y, kRun T E' D E 103000 [(m, u, 0, false)] [cod D E m u] = some y := by
  refine kRun_ends hg hh 103000 _ _ (KI_0 hg hh hM hN) ?_
  have hcl := chF_len (a := m) hg.2.1
  show (256 - 1) * 400 + ((2 * ((chF D m).length - 0) + (if false = true then 0 else 1) + 1) + 0) < 103000
  rw [if_neg (show ¬ false = true by decide)]
  omega
theorem wy_len {D : List Dc} : ∀ (L : List Fr), (L.flatMap (wyB D)).length ≤ 10 * L.length := by
  intro L
  induction L with
  | nil => exact Nat.le_refl _
  | cons fr L ih =>
    rw [List.flatMap_cons, List.length_append, List.length_cons]
    have : (wyB D fr).length ≤ 10 := by
      unfold wyB
      split
      · exact Nat.zero_le _
      · exact vB_le _
    omega
def fCk (σ τ : SG) : Prop := ∀ b, b ≠ 3 → b ≠ 4 → b ≠ 1097 → b ≠ 1098 → b ≠ 1099 → b ≠ 1100 → sm σ τ b
/-- what a check answers -/
def chS (T E' : List Nat) (D E : List Dc) (x y : Int32) : mm_R × List Nat := match msg D x, msg E y with
  | some m, some u => (.inl (some (.int (nI (ckS T E' D E m u).1))), (ckS T E' D E m u).2)
  | _, _ => (.inr IAE, [])
theorem C_check {U : Nat} {σ : SG} {T E' : List Nat} {D E : List Dc} {x y : Int32} (hU : 210000 < U) (hg : GSc T D) (hh : GSc E' E) (hC : CS σ 5 T D) (hC' : CS σ 197 E' E) : ∃ τ, x_X11_check U 0 x y σ = some ((chS T E' D E x y).1, τ) ∧ RB τ 3 (chS T E' D E x y).2 0 ∧ fCk σ τ := by
  have hU4 : 4000 < U := by omega
  unfold x_X11_check
  obtain ⟨τ1, a1, a2, a3⟩ := X0_clear (σ := σ) (a := 3)
  have C1 : CS τ1 5 T D := CS_sm hC (fun b h1 h2 => a3 b (by omega))
  have C1' : CS τ1 197 E' E := CS_sm hC' (fun b h1 h2 => a3 b (by omega))
  have s6 : sh 6 = 6 := by decide
  have s198 : sh 198 = 6 := by decide
  have m1 : x_X6_message U 6 x τ1 = some (ad 5 (msg D x)) := C_message hU4 cb5 C1 hg.1
  have m2 : x_X6_message U 198 y τ1 = some (ad 197 (msg E y)) := C_message hU4 cb197 C1' hh.1
  have F1 : fCk σ τ1 := fun b h1 _ _ _ _ _ => a3 b h1
  rw [a1, b1_eq, show x_X2_schema 5 τ1 = some (some 6) from rfl, b1_eq, ck_eq s6, m1, b1_eq, show x_X2_schema 197 τ1 = some (some 198) from rfl, b1_eq, ck_eq s198, m2, b1_eq]
  unfold chS x_X11_check_41
  cases hm : msg D x with
  | none =>
    rw [if_pos (show ad 5 none = none from rfl)]
    exact ⟨τ1, rfl, a2, F1⟩
  | some m =>
    rw [if_neg (show ¬ ad 5 (some m) = none by intro z; cases z)]
    cases hu : msg E y with
    | none =>
      rw [if_pos (show ad 197 none = none from rfl)]
      exact ⟨τ1, rfl, a2, F1⟩
    | some u =>
      rw [if_neg (show ¬ ad 197 (some u) = none by intro z; cases z)]
      obtain ⟨hM, _⟩ := msg_some hm
      obtain ⟨hN, _⟩ := msg_some hu
      simp only
      unfold x_X1_compare
      obtain ⟨τ2, b1', b2', b3'⟩ := C_cmp_0 (U := U) (T := T) (E' := E') (D := D) (E := E) (K := fun σ7 => sb (uI σ7 1097 4 0) fun σ8 => b2 (x_X1_enter 1097 (ad 5 (some m)) (ad 197 (some u)) σ8) fun v10 σ11 => x_X1_compare_L38 U 1097 (fun w18 σ19 => b1 (x_X1_tellWay U 1097 σ19) fun σ21 => some (w18, σ21)) U 0 σ11) (v1 := ad 5 (some m)) (v2 := ad 197 (some u)) 256 0 U τ1 (by omega) (by omega) (fun c hc => by omega)
      have b1'' : x_X1_compare_L2 U 1097 (fun σ7 => sb (uI σ7 1097 4 0) fun σ8 => b2 (x_X1_enter 1097 (ad 5 (some m)) (ad 197 (some u)) σ8) fun v10 σ11 => x_X1_compare_L38 U 1097 (fun w18 σ19 => b1 (x_X1_tellWay U 1097 σ19) fun σ21 => some (w18, σ21)) U 0 σ11) (ad 5 (some m)) (ad 197 (some u)) U 0 τ1 = _ := b1'
      rw [b1'', sb_eq]
      have F3 : fKc τ1 (uI τ2 1097 4 0) := fun b q1 _ _ q4 => sm_trans (b3' b q4) (sm_uI q1)
      have K0 : KCs (uI τ2 1097 4 0) T E' D E [] [] := ⟨CS_fKc C1 cb5 F3, CS_fKc C1' cb197 F3, sI_s _ _ _ _, trivial, fun c hc => by
        rw [sI_o (Or.inl (by decide)), b2' c hc, decide_eq_false (by simp)]; rfl⟩
      generalize uI τ2 1097 4 0 = τ3 at *
      obtain ⟨τ4, y1, y2, y3, y4, y5, y6, y7⟩ := (C_enter hg hh K0 (Nat.le_refl _) List.nodup_nil (fun c hc => by cases hc) hM hN).2 (by simp)
      rw [y1, b2_eq]
      have K1 : KCs τ4 T E' D E [(m, u, 0, false)] [cod D E m u] := ⟨CS_fKc K0.1 cb5 y2, CS_fKc K0.2.1 cb197 y2, y3, ⟨y4, y5, trivial⟩, y7⟩
      obtain ⟨⟨r, stk⟩, hr⟩ := kRun_0 hg hh hM hN
      obtain ⟨τ5, met2, z1, z2, z3, z4, z5⟩ := C_cmp_L (U := U) (K := fun w18 σ19 => b1 (x_X1_tellWay U 1097 σ19) fun σ21 => some (w18, σ21)) hU4 hg hh 103000 0 U _ _ τ4 r stk hr (by omega) (by omega) K1 (KI_0 hg hh hM hN)
      have z1' : x_X1_compare_L38 U 1097 (fun w18 σ19 => b1 (x_X1_tellWay U 1097 σ19) fun σ21 => some (w18, σ21)) U 0 τ4 = _ := z1
      have FK := fKc_trans F3 (fKc_trans y2 z4)
      have F5 : fCk σ τ5 := fun b q1 q2 q3 q4 q5 q6 => sm_trans (F1 b q1 q2 q3 q4 q5 q6) (FK b q3 q4 q5 q6)
      have B5 : RB τ5 3 [] 0 := a2.sm (FK 3 (by decide) (by decide) (by decide) (by decide)) (FK 4 (by decide) (by decide) (by decide) (by decide))
      rw [z1']
      unfold ckS
      rw [hr]
      simp only
      by_cases q0 : r = 0
      · rw [if_pos q0, if_pos q0, b2_eq]
        exact ⟨τ5, rfl, B5, F5⟩
      · rw [if_neg q0, if_neg q0]
        obtain ⟨k1, k2, k3, k4, k5⟩ := z3
        have hlen : stk.length ≤ 256 := by
          have := nd_len 256 _ k4 0 (fun a ha => ⟨Nat.zero_le _, k5 a ha⟩)
          omega
        have B5' : RW τ5 3 ([], 0) := B5
        obtain ⟨τ6, w1, w2, w3⟩ := C_way_L (U := U) (stk := stk) hU4 hg (fun fr hfr => (k1 fr hfr).1) hlen stk.length 0 U τ5 ([], 0) (by omega) (by omega) z2.1 z2.2.2.1 z2.2.2.2.1 B5'
        have w1' : x_X1_tellWay U 1097 τ5 = some τ6 := w1
        rw [w1', b1_eq, b2_eq]
        have hwl := wy_len (D := D) stk.reverse
        rw [List.length_reverse] at hwl
        rw [List.drop_zero, wrL_fit _ _ (by show 0 + _ ≤ 4000; omega)] at w2
        exact ⟨τ6, rfl, w2, fun b q1 q2 q3 q4 q5 q6 => sm_trans (F5 b q1 q2 q3 q4 q5 q6) (w3 b q1 q2)⟩
