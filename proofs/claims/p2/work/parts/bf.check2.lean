/-! ===== check: the class ===== -/
theorem ad_inj9 {c : Nat} {x y : Option Nat} : ad c x = ad c y ↔ x = y := by
  constructor
  · intro z
    cases x with
    | none =>
      cases y with
      | none => rfl
      | some b => cases z
    | some a =>
      cases y with
      | none => cases z
      | some b =>
        rw [ad_some, ad_some] at z
        have := Option.some.inj z
        congr 1
        omega
  · intro z; rw [z]
theorem cb5 : cb 5 := Or.inl rfl
theorem cb197 : cb 197 := Or.inr rfl
theorem LK_next {σ : SG} {c : Nat} : ∀ (L : List Nat) (p : Option Nat) (k i : Nat), LK σ c L p → L[k]? = some i → sP σ (c + 5 + i) 16 = ad c (L[k + 1]?) := by
  intro L
  induction L with
  | nil => intro p k i _ h; cases h
  | cons a L ih =>
    intro p k i h hk
    obtain ⟨_, h2⟩ := h
    cases k with
    | zero =>
      cases hk
      cases L with
      | nil => exact h2
      | cons b L => exact h2.1
    | succ k => exact ih _ k i h2 hk
theorem ckN_ad {β : Type} {c : Nat} {o : Option Nat} {f : Option β} (hcb : cb c) (h : ∀ i, o = some i → i < 180) : ckN 3 (ad c o) f = f := by
  cases o with
  | none => rfl
  | some i =>
    show (if sh (c + 5 + i) = 3 then f else none) = f
    rw [if_pos (it_sh hcb (h i rfl))]
theorem C_fresh {U m u h : Nat} {σ : SG} {T E' : List Nat} {D E : List Dc} {d : Dc} (hU : 4000 < U) (hg : GSc T D) (hh : GSc E' E) (hC : CS σ 5 T D) (hC' : CS σ 197 E' E) (hN : isM E u) (hd : isF D m h d) : x_X3_memberNumbered U (197 + 5 + u) (sL σ (5 + 5 + h) 6) σ = some (ad 197 (fOf E u (nmn D h))) := by
  obtain ⟨dm, hdm, _⟩ := id hN
  have hul := (List.getElem?_eq_some_iff.mp hdm).1
  rw [C_tag (U := U) cb5 hg hC hd.1 hd.2.1, C_numbered hU cb197 hC' hul]
  congr 2
  unfold fOf
  rw [nmn_some hd.1]
  have hb := (hg.fld hd.1 hd.2.1).2.2.1
  apply find_congr
  intro i hi
  obtain ⟨e, he⟩ := (chF_mem hh hN).mp hi
  have hnu := hh.nu he.1 he.2.1
  rw [hnu.1]
  exact decide_eq_decide.mpr (lN_inj (by omega) (by omega))
theorem C_torn_L {U m u f g : Nat} {σ : SG} {T E' : List Nat} {D E : List Dc} {d e : Dc} (hU : 4000 < U) (hg : GSc T D) (hh : GSc E' E) (hC : CS σ 5 T D) (hC' : CS σ 197 E' E) (hM : isM D m) (hN : isM E u) (hd : isF D m f d) (he : isF E u g e) : ∀ (L : List Nat) (p : Option Nat) (U1 : Nat), LK σ 5 L p → (∀ i ∈ L, i ∈ chF D m) → L.length < U1 → x_X1_isTornApart_L28 U (some (5 + 5 + f)) (some (197 + 5 + g)) (some (197 + 5 + u)) σ U1 p = some (zI ((L.takeWhile (fun h => decide (h ≠ f))).any (trnP D E u f g))) := by
  have hl := hg.2.1
  have hl' := hh.2.1
  have hfl := (List.getElem?_eq_some_iff.mp hd.1).1
  have hgl := (List.getElem?_eq_some_iff.mp he.1).1
  obtain ⟨dm, hdm, _⟩ := id hN
  have hul := (List.getElem?_eq_some_iff.mp hdm).1
  have o3 : sP σ (5 + 5 + f) 3 = ad 5 (dO d) := (hC.it hd.1).1.2.2.2.1
  have g3 : sP σ (197 + 5 + g) 3 = ad 197 (dO e) := (hC'.it he.1).1.2.2.2.1
  intro L
  induction L with
  | nil =>
    intro p U1 h _ hu
    obtain ⟨V, rfl⟩ : ∃ V, U1 = V + 1 := ⟨U1 - 1, by simp at hu; omega⟩
    rw [x_X1_isTornApart_L28, if_pos (show p = none from h)]; rfl
  | cons h L ih =>
    intro p U1 hp hL hu
    rw [List.length_cons] at hu
    obtain ⟨V, rfl⟩ : ∃ V, U1 = V + 1 := ⟨U1 - 1, by omega⟩
    obtain ⟨h1, h2⟩ := hp
    obtain ⟨x, hx⟩ := (chF_mem hg hM).mp (hL h (List.mem_cons_self ..))
    have hhl := (List.getElem?_eq_some_iff.mp hx.1).1
    have h3 : sP σ (5 + 5 + h) 3 = ad 5 (dO x) := (hC.it hx.1).1.2.2.2.1
    have ihh := ih _ V h2 (fun i hi => hL i (List.mem_cons_of_mem _ hi)) (by omega)
    rw [x_X1_isTornApart_L28, h1, if_neg (show ¬ some (5 + 5 + h) = none by intro z; cases z), List.takeWhile_cons]
    by_cases q : h = f
    · rw [if_pos (show some (5 + 5 + h) = some (5 + 5 + f) by rw [q]), decide_eq_false (fun z => z q), if_neg (show ¬ false = true by decide)]; rfl
    have hne : ¬ some (5 + 5 + h) = some (5 + 5 + f) := fun z => q (by have := Option.some.inj z; omega)
    rw [if_neg hne, decide_eq_true q, if_pos (show true = true from rfl), List.any_cons, ck_eq (it_sh cb5 (by omega)), ck_eq (it_sh cb197 (by omega)), C_fresh hU hg hh hC hC' hN hx, b1_eq, h3, ifd ad_none, ck_eq (it_sh cb5 (by omega)), o3, ifd ad_inj9]
    have nx : x_X1_isTornApart_96 U (x_X1_isTornApart_L28 U (some (5 + 5 + f)) (some (197 + 5 + g)) (some (197 + 5 + u)) σ V) (some (5 + 5 + f)) (some (197 + 5 + g)) (some (197 + 5 + u)) (some (5 + 5 + h)) σ = some (zI ((L.takeWhile (fun h => decide (h ≠ f))).any (trnP D E u f g))) := by
      unfold x_X1_isTornApart_96
      rw [ck_eq (it_sh cb5 (by omega))]
      exact ihh
    unfold x_X1_isTornApart_69 x_X1_isTornApart_70
    rw [nx]
    unfold trnP
    rw [dOo_some hx.1, dOo_some hd.1, dOo_some he.1]
    cases hfo : fOf E u (nmn D h) with
    | none =>
      rw [if_pos (show ad 197 none = none from rfl), if_pos (show ad 197 none = none from rfl), Bool.false_or, ite_self, ite_self]
    | some i =>
      obtain ⟨y, hy⟩ := fOf_isF hh hN hfo
      have hil := (List.getElem?_eq_some_iff.mp hy.1).1
      have i3 : sP σ (197 + 5 + i) 3 = ad 197 (dO y) := (hC'.it hy.1).1.2.2.2.1
      rw [if_neg (show ¬ ad 197 (some i) = none by intro z; cases z), if_neg (show ¬ ad 197 (some i) = none by intro z; cases z), ad_some, ck_eq (it_sh cb197 (by omega)), ck_eq (it_sh cb197 (by omega)), ck_eq (it_sh cb197 (by omega)), ck_eq (it_sh cb197 (by omega)), i3, g3, ifd ad_inj9, ifd ad_inj9, if_pos (show (0 : Int32) = 0 from rfl), if_neg (show ¬ (1 : Int32) = 0 by decide), ite_self]
      simp only
      rw [dOo_some hy.1]
      by_cases q1 : dO y = dO e
      · rw [if_pos q1, decide_eq_true q1, Bool.true_and]
        by_cases q2 : dO x = none
        · rw [if_pos q2, decide_eq_false (fun z => z q2), Bool.false_and, Bool.not_false, Bool.true_or]; rfl
        · rw [if_neg q2, decide_eq_true q2, Bool.true_and]
          by_cases q3 : dO x = dO d
          · rw [if_pos q3, decide_eq_true q3, Bool.not_true, Bool.false_or]
          · rw [if_neg q3, decide_eq_false q3, Bool.not_false, Bool.true_or]; rfl
      · rw [if_neg q1, decide_eq_false q1, Bool.false_and, Bool.false_or, ite_self, ite_self]
theorem any_tw {D : List Dc} {f : Nat} {P : Nat → Bool} : ∀ (L : List Nat), srt D L → f ∈ L → L.any (fun h => decide (nmn D h < nmn D f) && P h) = (L.takeWhile (fun h => decide (h ≠ f))).any P := by
  intro L
  induction L with
  | nil => intro _ h; cases h
  | cons a L ih =>
    intro hs hf
    obtain ⟨h1, h2⟩ := List.pairwise_cons.mp hs
    rw [List.any_cons, List.takeWhile_cons]
    by_cases q : a = f
    · subst q
      rw [decide_eq_false (Nat.lt_irrefl _), Bool.false_and, Bool.false_or, decide_eq_false (fun z => z rfl), if_neg (show ¬ false = true by decide)]
      rw [List.any_nil, List.any_eq_false]
      intro x hx
      have := h1 x hx
      rw [decide_eq_false (by omega), Bool.false_and]
      decide
    · have hfL : f ∈ L := (List.mem_cons.mp hf).elim (fun z => absurd z.symm q) id
      have := h1 f hfL
      rw [decide_eq_true this, Bool.true_and, decide_eq_true q, if_pos (show true = true from rfl), List.any_cons, ih h2 hfL]
theorem C_torn {U m u f g : Nat} {σ : SG} {T E' : List Nat} {D E : List Dc} {d e : Dc} (hU : 4000 < U) (hg : GSc T D) (hh : GSc E' E) (hC : CS σ 5 T D) (hC' : CS σ 197 E' E) (hM : isM D m) (hN : isM E u) (hd : isF D m f d) (he : isF E u g e) : x_X1_isTornApart U (some (5 + 5 + f)) (some (197 + 5 + g)) (some (197 + 5 + u)) σ = some (zI (trn D E m u f g)) := by
  have hl := hg.2.1
  have hl' := hh.2.1
  have hfl := (List.getElem?_eq_some_iff.mp hd.1).1
  have hgl := (List.getElem?_eq_some_iff.mp he.1).1
  obtain ⟨dm, hdm, _⟩ := id hM
  have hml := (List.getElem?_eq_some_iff.mp hdm).1
  have o2 : sP σ (5 + 5 + f) 2 = ad 5 (dS d) := (hC.it hd.1).1.2.2.1
  have g3 : sP σ (197 + 5 + g) 3 = ad 197 (dO e) := (hC'.it he.1).1.2.2.2.1
  have hch := chF_len (a := m) hl
  unfold x_X1_isTornApart trn
  rw [ck_eq (it_sh cb197 (by omega)), g3, ifd ad_none, ck_eq (it_sh cb5 (by omega)), o2, hd.2.2, if_neg (show ¬ ad 5 (some m) = none by intro z; cases z), if_neg (show ¬ some (197 + 5 + u) = none by intro z; cases z), ad_some, ck_eq (it_sh cb5 (by omega)), dOo_some he.1]
  by_cases q : dO e = none
  · rw [if_pos q, decide_eq_false (fun z => z q), Bool.false_and]; rfl
  · rw [if_neg q, decide_eq_true q, Bool.true_and, C_torn_L hU hg hh hC hC' hM hN hd he (chF D m) _ U (hC.ch hml) (fun i hi => hi) (by omega), any_tw (chF D m) (chD_srt hg hM _) ((chF_mem hg hM).mpr ⟨d, hd⟩)]
/-- the class's way -/
def CF (D : List Dc) (σ : SG) : List Fr → Prop
  | [] => True
  | fr :: Q => sP σ 1098 Q.length = ad 5 ((chF D fr.1)[fr.2.2.1]?) ∧ sP σ 1099 Q.length = ad 197 (some fr.2.1) ∧ CF D σ Q
theorem CF_keep {D : List Dc} {σ τ : SG} : ∀ (Q : List Fr), CF D σ Q → (∀ k, k < Q.length → sP τ 1098 k = sP σ 1098 k ∧ sP τ 1099 k = sP σ 1099 k) → CF D τ Q := by
  intro Q
  induction Q with
  | nil => intro _ _; exact trivial
  | cons fr Q ih =>
    intro h hk
    obtain ⟨h1, h2, h3⟩ := h
    exact ⟨(hk _ (by simp)).1.trans h1, (hk _ (by simp)).2.trans h2, ih h3 (fun k hk' => hk k (by simp; omega))⟩
def fKc (σ τ : SG) : Prop := ∀ b, b ≠ 1097 → b ≠ 1098 → b ≠ 1099 → b ≠ 1100 → sm σ τ b
theorem fKc_refl (σ : SG) : fKc σ σ := fun b _ _ _ _ => sm_refl σ b
theorem fKc_trans {σ τ υ : SG} (h : fKc σ τ) (h' : fKc τ υ) : fKc σ υ := fun b h1 h2 h3 h4 => sm_trans (h b h1 h2 h3 h4) (h' b h1 h2 h3 h4)
def KCs (σ : SG) (T E' : List Nat) (D E : List Dc) (stk : List Fr) (met : List Nat) : Prop := CS σ 5 T D ∧ CS σ 197 E' E ∧ sI σ 1097 4 = nI stk.length ∧ CF D σ stk ∧ ∀ c, c < 256 → sI σ 1100 c = zI (decide (c ∈ met))
theorem CS_fKc {σ τ : SG} {c : Nat} {T : List Nat} {D : List Dc} (h : CS σ c T D) (hcb : cb c) (hf : fKc σ τ) : CS τ c T D := by
  have hc : c = 5 ∨ c = 197 := hcb
  exact CS_sm h (fun b h1 h2 => hf b (by omega) (by omega) (by omega) (by omega))
theorem nar19 : vp_nar .boolean 1 = zI true := by decide
theorem nar0' : vp_nar .boolean 0 = zI false := by decide
theorem C_enter {t v : Nat} {σ : SG} {T E' : List Nat} {D E : List Dc} {stk : List Fr} {met : List Nat} (hg : GSc T D) (hh : GSc E' E) (h : KCs σ T E' D E stk met) (hlen : stk.length ≤ met.length) (hnd : met.Nodup) (hlt : ∀ c ∈ met, c < 256) (ht : isM D t) (hv : isM E v) : (cod D E t v ∈ met → x_X1_enter 1097 (ad 5 (some t)) (ad 197 (some v)) σ = some (0, σ)) ∧ (cod D E t v ∉ met → ∃ τ, x_X1_enter 1097 (ad 5 (some t)) (ad 197 (some v)) σ = some (1, τ) ∧ fKc σ τ ∧ sI τ 1097 4 = nI (stk.length + 1) ∧ sP τ 1098 stk.length = ad 5 ((chF D t)[0]?) ∧ sP τ 1099 stk.length = ad 197 (some v) ∧ (∀ k, k ≠ stk.length → sP τ 1098 k = sP σ 1098 k ∧ sP τ 1099 k = sP σ 1099 k) ∧ ∀ c, c < 256 → sI τ 1100 c = zI (decide (c ∈ cod D E t v :: met))) := by
  obtain ⟨h1, h2, h3, h4, h5⟩ := h
  have hl := hg.2.1
  have hl' := hh.2.1
  have hm256 : met.length ≤ 256 := by
    have := nd_len 256 _ hnd 0 (fun a ha => ⟨Nat.zero_le _, hlt a ha⟩)
    omega
  have hc := cod_lt hg hh ht hv
  obtain ⟨dt, hdt, ht0⟩ := id ht
  obtain ⟨dv, hdv, hv0⟩ := id hv
  have htl := (List.getElem?_eq_some_iff.mp hdt).1
  have hvl := (List.getElem?_eq_some_iff.mp hdv).1
  have t1 : sI σ (5 + 5 + t) 1 = nI (ordM D t) := by have := (h1.it hdt).1.2.1; rw [ht0] at this; exact this
  have v1 : sI σ (197 + 5 + v) 1 = nI (ordM E v) := by have := (h2.it hdv).1.2.1; rw [hv0] at this; exact this
  have ecod : nI (ordM D t) * 16 + nI (ordM E v) = nI (cod D E t v) := by
    have e : nI (ordM D t) * 16 = nI (ordM D t * 16) := pk_mul _ 16
    rw [e, nI_add]; rfl
  have t15 : sP σ (5 + 5 + t) 15 = ad 5 ((chF D t)[0]?) := by
    have := h1.ch htl
    cases hcf : chF D t with
    | nil => rw [hcf] at this; exact this
    | cons a L => rw [hcf] at this; exact this.1
  have hfst : ∀ i, (chF D t)[0]? = some i → i < 180 := fun i hi => by
    have := chF_lt (List.mem_of_getElem? hi)
    omega
  unfold x_X1_enter
  rw [if_neg (show ¬ ad 5 (some t) = none by intro z; cases z), if_neg (show ¬ ad 197 (some v) = none by intro z; cases z), h3, if_neg (nI_neg (by omega)), ad_some, ad_some, ck_eq (it_sh cb5 (by omega)), ck_eq (it_sh cb197 (by omega)), t1, v1, ecod, if_neg (nI_neg (by omega)), if_pos (show nI (cod D E t v) < 256 from (ltI (b := 256) (by omega) (by decide)).mpr hc), ix_in hc (by decide), h5 _ hc, ifz]
  refine ⟨fun hm => ?_, fun hm => ?_⟩
  · rw [decide_eq_true hm, if_pos (show true = true from rfl), ite_self, ite_self]
  · have hs256 : stk.length < 256 := by
      have hn2 : (cod D E t v :: met).Nodup := List.nodup_cons.mpr ⟨hm, hnd⟩
      have := nd_len 256 _ hn2 0 (fun a ha => ⟨Nat.zero_le _, (List.mem_cons.mp ha).elim (fun z => by rw [z]; exact hc) (hlt a)⟩)
      rw [List.length_cons] at this
      omega
    have s1 : sI (uI σ 1100 (cod D E t v) (vp_nar .boolean 1)) 1097 4 = nI stk.length := (sI_o (Or.inl (by decide))).trans h3
    rw [decide_eq_false hm, if_neg (show ¬ false = true by decide), if_pos (show nI stk.length < 256 from (ltI (b := 256) (by omega) (by decide)).mpr hs256), if_pos (show nI stk.length < 256 from (ltI (b := 256) (by omega) (by decide)).mpr hs256), ix_in hc (by decide), sb_eq, s1, ix_in hs256 (by decide)]
    have e15 : sP (uI σ 1100 (cod D E t v) (vp_nar .boolean 1)) (5 + 5 + t) 15 = ad 5 ((chF D t)[0]?) := t15
    rw [e15, ckN_ad cb5 hfst, sb_eq]
    have s2 : sI (uP (uI σ 1100 (cod D E t v) (vp_nar .boolean 1)) 1098 stk.length (ad 5 ((chF D t)[0]?))) 1097 4 = nI stk.length := s1
    rw [s2, ix_in hs256 (by decide), ← ad_some, ckN_ad cb197 (fun i hi => by cases hi; omega), sb_eq, sb_eq]
    have s3 : sI (uP (uP (uI σ 1100 (cod D E t v) (vp_nar .boolean 1)) 1098 stk.length (ad 5 ((chF D t)[0]?))) 1099 stk.length (ad 197 (some v))) 1097 4 = nI stk.length := s1
    rw [s3, nI_1]
    refine ⟨_, rfl, fun b b1 b2 b3 b4 => sm_trans (sm_trans (sm_trans (sm_uI b4) (sm_uP b2)) (sm_uP b3)) (sm_uI b1), sI_s _ _ _ _, ?_, ?_, fun k hk => ⟨?_, ?_⟩, fun c hc' => ?_⟩
    · show sP (uP (uP (uI σ 1100 _ _) 1098 _ _) 1099 _ _) 1098 stk.length = _
      rw [sP_o (Or.inl (by decide)), sP_s]
    · show sP (uP (uP (uI σ 1100 _ _) 1098 _ _) 1099 _ _) 1099 stk.length = _
      rw [sP_s]
    · show sP (uP (uP (uI σ 1100 _ _) 1098 _ _) 1099 _ _) 1098 k = _
      rw [sP_o (Or.inl (by decide)), sP_o (Or.inr hk)]; rfl
    · show sP (uP (uP (uI σ 1100 _ _) 1098 _ _) 1099 _ _) 1099 k = _
      rw [sP_o (Or.inr hk), sP_o (Or.inl (by decide))]; rfl
    · rw [sI_o (Or.inl (by decide))]
      show sI (uI σ 1100 (cod D E t v) (vp_nar .boolean 1)) 1100 c = _
      by_cases q : c = cod D E t v
      · rw [q, sI_s, nar19, decide_eq_true (List.mem_cons_self ..)]
      · rw [sI_o (Or.inr q), h5 c hc']
        congr 1
        exact decide_eq_decide.mpr ⟨fun z => List.mem_cons_of_mem _ z, fun z => (List.mem_cons.mp z).elim (fun y => absurd y q) id⟩
