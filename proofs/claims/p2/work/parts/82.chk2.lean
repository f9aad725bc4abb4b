/-! ===== the reference checks numbers ===== -/
/-- a field's number may be one, and no earlier field of its message has it -/
def gdF (D : List Dc) (i : Nat) (d : Dc) : Prop := okN (dN d).2 = true ∧ ∀ (j : Nat) (x : Dc), j < i → D[j]? = some x → dK x = 2 → dS x = dS d → (dN x).2 ≠ (dN d).2
def gdV (D : List Dc) (i : Nat) (d : Dc) : Prop := okV (dN d) = true ∧ ∀ e, dO d = some e → chD D i e = [] → (dN d).2 = 0
theorem NR_of {l : Int64} {v : Bool × Nat} (h : NR l v) (hb : v.1 = false) : ∃ w, w < 2 ^ 54 ∧ NV w v.2 ∧ l = lN w := by
  obtain ⟨w, h1, h2, h3⟩ := h
  refine ⟨w, h1, h2, ?_⟩
  rw [h3]; unfold nL; rw [hb]; rfl
theorem ord_lt {D : List Dc} {q i j : Nat} {d e : Dc} (hd : D[i]? = some d) (hq : dK d = q) (he : D[j]? = some e) (hq' : dK e = q) : cnt (D.take i) q < cnt (D.take j) q ↔ i < j := by
  refine ⟨fun h => ?_, fun h => cnt_lt_of hd hq h⟩
  rcases Nat.lt_trichotomy i j with z | z | z
  · exact z
  · subst z; omega
  · have := cnt_lt_of he hq' z; omega
theorem N_num_L {U : Nat} {T : List Nat} {Ws : List Wd} {D : List Dc} {p i : Nat} {d : Dc} {K : Int32 → Option SG} {σ : SG} {v2 : Int64} (hW : WF D) (hl : D.length < 180) (hd : D[i]? = some d) (h2 : dK d = 2) (hM : RM σ T Ws D p) : ∀ (j g U1 : Nat) (b : Bool), g + j = cnt (D.take i) 2 → j < U1 →
    ∃ r : Bool, x_X12_checkNumbers_L57 U 1101 K (nI (cnt (D.take i) 2)) v2 σ U1 (zI b) (nI g) = K (zI r) ∧ (r = true ↔ b = true ∧ ∀ (k : Nat) (x : Dc), D[k]? = some x → dK x = 2 → g ≤ cnt (D.take k) 2 → k < i → dS x = dS d → sL σ 1137 (cnt (D.take k) 2) ≠ v2) := by
  have hc := cnt_take_lt hd h2
  have hcl := cnt_le D 2
  intro j
  induction j with
  | zero =>
    intro g U1 b hg hu
    obtain ⟨V, rfl⟩ : ∃ V, U1 = V + 1 := ⟨U1 - 1, by omega⟩
    rw [x_X12_checkNumbers_L57, if_neg (fun q => by have := (ltI (by omega) (by omega)).mp q; omega)]
    refine ⟨b, rfl, ⟨fun z => ⟨z, fun k x h1 h3 h4 h5 => ?_⟩, fun z => z.1⟩⟩
    have := cnt_lt_of h1 h3 h5; omega
  | succ j ih =>
    intro g U1 b hg hu
    obtain ⟨V, rfl⟩ : ∃ V, U1 = V + 1 := ⟨U1 - 1, by omega⟩
    obtain ⟨k, x, hx, hx2, hxg⟩ := plc (D := D) (q := 2) g (by omega)
    have hki : k < i := (ord_lt hx hx2 hd h2).mp (by omega)
    have ra := ((hM.2.2.2 i d hd).2.2.2.1 h2).1
    have rb := ((hM.2.2.2 k x hx).2.2.2.1 hx2).1
    rw [hxg] at rb
    rw [x_X12_checkNumbers_L57, if_pos ((ltI (by omega) (by omega)).mpr (by omega)), ix_in (by omega) (by decide), ix_in (by omega) (by decide), ra.1, rb.1, ifd (oq_inj hl (hW.scK hx) (hW.scK hd)), ix_in (by omega) (by decide)]
    unfold x_X12_checkNumbers_94
    rw [nI_1]
    have only : ∀ (k' : Nat) (y : Dc), D[k']? = some y → dK y = 2 → cnt (D.take k') 2 = g → k' = k := fun k' y h1 h3 h4 => ord_inj h1 h3 hx hx2 (by omega)
    have same : (dS x = dS d → sL σ 1137 g ≠ v2) → ∃ r : Bool, x_X12_checkNumbers_L57 U 1101 K (nI (cnt (D.take i) 2)) v2 σ V (zI b) (nI (g + 1)) = K (zI r) ∧ (r = true ↔ b = true ∧ ∀ (k : Nat) (x : Dc), D[k]? = some x → dK x = 2 → g ≤ cnt (D.take k) 2 → k < i → dS x = dS d → sL σ 1137 (cnt (D.take k) 2) ≠ v2) := by
      intro hn
      obtain ⟨r, e1, e2⟩ := ih (g + 1) V b (by omega) (by omega)
      refine ⟨r, e1, ?_⟩
      rw [e2]
      refine and_congr_right (fun _ => ⟨fun h k' y h1 h3 h4 h5 h6 => ?_, fun h k' y h1 h3 h4 h5 h6 => h k' y h1 h3 (by omega) h5 h6⟩)
      by_cases q : cnt (D.take k') 2 = g
      · have := only k' y h1 h3 q
        subst this
        rw [hx] at h1
        cases h1
        rw [q]
        exact hn h6
      · exact h k' y h1 h3 (by omega) h5 h6
    by_cases q1 : dS x = dS d
    · rw [if_pos q1]
      by_cases q2 : sL σ 1137 g = v2
      · rw [if_pos q2]
        obtain ⟨r, e1, e2⟩ := ih (g + 1) V false (by omega) (by omega)
        refine ⟨r, e1, ?_⟩
        rw [e2]
        refine ⟨fun z => (by cases z.1), fun z => ?_⟩
        exact absurd (by rw [hxg]; exact q2) (z.2 k x hx hx2 (by omega) hki q1)
      · rw [if_neg q2]; exact same (fun _ => q2)
    · rw [if_neg q1]; exact same (fun z => absurd z q1)
/-- what checking leaves -/
def CK (σ τ : SG) (P : Prop) : Prop := fq [74, 75] σ τ ∧ (sI τ 1101 74 = 0 ↔ sI σ 1101 74 = 0 ∧ P)
theorem CK_trans {σ τ υ : SG} {P Q : Prop} (h : CK σ τ P) (h' : CK τ υ Q) : CK σ υ (P ∧ Q) := ⟨fq_trans h.1 h'.1, by rw [h'.2, h.2, and_assoc]⟩
theorem CK_iff {σ τ : SG} {P Q : Prop} (h : CK σ τ P) (hpq : P ↔ Q) : CK σ τ Q := ⟨h.1, by rw [h.2, hpq]⟩
theorem CK_refl {σ : SG} {P : Prop} (h : P) : CK σ σ P := ⟨fq_refl _ _, ⟨fun z => ⟨z, h⟩, fun z => z.1⟩⟩
theorem CK_bad {σ τ : SG} {P : Prop} (hf : fq [74, 75] σ τ) (hz : ¬ sI τ 1101 74 = 0) (h : ¬ P) : CK σ τ P := ⟨hf, ⟨fun z => absurd z hz, fun z => absurd z.2 h⟩⟩
theorem N_num_F {U : Nat} {T : List Nat} {Ws : List Wd} {D : List Dc} {p i : Nat} {d : Dc} {K : Int32 → SG → Option SG} {K2 : SG → Option SG} {σ : SG} (hU : 4000 < U) (hW : WF D) (hG : GD T Ws D) (hl : D.length < 180) (hd : D[i]? = some d) (h2 : dK d = 2) (hM : RM σ T Ws D p) (b : Bool) (hb : b = okN (dN d).2) :
    ∃ τ, x_X12_checkNumbers_52 U 1101 K K2 (nI (cnt (D.take i) 2)) (sL σ 1137 (cnt (D.take i) 2)) (zI b) σ = K (nI (cnt (D.take i) 2 + 1)) τ ∧ CK σ τ (gdF D i d) := by
  have hc := cnt_take_lt hd h2
  have hcl := cnt_le D 2
  obtain ⟨w, w1, w2, w3⟩ := NR_of ((hM.2.2.2 i d hd).2.2.2.1 h2).2.2.2.1 ((hG i d hd).2.1.2.2.1 h2).1
  unfold x_X12_checkNumbers_52
  obtain ⟨r, e1, e2⟩ := N_num_L (U := U) (K := fun w22 => if w22 = 0 then (ix (nI (cnt (D.take i) 2)) 200 fun j24 => b1 (x_X12_earlier 1101 4 (sI σ 1138 j24) σ) fun σ29 => x_X12_checkNumbers_116 U 1101 K K2 (nI (cnt (D.take i) 2)) σ29) else (x_X12_checkNumbers_116 U 1101 K K2 (nI (cnt (D.take i) 2)) σ)) (v2 := sL σ 1137 (cnt (D.take i) 2)) hW hl hd h2 hM (cnt (D.take i) 2) 0 U b (by omega) (by omega)
  have e1' := e1
  rw [show nI 0 = 0 from rfl] at e1'
  rw [e1', ifz]
  have hgd : r = true ↔ gdF D i d := by
    rw [e2, hb]
    unfold gdF
    refine and_congr_right (fun hok => ⟨fun h j x hj hx hx2 hs hn => ?_, fun h k x hx hx2 _ hki hs hn => ?_⟩)
    · obtain ⟨w', w1', w2', w3'⟩ := NR_of ((hM.2.2.2 j x hx).2.2.2.1 hx2).2.2.2.1 ((hG j x hx).2.1.2.2.1 hx2).1
      have hok' := of_decide_eq_true hok
      refine h j x hx hx2 (Nat.zero_le _) hj hs ?_
      rw [w3, w3']
      congr 1
      unfold NV at w2 w2'
      omega
    · obtain ⟨w', w1', w2', w3'⟩ := NR_of ((hM.2.2.2 k x hx).2.2.2.1 hx2).2.2.2.1 ((hG k x hx).2.1.2.2.1 hx2).1
      have hok' := of_decide_eq_true hok
      rw [w3, w3', pk_lEQ (by omega) (by omega)] at hn
      refine h k x hki hx hx2 hs ?_
      unfold NV at w2 w2'
      omega
  unfold x_X12_checkNumbers_116
  rw [nI_1]
  cases hr : r with
  | true =>
    rw [if_pos rfl]
    exact ⟨σ, rfl, CK_refl (hgd.mp hr)⟩
  | false =>
    rw [if_neg (by decide), ix_in (by omega) (by decide)]
    obtain ⟨τ, f1, f2, f3⟩ := N_earlier (σ := σ) (v := 4) (p := sI σ 1138 (cnt (D.take i) 2)) (by decide)
    rw [f1, b1_eq]
    exact ⟨τ, rfl, CK_bad f3 f2 (fun z => by rw [hgd.mpr z] at hr; cases hr)⟩
theorem N_num_1 {U : Nat} {T : List Nat} {Ws : List Wd} {D : List Dc} {p : Nat} {K2 : SG → Option SG} (hU : 4000 < U) (hW : WF D) (hG : GD T Ws D) (hl : D.length < 180) : ∀ (j f U1 : Nat) (σ : SG), f + j = cnt D 2 → j < U1 → RM σ T Ws D p →
    ∃ τ, x_X12_checkNumbers_L2 U 1101 K2 U1 (nI f) σ = K2 τ ∧ CK σ τ (∀ i d, D[i]? = some d → dK d = 2 → f ≤ cnt (D.take i) 2 → gdF D i d) := by
  have hcl := cnt_le D 2
  intro j
  induction j with
  | zero =>
    intro f U1 σ hf hu hM
    obtain ⟨V, rfl⟩ : ∃ V, U1 = V + 1 := ⟨U1 - 1, by omega⟩
    have h34 : sI σ 1101 34 = nI (cnt D 2) := hM.1 2 (by decide)
    rw [x_X12_checkNumbers_L2, h34, if_neg (fun q => by have := (ltI (by omega) (by omega)).mp q; omega)]
    exact ⟨σ, rfl, CK_refl (fun i d h1 h2 h3 => by have := cnt_take_lt h1 h2; omega)⟩
  | succ j ih =>
    intro f U1 σ hf hu hM
    obtain ⟨V, rfl⟩ : ∃ V, U1 = V + 1 := ⟨U1 - 1, by omega⟩
    have h34 : sI σ 1101 34 = nI (cnt D 2) := hM.1 2 (by decide)
    obtain ⟨i, d, hd, h2, hfi⟩ := plc (D := D) (q := 2) f (by omega)
    obtain ⟨w, w1, w2, w3⟩ := NR_of ((hM.2.2.2 i d hd).2.2.2.1 h2).2.2.2.1 ((hG i d hd).2.1.2.2.1 h2).1
    have g := (hG i d hd).2.1.1
    rw [hfi] at w3
    rw [x_X12_checkNumbers_L2, h34, if_pos ((ltI (by omega) (by omega)).mpr (by omega)), ix_in (by omega) (by decide)]
    have go : ∀ (b : Bool), b = okN (dN d).2 → ∃ τ, x_X12_checkNumbers_52 U 1101 (x_X12_checkNumbers_L2 U 1101 K2 V) K2 (nI f) (sL σ 1137 f) (zI b) σ = K2 τ ∧ CK σ τ (∀ i d, D[i]? = some d → dK d = 2 → f ≤ cnt (D.take i) 2 → gdF D i d) := by
      intro b hb
      obtain ⟨υ, e1, e2⟩ := N_num_F (K := x_X12_checkNumbers_L2 U 1101 K2 V) (K2 := K2) hU hW hG hl hd h2 hM b hb
      rw [hfi] at e1
      rw [e1]
      obtain ⟨τ, f1, f2⟩ := ih (f + 1) V υ (by omega) (by omega) (RM_74 hM e2.1)
      refine ⟨τ, f1, CK_iff (CK_trans e2 f2) ⟨fun z i' d' h1 h3 h4 => ?_, fun z => ⟨z i d hd h2 (by omega), fun i' d' h1 h3 h4 => z i' d' h1 h3 (by omega)⟩⟩⟩
      by_cases q : cnt (D.take i') 2 = f
      · have := ord_inj h1 h3 hd h2 (by omega)
        subst this
        rw [hd] at h1
        cases h1
        exact z.1
      · exact z.2 i' d' h1 h3 (by omega)
    have wlt : w < 2 ^ 63 := by omega
    have c1 : sL σ 1137 f < 1 ↔ (dN d).2 < 1 := by rw [w3]; exact (pk_lLT (b := 1) wlt (by decide)).trans (by unfold NV at w2; omega)
    have c2 : (536870911 : Int64) < sL σ 1137 f ↔ 536870911 < (dN d).2 := by rw [w3]; exact (pk_lLT (a := 536870911) (by decide) wlt).trans (by unfold NV at w2; omega)
    have c3 : sL σ 1137 f < 19000 ↔ (dN d).2 < 19000 := by rw [w3]; exact (pk_lLT (b := 19000) wlt (by decide)).trans (by unfold NV at w2; omega)
    have c4 : (19999 : Int64) < sL σ 1137 f ↔ 19999 < (dN d).2 := by rw [w3]; exact (pk_lLT (a := 19999) (by decide) wlt).trans (by unfold NV at w2; omega)
    rw [ifd c1, ifd c2, ifd c3, ifd c4]
    unfold x_X12_checkNumbers_51 x_X12_checkNumbers_47
    by_cases q1 : (dN d).2 < 1
    · rw [if_pos q1]; exact go false (Eq.symm (decide_eq_false (by omega)))
    rw [if_neg q1]
    by_cases q2 : 536870911 < (dN d).2
    · rw [if_pos q2]; exact go false (Eq.symm (decide_eq_false (by omega)))
    rw [if_neg q2]
    by_cases q3 : (dN d).2 < 19000
    · rw [if_pos q3]; exact go true (Eq.symm (decide_eq_true (by omega)))
    rw [if_neg q3]
    by_cases q4 : 19999 < (dN d).2
    · rw [if_pos q4]; exact go true (Eq.symm (decide_eq_true (by omega)))
    rw [if_neg q4]; exact go false (Eq.symm (decide_eq_false (by omega)))
/-- an enum's members are its values -/
theorem chD_nil {D : List Dc} {k e : Nat} (hW : WF D) (he : ∃ y, D[e]? = some y ∧ dK y = 1) : chD D k e = [] ↔ ∀ (j : Nat) (x : Dc), j < k → D[j]? = some x → dK x = 3 → dO x ≠ some e := by
  obtain ⟨y, hy, hy1⟩ := he
  constructor
  · intro h j x hj hx h3 ho
    have : j ∈ chD D k e := (chD_mem k j).mpr ⟨hj, x, hx, Or.inr ⟨h3, ho⟩⟩
    rw [h] at this; cases this
  · intro h
    cases hc : chD D k e with
    | nil => rfl
    | cons a L =>
      exfalso
      have : a ∈ chD D k e := by rw [hc]; exact List.mem_cons_self ..
      obtain ⟨h1, x, h2, h3 | h3⟩ := (chD_mem k a).mp this
      · obtain ⟨z, z1, z2⟩ := hW.scK h2 e h3.2
        rw [hy] at z1
        cases z1
        omega
      · exact h a x h1 h2 h3.1 h3.2
theorem WF.val {D : List Dc} {i : Nat} {d : Dc} (h : WF D) (hd : D[i]? = some d) (h3 : dK d = 3) : ∃ e, dO d = some e ∧ e < i ∧ ∃ y, D[e]? = some y ∧ dK y = 1 := by
  rcases (h i d hd).2 with z | z | z | z | z
  · omega
  · omega
  · omega
  · omega
  · obtain ⟨_, e, he, x, a1, a2, _⟩ := z
    have hl := (List.getElem?_eq_some_iff.mp a1).1
    rw [List.length_take] at hl
    rw [List.getElem?_take_of_lt (by omega)] at a1
    exact ⟨e, he, by omega, x, a1, a2⟩
/-- a value is its enum's first one if the value before it is of another enum -/
theorem first_iff {T : List Nat} {Ws : List Wd} {D : List Dc} {i i' e : Nat} {d d' : Dc} (hW : WF D) (hG : GD T Ws D) (hd : D[i]? = some d) (h3 : dK d = 3) (he : dO d = some e) (hd' : D[i']? = some d') (h3' : dK d' = 3) (hv : cnt (D.take i') 3 + 1 = cnt (D.take i) 3) : dO d' = dO d ↔ ¬ chD D i e = [] := by
  obtain ⟨e2, he2, hei, hey⟩ := hW.val hd h3
  rw [he] at he2
  cases he2
  obtain ⟨e', he', hei', hey'⟩ := hW.val hd' h3'
  have hlt : i' < i := (ord_lt hd' h3' hd h3).mp (by omega)
  rw [chD_nil hW hey]
  constructor
  · intro h hall
    exact hall i' d' hlt hd' h3' (by rw [h, he])
  · intro h
    apply Classical.byContradiction
    intro hne
    apply h
    intro j x hj hx hx3 ho
    -- j is a value of e, at i' or before
    have hji : j ≤ i' := by
      rcases Nat.lt_or_ge i' j with z | z
      · have h1 := cnt_lt_of hd' h3' z
        have h2 := cnt_lt_of hx hx3 hj
        omega
      · exact z
    have hje : e < j := (hW.before hx).2 e ho
    obtain ⟨y, hy, hy1⟩ := hey
    obtain ⟨y', hy', hy1'⟩ := hey'
    rcases Nat.lt_trichotomy e e' with z | z | z
    · exact (hG i d hd).2.2 h3 e he e' y' z (by omega) hy' hy1'
    · exact hne (by rw [he', he, z])
    · exact (hG i' d' hd').2.2 h3' e' he' e y z (by omega) hy hy1
theorem WF.ow {D : List Dc} {i : Nat} {d : Dc} (h : WF D) (hd : D[i]? = some d) (h3 : dK d = 3) : ∀ m, dO d = some m → ∃ x, D[m]? = some x ∧ dK x = 1 := fun m hm => by
  obtain ⟨e, he, _, y⟩ := h.val hd h3
  rw [he] at hm
  cases hm
  exact y
theorem N_num_2 {U : Nat} {T : List Nat} {Ws : List Wd} {D : List Dc} {p : Nat} (hW : WF D) (hG : GD T Ws D) (hl : D.length < 180) : ∀ (j v U1 : Nat) (σ : SG), v + j = cnt D 3 → j < U1 → RM σ T Ws D p →
    ∃ τ, x_X12_checkNumbers_L124 U 1101 U1 (nI v) σ = some τ ∧ CK σ τ (∀ i d, D[i]? = some d → dK d = 3 → v ≤ cnt (D.take i) 3 → gdV D i d) := by
  have hcl := cnt_le D 3
  intro j
  induction j with
  | zero =>
    intro v U1 σ hf hu hM
    obtain ⟨V, rfl⟩ : ∃ V, U1 = V + 1 := ⟨U1 - 1, by omega⟩
    have h35 : sI σ 1101 35 = nI (cnt D 3) := hM.1 3 (by decide)
    rw [x_X12_checkNumbers_L124, h35, if_neg (fun q => by have := (ltI (by omega) (by omega)).mp q; omega)]
    exact ⟨σ, rfl, CK_refl (fun i d h1 h2 h3 => by have := cnt_take_lt h1 h2; omega)⟩
  | succ j ih =>
    intro v U1 σ hf hu hM
    obtain ⟨V, rfl⟩ : ∃ V, U1 = V + 1 := ⟨U1 - 1, by omega⟩
    have h35 : sI σ 1101 35 = nI (cnt D 3) := hM.1 3 (by decide)
    obtain ⟨i, d, hd, h3, hvi⟩ := plc (D := D) (q := 3) v (by omega)
    have row := (hM.2.2.2 i d hd).2.2.2.2 h3
    rw [hvi] at row
    obtain ⟨row1, w, w1, w2, w3⟩ := row
    have g := (hG i d hd).2.1.1
    obtain ⟨e, he, hei, hey⟩ := hW.val hd h3
    have w62 : (((dN d).1, w) : Bool × Nat).2 < 2 ^ 62 := by show w < 2 ^ 62; omega
    -- what follows
    have next : ∀ υ, CK σ υ (gdV D i d) → ∃ τ, x_X12_checkNumbers_212 U 1101 (x_X12_checkNumbers_L124 U 1101 V) (nI v) υ = some τ ∧ CK σ τ (∀ i d, D[i]? = some d → dK d = 3 → v ≤ cnt (D.take i) 3 → gdV D i d) := by
      intro υ hυ
      unfold x_X12_checkNumbers_212
      rw [nI_1]
      obtain ⟨τ, f1, f2⟩ := ih (v + 1) V υ (by omega) (by omega) (RM_74 hM hυ.1)
      refine ⟨τ, f1, CK_iff (CK_trans hυ f2) ⟨fun z i' d' h1 h3' h4 => ?_, fun z => ⟨z i d hd h3 (by omega), fun i' d' h1 h3' h4 => z i' d' h1 h3' (by omega)⟩⟩⟩
      by_cases q : cnt (D.take i') 3 = v
      · have := ord_inj h1 h3' hd h3 (by omega)
        subst this
        rw [hd] at h1
        cases h1
        exact z.1
      · exact z.2 i' d' h1 h3' (by omega)
    have bad : ¬ gdV D i d → ∃ τ, x_X12_checkNumbers_200 U 1101 (x_X12_checkNumbers_L124 U 1101 V) (nI v) σ = some τ ∧ CK σ τ (∀ i d, D[i]? = some d → dK d = 3 → v ≤ cnt (D.take i) 3 → gdV D i d) := by
      intro hb
      unfold x_X12_checkNumbers_200
      rw [ix_in (by omega) (by decide)]
      obtain ⟨τ, f1, f2, f3⟩ := N_earlier (σ := σ) (v := 6) (p := sI σ 1153 v) (by decide)
      rw [f1, b1_eq]
      exact next τ (CK_bad f3 f2 hb)
    -- the number's range
    have rng : (chD D i e = [] → (dN d).2 = 0) → ∃ τ, x_X12_checkNumbers_174 U 1101 (x_X12_checkNumbers_L124 U 1101 V) (nI v) σ = some τ ∧ CK σ τ (∀ i d, D[i]? = some d → dK d = 3 → v ≤ cnt (D.take i) 3 → gdV D i d) := by
      intro h0
      unfold x_X12_checkNumbers_174
      rw [ix_in (by omega) (by decide), w3, ifd (nL_lo w62)]
      by_cases q1 : (dN d).1 = true ∧ 2147483648 < w
      · rw [if_pos q1]
        refine bad (fun z => ?_)
        have := of_decide_eq_true z.1
        unfold NV at w2
        omega
      rw [if_neg q1, ix_in (by omega) (by decide), w3, ifd (nL_hi w62)]
      by_cases q2 : (dN d).1 = false ∧ 2147483647 < w
      · rw [if_pos q2]
        refine bad (fun z => ?_)
        have := of_decide_eq_true z.1
        rw [q2.1] at this
        unfold NV at w2
        rcases this with y | y
        · omega
        · cases y.1
      rw [if_neg q2]
      refine next σ (CK_refl ⟨decide_eq_true ?_, fun e' he' => by rw [he] at he'; cases he'; exact h0⟩)
      unfold NV at w2
      cases hb : (dN d).1 with
      | true =>
        have : ¬ 2147483648 < w := fun z => q1 ⟨hb, z⟩
        by_cases q : (dN d).2 = 2147483648
        · exact Or.inr ⟨rfl, q⟩
        · exact Or.inl (by omega)
      | false =>
        have : ¬ 2147483647 < w := fun z => q2 ⟨hb, z⟩
        exact Or.inl (by omega)
    have fst : chD D i e = [] → ∃ τ, x_X12_checkNumbers_153 U 1101 (x_X12_checkNumbers_L124 U 1101 V) (nI v) σ = some τ ∧ CK σ τ (∀ i d, D[i]? = some d → dK d = 3 → v ≤ cnt (D.take i) 3 → gdV D i d) := by
      intro hn
      unfold x_X12_checkNumbers_153 x_X12_checkNumbers_158
      rw [if_neg (by decide), ix_in (by omega) (by decide), w3, ifd (nL_0 w62)]
      by_cases q : w = 0
      · rw [if_pos q]; exact rng (fun _ => by unfold NV at w2; omega)
      · rw [if_neg q]; exact bad (fun z => q (by have := z.2 e he hn; unfold NV at w2; omega))
    rw [x_X12_checkNumbers_L124, h35, if_pos ((ltI (by omega) (by omega)).mpr (by omega))]
    by_cases q0 : v = 0
    · rw [if_pos (show nI v = 0 by rw [q0]; rfl)]
      refine fst ((chD_nil hW hey).mpr (fun j x hj hx hx3 _ => ?_))
      have := cnt_lt_of hx hx3 hj
      omega
    · rw [if_neg (show ¬ nI v = 0 from fun z => q0 ((nI_eq (b := 0) (by omega) (by decide)).mp z)), show (1 : Int32) = nI 1 from rfl, nI_sub (by omega), ix_in (by omega) (by decide), ix_in (by omega) (by decide)]
      obtain ⟨i', d', hd', h3', hvi'⟩ := plc (D := D) (q := 3) (v - 1) (by omega)
      have row' := ((hM.2.2.2 i' d' hd').2.2.2.2 h3').1
      rw [hvi'] at row'
      have fi := first_iff hW hG hd h3 he hd' h3' (by omega)
      rw [row'.1, row1.1, ifd (oq_inj hl (hW.ow hd' h3') (hW.ow hd h3)), ifd fi]
      by_cases qn : chD D i e = []
      · rw [if_neg (fun z => z qn)]; exact fst qn
      · rw [if_pos qn]
        unfold x_X12_checkNumbers_158
        rw [if_pos rfl]
        exact rng (fun z => absurd z qn)
theorem N_checkNumbers {U : Nat} {T : List Nat} {Ws : List Wd} {D : List Dc} {p : Nat} {σ : SG} (hU : 4000 < U) (hW : WF D) (hG : GD T Ws D) (hl : D.length < 180) (hM : RM σ T Ws D p) :
    ∃ τ, x_X12_checkNumbers U 1101 σ = some τ ∧ CK σ τ ((∀ i d, D[i]? = some d → dK d = 2 → gdF D i d) ∧ ∀ i d, D[i]? = some d → dK d = 3 → gdV D i d) := by
  have hc2 := cnt_le D 2
  have hc3 := cnt_le D 3
  unfold x_X12_checkNumbers
  obtain ⟨υ, e1, e2⟩ := N_num_1 (K2 := fun σ33 => x_X12_checkNumbers_L124 U 1101 U 0 σ33) hU hW hG hl (cnt D 2) 0 U σ (by omega) (by omega) hM
  have e1' : x_X12_checkNumbers_L2 U 1101 (fun σ33 => x_X12_checkNumbers_L124 U 1101 U 0 σ33) U 0 σ = x_X12_checkNumbers_L124 U 1101 U 0 υ := e1
  obtain ⟨τ, f1, f2⟩ := N_num_2 (U := U) hW hG hl (cnt D 3) 0 U υ (by omega) (by omega) (RM_74 hM e2.1)
  have f1' : x_X12_checkNumbers_L124 U 1101 U 0 υ = some τ := f1
  rw [e1', f1']
  exact ⟨τ, rfl, CK_iff (CK_trans e2 f2) ⟨fun z => ⟨fun i d h1 h2 => z.1 i d h1 h2 (Nat.zero_le _), fun i d h1 h2 => z.2 i d h1 h2 (Nat.zero_le _)⟩, fun z => ⟨fun i d h1 h2 _ => z.1 i d h1 h2, fun i d h1 h2 _ => z.2 i d h1 h2⟩⟩⟩
