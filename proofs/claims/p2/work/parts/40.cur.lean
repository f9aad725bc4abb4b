/-! ===== the reference's current word ===== -/
def CW (σ : SG) (x : Wd) : Prop := sI σ 1101 70 = nI x.1 ∧ sI σ 1101 71 = nI x.2.1 ∧ (x.1 ≠ 0 → x.1 ≠ 5 → sI σ 1101 72 = nI x.2.2.1 ∧ sI σ 1101 76 = 0) ∧ (x.1 = 2 → ∃ v n, sL σ 1101 77 = lN v ∧ v < 2 ^ 54 ∧ NV v n ∧ x.2.2.2 = lN n)
theorem X12_text_L {U : Nat} {σ : SG} {T : List Nat} {k : Int32 → Option SG} (h : LR σ T) : ∀ (j p U1 : Nat), p + j = T.length → j < U1 → x_X12_readText_L7 U 1101 k σ U1 (nI p) = k (nI (p + rn pT T p)) := by
  have hl := h.2.2.1
  have hok := h.2.2.2
  intro j
  induction j with
  | zero =>
    intro p U1 hp hU
    obtain ⟨V, rfl⟩ : ∃ V, U1 = V + 1 := ⟨U1 - 1, by omega⟩
    have e : T[p]? = none := List.getElem?_eq_none (by omega)
    rw [x_X12_readText_L7, h.at (by omega), b1_eq, bA_none e, if_pos (by decide), rn_ge (by omega)]; rfl
  | succ j ih =>
    intro p U1 hp hU
    obtain ⟨V, rfl⟩ : ∃ V, U1 = V + 1 := ⟨U1 - 1, by omega⟩
    have hpl : p < T.length := by omega
    have e := List.getElem?_eq_getElem hpl
    have hc := hok _ (List.mem_of_getElem? e)
    rw [x_X12_readText_L7, h.at (by omega), b1_eq, b1_eq, b1_eq, b1_eq, bA_some e]
    cases hb : pT T[p] with
    | true =>
      obtain ⟨a1, a2, a3, a4⟩ := (pT_bad _ hc).mp hb
      have hbp : bP pT T p = true := by unfold bP; rw [e]; exact hb
      rw [if_neg a2, if_neg a3, if_neg a1, if_neg a4, nI_1, ih (p + 1) V (by omega) (by omega), (rn_yes hbp).2]
      congr 2; omega
    | false =>
      have hbp : bP pT T p = false := by unfold bP; rw [e]; exact hb
      rw [rn_no hbp, Nat.add_zero]
      have hn := fun z => Bool.false_ne_true (hb.symm.trans ((pT_bad _ hc).mpr z))
      by_cases q2 : nI T[p] < 32
      · rw [if_pos q2]
      · rw [if_neg q2]
        by_cases q3 : 126 < nI T[p]
        · rw [if_pos q3]
        · rw [if_neg q3]
          by_cases q1 : nI T[p] = 34
          · rw [if_pos q1]
          · rw [if_neg q1]
            by_cases q4 : nI T[p] = 92
            · rw [if_pos q4]
            · exact absurd ⟨q1, q2, q3, q4⟩ hn
theorem X12_readText {U p : Nat} {σ : SG} {T : List Nat} (hU : 4000 < U) (h : LR σ T) (hp : p < T.length) (h71 : sI σ 1101 71 = nI p) : ∃ τ, x_X12_readText U 1101 σ = some τ ∧ sI τ 1101 70 = nI (if T[ten T p]? = some 34 then 3 else 5) ∧ sI τ 1101 72 = nI (ten T p + 1) ∧ fq [70, 72] σ τ := by
  have hl := h.2.2.1
  have he : ten T p ≤ T.length := rn_le' (by omega)
  unfold x_X12_readText
  rw [h71, nI_1, X12_text_L h (T.length - (p + 1)) (p + 1) U (by omega) (by omega)]
  show ∃ τ, x_X12_readText_53 U 1101 (nI (ten T p)) σ = some τ ∧ _
  unfold x_X12_readText_53 x_X12_readText_69
  rw [h.at (by omega), b1_eq, l34, ifA h.2.2.2 (by decide), nI_1]
  by_cases q : T[ten T p]? = some 34
  · rw [if_pos q, if_pos q]
    refine ⟨_, rfl, ?_, sI_s _ _ _ _, fq_trans (fq_u (by decide)) (fq_u (by decide))⟩
    rw [sI_o (by decide), sI_s]; rfl
  · rw [if_neg q, if_neg q]
    refine ⟨_, rfl, ?_, sI_s _ _ _ _, fq_trans (fq_u (by decide)) (fq_u (by decide))⟩
    rw [sI_o (by decide), sI_s]; rfl
theorem X12_name_L {U : Nat} {T : List Nat} : ∀ (j p U1 : Nat) (σ : SG), p + j = T.length → j < U1 → LR σ T → sI σ 1101 72 = nI p → ∃ τ, x_X12_look_L65 U 1101 U1 σ = some τ ∧ sI τ 1101 72 = nI (p + rn pW T p) ∧ fq [72] σ τ := by
  intro j
  induction j with
  | zero =>
    intro p U1 σ hp hU h h72
    have hl := h.2.2.1
    obtain ⟨V, rfl⟩ : ∃ V, U1 = V + 1 := ⟨U1 - 1, by omega⟩
    have hb : bP pW T p = false := by unfold bP; rw [List.getElem?_eq_none (by omega)]
    refine ⟨σ, ?_, by rw [rn_no hb]; exact h72, fq_refl _ _⟩
    rw [x_X12_look_L65, h72, h.at (by omega), b1_eq, V_isPart h.2.2.2, b1_eq, ifz, hb, if_neg (by decide)]
  | succ j ih =>
    intro p U1 σ hp hU h h72
    have hl := h.2.2.1
    obtain ⟨V, rfl⟩ : ∃ V, U1 = V + 1 := ⟨U1 - 1, by omega⟩
    rw [x_X12_look_L65, h72, h.at (by omega), b1_eq, V_isPart h.2.2.2, b1_eq, ifz]
    cases hb : bP pW T p with
    | false => rw [if_neg (by decide), rn_no hb]; exact ⟨σ, rfl, h72, fq_refl _ _⟩
    | true =>
      rw [if_pos rfl, sb_eq, nI_1, (rn_yes hb).2]
      have f := fq_u (k := 72) (K := [72]) (σ := σ) (v := nI (p + 1)) (by decide)
      obtain ⟨τ, g1, g2, g3⟩ := ih (p + 1) V _ (by omega) (by omega) (h.fq f (by decide)) (sI_s _ _ _ _)
      refine ⟨τ, g1, ?_, fq_trans f g3⟩
      rw [g2]; congr 1; omega
theorem lm1 {T : List Nat} {p : Nat} (hT : ok8 T) : bA T p = -1 ↔ T[p]? = none := by
  cases e : T[p]? with
  | none => rw [bA_none e]; exact ⟨fun _ => rfl, fun _ => rfl⟩
  | some c => rw [bA_some e]; exact ⟨fun q => absurd q.symm ((by decide +kernel : ∀ c, c < 256 → ¬ (-1 : Int32) = nI c) c (hT c (List.mem_of_getElem? e))), fun q => by cases q⟩
theorem X12_look {U p : Nat} {σ : SG} {T : List Nat} (hU : 4000 < U) (h : LR σ T) (hp : p ≤ T.length) (h76 : sI σ 1101 76 = 0) : ∃ τ, x_X12_look U 1101 (nI p) σ = some τ ∧ CW τ (nw T p) ∧ fq [70, 71, 72, 76] σ τ := by
  have hl := h.2.2.1
  have hok := h.2.2.2
  obtain ⟨σ3, g1, g2, g3⟩ := X12_behindBlanks (u := false) hU h hp (by rw [h76]; rfl)
  have hq := (bbS_le (T := T) (T.length + 1) p false (by omega) hp).1
  have hnwE : nw T p = lx T (bbS T p false).1 (bbS T p false).2 := rfl
  have hpos := fun h0 h5 => (nw_pos (T := T) hp h0 h5).2.2
  rw [hnwE] at hpos ⊢
  generalize (bbS T p false).1 = q at *
  generalize (bbS T p false).2 = u at *
  let σ7 := uI (uI σ3 1101 71 (nI q)) 1101 72 (nI (q + 1))
  have f7 : fq [70, 71, 72, 76] σ σ7 := fq_trans (fq_mono (fq_f1 g3) (by decide)) (fq_trans (fq_u (by decide)) (fq_u (by decide)))
  have h7 : LR σ7 T := h.fq f7 (by decide)
  have h4 : LR (uI σ3 1101 71 (nI q)) T := h.fq (K := [70, 71, 72, 76]) (fq_trans (fq_mono (fq_f1 g3) (by decide)) (fq_u (by decide))) (by decide)
  have i71 : sI σ7 1101 71 = nI q := by show sI (uI (uI σ3 1101 71 (nI q)) 1101 72 (nI (q + 1))) 1101 71 = _; rw [sI_o (by decide), sI_s]
  have i72 : sI σ7 1101 72 = nI (q + 1) := sI_s _ _ _ _
  have i76 : sI σ7 1101 76 = zI u := by show sI (uI (uI σ3 1101 71 (nI q)) 1101 72 (nI (q + 1))) 1101 76 = _; rw [sI_o (by decide), sI_o (by decide), g2]
  have e1 : x_X12_look U 1101 (nI p) σ = x_X12_look_50 U 1101 (bA T q) (nI (match T[q]? with | none => (if u then 5 else 0) | some _ => 4)) σ7 := by
    unfold x_X12_look
    rw [g1, b2_eq, sb_eq, sI_s, h4.at (by omega), b1_eq, sb_eq, nI_1]
    show (if bA T q = -1 then (if sI σ7 1101 76 = 0 then _ else _) else _) = _
    rw [i76, ifz]
    cases e : T[q]? with
    | none => rw [if_pos ((lm1 hok).mpr e)]; cases u <;> rfl
    | some c => rw [if_neg (fun z => by rw [(lm1 hok).mp z] at e; cases e)]; rfl
  rw [e1]
  unfold x_X12_look_50
  rw [sb_eq, V_isLetter hok, b1_eq, ifz, V_isDigit hok, b1_eq, ifz]
  have f10 : ∀ v, fq [70, 71, 72, 76] σ (uI σ7 1101 70 v) := fun v => fq_trans f7 (fq_u (by decide))
  have j71 : ∀ v, sI (uI σ7 1101 70 v) 1101 71 = nI q := fun v => by rw [sI_o (by decide), i71]
  have j72 : ∀ v, sI (uI σ7 1101 70 v) 1101 72 = nI (q + 1) := fun v => by rw [sI_o (by decide), i72]
  have j76 : ∀ v, sI (uI σ7 1101 70 v) 1101 76 = zI u := fun v => by rw [sI_o (by decide), i76]
  cases e : T[q]? with
  | none =>
    have el : lx T q u = (if u then 5 else 0, q, q, -1) := by unfold lx; rw [e]
    have n1 : bP pL T q = false := by unfold bP; rw [e]
    have n2 : bP pD T q = false := by unfold bP; rw [e]
    rw [n1, n2, if_neg (by decide), if_neg (by decide), if_neg (by rw [bA_none e]; decide), el]
    refine ⟨_, rfl, ⟨sI_s _ _ _ _, j71 _, fun h0 h5 => ?_, fun h2 => ?_⟩, f10 _⟩
    · cases u <;> simp at h0 h5
    · cases u <;> simp at h2
  | some c =>
    have hql := (List.getElem?_eq_some_iff.mp e).1
    have hc := hok c (List.mem_of_getElem? e)
    have n1 : bP pL T q = pL c := by unfold bP; rw [e]
    have n2 : bP pD T q = pD c := by unfold bP; rw [e]
    rw [n1, n2]
    simp only
    cases q1 : pL c with
    | true =>
      have el : lx T q u = (1, q, q + rn pW T q, Int32.toInt64 (cdS (slc T q (q + rn pW T q)))) := by unfold lx; rw [e]; simp only; rw [if_pos q1]
      rw [el] at hpos ⊢
      have hu := hpos (show (1 : Nat) ≠ 0 by decide) (show (1 : Nat) ≠ 5 by decide)
      subst hu
      rw [if_pos rfl, sb_eq]
      have f11 : fq [70, 71, 72, 76] σ (uI (uI σ7 1101 70 (nI 4)) 1101 70 1) := fq_trans (f10 _) (fq_u (by decide))
      obtain ⟨τ, k1, k2, k3⟩ := X12_name_L (U := U) (T.length - (q + 1)) (q + 1) U (uI (uI σ7 1101 70 (nI 4)) 1101 70 1) (by omega) (by omega) (h.fq f11 (by decide)) (by rw [sI_o (by decide)]; exact j72 _)
      have hb : bP pW T q = true := by unfold bP; rw [e]; exact pL_W c q1
      refine ⟨τ, k1, ⟨?_, ?_, fun _ _ => ⟨?_, ?_⟩, fun h2 => by cases h2⟩, fq_trans f11 (fq_mono k3 (by decide))⟩
      · rw [k3.2.1 70 (by decide), sI_s]; rfl
      · rw [k3.2.1 71 (by decide), sI_o (by decide), j71]
      · rw [k2]; show nI _ = nI (q + rn pW T q); rw [(rn_yes hb).2]; congr 1; omega
      · rw [k3.2.1 76 (by decide), sI_o (by decide), j76]; rfl
    | false =>
      rw [if_neg (by decide)]
      cases q2 : pD c with
      | true =>
        have el : lx T q u = (if nok T q then 2 else 5, q, nen T q, lN (nvC T q)) := by unfold lx; rw [e]; simp only; rw [if_neg (by rw [q1]; decide), if_pos q2]
        rw [el] at hpos ⊢
        rw [if_pos rfl]
        obtain ⟨τ, k1, k2, k3, k4, k5, k6⟩ := X12_readNumber hU (h.fq (f10 (nI 4)) (by decide)) hql (j71 _)
        rw [k1, b1_eq]
        refine ⟨τ, rfl, ⟨k2, ?_, fun h0 h5 => ⟨k3, ?_⟩, fun _ => ⟨_, _, k4, k5, NV_num T q, rfl⟩⟩, fq_trans (f10 _) (fq_mono k6 (by decide))⟩
        · rw [k6.2.1 71 (by decide), j71]
        · rw [k6.2.1 76 (by decide), j76, hpos h0 h5]; rfl
      | false =>
        rw [if_neg (by decide)]
        by_cases q3 : c = 34
        · have el : lx T q u = (if T[ten T q]? = some 34 then (3, q, ten T q + 1, Int32.toInt64 (cdS (slc T (q + 1) (ten T q)))) else (5, q, q, -1)) := by unfold lx; rw [e]; simp only; rw [if_neg (by rw [q1]; decide), if_neg (by rw [q2]; decide), if_pos q3]
          rw [el] at hpos ⊢
          rw [if_pos (by rw [bA_some e, q3]; rfl)]
          obtain ⟨τ, k1, k2, k3, k4⟩ := X12_readText hU (h.fq (f10 (nI 4)) (by decide)) hql (j71 _)
          rw [k1, b1_eq]
          refine ⟨τ, rfl, ?_, fq_trans (f10 _) (fq_mono k4 (by decide))⟩
          have m71 : sI τ 1101 71 = nI q := by rw [k4.2.1 71 (by decide), j71]
          by_cases q4 : T[ten T q]? = some 34
          · rw [if_pos q4] at hpos k2 ⊢
            refine ⟨k2, m71, fun h0 h5 => ⟨k3, ?_⟩, fun h2 => by cases h2⟩
            rw [k4.2.1 76 (by decide), j76, hpos h0 h5]; rfl
          · rw [if_neg q4] at k2 ⊢
            exact ⟨k2, m71, fun _ h5 => absurd rfl h5, fun h2 => by cases h2⟩
        · have el : lx T q u = (4, q, q + 1, Int32.toInt64 (nI c)) := by unfold lx; rw [e]; simp only; rw [if_neg (by rw [q1]; decide), if_neg (by rw [q2]; decide), if_neg q3]
          rw [el] at hpos ⊢
          rw [if_neg (by rw [bA_some e]; exact fun z => q3 ((nI_eq (a := c) (b := 34) (by omega) (by decide)).mp z))]
          refine ⟨_, rfl, ⟨sI_s _ _ _ _, j71 _, fun h0 h5 => ⟨j72 _, ?_⟩, fun h2 => by cases h2⟩, f10 _⟩
          rw [j76, hpos h0 h5]; rfl
