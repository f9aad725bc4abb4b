/-! ===== the class's splitting into words ===== -/
def slc (T : List Nat) (s e : Nat) : List Nat := (T.drop s).take (e - s)
/-- a name's or a text's code -/
def cdS (S : List Nat) : Int32 := match wI S (tby.getD 3 []) 0 0 true with
  | some i => nI i
  | none => match wI S (tby.getD 4 []) 0 0 true with
    | some i => nI (20 + i)
    | none => match wI S (tby.getD 5 []) 0 0 true with
      | some _ => 40
      | none => -1
theorem wI_le {S : List Nat} : ∀ (r : List Nat) (i m : Nat) (z : Bool) (x : Nat), wI S r i m z = some x → x ≤ i + r.length := by
  intro r
  induction r with
  | nil =>
    intro i m z x h
    rw [wI] at h
    split at h
    · cases h; simp
    · cases h
  | cons c r ih =>
    intro i m z x h
    rw [wI] at h
    rw [List.length_cons]
    split at h
    · split at h
      · cases h; omega
      · have := ih _ _ _ _ h; omega
    · have := ih _ _ _ _ h; omega
theorem X10_codeBetween {U w s e : Nat} {σ : SG} {T : List Nat} (hU : 4000 < U) (h : LX σ w T) (hse : s ≤ e) (he : e ≤ T.length) : x_X10_codeBetween U w (nI s) (nI e) σ = some (cdS (slc T s e)) := by
  unfold x_X10_codeBetween cdS
  rw [X0_wordIn hU h.2.1 (by decide) hse he, b1_eq]
  show _ = some (match wI (slc T s e) _ 0 0 true with | some i => _ | none => _)
  unfold slc
  have bnd : ∀ k x, wI ((T.drop s).take (e - s)) (tby.getD k []) 0 0 true = some x → x ≤ 200 := fun k x hx => by
    have := wI_le _ _ _ _ _ hx
    have h2 : (tby.getD k []).length ≤ 200 := tlen_le k
    omega
  cases h1 : wI ((T.drop s).take (e - s)) (tby.getD 3 []) 0 0 true with
  | some i => rw [if_neg (by show ¬ nI i < 0; have := bnd _ _ h1; exact nI_neg (by omega))]; rfl
  | none =>
    rw [if_pos (by decide), X0_wordIn hU h.2.1 (by decide) hse he, b1_eq]
    cases h2 : wI ((T.drop s).take (e - s)) (tby.getD 4 []) 0 0 true with
    | some i => rw [if_neg (by show ¬ nI i < 0; have := bnd _ _ h2; exact nI_neg (by omega))]; exact congrArg some (nI_add 20 i)
    | none =>
      rw [if_pos (by decide), X0_wordIn hU h.2.1 (by decide) hse he, b1_eq]
      cases h3 : wI ((T.drop s).take (e - s)) (tby.getD 5 []) 0 0 true with
      | some i => rw [if_neg (by show ¬ nI i < 0; have := bnd _ _ h3; exact nI_neg (by omega))]
      | none => rw [if_pos (by decide)]
/-- the number that begins at p: is it written by sixteen; where its digits begin and end; is it right -/
def hx (T : List Nat) (p : Nat) : Bool := decide (T[p]? = some 48 ∧ T[p + 1]? = some 120)
def nbg (T : List Nat) (p : Nat) : Nat := if hx T p then p + 2 else p
def nen (T : List Nat) (p : Nat) : Nat := nbg T p + rn (dg (hx T p)) T (nbg T p)
def nok (T : List Nat) (p : Nat) : Bool := decide (nbg T p < nen T p) && !(!(hx T p) && decide (T[p]? = some 48) && decide (p + 1 < nen T p)) && !(bP pW T (nen T p))
def nvC (T : List Nat) (p : Nat) : Nat := cf (bs (hx T p)) 0 (rl (dg (hx T p)) T (nbg T p))
theorem nbg_le {T : List Nat} {p : Nat} (hp : p < T.length) : nbg T p ≤ T.length ∧ p ≤ nbg T p := by
  unfold nbg
  cases h : hx T p with
  | false => rw [if_neg (by decide)]; omega
  | true =>
    unfold hx at h
    have := (List.getElem?_eq_some_iff.mp (of_decide_eq_true h).2).1
    rw [if_pos rfl]; omega
theorem nen_le {T : List Nat} {p : Nat} (hp : p < T.length) : nen T p ≤ T.length ∧ nbg T p ≤ nen T p := by
  unfold nen
  exact ⟨rn_le' (nbg_le hp).1, by omega⟩
theorem l48 : (48 : Int32) = nI 48 := rfl
theorem l120 : (120 : Int32) = nI 120 := rfl
theorem l34 : (34 : Int32) = nI 34 := rfl
theorem l92 : (92 : Int32) = nI 92 := rfl
theorem X10_num_fin {U w p e : Nat} {σ : SG} {v : Int64} {Ws : List Wd} (hW : WA σ w Ws) (hl : Ws.length < 701) (s0 : Bool) : ∃ τ, x_X10_addNumber_178 U w (nI p) v (nI e) (zI s0) σ = some (nI (if s0 then e else p), τ) ∧ WA τ w (Ws ++ [(if s0 then 2 else 5, p, e, v)]) ∧ fWd w [5] σ τ := by
  unfold x_X10_addNumber_178 x_X10_addNumber_191
  rw [ifz]
  cases s0 with
  | false =>
    obtain ⟨τ, g1, g2, g3⟩ := X10_push (kd := 5) (s := p) (e := e) (v := v) hW hl (by decide)
    refine ⟨τ, ?_, g2, g3⟩
    rw [if_neg (by decide), show (5 : Int32) = nI 5 from rfl, g1, b2_eq]; rfl
  | true =>
    obtain ⟨τ, g1, g2, g3⟩ := X10_push (kd := 2) (s := p) (e := e) (v := v) hW hl (by decide)
    refine ⟨τ, ?_, g2, g3⟩
    rw [if_pos rfl, show (2 : Int32) = nI 2 from rfl, g1, b2_eq]; rfl
theorem X10_num_mid {U w p g e : Nat} {σ : SG} {T : List Nat} {v : Int64} (h : LX σ w T) (hg : g ≤ T.length) (he : e ≤ T.length) (z0 : Bool) : x_X10_addNumber_145 U w (nI p) (nI g) v (nI e) (zI z0) σ = x_X10_addNumber_178 U w (nI p) v (nI e) (zI (decide (g < e) && !z0 && !(bP pW T e))) σ := by
  have hlen := h.2.2.2
  unfold x_X10_addNumber_145 x_X10_addNumber_177
  rw [h.at (by omega), b1_eq, W_isWordByte h.ok8, b1_eq, ifz, ifz]
  by_cases q : g < e
  · rw [if_pos ((ltI (by omega) (by omega)).mpr q), decide_eq_true q]
    cases z0 <;> cases bP pW T e <;> simp [zI]
  · rw [if_neg (fun z => q ((ltI (by omega) (by omega)).mp z)), decide_eq_false q]; simp [zI]
theorem X10_num_front {U w p g e : Nat} {σ : SG} {T : List Nat} {v : Int64} (h : LX σ w T) (hp : p < T.length) (hg : g ≤ T.length) (he : e ≤ T.length) (hh : Bool) : x_X10_addNumber_115 U w (nI p) (zI hh) (nI g) v (nI e) σ = x_X10_addNumber_178 U w (nI p) v (nI e) (zI (decide (g < e) && !(!hh && decide (T[p]? = some 48) && decide (p + 1 < e)) && !(bP pW T e))) σ := by
  have hlen := h.2.2.2
  unfold x_X10_addNumber_115 x_X10_addNumber_144
  rw [h.at (by omega), b1_eq, l48, ifA h.ok8 (by decide), ifz, nI_1]
  have m1 := X10_num_mid (U := U) (p := p) (v := v) h hg he true
  have m0 := X10_num_mid (U := U) (p := p) (v := v) h hg he false
  rw [zI1] at m1
  rw [zI0] at m0
  rw [m1, m0]
  cases hh with
  | true => rw [if_pos rfl]; simp
  | false =>
    rw [if_neg (by decide)]
    by_cases c1 : T[p]? = some 48
    · rw [if_pos c1]
      by_cases c2 : p + 1 < e
      · rw [if_pos ((ltI (by omega) (by omega)).mpr c2)]; simp [c1, c2]
      · rw [if_neg (fun z => c2 ((ltI (by omega) (by omega)).mp z))]; simp [c1, c2]
    · rw [if_neg c1]; simp [c1]
theorem X10_num_45 {U w p g : Nat} {σ : SG} {T : List Nat} (hU : 4000 < U) (h : LX σ w T) (hp : p < T.length) (hg : g ≤ T.length) (hh : Bool) : x_X10_addNumber_45 U w (nI p) (zI hh) (nI g) σ = x_X10_addNumber_115 U w (nI p) (zI hh) (nI g) (lN (cf (bs hh) 0 (rl (dg hh) T g))) (nI (g + rn (dg hh) T g)) σ := by
  have hlen := h.2.2.2
  have e0 : x_X10_addNumber_45 U w (nI p) (zI hh) (nI g) σ = x_X10_addNumber_57 U w (nI p) (zI hh) (nI g) (nI (bs hh)) σ := by
    unfold x_X10_addNumber_45
    rw [ifz]
    cases hh <;> rfl
  rw [e0]
  unfold x_X10_addNumber_57
  exact X10_digits_L (U := U) (k := fun w15 w16 => x_X10_addNumber_115 U w (nI p) (zI hh) (nI g) w15 w16 σ) h (T.length - g) g U 0 (by omega) (by omega) (Nat.zero_le _)
theorem X10_addNumber {U w p : Nat} {σ : SG} {T : List Nat} {Ws : List Wd} (hU : 4000 < U) (h : LX σ w T) (hp : p < T.length) (hW : WA σ w Ws) (hl : Ws.length < 701) :
    ∃ τ, x_X10_addNumber U w (nI p) σ = some (nI (if nok T p then nen T p else p), τ) ∧ WA τ w (Ws ++ [(if nok T p then 2 else 5, p, nen T p, lN (nvC T p))]) ∧ fWd w [5] σ τ := by
  have hlen := h.2.2.2
  have hok := h.ok8
  obtain ⟨hb1, hb2⟩ := nbg_le hp
  obtain ⟨he1, he2⟩ := nen_le hp
  obtain ⟨τ, g1, g2, g3⟩ := X10_num_fin (U := U) (p := p) (e := nen T p) (v := lN (nvC T p)) hW hl (nok T p)
  refine ⟨τ, ?_, g2, g3⟩
  have e1 : x_X10_addNumber U w (nI p) σ = x_X10_addNumber_45 U w (nI p) (zI (hx T p)) (nI (nbg T p)) σ := by
    unfold x_X10_addNumber x_X10_addNumber_32 x_X10_addNumber_33
    rw [h.at (by omega), b1_eq, l48, ifA hok (by decide), nI_1, h.at (by omega), b1_eq, l120, ifA hok (by decide)]
    have e2 : nI p + 2 = nI (p + 2) := nI_add p 2
    have nh : hx T p = false → nbg T p = p := fun q => by unfold nbg; rw [q, if_neg (by decide)]
    have yh : hx T p = true → nbg T p = p + 2 := fun q => by unfold nbg; rw [q, if_pos rfl]
    by_cases c1 : T[p]? = some 48
    · rw [if_pos c1]
      by_cases c2 : T[p + 1]? = some 120
      · have hh : hx T p = true := by unfold hx; exact decide_eq_true ⟨c1, c2⟩
        rw [if_pos c2, if_neg (by decide), e2, yh hh, hh, zI1]
      · have hh : hx T p = false := by unfold hx; exact decide_eq_false (fun z => c2 z.2)
        rw [if_neg c2, if_pos rfl, nh hh, hh, zI0]
    · have hh : hx T p = false := by unfold hx; exact decide_eq_false (fun z => c1 z.1)
      rw [if_neg c1, if_pos rfl, nh hh, hh, zI0]
  rw [e1, X10_num_45 hU h hp hb1]
  show x_X10_addNumber_115 U w (nI p) (zI (hx T p)) (nI (nbg T p)) (lN (nvC T p)) (nI (nen T p)) σ = _
  rw [X10_num_front h hp hb1 he1]
  exact g1
/-- where a text's bytes end -/
def ten (T : List Nat) (p : Nat) : Nat := p + 1 + rn pT T (p + 1)
theorem pT_bad : ∀ c, c < 256 → (pT c = true ↔ ¬ nI c = 34 ∧ ¬ nI c < 32 ∧ ¬ 126 < nI c ∧ ¬ nI c = 92) := by decide +kernel
theorem X10_text_L {U w : Nat} {σ : SG} {T : List Nat} {k27 : Int32 → Option (Int32 × SG)} {k64 : Option (Int32 × SG)} {v1 : Int32} (h : LX σ w T) : ∀ (j p U1 : Nat), p + j = T.length → j < U1 →
    x_X10_addText_L4 U w k27 k64 k64 v1 σ U1 (nI p) = if T[p + rn pT T p]? = some 34 then k27 (nI (p + rn pT T p)) else k64 := by
  have hl := h.2.2.2
  intro j
  induction j with
  | zero =>
    intro p U1 hp hU
    obtain ⟨V, rfl⟩ : ∃ V, U1 = V + 1 := ⟨U1 - 1, by omega⟩
    rw [x_X10_addText_L4, h.2.2.1, if_neg (fun q => by have := (ltI (by omega) (by omega)).mp q; omega), rn_ge (by omega), if_neg (by rw [List.getElem?_eq_none (by omega)]; exact fun z => by cases z)]
  | succ j ih =>
    intro p U1 hp hU
    obtain ⟨V, rfl⟩ : ∃ V, U1 = V + 1 := ⟨U1 - 1, by omega⟩
    have hpl : p < T.length := by omega
    have e := List.getElem?_eq_getElem hpl
    have hc := h.ok8 _ (List.mem_of_getElem? e)
    rw [x_X10_addText_L4, h.2.2.1, if_pos ((ltI (by omega) (by omega)).mpr (by omega)), h.at (by omega), b1_eq, bA_some e]
    cases hb : pT T[p] with
    | true =>
      obtain ⟨a1, a2, a3, a4⟩ := (pT_bad _ hc).mp hb
      have hbp : bP pT T p = true := by unfold bP; rw [e]; exact hb
      rw [if_neg a1, if_neg a2, if_neg a3, if_neg a4, nI_1, ih (p + 1) V (by omega) (by omega), (rn_yes hbp).2, show p + (rn pT T (p + 1) + 1) = p + 1 + rn pT T (p + 1) by omega]
    | false =>
      have hbp : bP pT T p = false := by unfold bP; rw [e]; exact hb
      rw [rn_no hbp, Nat.add_zero, e]
      by_cases q : T[p] = 34
      · rw [if_pos (by rw [q]; rfl), if_pos (by rw [q])]
      · rw [if_neg (show ¬ nI T[p] = 34 from fun z => q ((nI_eq (a := T[p]) (b := 34) (by omega) (by decide)).mp z)), if_neg (fun z => q (Option.some.inj z))]
        have hn := fun z => Bool.false_ne_true (hb.symm.trans ((pT_bad _ hc).mpr z))
        by_cases q2 : nI T[p] < 32
        · rw [if_pos q2]
        · rw [if_neg q2]
          by_cases q3 : 126 < nI T[p]
          · rw [if_pos q3]
          · rw [if_neg q3]
            by_cases q4 : nI T[p] = 92
            · rw [if_pos q4]
            · exact absurd ⟨show ¬ nI T[p] = 34 from fun z => q ((nI_eq (a := T[p]) (b := 34) (by omega) (by decide)).mp z), q2, q3, q4⟩ hn
theorem X10_addText {U w p : Nat} {σ : SG} {T : List Nat} {Ws : List Wd} (hU : 4000 < U) (h : LX σ w T) (hp : p < T.length) (hW : WA σ w Ws) (hl : Ws.length < 701) :
    ∃ τ, x_X10_addText U w (nI p) σ = some (nI (if T[ten T p]? = some 34 then ten T p + 1 else p), τ) ∧ WA τ w (Ws ++ [if T[ten T p]? = some 34 then (3, p, ten T p + 1, Int32.toInt64 (cdS (slc T (p + 1) (ten T p)))) else (5, p, p, -1)]) ∧ fWd w [5] σ τ := by
  have hlen := h.2.2.2
  unfold x_X10_addText
  rw [nI_1, X10_text_L h (T.length - (p + 1)) (p + 1) U (by omega) (by omega)]
  show ∃ τ, (if T[ten T p]? = some 34 then _ else _) = _ ∧ _ ∧ _
  by_cases q : T[ten T p]? = some 34
  · have hq := (List.getElem?_eq_some_iff.mp q).1
    rw [if_pos q, if_pos q, if_pos q]
    obtain ⟨τ, g1, g2, g3⟩ := X10_push (kd := 3) (s := p) (e := ten T p + 1) (v := Int32.toInt64 (cdS (slc T (p + 1) (ten T p)))) hW hl (by decide)
    refine ⟨τ, ?_, g2, g3⟩
    show b1 (x_X10_codeBetween U w (nI (p + 1)) (nI (ten T p)) σ) (fun v10 => b2 (x_X10_push w 3 (nI p) (nI (ten T p) + 1) (Int32.toInt64 v10) σ) fun v12 σ13 => some (v12, σ13)) = _
    rw [X10_codeBetween hU h (by unfold ten; omega) (by omega), b1_eq, nI_1, show (3 : Int32) = nI 3 from rfl, g1, b2_eq]; rfl
  · rw [if_neg q, if_neg q, if_neg q]
    obtain ⟨τ, g1, g2, g3⟩ := X10_push (kd := 5) (s := p) (e := p) (v := -1) hW hl (by decide)
    refine ⟨τ, ?_, g2, g3⟩
    unfold x_X10_addText_73
    rw [show (5 : Int32) = nI 5 from rfl, g1, b2_eq]; rfl
