/-! ===== decoding: the spec, and the class ===== -/
def fOf (D : List Dc) (m w : Nat) : Option Nat := (chF D m).find? (fun i => decide (nmn D i = w))
theorem fOf_isF {T : List Nat} {D : List Dc} (hg : GSc T D) {m w f : Nat} (hm : isM D m) (h : fOf D m w = some f) : ∃ d, isF D m f d := (chF_mem hg hm).mp (List.mem_of_find?_eq_some h)
/-- how long a text or a message is, and where it begins -/
noncomputable def lnS (S : List Nat) (p e : Nat) : Option (Nat × Nat) := match rdN S 0 p e with
  | none => none
  | some (x, p2) => if x < 0 ∨ lN (e - p2) < x then none else some (x.toInt.toNat, p2)
theorem lnS_le {S : List Nat} {p e l p2 : Nat} (h : lnS S p e = some (l, p2)) (he : e ≤ 700) : p < p2 ∧ p2 + l ≤ e := by
  unfold lnS at h
  cases hr : rdN S 0 p e with
  | none => rw [hr] at h; cases h
  | some y =>
    obtain ⟨x, q⟩ := y
    rw [hr] at h
    simp only at h
    have hlt := rdN_lt hr
    by_cases z : x < 0 ∨ lN (e - q) < x
    · rw [if_pos z] at h; cases h
    · rw [if_neg z] at h
      cases h
      have h0 : ¬ x < 0 := fun y => z (Or.inl y)
      obtain ⟨w, hw, rfl⟩ := pk_lOf h0
      have h1 : ¬ e - p2 < w := fun y => z (Or.inr ((pk_lLT (by omega) hw).mpr y))
      rw [pk_lT hw]
      show p < p2 ∧ p2 + w ≤ e
      omega
/-- a packed row -/
noncomputable def dRow (T : List Nat) (D : List Dc) (S : List Nat) (n f : Nat) (d : Dc) (e : Nat) : Nat → AV → Nat → Option AV
  | 0, _, _ => none
  | j + 1, A, p => if p < e then (match rdN S (kdO (fty T D d)) p e with
    | none => none
    | some (x, p') => dRow T D S n f d e j (aPut T D A n f d (mng (fty T D d) x) []) p') else some A
/-- one field of a message on the wire -/
noncomputable def dSt (T : List Nat) (D : List Dc) (S : List Nat) (rc : AV → Nat → Nat → Nat → Nat → Option AV) (n m e p w p1 : Nat) (A : AV) : Option (AV × Nat) :=
  if w % 8 = 2 then (match lnS S p1 e with
    | none => none
    | some (l, p2) => match fOf D m (w / 8) with
      | none => some (aUnk A n (slc S p (p2 + l)), p2 + l)
      | some f => match D[f]? with
        | none => none
        | some d => if dR d && nmr (fty T D d) then (match dRow T D S n f d (p2 + l) 701 A p2 with | none => none | some A' => some (A', p2 + l))
          else if nmr (fty T D d) then some (aUnk A n (slc S p (p2 + l)), p2 + l)
          else if fty T D d = 11 ∧ u8T S p2 (p2 + l) = false then none
          else if fty T D d = 13 then (match ftg T D d with
            | none => none
            | some t => match rc (aMsg D A n f d t).1 (aMsg D A n f d t).2 t (p2 + l) p2 with | none => none | some A' => some (A', p2 + l))
          else some (aPut T D A n f d 0 (slc S p2 (p2 + l)), p2 + l))
  else (match rdN S (w % 8) p1 e with
    | none => none
    | some (x, p2) => match fOf D m (w / 8) with
      | none => some (aUnk A n (slc S p p2), p2)
      | some f => match D[f]? with
        | none => none
        | some d => if kdO (fty T D d) = w % 8 then some (aPut T D A n f d (mng (fty T D d) x) [], p2) else some (aUnk A n (slc S p p2), p2))
noncomputable def dLp (T : List Nat) (D : List Dc) (S : List Nat) (rc : AV → Nat → Nat → Nat → Nat → Option AV) (n m e : Nat) : Nat → AV → Nat → Option AV
  | 0, _, _ => none
  | j + 1, A, p => if p < e then (match tgS S p e with
    | none => none
    | some (w, p1) => match dSt T D S rc n m e p w p1 A with
      | none => none
      | some (A', p') => dLp T D S rc n m e j A' p') else some A
/-- a message on the wire: limit, how deep; the value, which opened one, its message, end, place -/
noncomputable def dMs (T : List Nat) (D : List Dc) (S : List Nat) (lm : Nat) : Nat → Nat → AV → Nat → Nat → Nat → Nat → Option AV
  | 0, _, _, _, _, _, _ => none
  | j + 1, dp, A, n, m, e, p => if lm < dp then none else dLp T D S (dMs T D S lm j (dp + 1)) n m e 701 A p
/-- the class while it decodes -/
def DC (σ : SG) (c : Nat) (T : List Nat) (D : List Dc) (S : List Nat) (G : Gh) (A : AV) (p : Nat) : Prop := CS σ c T D ∧ VG σ c T D G ∧ VE T D G A ∧ RB σ 1 S 0 ∧ sI σ 1094 3 = nI p ∧ gU G ≤ p ∧ (gP G).length ≤ p ∧ p ≤ S.length
def gX (G G' : Gh) : Prop := gC G ≤ gC G' ∧ ∀ m, m < gC G → gN G' m = gN G m ∧ gH G' m = gH G m
theorem gX_refl (G : Gh) : gX G G := ⟨Nat.le_refl _, fun _ _ => ⟨rfl, rfl⟩⟩
theorem gX_trans {G G' G2 : Gh} (h : gX G G') (h' : gX G' G2) : gX G G2 := ⟨Nat.le_trans h.1 h'.1, fun m hm => ⟨(h'.2 m (by have := h.1; omega)).1.trans (h.2 m hm).1, (h'.2 m (by have := h.1; omega)).2.trans (h.2 m hm).2⟩⟩
/-- an outcome of the class's decoding -/
def OD (c : Nat) (T : List Nat) (D : List Dc) (S : List Nat) (G : Gh) (σ : SG) (o : Option (AV × Nat)) (x : Option (Int32 × SG)) : Prop := ∃ τ, x = some (zI o.isSome, τ) ∧ fX σ τ ∧ ∀ A p, o = some (A, p) → ∃ G', DC τ c T D S G' A p ∧ gX G G'
theorem OD_no {c : Nat} {T : List Nat} {D : List Dc} {S : List Nat} {G : Gh} {σ τ : SG} (h : fX σ τ) : OD c T D S G σ none (some (0, τ)) := ⟨τ, rfl, h, fun A p z => by cases z⟩
theorem OD_from {c : Nat} {T : List Nat} {D : List Dc} {S : List Nat} {G G1 : Gh} {σ τ : SG} {o : Option (AV × Nat)} {x : Option (Int32 × SG)} (hf : fX σ τ) (hg : gX G G1) (h : OD c T D S G1 τ o x) : OD c T D S G σ o x := by
  obtain ⟨υ, a, b, d⟩ := h
  refine ⟨υ, a, fX_trans hf b, fun A p z => ?_⟩
  obtain ⟨G', w1, w2⟩ := d A p z
  exact ⟨G', w1, gX_trans hg w2⟩
theorem zb_zI {b : Bool} {x : Option (Int32 × SG)} : zb (zI b) x = x := by cases b <;> rfl
/-- a number was read -/
theorem DC_N {σ τ : SG} {c : Nat} {T : List Nat} {D : List Dc} {S : List Nat} {G : Gh} {A : AV} {p p' : Nat} (h : DC σ c T D S G A p) (hcb : cb c) (hf : fN σ τ) (h3 : sI τ 1094 3 = nI p') (hp : p ≤ p') (hp' : p' ≤ S.length) : DC τ c T D S G A p' := by
  obtain ⟨a1, a2, a3, a4, a5, a6, a7, a8⟩ := h
  exact ⟨CS_fX a1 hcb (fX_N hf), VG_sm a2 (fun b hb => hf.1 b (by omega)), a3, a4.sm (hf.1 _ (by decide)) (hf.1 _ (by decide)), h3, by omega, by omega, hp'⟩
theorem C_row {U c n f e : Nat} {T : List Nat} {D : List Dc} {S : List Nat} {d : Dc} (hU : 4000 < U) (hcb : cb c) (hg : GSc T D) (he : e ≤ S.length) (h13 : fty T D d ≠ 13) (hnm : nmr (fty T D d) = true) : ∀ (j k p U1 : Nat) (σ : SG) (G : Gh) (A : AV), e < j + p → k ≤ p → j < U1 → p ≤ e → DC σ c T D S G A p → n < gC G → isF D (gN G n) f d →
    OD c T D S G σ ((dRow T D S n f d e j A p).map (fun A => (A, e))) (x_X9_takeRow_L3 U 1094 (fun σ16 => x_X9_takeRow_51 U 1094 (nI e) σ16) (some (gH G n)) (ad c (some f)) (nI e) U1 (nI k) σ) := by
  intro j
  induction j with
  | zero =>
    intro k p U1 σ G A hj hk hu hp hD hn hF
    have : S.length ≤ 700 := hD.2.2.2.1.2.2.1
    omega
  | succ j ih =>
    intro k p U1 σ G A hj hk hu hp hD hn hF
    have hSl : S.length ≤ 700 := hD.2.2.2.1.2.2.1
    have hl := hg.2.1
    have hfl := (List.getElem?_eq_some_iff.mp hF.1).1
    have hft : fty T D d ≤ 14 := dTy_lt (hg.fld hF.1 hF.2.1).2.2.2.1
    obtain ⟨V, rfl⟩ : ∃ V, U1 = V + 1 := ⟨U1 - 1, by omega⟩
    have hD' := hD
    obtain ⟨a1, a2, a3, a4, a5, a6, a7, a8⟩ := hD'
    rw [x_X9_takeRow_L3, a5, ifd (ltI (by omega) (by omega)), dRow]
    have fin : ¬ p < e → OD c T D S G σ (some (A, e)) (x_X9_takeRow_51 U 1094 (nI e) σ) := by
      intro z
      have : p = e := by omega
      subst this
      unfold x_X9_takeRow_51
      rw [a5, if_pos rfl]
      exact ⟨σ, rfl, fX_refl σ, fun A' p' h => by cases h; exact ⟨G, hD, gX_refl G⟩⟩
    by_cases q : p < e
    · rw [if_pos q, if_pos q, show (700 : Int32) = nI 700 from rfl, if_pos ((ltI (by omega) (by decide)).mpr (by omega)), ad_some, ck_eq (it_sh hcb (by omega)), (show sI σ (c + 5 + f) 8 = nI (fty T D d) from (a1.it hF.1).2.1), X9_kindOf hft, b1_eq]
      obtain ⟨τ, t1, t2, t3⟩ := X9_readNumber (U := U) (q := kdO (fty T D d)) hU he (kdO_nmr hft).2 hp a4 a5
      rw [t1, b2_eq, ifz]
      cases hr : rdN S (kdO (fty T D d)) p e with
      | none =>
        simp only [Option.isSome_none, Bool.false_eq_true, if_false]
        exact OD_no (fX_N t2)
      | some y =>
        obtain ⟨x, p'⟩ := y
        obtain ⟨v1, v2⟩ := t3 x p' hr
        have hlt := rdN_lt hr
        simp only [Option.isSome_some, if_true]
        have D1 := DC_N hD hcb t2 v2 (by omega) (by omega)
        obtain ⟨b1', b2', b3, b4, b5, b6, b7, b8⟩ := D1
        obtain ⟨υ, G', u1, u2, u3, u4, u5, u6, u7, u8, u9, u10, u11⟩ := C_num hU hcb hg b1' b2' b3 hn (by omega) hF h13 hnm
        have u1' : x_X9_putNumber U 1094 (some (gH G n)) (some (c + 5 + f)) τ = some (1, υ) := u1
        rw [u1', b2_eq, if_neg (by decide), nI_1]
        rw [v1] at u3
        have D2 : DC υ c T D S G' (aPut T D A n f d (mng (fty T D d) x) []) p' := ⟨u4, u2, u3, b4.sm (u5.1 _ (by decide)) (u5.1 _ (by decide)), u6.trans v2, by omega, by rw [u11]; omega, by omega⟩
        have gx : gX G G' := ⟨by omega, fun m hm => ⟨by rw [u9], by rw [u10]⟩⟩
        have key := ih (k + 1) p' V υ G' _ (by omega) (by omega) (by omega) (by omega) D2 (by rw [u8]; exact hn) (by rw [u9]; exact hF)
        rw [u10] at key
        exact OD_from (fX_trans (fX_N t2) u5) gx key
    · rw [if_neg q, if_neg q]
      have := fin q
      split
      · exact this
      · exact this
/-- the length, as the class reads it -/
theorem C_len {U c e p : Nat} {σ : SG} {T : List Nat} {D : List Dc} {S : List Nat} {G : Gh} {A : AV} {K : SG → Option (Int32 × SG)} (hU : 4000 < U) (hcb : cb c) (he : e ≤ S.length) (hp : p ≤ e) (hD : DC σ c T D S G A p) : ∃ τ, fN σ τ ∧ (lnS S p e = none → (b2 (x_X9_readNumber U 1094 0 (nI e) σ) fun v2 σ3 => if v2 = 0 then (some (0, σ3)) else (if sL σ3 1094 4 < 0 then (some (0, σ3)) else (if Int32.toInt64 (nI e - (sI σ3 1094 3)) < sL σ3 1094 4 then (some (0, σ3)) else K σ3))) = some (0, τ)) ∧ ∀ l p2, lnS S p e = some (l, p2) → (b2 (x_X9_readNumber U 1094 0 (nI e) σ) fun v2 σ3 => if v2 = 0 then (some (0, σ3)) else (if sL σ3 1094 4 < 0 then (some (0, σ3)) else (if Int32.toInt64 (nI e - (sI σ3 1094 3)) < sL σ3 1094 4 then (some (0, σ3)) else K σ3))) = K τ ∧ DC τ c T D S G A p2 ∧ (sI τ 1094 3) + (Int64.toInt32 (sL τ 1094 4)) = nI (p2 + l) := by
  have hSl : S.length ≤ 700 := hD.2.2.2.1.2.2.1
  obtain ⟨τ, t1, t2, t3⟩ := X9_readNumber (U := U) (q := 0) hU he (by decide) hp hD.2.2.2.1 hD.2.2.2.2.1
  have t1' : x_X9_readNumber U 1094 0 (nI e) σ = some (zI (rdN S 0 p e).isSome, τ) := t1
  rw [t1', b2_eq, ifz]
  unfold lnS
  refine ⟨τ, t2, ?_⟩
  cases hr : rdN S 0 p e with
  | none =>
    rw [Option.isSome_none, if_neg (show ¬ false = true by decide)]
    exact ⟨fun _ => rfl, fun l p2 h => by cases h⟩
  | some y =>
    obtain ⟨x, q⟩ := y
    obtain ⟨v1, v2⟩ := t3 x q hr
    have hlt := rdN_lt hr
    rw [Option.isSome_some, if_pos (show true = true from rfl)]
    simp only
    rw [v1, v2, nI_sub (by omega), nI_l (by omega)]
    by_cases z0 : x < 0
    · rw [if_pos z0, if_pos (Or.inl z0)]
      exact ⟨fun _ => rfl, fun l p2 h => by cases h⟩
    · rw [if_neg z0]
      by_cases z1 : lN (e - q) < x
      · rw [if_pos z1, if_pos (Or.inr z1)]
        exact ⟨fun _ => rfl, fun l p2 h => by cases h⟩
      · rw [if_neg z1, if_neg (show ¬ (x < 0 ∨ lN (e - q) < x) from fun z => z.elim z0 z1)]
        refine ⟨fun h => (by cases h), fun l p2 h => ?_⟩
        cases h
        refine ⟨rfl, DC_N hD hcb t2 v2 (by omega) (by omega), ?_⟩
        obtain ⟨w, hw, rfl⟩ := pk_lOf z0
        rw [pk_lT hw, lN_i, nI_add]
        rfl
theorem C_tlen {U c n m e p w p1 dp : Nat} {σ : SG} {T : List Nat} {D : List Dc} {S : List Nat} {G : Gh} {A : AV} {rcC : Option Nat → Option Nat → Int32 → Int32 → SG → Option (Int32 × SG)} {rc : AV → Nat → Nat → Nat → Nat → Option AV} (hU : 4000 < U) (hcb : cb c) (hg : GSc T D) (he : e ≤ S.length) (hp : p < p1) (hp1 : p1 ≤ e) (hD : DC σ c T D S G A p1) (hpu : gU G ≤ p) (hpP : (gP G).length ≤ p) (hn : n < gC G) (hm : gN G n = m) (hw : w % 8 = 2)
    (hrc : ∀ (τ : SG) (G' : Gh) (A' : AV) (n' t e' q : Nat), fX σ τ → e' ≤ S.length → q ≤ e' → DC τ c T D S G' A' q → n' < gC G' → gN G' n' = t → OD c T D S G' τ ((rc A' n' t e' q).map (fun A => (A, e'))) (rcC (some (gH G' n')) (ad c (some t)) (nI e') (nI (dp + 1)) τ)) :
    OD c T D S G σ (dSt T D S rc n m e p w p1 A) (x_X9_takeLength U rcC 1094 (some (gH G n)) (ad c (fOf D m (w / 8))) (nI p) (nI e) (nI dp) σ) := by
  have hSl : S.length ≤ 700 := hD.2.2.2.1.2.2.1
  have hl := hg.2.1
  have hmM : isM D m := by rw [← hm]; exact hD.2.1.2.2.2.2.2.2.2.1 n hn
  unfold x_X9_takeLength dSt
  rw [if_pos hw]
  obtain ⟨τ, t1, t2, t3⟩ := C_len (U := U) (K := fun σ3 => if ad c (fOf D m (w / 8)) = none then (x_X9_takeLength_74 U rcC 1094 (some (gH G n)) (ad c (fOf D m (w / 8))) (nI p) (nI dp) ((sI σ3 1094 3) + (Int64.toInt32 (sL σ3 1094 4))) σ3) else (ck 3 (ad c (fOf D m (w / 8))) fun q45 => if sI σ3 q45 11 = 0 then (x_X9_takeLength_74 U rcC 1094 (some (gH G n)) (ad c (fOf D m (w / 8))) (nI p) (nI dp) ((sI σ3 1094 3) + (Int64.toInt32 (sL σ3 1094 4))) σ3) else (b1 (x_X11_isNumeric (sI σ3 q45 8)) fun v50 => if v50 = 0 then (x_X9_takeLength_74 U rcC 1094 (some (gH G n)) (ad c (fOf D m (w / 8))) (nI p) (nI dp) ((sI σ3 1094 3) + (Int64.toInt32 (sL σ3 1094 4))) σ3) else (x_X9_takeLength_75 U rcC 1094 (some (gH G n)) (ad c (fOf D m (w / 8))) (nI p) (nI dp) ((sI σ3 1094 3) + (Int64.toInt32 (sL σ3 1094 4))) 1 σ3)))) hU hcb he hp1 hD
  cases hln : lnS S p1 e with
  | none =>
    rw [t2 hln]
    exact OD_no (fX_N t1)
  | some y =>
    obtain ⟨l, p2⟩ := y
    obtain ⟨r1, D1, r2⟩ := t3 l p2 hln
    have hle := lnS_le hln (by omega)
    rw [r1, r2]
    simp only
    have D1' := D1
    obtain ⟨b1', b2', b3, b4, b5, b6, b7, b8⟩ := D1'
    -- unknown bytes
    have unk : OD c T D S G σ (some (aUnk A n (slc S p (p2 + l)), p2 + l)) (x_X9_takeLength_105 U rcC 1094 (some (gH G n)) (nI p) (nI (p2 + l)) τ) := by
      unfold x_X9_takeLength_105
      rw [sb_eq]
      have f3 : fN τ (uI τ 1094 3 (nI (p2 + l))) := ⟨fun b hb => sm_uI hb, sI_o (Or.inr (by decide))⟩
      obtain ⟨c1, c2, c3, c4, c5, c6, c7, c8⟩ := DC_N D1 hcb f3 (sI_s _ _ _ _) (Nat.le_add_right _ _) (by omega)
      obtain ⟨υ, G', u1, u2, u3, u4, u5, u6, u7, u8, u9, u10, u11⟩ := C_unk (p := p) (q := p2 + l) hU hcb hg c1 c2 c3 c4 hn (by omega) c5 (by omega) (by omega) (by omega)
      rw [u1, b2_eq, show (1 : Int32) = zI true from rfl, zb_zI]
      refine ⟨υ, rfl, fX_trans (fX_N (fN_trans t1 f3)) u5, fun A' p' h => ?_⟩
      cases h
      exact ⟨G', ⟨u4, u2, u3, c4.sm (u5.1 _ (by decide)) (u5.1 _ (by decide)), u6, by omega, by omega, by omega⟩, by omega, fun m hm => ⟨by rw [u9], by rw [u10]⟩⟩
    cases hf : fOf D m (w / 8) with
    | none =>
      rw [if_pos (show ad c none = none from rfl)]
      unfold x_X9_takeLength_74 x_X9_takeLength_75
      rw [if_pos (show (0 : Int32) = 0 from rfl), if_pos (show ad c none = none from rfl)]
      exact unk
    | some f =>
      obtain ⟨d, hd⟩ := fOf_isF hg hmM hf
      have hF : isF D (gN G n) f d := by rw [hm]; exact hd
      have hfl := (List.getElem?_eq_some_iff.mp hd.1).1
      have hft : fty T D d ≤ 14 := dTy_lt (hg.fld hd.1 hd.2.1).2.2.2.1
      have ety : sI τ (c + 5 + f) 8 = nI (fty T D d) := (b1'.it hd.1).2.1
      simp only
      rw [hd.1]
      simp only
      rw [if_neg (show ¬ ad c (some f) = none by intro z; cases z), ad_some, ck_eq (it_sh hcb (by omega)), (b1'.it hd.1).1.2.2.2.2.2.2.2.2.1, ety, X11_isNumeric (by omega), b1_eq, ifz, ifz]
      -- the field is no row
      have rest : (dR d && nmr (fty T D d)) = false → OD c T D S G σ (if nmr (fty T D d) then some (aUnk A n (slc S p (p2 + l)), p2 + l)
          else if fty T D d = 11 ∧ u8T S p2 (p2 + l) = false then none
          else if fty T D d = 13 then (match ftg T D d with
            | none => none
            | some t => match rc (aMsg D A n f d t).1 (aMsg D A n f d t).2 t (p2 + l) p2 with | none => none | some A' => some (A', p2 + l))
          else some (aPut T D A n f d 0 (slc S p2 (p2 + l)), p2 + l)) (x_X9_takeLength_74 U rcC 1094 (some (gH G n)) (some (c + 5 + f)) (nI p) (nI dp) (nI (p2 + l)) τ) := by
        intro _
        unfold x_X9_takeLength_74 x_X9_takeLength_75
        rw [if_pos (show (0 : Int32) = 0 from rfl), if_neg (show ¬ some (c + 5 + f) = none by intro z; cases z), ck_eq (it_sh hcb (by omega)), ety, X11_isNumeric (by omega), b1_eq, ifz]
        cases hnm : nmr (fty T D d) with
        | true =>
          rw [if_pos (show true = true from rfl), if_pos (show true = true from rfl)]
          exact unk
        | false =>
          rw [if_neg (show ¬ false = true by decide), if_neg (show ¬ false = true by decide)]
          have e11 : nI (fty T D d) = 11 ↔ fty T D d = 11 := nI_eq (b := 11) (by omega) (by decide)
          have e13 : nI (fty T D d) = 13 ↔ fty T D d = 13 := nI_eq (b := 13) (by omega) (by decide)
          -- behind the test for UTF-8
          have put : OD c T D S G σ (if fty T D d = 13 then (match ftg T D d with
              | none => none
              | some t => match rc (aMsg D A n f d t).1 (aMsg D A n f d t).2 t (p2 + l) p2 with | none => none | some A' => some (A', p2 + l))
            else some (aPut T D A n f d 0 (slc S p2 (p2 + l)), p2 + l)) (x_X9_takeLength_145 U rcC 1094 (some (gH G n)) (some (c + 5 + f)) (nI dp) (nI (p2 + l)) τ) := by
            unfold x_X9_takeLength_145
            by_cases q13 : fty T D d = 13
            · rw [if_pos q13]
              obtain ⟨t, ht, hMt⟩ := (ftg_msg hg hd.1 hd.2.1).1 q13
              obtain ⟨a, υ, G', u1, u2, u3, u4, u5, u6, u7, u8, u9, u10, u11, u12, u13⟩ := C_msg hU hcb hg b1' b2' b3 hn (by omega) hF q13 ht
              have u1' : x_X8_put U 389 (some (gH G n)) (some (c + 5 + f)) τ = some (some a, υ) := u1
              rw [u1', b2_eq, if_neg (by intro z; cases z), ck_eq (it_sh hcb (by omega)), (show sI υ (c + 5 + f) 8 = nI (fty T D d) from (u4.it hd.1).2.1), if_pos (e13.mpr q13), (show sP υ (c + 5 + f) 10 = ad c (ftg T D d) from (u4.it hd.1).2.2.1), ht, nI_1]
              have D2 : DC υ c T D S G' (aMsg D A n f d t).1 p2 := ⟨u4, u2, u3, b4.sm (u5.1 _ (by decide)) (u5.1 _ (by decide)), ((u5.1 1094 (by decide) 3).1).trans b5, by omega, by rw [u9]; omega, b8⟩
              have key := hrc υ G' _ (aMsg D A n f d t).2 t (p2 + l) p2 (fX_trans (fX_N t1) (fX_V u5)) (by omega) (by omega) D2 u10 u12
              rw [u11] at key
              obtain ⟨ω, k1, k2, k3⟩ := key
              simp only
              rw [k1, b2_eq, zb_zI]
              refine ⟨ω, ?_, fX_trans (fX_N t1) (fX_trans (fX_V u5) k2), fun A' p' h => ?_⟩
              · cases rc (aMsg D A n f d t).1 (aMsg D A n f d t).2 t (p2 + l) p2 <;> rfl
              · cases hrr : rc (aMsg D A n f d t).1 (aMsg D A n f d t).2 t (p2 + l) p2 with
                | none => rw [hrr] at h; cases h
                | some A2 =>
                  rw [hrr] at h
                  cases h
                  obtain ⟨G2, w1, w2⟩ := k3 A' (p2 + l) (by rw [hrr]; rfl)
                  exact ⟨G2, w1, gX_trans ⟨u7, u8⟩ w2⟩
            · rw [if_neg q13]
              obtain ⟨a, υ, u1, u2, u3, ω, G', v1, v2, v3, v4, v5, v6, v7, v8, v9, v10, v11⟩ := C_txt (p := p2) (q := p2 + l) hU hcb hg b1' b2' b3 b4 hn (by omega) hF q13 hnm (Nat.le_add_right _ _) (by omega) (by omega)
              have u1' : x_X8_put U 389 (some (gH G n)) (some (c + 5 + f)) τ = some (some a, υ) := u1
              rw [u1', b2_eq, if_neg (by intro z; cases z), ck_eq (it_sh hcb (by omega)), u3, if_neg (fun z => q13 (e13.mp z)), u2, b5, v1, b2_eq, show (1 : Int32) = zI true from rfl, zb_zI]
              refine ⟨ω, rfl, fX_trans (fX_N t1) v5, fun A' p' h => ?_⟩
              cases h
              exact ⟨G', ⟨v4, v2, v3, b4.sm (v5.1 _ (by decide)) (v5.1 _ (by decide)), v6, by omega, by omega, by omega⟩, by omega, fun m hm => ⟨by rw [v9], by rw [v10]⟩⟩
          rw [ifd e11]
          by_cases q11 : fty T D d = 11
          · rw [if_pos q11, b5, X0_isUtf8 hU b4 (Nat.le_add_right _ _) (by omega), b1_eq, ifz]
            cases hu8 : u8T S p2 (p2 + l) with
            | false =>
              rw [if_neg (show ¬ false = true by decide), if_pos ⟨q11, rfl⟩]
              exact OD_no (fX_N t1)
            | true =>
              rw [if_pos (show true = true from rfl), if_neg (fun z => by cases z.2)]
              exact put
          · rw [if_neg q11, if_neg (fun z => q11 z.1)]
            exact put
      cases hR : dR d with
      | false =>
        rw [if_neg (show ¬ false = true by decide), Bool.false_and, if_neg (show ¬ false = true by decide)]
        exact rest (by rw [hR]; rfl)
      | true =>
        rw [if_pos (show true = true from rfl), Bool.true_and]
        cases hnm : nmr (fty T D d) with
        | false =>
          rw [if_neg (show ¬ false = true by decide), if_neg (show ¬ false = true by decide)]
          have := rest (by rw [hR, hnm]; rfl)
          rw [hnm, if_neg (show ¬ false = true by decide)] at this
          exact this
        | true =>
          rw [if_pos (show true = true from rfl), if_pos (show true = true from rfl)]
          unfold x_X9_takeLength_75 x_X9_takeRow
          rw [if_neg (show ¬ (1 : Int32) = 0 by decide)]
          have h13 : fty T D d ≠ 13 := fun z => by rw [z] at hnm; cases hnm
          have key := C_row (U := U) (e := p2 + l) hU hcb hg (by omega) h13 hnm 701 0 p2 U τ G A (by omega) (Nat.zero_le _) (by omega) (Nat.le_add_right _ _) D1 hn hF
          obtain ⟨ω, k1, k2, k3⟩ := key
          have k1' : x_X9_takeRow_L3 U 1094 (fun σ16 => x_X9_takeRow_51 U 1094 (nI (p2 + l)) σ16) (some (gH G n)) (some (c + 5 + f)) (nI (p2 + l)) U 0 τ = some (zI ((dRow T D S n f d (p2 + l) 701 A p2).map (fun A => (A, p2 + l))).isSome, ω) := k1
          rw [k1', b2_eq, zb_zI]
          refine ⟨ω, ?_, fX_trans (fX_N t1) k2, fun A' p' h => ?_⟩
          · cases dRow T D S n f d (p2 + l) 701 A p2 <;> rfl
          · cases hrr : dRow T D S n f d (p2 + l) 701 A p2 with
            | none => rw [hrr] at h; cases h
            | some A2 =>
              rw [hrr] at h
              cases h
              exact k3 A' (p2 + l) (by rw [hrr]; rfl)
