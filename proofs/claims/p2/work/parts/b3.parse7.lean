/-! ===== the class parses a field ===== -/
theorem C_setN2 {c n f a : Nat} {σ : SG} {T : List Nat} {D : List Dc} {G G1 : Gh} {A : AV} {d : Dc} {v : Int64} (hV : VG σ c T D G1) (hE : VE T D G A) (hn : n < gC G) (hF : isF D (gN G n) f d) (h13 : fty T D d ≠ 13) (hnm : nmr (fty T D d) = true) (c1 : gC G1 = gC G) (c2 : gN G1 = gN G) (c3 : ∀ m, m ≠ n → gL G1 m = gL G m) (hp : CPt D G G1 n f d a) : ∃ t, VG (uL σ a 4 v) c T D (gN G1, gH G1, up (gL G1) n (setE a v t (gL G1 n)), gC G1, gU G1, gP G1) ∧ VE T D (gN G1, gH G1, up (gL G1) n (setE a v t (gL G1 n)), gC G1, gU G1, gP G1) (aPut T D A n f d v []) ∧ fX σ (uL σ a 4 v) := by
  obtain ⟨e, he, hea⟩ := hp.1
  have hn1 : n < gC G1 := by omega
  obtain ⟨b1, b2, b3, b4, ⟨x, y, x1, x2, x3, x4, x5⟩, b6, b7⟩ := hV.e hn1 he
  rw [hea] at b1 b2 x1 x2
  have hu := hV.2.1
  refine ⟨eT e, VG_set (v := v) (t := eT e) (P' := gP G1) hV hn1 ⟨e, he, hea⟩ (sL_s _ _ _ _) x1 x2 x3 x4 x5 (hV.2.2.1.sm (sm_uL (by omega)) (sm_uL (by omega))) (fun _ _ _ => rfl) (Nat.le_refl _) (fP_L (Or.inl ⟨rfl, Or.inl rfl⟩)), VE_of hE hn hF h13 c1 c2 c3 hp (fun _ => ⟨rfl, rfl⟩) (fun z => by rw [hnm] at z; cases z), ?_⟩
  exact ⟨fun b hb => sm_uL (by omega), fun k hk => ⟨rfl, sL_o (Or.inl (by omega)), rfl⟩, rfl, rfl, rfl⟩
/-- a text is put -/
theorem C_setT {c n f a : Nat} {σ τ : SG} {T : List Nat} {D : List Dc} {G G1 : Gh} {A : AV} {d : Dc} {x : List Nat} (hV : VG σ c T D G1) (hE : VE T D G A) (hn : n < gC G) (hF : isF D (gN G n) f d) (h13 : fty T D d ≠ 13) (hnm : nmr (fty T D d) = false) (c1 : gC G1 = gC G) (c2 : gN G1 = gN G) (c3 : ∀ m, m ≠ n → gL G1 m = gL G m) (hp : CPt D G G1 n f d a) (ha : 391 ≤ a) (ha2 : a < 1092) (hf : fN5 a σ τ) (hP : RB τ 1092 (gP G1 ++ x) 0) (h5 : sI τ a 5 = nI (gP G1).length) (h6 : sI τ a 6 = nI (gP G1 ++ x).length) : ∃ v, VG τ c T D (gN G1, gH G1, up (gL G1) n (setE a v x (gL G1 n)), gC G1, gU G1, gP G1 ++ x) ∧ VE T D (gN G1, gH G1, up (gL G1) n (setE a v x (gL G1 n)), gC G1, gU G1, gP G1 ++ x) (aPut T D A n f d 0 x) := by
  obtain ⟨e, he, hea⟩ := hp.1
  have hn1 : n < gC G1 := by omega
  have hlen := List.length_append (as := gP G1) (bs := x)
  refine ⟨sL τ a 4, ?_, VE_of hE hn hF h13 c1 c2 c3 hp (fun z => by rw [hnm] at z; cases z) (fun _ => ⟨rfl, rfl⟩)⟩
  let τ0 : SG := (fun b k => if b = 1095 then sI σ b k else sI τ b k, fun b k => if b = 1095 then sL σ b k else sL τ b k, fun b k => if b = 1095 then sP σ b k else sP τ b k)
  have z1 : ∀ b k, b ≠ 1095 → sI τ0 b k = sI τ b k ∧ sL τ0 b k = sL τ b k ∧ sP τ0 b k = sP τ b k := fun b k hb => ⟨if_neg hb, if_neg hb, if_neg hb⟩
  have z2 : ∀ k, sI τ0 1095 k = sI σ 1095 k ∧ sL τ0 1095 k = sL σ 1095 k ∧ sP τ0 1095 k = sP σ 1095 k := fun k => ⟨rfl, rfl, rfl⟩
  have V3 := VG_set (τ := τ0) (v := sL τ a 4) (t := x) (P' := gP G1 ++ x) (x := (gP G1).length) (y := (gP G1 ++ x).length) hV hn1 ⟨e, he, hea⟩ (z1 a 4 (by omega)).2.1 ((z1 a 5 (by omega)).1.trans h5) ((z1 a 6 (by omega)).1.trans h6) (by omega) (Nat.le_refl _) (by
    unfold slc
    rw [List.drop_left, List.take_of_length_le]
    rw [hlen, Nat.add_sub_cancel_left]
    exact Nat.le_refl _) (hP.sm (fun k => ⟨(z1 1092 k (by decide)).1, (z1 1092 k (by decide)).2.1, (z1 1092 k (by decide)).2.2⟩) (fun k => ⟨(z1 1093 k (by decide)).1, (z1 1093 k (by decide)).2.1, (z1 1093 k (by decide)).2.2⟩)) (fun u w hw => slc_pre hw) (by omega) (fun b k hk => by
    by_cases hb : b = 1095
    · rw [hb]; exact z2 k
    · obtain ⟨y1, y2, y3⟩ := z1 b k hb
      by_cases hba : b = a
      · subst hba
        obtain ⟨w1, w2, w3⟩ := hf.2.2.2 k
        have hk' : k ≠ 5 ∧ k ≠ 6 := ⟨fun z => hk (Or.inl ⟨rfl, Or.inr (Or.inl z)⟩), fun z => hk (Or.inl ⟨rfl, Or.inr (Or.inr z)⟩)⟩
        exact ⟨y1.trans (w1 hk'.1 hk'.2), y2.trans w2, y3.trans w3⟩
      · obtain ⟨w1, w2, w3⟩ := hf.1 b hb (fun z => hk (Or.inr (Or.inl z))) (fun z => hk (Or.inr (Or.inr z))) hba k
        exact ⟨y1.trans w1, y2.trans w2, y3.trans w3⟩)
  exact VG_sm V3 (fun b hb k => by
    obtain ⟨y1, y2, y3⟩ := z1 b k (by omega)
    exact ⟨y1.symm, y2.symm, y3.symm⟩)
/-- a message that was not told before -/
theorem C_msgN {U c n f t : Nat} {σ : SG} {T : List Nat} {D : List Dc} {G : Gh} {A : AV} {d : Dc} {tl : Tl} (hU : 4000 < U) (hcb : cb c) (hg : GSc T D) (hC : CS σ c T D) (h : VG σ c T D G) (hE : VE T D G A) (hn : n < gC G) (hu : gU G < 700) (hF : isF D (gN G n) f d) (h13 : fty T D d = 13) (ht : ftg T D d = some t) (htl : TLc G tl) (htk : tk D tl n f d = false) :
    ∃ a τ G', x_X8_put U 389 (some (gH G n)) (ad c (some f)) σ = some (some a, τ) ∧ VG τ c T D G' ∧ VE T D G' (aMsg D A n f d t).1 ∧ CS τ c T D ∧ fV σ τ ∧ gU G' ≤ gU G + 1 ∧ gX G G' ∧ gP G' = gP G ∧ (aMsg D A n f d t).2 < gC G' ∧ gH G' (aMsg D A n f d t).2 = a ∧ gN G' (aMsg D A n f d t).2 = t ∧ TLc G' ((n, f) :: tl) := by
  obtain ⟨a, τ, p1, p2, p3, p4, p5⟩ := X8_put (o := some f) hU hcb hg hC h hn hu (fun g hg' => by cases hg'; exact ⟨d, hF⟩)
  obtain ⟨a', τ', G', q1, q2, q3, q4, q5, q6, q7, q8, q9, q10, q11, q12, q13⟩ := C_msg hU hcb hg hC h hE hn hu hF h13 ht
  have hv := h.2.2.2.2.2.2.2.2.2 n hn
  have fi := h.fi hn
  have hfd : ∀ x ∈ gL G n, ∀ g, eF x = some g → ∃ y, D[g]? = some y := fun x hx g hgx => by obtain ⟨y, hy⟩ := fi x hx g hgx; exact ⟨y, hy.1⟩
  have hdr := flo_dr (L := gL G n) hF.1 hfd
  have hsub : List.Sublist (drG D (some f) (gL G n)) (gL G n) := drG_sub
  have hmt : mtO T D (some f) = some t := by unfold mtO; simp only; rw [hF.1]; simp only; rw [if_pos h13, ht]
  have hsr : srE D (drG D (some f) (gL G n)) := hv.2.2.1.sublist hsub
  have e1 := hE.1
  cases hr : ruE D (some f) (drG D (some f) (gL G n)) with
  | some b =>
    exfalso
    have hr' := hr
    unfold ruE at hr'
    cases hbl : (twE D (some f) (drG D (some f) (gL G n))).getLast? with
    | none => rw [hbl] at hr'; cases hr'
    | some b' =>
      rw [hbl] at hr'
      simp only at hr'
      by_cases q : eF b' = some f ∧ (∀ d, D[f]? = some d → dR d = false)
      · rw [if_pos q] at hr'
        cases hr'
        obtain ⟨Z, hZ⟩ := List.getLast?_eq_some_iff.mp hbl
        have hb1 : b ∈ drG D (some f) (gL G n) := by rw [← tdE D (some f) (drG D (some f) (gL G n)), hZ]; simp
        have : tk D tl n f d = true := tk_iff.mpr ⟨q.2 d hF.1, f, (htl n f).mpr ⟨hn, b, hsub.subset hb1, q.1⟩, Or.inl rfl⟩
        rw [htk] at this
        cases this
      · rw [if_neg q] at hr'; cases hr'
  | none =>
    obtain ⟨w1, w2⟩ := p5 hr
    rw [hmt] at w2
    have gl : gL (gNew D (gSet G n (drG D (some f) (gL G n))) n (some f) (some t)) n = insE D (391 + gU G, some f, gC G, 0, []) (drG D (some f) (gL G n)) := by
      show up (up (up (gL G) n (drG D (some f) (gL G n))) n (insE D (391 + gU G, some f, gC G, 0, []) (up (gL G) n (drG D (some f) (gL G n)) n))) (gC G) [] n = _
      rw [up_o (Nat.ne_of_lt hn), up_s, up_s]
    have eC : gC (gNew D (gSet G n (drG D (some f) (gL G n))) n (some f) (some t)) = gC G + 1 := rfl
    obtain ⟨e1, e2, e3⟩ := hE
    obtain ⟨k1, k2⟩ := e3 n hn
    have nz : ∀ v t, noth T D d v t = false := fun v t => by unfold noth; rw [decide_eq_false (show ¬ fty T D d ≠ 13 from fun z => z h13)]; simp
    have hf1 : flo (some f) (drG D (some f) (gL G n)) = flo (some f) (gL G n) := by rw [hdr (some f)]; simp only; rw [rivB_self]; rfl
    have hEf : (flo (some f) (gL G n)).map (itm T D d) = aE A n f := by
      rw [← k1 f d hF, List.filter_eq_self.mpr]
      intro e _
      unfold live; rw [nz]; rfl
    have hit : ∀ e, itm T D d e = (0, [], eK e) := fun e => by unfold itm; rw [if_pos h13]
    have hm : aMsg D A n f d t = (aNew D A n f d t, aC A) := by
      unfold aMsg
      cases hR : dR d with
      | true => rfl
      | false =>
        have h0 : flo (some f) (gL G n) = [] := by
          cases hq : flo (some f) (gL G n) with
          | nil => rfl
          | cons e L =>
            exfalso
            have he : e ∈ flo (some f) (gL G n) := by rw [hq]; exact List.mem_cons_self ..
            obtain ⟨h1, h2⟩ := flo_mem.mp he
            have : tk D tl n f d = true := tk_iff.mpr ⟨hR, f, (htl n f).mpr ⟨hn, e, h1, h2⟩, Or.inl rfl⟩
            rw [htk] at this
            cases this
        rw [h0] at hEf
        have : aE A n f = [] := hEf.symm
        rw [this]
    rw [hm]
    refine ⟨a, τ, _, p1, w2, ⟨by rw [eC, e1]; rfl, fun m hm' => ?_, fun m hm' => ?_⟩, p3, p2, Nat.le_refl _, ⟨by rw [eC]; omega, fun m hm' => ⟨up_o (Nat.ne_of_lt hm'), up_o (Nat.ne_of_lt hm')⟩⟩, rfl, by rw [eC, ← e1]; exact Nat.lt_succ_self _, ?_, ?_, ?_⟩
    · show up (gN G) (gC G) t m = up (aN A) (aC A) t m
      rw [← e1]
      by_cases z : m = gC G
      · rw [z, up_s, up_s]
      · rw [up_o z, up_o z]; exact e2 m (by rw [eC] at hm'; omega)
    · show VEn T D (up (gN G) (gC G) t m) _ (up (up (aE A) n _) (aC A) (fun _ => []) m) (up (aU A) (aC A) [] m)
      rw [← e1]
      by_cases zc : m = gC G
      · subst zc
        have eL : gL (gNew D (gSet G n (drG D (some f) (gL G n))) n (some f) (some t)) (gC G) = [] := up_s _ _ _
        rw [eL, up_s, up_s, up_s]
        exact ⟨fun g x _ => rfl, rfl⟩
      · rw [up_o zc, up_o zc, up_o zc]
        have hmC : m < gC G := by rw [eC] at hm'; omega
        by_cases z : m = n
        · subst z
          rw [gl, up_s]
          refine ⟨fun g x hx => ?_, ?_⟩
          · show List.map _ _ = (if g = f then aE A m f ++ [(0, [], gC G)] else if rivB D f d g then [] else aE A m g)
            rw [flo_ins hsr]
            by_cases w : g = f
            · subst w
              have : x = d := by have := hx.1; rw [hF.1] at this; exact (Option.some.inj this).symm
              subst this
              rw [if_pos (show eF (391 + gU G, some g, gC G, 0, []) = some g from rfl), if_pos rfl, hf1, List.filter_eq_self.mpr (fun e _ => by unfold live; rw [nz]; rfl), List.map_append, hEf]
              show _ ++ [itm T D x _] = _
              rw [hit]; rfl
            · rw [if_neg (show ¬ eF (391 + gU G, some f, gC G, 0, []) = some g from fun y => w (Option.some.inj y).symm), if_neg w, hdr (some g)]
              simp only
              cases rivB D f d g with
              | true => rfl
              | false => exact k1 g x hx
          · rw [flo_ins hsr, if_neg (show ¬ eF (391 + gU G, some f, gC G, 0, []) = none from fun y => by cases y), hdr none]
            exact k2
        · have eL : gL (gNew D (gSet G n (drG D (some f) (gL G n))) n (some f) (some t)) m = gL G m := (up_o zc).trans ((up_o z).trans (up_o z))
          rw [eL, up_o z]
          exact e3 m hmC
    · show up (gH G) (gC G) (391 + gU G) (aC A) = a
      rw [← e1, up_s, w1]
    · show up (gN G) (gC G) t (aC A) = t
      rw [← e1, up_s]
    · refine TLc_add hg hF.1 hF.2.1 hn htl htk (by rw [eC]; omega) (fun m h1 h2 => ?_) (fun m h1 h2 => ?_) ?_ (fun g hgf => ?_)
      · have : m = gC G := by rw [eC] at h2; omega
        rw [this]
        exact up_s _ _ _
      · exact (up_o (Nat.ne_of_lt h1)).trans ((up_o h2).trans (up_o h2))
      · rw [gl, flo_ins hsr, if_pos (show eF (391 + gU G, some f, gC G, 0, []) = some f from rfl)]
        simp
      · rw [gl, flo_ins hsr, if_neg (show ¬ eF (391 + gU G, some f, gC G, 0, []) = some g from fun y => hgf (Option.some.inj y).symm), hdr (some g)]
