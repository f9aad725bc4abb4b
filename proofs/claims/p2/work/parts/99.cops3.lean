/-! ===== the class's value: a text of a field, unknown bytes, a message ===== -/
theorem C_txt {U c n f p q : Nat} {σ : SG} {T S : List Nat} {D : List Dc} {G : Gh} {A : AV} {d : Dc} (hU : 4000 < U) (hcb : cb c) (hg : GSc T D) (hC : CS σ c T D) (h : VG σ c T D G) (hE : VE T D G A) (hS : RB σ 1 S 0) (hn : n < gC G) (hu : gU G < 700) (hF : isF D (gN G n) f d) (h13 : fty T D d ≠ 13) (hnm : nmr (fty T D d) = false) (hpq : p ≤ q) (hq : q ≤ S.length) (hP : (gP G).length + (q - p) ≤ 1000) :
    ∃ a υ, x_X8_put U 389 (some (gH G n)) (ad c (some f)) σ = some (some a, υ) ∧ sI υ 1094 3 = sI σ 1094 3 ∧ sI υ (c + 5 + f) 8 = nI (fty T D d) ∧ ∃ τ G', x_X9_copy U 1094 (some a) (nI p) (nI q) υ = some (1, τ) ∧ VG τ c T D G' ∧ VE T D G' (aPut T D A n f d 0 (slc S p q)) ∧ CS τ c T D ∧ fX σ τ ∧ sI τ 1094 3 = nI q ∧ gU G' ≤ gU G + 1 ∧ gC G' = gC G ∧ gN G' = gN G ∧ gH G' = gH G ∧ (gP G').length = (gP G).length + (q - p) := by
  obtain ⟨a, υ, G1, p1, p2, p3, p4, p5, p6, p7, p8, p9, p10, p11, p12, p13⟩ := C_put hU hcb hg hC h hn hu hF h13
  have S1 : RB υ 1 S 0 := hS.sm (p2.1 _ (by omega)) (p2.1 _ (by omega))
  obtain ⟨v, τ, q1, q2, q3, q4, q5⟩ := C_copy (f := f) (G := G) hU hcb p3 p4 S1 (show n < gC G1 by omega) p13.1 hpq hq (by rw [p11]; exact hP)
  refine ⟨a, υ, p1, (p2.1 1094 (by decide) 3).1, (p3.it hF.1).2.1, τ, _, q1, q2, ?_, q3, fX_trans (fX_V p2) q4, q5, p12, p7, p8, p9, ?_⟩
  · exact VE_of hE hn hF h13 p7 p8 p10 p13 (fun z => by rw [hnm] at z; cases z) (fun _ => ⟨rfl, rfl⟩)
  · show (gP G1 ++ slc S p q).length = _
    rw [List.length_append, slc_len hpq hq, p11]
/-- unknown bytes are kept -/
theorem C_unk {U c n p q : Nat} {σ : SG} {T S : List Nat} {D : List Dc} {G : Gh} {A : AV} (hU : 4000 < U) (hcb : cb c) (hg : GSc T D) (hC : CS σ c T D) (h : VG σ c T D G) (hE : VE T D G A) (hS : RB σ 1 S 0) (hn : n < gC G) (hu : gU G < 700) (hat : sI σ 1094 3 = nI q) (hpq : p ≤ q) (hq : q ≤ S.length) (hP : (gP G).length + (q - p) ≤ 1000) :
    ∃ τ G', x_X9_keep U 1094 (some (gH G n)) (nI p) σ = some (1, τ) ∧ VG τ c T D G' ∧ VE T D G' (aUnk A n (slc S p q)) ∧ CS τ c T D ∧ fX σ τ ∧ sI τ 1094 3 = nI q ∧ gU G' ≤ gU G + 1 ∧ gC G' = gC G ∧ gN G' = gN G ∧ gH G' = gH G ∧ (gP G').length = (gP G).length + (q - p) := by
  obtain ⟨a, υ, p1, p2, p3, p4, p5⟩ := X8_put (o := none) hU hcb hg hC h hn hu (fun g hg' => by cases hg')
  obtain ⟨q1, q2⟩ := p5 rfl
  have hv := h.2.2.2.2.2.2.2.2.2 n hn
  have p1' : x_X8_put U 389 (some (gH G n)) none σ = some (some a, υ) := p1
  have ed : drG D none (gL G n) = gL G n := rfl
  rw [ed, gSet_self, show mtO T D none = none from rfl] at q2
  have gl : gL (gNew D G n none none) n = insE D (391 + gU G, none, 0, 0, []) (gL G n) := up_s _ _ _
  have S1 : RB υ 1 S 0 := hS.sm (p2.1 _ (by omega)) (p2.1 _ (by omega))
  obtain ⟨v, τ, r1, r2, r3, r4, r5⟩ := C_copy (f := 0) (G := G) (n := n) (a := a) hU hcb p3 q2 S1 hn ⟨(391 + gU G, none, 0, 0, []), by rw [gl]; exact mem_insE.mpr (Or.inl rfl), q1.symm⟩ hpq hq hP
  have a3 : sI υ 1094 3 = nI q := ((p2.1 1094 (by decide) 3).1).trans hat
  unfold x_X9_keep
  rw [p1', b2_eq, if_neg (by intro z; cases z), a3, r1, b2_eq, if_neg (by decide)]
  refine ⟨τ, _, rfl, r2, ?_, r3, fX_trans (fX_V p2) r4, r5, Nat.le_refl _, rfl, rfl, rfl, ?_⟩
  · obtain ⟨h1, h2, h3⟩ := hE
    refine ⟨h1, h2, fun m hm => ?_⟩
    have fresh : ∀ e ∈ gL G n, eA e ≠ a := fun e he => by have := (h.e hn he).2.1; omega
    by_cases z : m = n
    · subst z
      obtain ⟨k1, k2⟩ := h3 m hm
      have eL : gL (gN (gNew D G m none none), gH (gNew D G m none none), up (gL (gNew D G m none none)) m (setE a v (slc S p q) (gL (gNew D G m none none) m)), gC (gNew D G m none none), gU (gNew D G m none none), gP (gNew D G m none none) ++ slc S p q) m = setE a v (slc S p q) (insE D (391 + gU G, none, 0, 0, []) (gL G m)) := by
        show up _ m _ m = _
        rw [up_s, gl]
      unfold VEn
      rw [eL]
      refine ⟨fun f d hf => ?_, ?_⟩
      · rw [flo_set, flo_ins hv.2.2.1, if_neg (show ¬ eF (391 + gU G, none, 0, 0, []) = some f from fun y => by cases y), setE_no (fun e he => fresh e (flo_mem.mp he).1)]
        exact k1 f d hf
      · rw [flo_set, flo_ins hv.2.2.1, if_pos (show eF (391 + gU G, none, 0, 0, []) = none from rfl), setE_app, setE_no (fun e he => fresh e (flo_mem.mp he).1), List.map_append, List.flatten_append, k2]
        have e1 : setE a v (slc S p q) [(391 + gU G, none, 0, 0, [])] = [(391 + gU G, none, 0, v, slc S p q)] := by
          rw [q1]
          show [if 391 + gU G = 391 + gU G then _ else _] = _
          rw [if_pos rfl]; rfl
        rw [e1]
        show _ = up (aU A) m _ m
        rw [up_s]
        simp [eT]
    · have eL : gL (gN (gNew D G n none none), gH (gNew D G n none none), up (gL (gNew D G n none none)) n (setE a v (slc S p q) (gL (gNew D G n none none) n)), gC (gNew D G n none none), gU (gNew D G n none none), gP (gNew D G n none none) ++ slc S p q) m = gL G m := by
        show up _ n _ m = _
        rw [up_o z]
        exact up_o z
      rw [eL]
      show VEn T D (gN G m) (gL G m) (aE A m) (up (aU A) n _ m)
      rw [up_o z]
      exact h3 m hm
  · show (gP G ++ slc S p q).length = _
    rw [List.length_append, slc_len hpq hq]
/-- a message is opened: the value then, and which one it is -/
def aMsg (D : List Dc) (A : AV) (n f : Nat) (d : Dc) (t : Nat) : AV × Nat := match dR d, aE A n f with
  | false, it :: _ => (aOld D A n f d, it.2.2)
  | _, _ => (aNew D A n f d t, aC A)
theorem C_msg {U c n f t : Nat} {σ : SG} {T : List Nat} {D : List Dc} {G : Gh} {A : AV} {d : Dc} (hU : 4000 < U) (hcb : cb c) (hg : GSc T D) (hC : CS σ c T D) (h : VG σ c T D G) (hE : VE T D G A) (hn : n < gC G) (hu : gU G < 700) (hF : isF D (gN G n) f d) (h13 : fty T D d = 13) (ht : ftg T D d = some t) :
    ∃ a τ G', x_X8_put U 389 (some (gH G n)) (ad c (some f)) σ = some (some a, τ) ∧ VG τ c T D G' ∧ VE T D G' (aMsg D A n f d t).1 ∧ CS τ c T D ∧ fV σ τ ∧ gU G' ≤ gU G + 1 ∧ gC G ≤ gC G' ∧ (∀ m, m < gC G → gN G' m = gN G m ∧ gH G' m = gH G m) ∧ gP G' = gP G ∧ (aMsg D A n f d t).2 < gC G' ∧ gH G' (aMsg D A n f d t).2 = a ∧ gN G' (aMsg D A n f d t).2 = t ∧ n < (aMsg D A n f d t).2 := by
  obtain ⟨a, τ, p1, p2, p3, p4, p5⟩ := X8_put (o := some f) hU hcb hg hC h hn hu (fun g hg' => by cases hg'; exact ⟨d, hF⟩)
  have hv := h.2.2.2.2.2.2.2.2.2 n hn
  have fi := h.fi hn
  have hfd : ∀ x ∈ gL G n, ∀ g, eF x = some g → ∃ y, D[g]? = some y := fun x hx g hgx => by obtain ⟨y, hy⟩ := fi x hx g hgx; exact ⟨y, hy.1⟩
  have hdr := flo_dr (L := gL G n) hF.1 hfd
  have hsub : List.Sublist (drG D (some f) (gL G n)) (gL G n) := drG_sub
  have hmt : mtO T D (some f) = some t := by unfold mtO; simp only; rw [hF.1]; simp only; rw [if_pos h13, ht]
  have hf1 : flo (some f) (drG D (some f) (gL G n)) = flo (some f) (gL G n) := by rw [hdr (some f)]; simp only; rw [rivB_self]; rfl
  obtain ⟨e1, e2, e3⟩ := hE
  obtain ⟨k1, k2⟩ := e3 n hn
  -- all of a message's values count
  have nz : ∀ v t, noth T D d v t = false := fun v t => by unfold noth; rw [decide_eq_false (show ¬ fty T D d ≠ 13 from fun z => z h13)]; simp
  have hEf : (flo (some f) (gL G n)).map (itm T D d) = aE A n f := by
    rw [← k1 f d hF, List.filter_eq_self.mpr]
    intro e _
    unfold live; rw [nz]; rfl
  have hit : ∀ e, itm T D d e = (0, [], eK e) := fun e => by unfold itm; rw [if_pos h13]
  cases hr : ruE D (some f) (drG D (some f) (gL G n)) with
  | some b =>
    obtain ⟨q1, q2⟩ := p4 b hr
    have hr' := hr
    unfold ruE at hr'
    cases hbl : (twE D (some f) (drG D (some f) (gL G n))).getLast? with
    | none => rw [hbl] at hr'; cases hr'
    | some b' =>
      rw [hbl] at hr'
      simp only at hr'
      by_cases q : eF b' = some f ∧ (∀ d, D[f]? = some d → dR d = false)
      · rw [if_pos q] at hr'
        cases hr'
        obtain ⟨Z, hZ⟩ := List.getLast?_eq_some_iff.mp hbl
        have hb1 : b ∈ drG D (some f) (gL G n) := by rw [← tdE D (some f) (drG D (some f) (gL G n)), hZ]; simp
        have hbL := hsub.subset hb1
        have hR := q.2 d hF.1
        have fb : flo (some f) (gL G n) = [b] := flo_un hv.2.2.2.2.1 hF.1 hR hbL q.1
        rw [fb] at hEf
        have hEf' : aE A n f = [(0, [], eK b)] := by rw [← hEf]; show [itm T D d b] = _; rw [hit]
        have hm : aMsg D A n f d t = (aOld D A n f d, eK b) := by unfold aMsg; rw [hR, hEf']
        obtain ⟨_, _, _, _, _, _, b7⟩ := h.e hn hbL
        obtain ⟨d', hd', _, x3⟩ := b7 f q.1
        have : d' = d := by have := hd'.1; rw [hF.1] at this; exact (Option.some.inj this).symm
        subst this
        obtain ⟨y1, y2, y3, y4⟩ := x3 h13
        rw [hm]
        refine ⟨a, τ, _, p1, q2, ⟨e1, e2, fun m hm' => ?_⟩, p3, p2, Nat.le_succ _, Nat.le_refl _, fun m _ => ⟨rfl, rfl⟩, rfl, y2, by rw [q1]; exact y3, by rw [ht] at y4; exact (Option.some.inj y4).symm, y1⟩
        by_cases z : m = n
        · subst z
          have eL : gL (gSet G m (drG D (some f) (gL G m))) m = drG D (some f) (gL G m) := up_s _ _ _
          unfold VEn
          rw [eL]
          refine ⟨fun g x hx => ?_, by rw [hdr none]; exact k2⟩
          rw [hdr (some g)]
          simp only
          show _ = up (aE A) m _ m g
          rw [up_s]
          cases hrv : rivB D f d' g with
          | true =>
            have hgf : g ≠ f := fun y => by rw [y, rivB_self] at hrv; cases hrv
            rw [if_pos rfl, if_pos ⟨hgf, rfl⟩]; rfl
          | false =>
            rw [if_neg (by decide), if_neg (fun y => by cases y.2)]
            exact k1 g x hx
        · have eL : gL (gSet G n (drG D (some f) (gL G n))) m = gL G m := up_o z
          rw [eL]
          show VEn T D _ _ (up (aE A) n _ m) _
          rw [up_o z]
          exact e3 m hm'
      · rw [if_neg q] at hr'; cases hr'
  | none =>
    obtain ⟨q1, q2⟩ := p5 hr
    rw [hmt] at q2
    have hsr : srE D (drG D (some f) (gL G n)) := hv.2.2.1.sublist hsub
    have gl : gL (gNew D (gSet G n (drG D (some f) (gL G n))) n (some f) (some t)) n = insE D (391 + gU G, some f, gC G, 0, []) (drG D (some f) (gL G n)) := by
      show up (up (up (gL G) n (drG D (some f) (gL G n))) n (insE D (391 + gU G, some f, gC G, 0, []) (up (gL G) n (drG D (some f) (gL G n)) n))) (gC G) [] n = _
      rw [up_o (Nat.ne_of_lt hn), up_s, up_s]
    have hm : aMsg D A n f d t = (aNew D A n f d t, aC A) := by
      unfold aMsg
      cases hR : dR d with
      | true => rfl
      | false =>
        have h0 : flo (some f) (gL G n) = [] := by
          rw [← hf1]
          refine flo_nil (fun e he hef => ?_)
          obtain ⟨b, b1', b2', _⟩ := tw_last hg hsr hF (fun x hx => fi x (hsub.subset hx)) he hef
          unfold ruE at hr
          rw [b1'] at hr
          simp only at hr
          rw [if_pos ⟨b2', fun d' hd' => by rw [hF.1] at hd'; cases hd'; exact hR⟩] at hr
          cases hr
        rw [h0] at hEf
        have : aE A n f = [] := hEf.symm
        rw [this]
    rw [hm]
    have eC : gC (gNew D (gSet G n (drG D (some f) (gL G n))) n (some f) (some t)) = gC G + 1 := rfl
    refine ⟨a, τ, _, p1, q2, ⟨by rw [eC, e1]; rfl, fun m hm' => ?_, fun m hm' => ?_⟩, p3, p2, Nat.le_refl _, by rw [eC]; omega, fun m hm' => ⟨up_o (Nat.ne_of_lt hm'), up_o (Nat.ne_of_lt hm')⟩, rfl, by rw [eC, ← e1]; exact Nat.lt_succ_self _, ?_, ?_, by show n < aC A; rw [← e1]; exact hn⟩
    · show up (gN G) (gC G) t m = up (aN A) (aC A) t m
      rw [← e1]
      by_cases z : m = gC G
      · rw [z, up_s, up_s]
      · rw [up_o z, up_o z]; exact e2 m (by rw [eC] at hm'; omega)
    · show VEn T D (up (gN G) (gC G) t m) _ (up (up (aE A) n _) (aC A) (fun _ => []) m) (up (aU A) (aC A) [] m)
      rw [← e1]
      by_cases zc : m = gC G
      · subst zc
        have eL : gL (gNew D (gSet G n (drG D (some f) (gL G n))) n (some f) (some t)) (gC G) = [] := up_s _ _ _
        rw [eL, up_s, up_s, up_s]
        exact ⟨fun g x _ => rfl, rfl⟩
      · rw [up_o zc, up_o zc, up_o zc]
        have hmC : m < gC G := by rw [eC] at hm'; omega
        by_cases z : m = n
        · subst z
          rw [gl, up_s]
          refine ⟨fun g x hx => ?_, ?_⟩
          · show List.map _ _ = (if g = f then aE A m f ++ [(0, [], gC G)] else if rivB D f d g then [] else aE A m g)
            rw [flo_ins hsr]
            by_cases w : g = f
            · subst w
              have : x = d := by have := hx.1; rw [hF.1] at this; exact (Option.some.inj this).symm
              subst this
              rw [if_pos (show eF (391 + gU G, some g, gC G, 0, []) = some g from rfl), if_pos rfl, hf1, List.filter_eq_self.mpr (fun e _ => by unfold live; rw [nz]; rfl), List.map_append, hEf]
              show _ ++ [itm T D x _] = _
              rw [hit]; rfl
            · rw [if_neg (show ¬ eF (391 + gU G, some f, gC G, 0, []) = some g from fun y => w (Option.some.inj y).symm), if_neg w, hdr (some g)]
              simp only
              cases rivB D f d g with
              | true => rfl
              | false => exact k1 g x hx
          · rw [flo_ins hsr, if_neg (show ¬ eF (391 + gU G, some f, gC G, 0, []) = none from fun y => by cases y), hdr none]
            exact k2
        · have eL : gL (gNew D (gSet G n (drG D (some f) (gL G n))) n (some f) (some t)) m = gL G m := (up_o zc).trans ((up_o z).trans (up_o z))
          rw [eL, up_o z]
          exact e3 m hmC
    · show up (gH G) (gC G) (391 + gU G) (aC A) = a
      rw [← e1, up_s, q1]
    · show up (gN G) (gC G) t (aC A) = t
      rw [← e1, up_s]
