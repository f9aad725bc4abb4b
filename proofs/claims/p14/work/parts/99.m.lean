/-! ===== the class's value: a text of a field, unknown bytes, a message ===== -/
theorem C_txt {U c n f p q : Nat} {σ : SG} {T S : List Nat} {D : List Dc} {G : Gh} {A : AV} {d : Dc} (hU : 4000 < U) (hcb : cb c) (hg : GSc T D) (hC : CS σ c T D) (h : VG σ c T D G) (hE : VE T D G A) (hS : RB σ 1 S 0) (hn : n < gC G) (hu : gU G < 700) (hF : isF D (gN G n) f d) (h13 : fty T D d ≠ 13) (hnm : nmr (fty T D d) = false) (hpq : p ≤ q) (hq : q ≤ S.length) (hP : (gP G).length + (q - p) ≤ 1000) :
    ∃ a υ, x_X8_put U 389 (some (gH G n)) (ad c (some f)) σ = some (some a, υ) ∧ sI υ 1094 3 = sI σ 1094 3 ∧ sI υ (c + 5 + f) 8 = nI (fty T D d) ∧ ∃ τ G', x_X9_copy U 1094 (some a) (nI p) (nI q) υ = some (1, τ) ∧ VG τ c T D G' ∧ VE T D G' (aPut T D A n f d 0 (slc S p q)) ∧ CS τ c T D ∧ fX σ τ ∧ sI τ 1094 3 = nI q ∧ gU G' ≤ gU G + 1 ∧ gC G' = gC G ∧ gN G' = gN G ∧ gH G' = gH G ∧ (gP G').length = (gP G).length + (q - p) := by
  obtain ⟨a, υ, G1, p1, p2, p3, p4, p5, p6, p7, p8, p9, p10, p11, p12, p13⟩ := C_put hU hcb hg hC h hn hu hF h13
  have S1 : RB υ 1 S 0 := hS.sm (p2.1 _ (by omega)) (p2.1 _ (by omega))
  obtain ⟨v, τ, q1, q2, q3, q4, q5⟩ := C_copy (f := f) (G := G) hU hcb p3 p4 S1 (show n < gC G1 by omega) p13.1 hpq hq (by rw [p11]; exact hP)
  refine ⟨a, υ, p1, (p2.1 1094 (by decide) 3).1, (p3.it hF.1).2.1, τ, _, q1, q2, ?_, q3, fX_trans (fX_V p2) q4, q5, p12, p7, p8, p9, ?_⟩
  · exact VE_of hE hn hF h13 p7 p8 p10 p13 (fun z => by rw [hnm] at z; cases z) (fun _ => ⟨rfl, rfl⟩)
  · show (gP G1 ++ slc S p q).length = _
    rw [List.length_append, slc_len hpq hq, p11]
/-- unknown bytes are kept -/
theorem C_unk {U c n p q : Nat} {σ : SG} {T S : List Nat} {D : List Dc} {G : Gh} {A : AV} (hU : 4000 < U) (hcb : cb c) (hg : GSc T D) (hC : CS σ c T D) (h : VG σ c T D G) (hE : VE T D G A) (hS : RB σ 1 S 0) (hn : n < gC G) (hu : gU G < 700) (hat : sI σ 1094 3 = nI q) (hpq : p ≤ q) (hq : q ≤ S.length) (hP : (gP G).length + (q - p) ≤ 1000) :
    ∃ τ G', x_X9_keep U 1094 (some (gH G n)) (nI p) σ = some (1, τ) ∧ VG τ c T D G' ∧ VE T D G' (aUnk A n (slc S p q)) ∧ CS τ c T D ∧ fX σ τ ∧ sI τ 1094 3 = nI q ∧ gU G' ≤ gU G + 1 ∧ gC G' = gC G ∧ gN G' = gN G ∧ gH G' = gH G ∧ (gP G').length = (gP G).length + (q - p) := by
  obtain ⟨a, υ, p1, p2, p3, p4, p5⟩ := X8_put (o := none) hU hcb hg hC h hn hu (fun g hg' => by cases hg')
  obtain ⟨q1, q2⟩ := p5 rfl
  have hv := h.2.2.2.2.2.2.2.2.2 n hn
  have p1' : x_X8_put U 389 (some (gH G n)) none σ = some (some a, υ) := p1
  have ed : drG D none (gL G n) = gL G n := rfl
  rw [ed, gSet_self, show mtO T D none = none from rfl] at q2
  have gl : gL (gNew D G n none none) n = insE D (391 + gU G, none, 0, 0, []) (gL G n) := up_s _ _ _
  have S1 : RB υ 1 S 0 := hS.sm (p2.1 _ (by omega)) (p2.1 _ (by omega))
  obtain ⟨v, τ, r1, r2, r3, r4, r5⟩ := C_copy (f := 0) (G := G) (n := n) (a := a) hU hcb p3 q2 S1 hn ⟨(391 + gU G, none, 0, 0, []), by rw [gl]; exact mem_insE.mpr (Or.inl rfl), q1.symm⟩ hpq hq hP
  have a3 : sI υ 1094 3 = nI q := ((p2.1 1094 (by decide) 3).1).trans hat
  unfold x_X9_keep
  rw [p1', b2_eq, if_neg (by intro z; cases z), a3, r1, b2_eq, if_neg (by decide)]
  refine ⟨τ, _, rfl, r2, ?_, r3, fX_trans (fX_V p2) r4, r5, Nat.le_refl _, rfl, rfl, rfl, ?_⟩
  · obtain ⟨h1, h2, h3⟩ := hE
    refine ⟨h1, h2, fun m hm => ?_⟩
    have fresh : ∀ e ∈ gL G n, eA e ≠ a := fun e he => by have := (h.e hn he).2.1; omega
    by_cases z : m = n
    · subst z
      obtain ⟨k1, k2⟩ := h3 m hm
      have eL : gL (gN (gNew D G m none none), gH (gNew D G m none none), up (gL (gNew D G m none none)) m (setE a v (slc S p q) (gL (gNew D G m none none) m)), gC (gNew D G m none none), gU (gNew D G m none none), gP (gNew D G m none none) ++ slc S p q) m = setE a v (slc S p q) (insE D (391 + gU G, none, 0, 0, []) (gL G m)) := by
        show up _ m _ m = _
        rw [up_s, gl]
      unfold VEn
      rw [eL]
      refine ⟨fun f d hf => ?_, ?_⟩
      · rw [flo_set, flo_ins hv.2.2.1, if_neg (show ¬ eF (391 + gU G, none, 0, 0, []) = some f from fun y => by cases y), setE_no (fun e he => fresh e (flo_mem.mp he).1)]
        exact k1 f d hf
      · rw [flo_set, flo_ins hv.2.2.1, if_pos (show eF (391 + gU G, none, 0, 0, []) = none from rfl), setE_app, setE_no (fun e he => fresh e (flo_mem.mp he).1), List.map_append, List.flatten_append, k2]
        have e1 : setE a v (slc S p q) [(391 + gU G, none, 0, 0, [])] = [(391 + gU G, none, 0, v, slc S p q)] := by
          rw [q1]
          show [if 391 + gU G = 391 + gU G then _ else _] = _
          rw [if_pos rfl]; try rfl
        rw [e1]
        show _ = up (aU A) m _ m
        rw [up_s]
        simp [eT]
    · have eL : gL (gN (gNew D G n none none), gH (gNew D G n none none), up (gL (gNew D G n none none)) n (setE a v (slc S p q) (gL (gNew D G n none none) n)), gC (gNew D G n none none), gU (gNew D G n none none), gP (gNew D G n none none) ++ slc S p q) m = gL G m := by
        show up _ n _ m = _
        rw [up_o z]
        exact up_o z
      rw [eL]
      show VEn T D (gN G m) (gL G m) (aE A m) (up (aU A) n _ m)
      rw [up_o z]
      exact h3 m hm
  · show (gP G ++ slc S p q).length = _
    rw [List.length_append, slc_len hpq hq]
/-- a message is opened: the value then, and which one it is -/
def aMsg (D : List Dc) (A : AV) (n f : Nat) (d : Dc) (t : Nat) : AV × Nat := match dR d, aE A n f with
  | false, it :: _ => (aOld D A n f d, it.2.2)
  | _, _ => (aNew D A n f d t, aC A)
theorem C_msg {U c n f t : Nat} {σ : SG} {T : List Nat} {D : List Dc} {G : Gh} {A : AV} {d : Dc} (hU : 4000 < U) (hcb : cb c) (hg : GSc T D) (hC : CS σ c T D) (h : VG σ c T D G) (hE : VE T D G A) (hn : n < gC G) (hu : gU G < 700) (hF : isF D (gN G n) f d) (h13 : fty T D d = 13) (ht : ftg T D d = some t) :
    ∃ a τ G', x_X8_put U 389 (some (gH G n)) (ad c (some f)) σ = some (some a, τ) ∧ VG τ c T D G' ∧ VE T D G' (aMsg D A n f d t).1 ∧ CS τ c T D ∧ fV σ τ ∧ gU G' ≤ gU G + 1 ∧ gC G ≤ gC G' ∧ (∀ m, m < gC G → gN G' m = gN G m ∧ gH G' m = gH G m) ∧ gP G' = gP G ∧ (aMsg D A n f d t).2 < gC G' ∧ gH G' (aMsg D A n f d t).2 = a ∧ gN G' (aMsg D A n f d t).2 = t ∧ n < (aMsg D A n f d t).2 := by
  obtain ⟨a, τ, p1, p2, p3, p4, p5⟩ := X8_put (o := some f) hU hcb hg hC h hn hu (fun g hg' => by cases hg'; exact ⟨d, hF⟩)
  have hv := h.2.2.2.2.2.2.2.2.2 n hn
  have fi := h.fi hn
  have hfd : ∀ x ∈ gL G n, ∀ g, eF x = some g → ∃ y, D[g]? = some y := fun x hx g hgx => by obtain ⟨y, hy⟩ := fi x hx g hgx; exact ⟨y, hy.1⟩
  have hdr := flo_dr (L := gL G n) hF.1 hfd
  have hsub : List.Sublist (drG D (some f) (gL G n)) (gL G n) := drG_sub
  have hmt : mtO T D (some f) = some t := by unfold mtO; simp only; rw [hF.1]; simp only; rw [if_pos h13, ht]
  have hf1 : flo (some f) (drG D (some f) (gL G n)) = flo (some f) (gL G n) := by rw [hdr (some f)]; simp only; rw [rivB_self]; try rfl
  obtain ⟨e1, e2, e3⟩ := hE
  obtain ⟨k1, k2⟩ := e3 n hn
  -- all of a message's values count
  have nz : ∀ v t, noth T D d v t = false := fun v t => by unfold noth; rw [decide_eq_false (show ¬ fty T D d ≠ 13 from fun z => z h13)]; simp
  have hEf : (flo (some f) (gL G n)).map (itm T D d) = aE A n f := by
    rw [← k1 f d hF, List.filter_eq_self.mpr]
    intro e _
    unfold live; rw [nz]; try rfl
  have hit : ∀ e, itm T D d e = (0, [], eK e) := fun e => by unfold itm; rw [if_pos h13]
  cases hr : ruE D (some f) (drG D (some f) (gL G n)) with
  | some b =>
    obtain ⟨q1, q2⟩ := p4 b hr
    have hr' := hr
    unfold ruE at hr'
    cases hbl : (twE D (some f) (drG D (some f) (gL G n))).getLast? with
    | none => rw [hbl] at hr'; cases hr'
    | some b' =>
      rw [hbl] at hr'
      simp only at hr'
      by_cases q : eF b' = some f ∧ (∀ d, D[f]? = some d → dR d = false)
      · rw [if_pos q] at hr'
        cases hr'
        obtain ⟨Z, hZ⟩ := List.getLast?_eq_some_iff.mp hbl
        have hb1 : b ∈ drG D (some f) (gL G n) := by rw [← tdE D (some f) (drG D (some f) (gL G n)), hZ]; simp
        have hbL := hsub.subset hb1
        have hR := q.2 d hF.1
        have fb : flo (some f) (gL G n) = [b] := flo_un hv.2.2.2.2.1 hF.1 hR hbL q.1
        rw [fb] at hEf
        have hEf' : aE A n f = [(0, [], eK b)] := by rw [← hEf]; show [itm T D d b] = _; rw [hit]
        have hm : aMsg D A n f d t = (aOld D A n f d, eK b) := by unfold aMsg; rw [hR, hEf']
        obtain ⟨_, _, _, _, _, _, b7⟩ := h.e hn hbL
        obtain ⟨d', hd', _, x3⟩ := b7 f q.1
        have : d' = d := by have := hd'.1; rw [hF.1] at this; exact (Option.some.inj this).symm
        subst this
        obtain ⟨y1, y2, y3, y4⟩ := x3 h13
        rw [hm]
        refine ⟨a, τ, _, p1, q2, ⟨e1, e2, fun m hm' => ?_⟩, p3, p2, Nat.le_succ _, Nat.le_refl _, fun m _ => ⟨rfl, rfl⟩, rfl, y2, by rw [q1]; exact y3, by rw [ht] at y4; exact (Option.some.inj y4).symm, y1⟩
        by_cases z : m = n
        · subst z
          have eL : gL (gSet G m (drG D (some f) (gL G m))) m = drG D (some f) (gL G m) := up_s _ _ _
          unfold VEn
          rw [eL]
          refine ⟨fun g x hx => ?_, by rw [hdr none]; exact k2⟩
          rw [hdr (some g)]
          simp only
          show _ = up (aE A) m _ m g
          rw [up_s]
          cases hrv : rivB D f d' g with
          | true =>
            have hgf : g ≠ f := fun y => by rw [y, rivB_self] at hrv; cases hrv
            rw [if_pos rfl, if_pos ⟨hgf, rfl⟩]; try rfl
          | false =>
            rw [if_neg (by decide), if_neg (fun y => by cases y.2)]
            exact k1 g x hx
        · have eL : gL (gSet G n (drG D (some f) (gL G n))) m = gL G m := up_o z
          rw [eL]
          show VEn T D _ _ (up (aE A) n _ m) _
          rw [up_o z]
          exact e3 m hm'
      · rw [if_neg q] at hr'; cases hr'
  | none =>
    obtain ⟨q1, q2⟩ := p5 hr
    rw [hmt] at q2
    have hsr : srE D (drG D (some f) (gL G n)) := hv.2.2.1.sublist hsub
    have gl : gL (gNew D (gSet G n (drG D (some f) (gL G n))) n (some f) (some t)) n = insE D (391 + gU G, some f, gC G, 0, []) (drG D (some f) (gL G n)) := by
      show up (up (up (gL G) n (drG D (some f) (gL G n))) n (insE D (391 + gU G, some f, gC G, 0, []) (up (gL G) n (drG D (some f) (gL G n)) n))) (gC G) [] n = _
      rw [up_o (Nat.ne_of_lt hn), up_s, up_s]
    have hm : aMsg D A n f d t = (aNew D A n f d t, aC A) := by
      unfold aMsg
      cases hR : dR d with
      | true => rfl
      | false =>
        have h0 : flo (some f) (gL G n) = [] := by
          rw [← hf1]
          refine flo_nil (fun e he hef => ?_)
          obtain ⟨b, b1', b2', _⟩ := tw_last hg hsr hF (fun x hx => fi x (hsub.subset hx)) he hef
          unfold ruE at hr
          rw [b1'] at hr
          simp only at hr
          rw [if_pos ⟨b2', fun d' hd' => by rw [hF.1] at hd'; cases hd'; exact hR⟩] at hr
          cases hr
        rw [h0] at hEf
        have : aE A n f = [] := hEf.symm
        rw [this]
    rw [hm]
    have eC : gC (gNew D (gSet G n (drG D (some f) (gL G n))) n (some f) (some t)) = gC G + 1 := rfl
    refine ⟨a, τ, _, p1, q2, ⟨by rw [eC, e1]; rfl, fun m hm' => ?_, fun m hm' => ?_⟩, p3, p2, Nat.le_refl _, by rw [eC]; omega, fun m hm' => ⟨up_o (Nat.ne_of_lt hm'), up_o (Nat.ne_of_lt hm')⟩, rfl, by rw [eC, ← e1]; exact Nat.lt_succ_self _, ?_, ?_, by show n < aC A; rw [← e1]; exact hn⟩
    · show up (gN G) (gC G) t m = up (aN A) (aC A) t m
      rw [← e1]
      by_cases z : m = gC G
      · rw [z, up_s, up_s]
      · rw [up_o z, up_o z]; exact e2 m (by rw [eC] at hm'; omega)
    · show VEn T D (up (gN G) (gC G) t m) _ (up (up (aE A) n _) (aC A) (fun _ => []) m) (up (aU A) (aC A) [] m)
      rw [← e1]
      by_cases zc : m = gC G
      · subst zc
        have eL : gL (gNew D (gSet G n (drG D (some f) (gL G n))) n (some f) (some t)) (gC G) = [] := up_s _ _ _
        rw [eL, up_s, up_s, up_s]
        exact ⟨fun g x _ => rfl, rfl⟩
      · rw [up_o zc, up_o zc, up_o zc]
        have hmC : m < gC G := by rw [eC] at hm'; omega
        by_cases z : m = n
        · subst z
          rw [gl, up_s]
          refine ⟨fun g x hx => ?_, ?_⟩
          · show List.map _ _ = (if g = f then aE A m f ++ [(0, [], gC G)] else if rivB D f d g then [] else aE A m g)
            rw [flo_ins hsr]
            by_cases w : g = f
            · subst w
              have : x = d := by have := hx.1; rw [hF.1] at this; exact (Option.some.inj this).symm
              subst this
              rw [if_pos (show eF (391 + gU G, some g, gC G, 0, []) = some g from rfl), if_pos rfl, hf1, List.filter_eq_self.mpr (fun e _ => by unfold live; rw [nz]; rfl), List.map_append, hEf]
              show _ ++ [itm T D x _] = _
              rw [hit]; try rfl
            · rw [if_neg (show ¬ eF (391 + gU G, some f, gC G, 0, []) = some g from fun y => w (Option.some.inj y).symm), if_neg w, hdr (some g)]
              simp only
              cases rivB D f d g with
              | true => rfl
              | false => exact k1 g x hx
          · rw [flo_ins hsr, if_neg (show ¬ eF (391 + gU G, some f, gC G, 0, []) = none from fun y => by cases y), hdr none]
            exact k2
        · have eL : gL (gNew D (gSet G n (drG D (some f) (gL G n))) n (some f) (some t)) m = gL G m := (up_o zc).trans ((up_o z).trans (up_o z))
          rw [eL, up_o z]
          exact e3 m hmC
    · show up (gH G) (gC G) (391 + gU G) (aC A) = a
      rw [← e1, up_s, q1]
    · show up (gN G) (gC G) t (aC A) = t
      rw [← e1, up_s]
/-! ===== reading numbers of the wire: the spec, and the class ===== -/
/-- one byte more of a number -/
def vrN (S : List Nat) (e : Nat) : Nat → Nat → Nat → Int64 → Option (Int64 × Nat)
  | 0, _, _, _ => none
  | j + 1, k, p, x => if p < e then (match S[p]? with
    | none => none
    | some b => if b < 128 then some (x ||| lshl9 (lN (b % 128)) (nI (7 * k)), p + 1) else vrN S e j (k + 1) (p + 1) (x ||| lshl9 (lN (b % 128)) (nI (7 * k)))) else none
def fxN (S : List Nat) (e : Nat) : Nat → Nat → Nat → Int64 → Option (Int64 × Nat)
  | 0, _, _, _ => none
  | j + 1, k, p, x => if p < e then (match S[p]? with
    | none => none
    | some b => if j = 0 then some (x ||| lshl9 (lN b) (nI (8 * k)), p + 1) else fxN S e j (k + 1) (p + 1) (x ||| lshl9 (lN b) (nI (8 * k)))) else none
def rdN (S : List Nat) (q p e : Nat) : Option (Int64 × Nat) := if q = 0 then vrN S e 10 0 p 0 else if q = 1 then fxN S e 8 0 p 0 else if q = 5 then fxN S e 4 0 p 0 else none
theorem vrN_lt {S : List Nat} {e : Nat} : ∀ (j k p : Nat) (x v : Int64) (p' : Nat), vrN S e j k p x = some (v, p') → p < p' ∧ p' ≤ e := by
  intro j
  induction j with
  | zero => intro k p x v p' h; cases h
  | succ j ih =>
    intro k p x v p' h
    rw [vrN] at h
    by_cases q : p < e
    · rw [if_pos q] at h
      cases hb : S[p]? with
      | none => rw [hb] at h; cases h
      | some b =>
        rw [hb] at h
        simp only at h
        by_cases w : b < 128
        · rw [if_pos w] at h; cases h; omega
        · rw [if_neg w] at h
          have := ih _ _ _ _ _ h
          omega
    · rw [if_neg q] at h; cases h
theorem fxN_lt {S : List Nat} {e : Nat} : ∀ (j k p : Nat) (x v : Int64) (p' : Nat), fxN S e j k p x = some (v, p') → p < p' ∧ p' ≤ e := by
  intro j
  induction j with
  | zero => intro k p x v p' h; cases h
  | succ j ih =>
    intro k p x v p' h
    rw [fxN] at h
    by_cases q : p < e
    · rw [if_pos q] at h
      cases hb : S[p]? with
      | none => rw [hb] at h; cases h
      | some b =>
        rw [hb] at h
        simp only at h
        by_cases w : j = 0
        · rw [if_pos w] at h; cases h; omega
        · rw [if_neg w] at h
          have := ih _ _ _ _ _ h
          omega
    · rw [if_neg q] at h; cases h
theorem rdN_lt {S : List Nat} {q p e : Nat} {v : Int64} {p' : Nat} (h : rdN S q p e = some (v, p')) : p < p' ∧ p' ≤ e := by
  unfold rdN at h
  split at h
  · exact vrN_lt _ _ _ _ _ _ h
  · split at h
    · exact fxN_lt _ _ _ _ _ _ h
    · split at h
      · exact fxN_lt _ _ _ _ _ _ h
      · cases h
/-- what reading a number touches -/
def fN (σ τ : SG) : Prop := (∀ b, b ≠ 1094 → sm σ τ b) ∧ sI τ 1094 5 = sI σ 1094 5
theorem fN_refl (σ : SG) : fN σ σ := ⟨fun b _ => sm_refl σ b, rfl⟩
theorem fN_trans {σ τ υ : SG} (h : fN σ τ) (h' : fN τ υ) : fN σ υ := ⟨fun b hb => sm_trans (h.1 b hb) (h'.1 b hb), h'.2.trans h.2⟩
theorem fX_N {σ τ : SG} (h : fN σ τ) : fX σ τ := ⟨fun b hb => h.1 b (by omega), fun k _ => h.1 389 (by decide) k, h.2, (h.1 1095 (by decide) 5).1, (h.1 1092 (by decide) 2).1⟩
theorem and127 : ∀ b, b < 256 → (Int32.toInt64 (nI b)) &&& 127 = lN (b % 128) := by decide +kernel
/-- the outcome of reading a number -/
def ON (σ : SG) (o : Option (Int64 × Nat)) (x : Option (Int32 × SG)) : Prop := ∃ τ, x = some (zI o.isSome, τ) ∧ fN σ τ ∧ ∀ v p, o = some (v, p) → sL τ 1094 4 = v ∧ sI τ 1094 3 = nI p
theorem X9_rn_step {U k e : Nat} {σ : SG} {x y : Int64} {v1 v3 v4 : Int32} {K : Int32 → SG → Option (Int32 × SG)} (v6 : Int64) : x_X9_readNumber_110 U 1094 K v1 (nI e) v3 v4 (nI k) v6 y x σ = if v1 = 0 then (if v6 < 128 then some (1, uL σ 1094 4 (x ||| lshl9 y (v3 * nI k))) else K (nI (k + 1)) (uL σ 1094 4 (x ||| lshl9 y (v3 * nI k)))) else (if nI k = v4 - 1 then some (1, uL σ 1094 4 (x ||| lshl9 y (v3 * nI k))) else K (nI (k + 1)) (uL σ 1094 4 (x ||| lshl9 y (v3 * nI k)))) := by
  unfold x_X9_readNumber_110 x_X9_readNumber_146
  rw [sb_eq, nI_1]
theorem X9_var_L {U e : Nat} {S : List Nat} (he : e ≤ S.length) (hS8 : ok8 S) (hSl : S.length ≤ 700) : ∀ (j k p U1 : Nat) (σ : SG) (x : Int64), j + k = 10 → j < U1 → p ≤ e → RB σ 1 S 0 → sI σ 1094 3 = nI p → sL σ 1094 4 = x →
    ON σ (vrN S e j k p x) (x_X9_readNumber_L51 U 1094 0 (nI e) 7 10 U1 (nI k) σ) := by
  intro j
  induction j with
  | zero =>
    intro k p U1 σ x hk hu hp hS h3 h4
    obtain ⟨V, rfl⟩ : ∃ V, U1 = V + 1 := ⟨U1 - 1, by omega⟩
    rw [x_X9_readNumber_L51, show (10 : Int32) = nI 10 from rfl, if_neg (fun z => by have := (ltI (by omega) (by decide)).mp z; omega)]
    exact ⟨σ, rfl, fN_refl σ, fun v p h => by cases h⟩
  | succ j ih =>
    intro k p U1 σ x hk hu hp hS h3 h4
    obtain ⟨V, rfl⟩ : ∃ V, U1 = V + 1 := ⟨U1 - 1, by omega⟩
    rw [x_X9_readNumber_L51, show (10 : Int32) = nI 10 from rfl, if_pos ((ltI (by omega) (by decide)).mpr (by omega)), h3, ifd (ltI (by omega) (by omega)), vrN]
    by_cases q : p < e
    · rw [if_pos q, if_pos q, X0_at hS (by omega), b1_eq, sb_eq, if_pos rfl, nI_1]
      have hpl : p < S.length := by omega
      have hb := List.getElem?_eq_getElem hpl
      have h256 := hS8 _ (List.getElem_mem hpl)
      rw [hb]
      simp only
      rw [bA_some hb, and127 _ h256, X9_rn_step, if_pos rfl, sL_uI, h4, show (7 : Int32) = nI 7 from rfl, pk_mul]
      have lt : Int32.toInt64 (nI S[p]) < 128 ↔ S[p] < 128 := by rw [nI_l (by omega)]; exact lN_lt (b := 128) (by omega) (by decide)
      rw [ifd lt]
      have fS : fN σ (uL (uI σ 1094 3 (nI (p + 1))) 1094 4 (x ||| lshl9 (lN (S[p] % 128)) (nI (7 * k)))) := ⟨fun b hb => sm_trans (sm_uI hb) (sm_uL hb), by rw [sI_uL, sI_o (Or.inr (by decide))]⟩
      by_cases w : S[p] < 128
      · rw [if_pos w, if_pos w]
        exact ⟨_, rfl, fS, fun v p' h => by cases h; exact ⟨sL_s _ _ _ _, by rw [sI_uL, sI_s]⟩⟩
      · rw [if_neg w, if_neg w]
        obtain ⟨τ, t1, t2, t3⟩ := ih (k + 1) (p + 1) V (uL (uI σ 1094 3 (nI (p + 1))) 1094 4 (x ||| lshl9 (lN (S[p] % 128)) (nI (7 * k)))) _ (by omega) (by omega) (by omega) (hS.sm (fS.1 _ (by decide)) (fS.1 _ (by decide))) (by rw [sI_uL, sI_s]) (sL_s _ _ _ _)
        exact ⟨τ, t1, fN_trans fS t2, t3⟩
    · rw [if_neg q, if_neg q]
      exact ⟨σ, rfl, fN_refl σ, fun v p h => by cases h⟩
theorem X9_fix_L {U e w q : Nat} {S : List Nat} (he : e ≤ S.length) (hS8 : ok8 S) (hSl : S.length ≤ 700) (hq : q = 1 ∨ q = 5) (hw : 0 < w) (hw9 : w < 10) : ∀ (j k p U1 : Nat) (σ : SG) (x : Int64), j + k = w → j < U1 → p ≤ e → RB σ 1 S 0 → sI σ 1094 3 = nI p → sL σ 1094 4 = x →
    ON σ (fxN S e j k p x) (x_X9_readNumber_L51 U 1094 (nI q) (nI e) 8 (nI w) U1 (nI k) σ) := by
  have q0 : ¬ nI q = 0 := by rcases hq with z | z <;> subst z <;> decide
  intro j
  induction j with
  | zero =>
    intro k p U1 σ x hk hu hp hS h3 h4
    obtain ⟨V, rfl⟩ : ∃ V, U1 = V + 1 := ⟨U1 - 1, by omega⟩
    rw [x_X9_readNumber_L51, if_neg (fun z => by have := (ltI (by omega) (by omega)).mp z; omega)]
    exact ⟨σ, rfl, fN_refl σ, fun v p h => by cases h⟩
  | succ j ih =>
    intro k p U1 σ x hk hu hp hS h3 h4
    obtain ⟨V, rfl⟩ : ∃ V, U1 = V + 1 := ⟨U1 - 1, by omega⟩
    rw [x_X9_readNumber_L51, if_pos ((ltI (by omega) (by omega)).mpr (by omega)), h3, ifd (ltI (by omega) (by omega)), fxN]
    by_cases q : p < e
    · rw [if_pos q, if_pos q, X0_at hS (by omega), b1_eq, sb_eq, if_neg q0, nI_1]
      have hpl : p < S.length := by omega
      have hb := List.getElem?_eq_getElem hpl
      have h256 := hS8 _ (List.getElem_mem hpl)
      rw [hb]
      simp only
      rw [bA_some hb, nI_l (by omega), X9_rn_step, if_neg q0, sL_uI, h4, show (8 : Int32) = nI 8 from rfl, pk_mul, show (1 : Int32) = nI 1 from rfl, nI_sub (by omega), ifd (nI_eq (by omega) (by omega))]
      have fS : fN σ (uL (uI σ 1094 3 (nI (p + 1))) 1094 4 (x ||| lshl9 (lN S[p]) (nI (8 * k)))) := ⟨fun b hb => sm_trans (sm_uI hb) (sm_uL hb), by rw [sI_uL, sI_o (Or.inr (by decide))]⟩
      by_cases z : j = 0
      · rw [if_pos (show k = w - 1 by omega), if_pos z]
        exact ⟨_, rfl, fS, fun v p' h => by cases h; exact ⟨sL_s _ _ _ _, by rw [sI_uL, sI_s]⟩⟩
      · rw [if_neg (show ¬ k = w - 1 by omega), if_neg z]
        obtain ⟨τ, t1, t2, t3⟩ := ih (k + 1) (p + 1) V (uL (uI σ 1094 3 (nI (p + 1))) 1094 4 (x ||| lshl9 (lN S[p]) (nI (8 * k)))) _ (by omega) (by omega) (by omega) (hS.sm (fS.1 _ (by decide)) (fS.1 _ (by decide))) (by rw [sI_uL, sI_s]) (sL_s _ _ _ _)
        exact ⟨τ, t1, fN_trans fS t2, t3⟩
    · rw [if_neg q, if_neg q]
      exact ⟨σ, rfl, fN_refl σ, fun v p h => by cases h⟩
theorem X9_readNumber {U p e q : Nat} {S : List Nat} {σ : SG} (hU : 4000 < U) (he : e ≤ S.length) (hq : q < 8) (hp : p ≤ e) (hS : RB σ 1 S 0) (h3 : sI σ 1094 3 = nI p) : ON σ (rdN S q p e) (x_X9_readNumber U 1094 (nI q) (nI e) σ) := by
  have hS8 : ok8 S := hS.2.2.2.2
  have hSl : S.length ≤ 700 := hS.2.2.1
  have f0 : fN σ (uL σ 1094 4 0) := ⟨fun b hb => sm_uL hb, rfl⟩
  have S0 := hS.sm (f0.1 1 (by decide)) (f0.1 2 (by decide))
  have tr : ∀ o x, ON (uL σ 1094 4 0) o x → ON σ o x := fun o x h => by obtain ⟨τ, a, b, c⟩ := h; exact ⟨τ, a, fN_trans f0 b, c⟩
  unfold x_X9_readNumber x_X9_readNumber_11 x_X9_readNumber_41 rdN
  by_cases q0 : q = 0
  · subst q0
    rw [if_pos (show nI 0 = 0 from rfl), if_pos (show nI 0 = 0 from rfl), if_pos rfl, sb_eq]
    exact tr _ _ (X9_var_L he hS8 hSl 10 0 p U _ 0 (by omega) (by omega) hp S0 h3 (sL_s _ _ _ _))
  rw [if_neg (show ¬ nI q = 0 from fun z => q0 ((nI_eq (b := 0) (by omega) (by decide)).mp z)), if_neg (show ¬ nI q = 0 from fun z => q0 ((nI_eq (b := 0) (by omega) (by decide)).mp z)), if_neg q0]
  by_cases q1 : q = 1
  · subst q1
    rw [if_pos (show nI 1 = 1 from rfl), if_pos rfl, sb_eq]
    exact tr _ _ (X9_fix_L (w := 8) (q := 1) he hS8 hSl (Or.inl rfl) (by decide) (by decide) 8 0 p U _ 0 (by omega) (by omega) hp S0 h3 (sL_s _ _ _ _))
  rw [if_neg (show ¬ nI q = 1 from fun z => q1 ((nI_eq (b := 1) (by omega) (by decide)).mp z)), if_neg q1]
  by_cases q5 : q = 5
  · subst q5
    rw [if_pos (show nI 5 = 5 from rfl), if_pos rfl, sb_eq]
    exact tr _ _ (X9_fix_L (w := 4) (q := 5) he hS8 hSl (Or.inr rfl) (by decide) (by decide) 4 0 p U _ 0 (by omega) (by omega) hp S0 h3 (sL_s _ _ _ _))
  rw [if_neg (show ¬ nI q = 5 from fun z => q5 ((nI_eq (b := 5) (by omega) (by decide)).mp z)), if_neg q5]
  obtain ⟨V, rfl⟩ : ∃ V, U = V + 1 := ⟨U - 1, by omega⟩
  rw [sb_eq, x_X9_readNumber_L51, if_neg (by decide)]
  exact ⟨_, rfl, f0, fun v p h => by cases h⟩
/-- a type's kind on the wire -/
def kdO (t : Nat) : Nat := if t = 6 ∨ t = 8 then 5 else if t = 7 ∨ t = 9 then 1 else if t = 11 ∨ t = 12 ∨ t = 13 then 2 else 0
theorem X9_kindOf {t : Nat} (h : t ≤ 14) : x_X9_kindOf (nI t) = some (nI (kdO t)) := (by decide +kernel : ∀ t, t < 15 → x_X9_kindOf (nI t) = some (nI (kdO t))) t (by omega)
theorem N_kindOf {t : Nat} (h : t ≤ 14) : x_X12_kindOf (nI t) = some (nI (kdO t)) := (by decide +kernel : ∀ t, t < 15 → x_X12_kindOf (nI t) = some (nI (kdO t))) t (by omega)
theorem kdO_nmr {t : Nat} (h : t ≤ 14) : (kdO t = 2 ↔ nmr t = false) ∧ kdO t < 8 := (by decide +kernel : ∀ t, t < 15 → (kdO t = 2 ↔ nmr t = false) ∧ kdO t < 8) t (by omega)
/-! ===== UTF-8: the spec, the class, the reference ===== -/
def mor (b : Nat) : Nat := if 194 ≤ b ∧ b ≤ 223 then 1 else if 224 ≤ b ∧ b ≤ 239 then 2 else if 240 ≤ b ∧ b ≤ 244 then 3 else 0
def lw2 (b : Nat) : Nat := if b = 224 then 160 else if b = 240 then 144 else 128
def hg2 (b : Nat) : Nat := if b = 237 then 159 else if b = 244 then 143 else 191
def byt (S : List Nat) (p : Nat) : Nat := S.getD p 0
def cnB (c : Nat) : Bool := decide (c / 64 = 2)
/-- what stands at a place begins a character -/
def chr8 (S : List Nat) (q p : Nat) : Bool := decide (mor (byt S p) ≠ 0 ∧ p + mor (byt S p) < q ∧ lw2 (byt S p) ≤ byt S (p + 1) ∧ byt S (p + 1) ≤ hg2 (byt S p) ∧ (2 ≤ mor (byt S p) → cnB (byt S (p + 2)) = true) ∧ (3 ≤ mor (byt S p) → cnB (byt S (p + 3)) = true))
def u8S (S : List Nat) (q : Nat) : Nat → Nat → Bool
  | 0, _ => true
  | j + 1, p => if p < q then (if byt S p < 128 then u8S S q j (p + 1) else if chr8 S q p then u8S S q j (p + mor (byt S p) + 1) else false) else true
theorem bA_byt {S : List Nat} {p : Nat} (h : p < S.length) : bA S p = nI (byt S p) := by
  unfold byt
  rw [bA_some (List.getElem?_eq_getElem h), List.getD_eq_getElem?_getD, List.getElem?_eq_getElem h]
  try rfl
theorem byt_lt {S : List Nat} (h8 : ok8 S) {p : Nat} (h : p < S.length) : byt S p < 256 := by
  unfold byt
  rw [List.getD_eq_getElem?_getD, List.getElem?_eq_getElem h]
  exact h8 _ (List.getElem_mem h)
theorem and192 : ∀ c, c < 256 → (nI c &&& 192 = 128 ↔ cnB c = true) := by decide +kernel
theorem mor_le (b : Nat) : mor b ≤ 3 := by
  unfold mor
  split
  · decide
  · split
    · decide
    · split <;> decide
theorem X0_u8_in {U a p q m : Nat} {σ : SG} {S : List Nat} {z : Int32} {K : Option Int32} {v2 : Int32} (hS : RB σ a S z) (hm : m ≤ 3) (hq : p + m < q) (hqS : q ≤ S.length) (hl : S.length ≤ 4000) : ∀ (j k U1 : Nat), k + j = m + 1 → j < U1 → 2 ≤ k →
    ((∀ i, k ≤ i → i ≤ m → cnB (byt S (p + i)) = true) → x_X0_isUtf8_L201 U a K v2 (nI p) (nI m) σ U1 (nI k) = K) ∧ (¬ (∀ i, k ≤ i → i ≤ m → cnB (byt S (p + i)) = true) → x_X0_isUtf8_L201 U a K v2 (nI p) (nI m) σ U1 (nI k) = some 0) := by
  have h8 : ok8 S := hS.2.2.2.2
  intro j
  induction j with
  | zero =>
    intro k U1 hk hu h2
    obtain ⟨V, rfl⟩ : ∃ V, U1 = V + 1 := ⟨U1 - 1, by omega⟩
    rw [x_X0_isUtf8_L201, if_pos ((ltI (by omega) (by omega)).mpr (by omega))]
    exact ⟨fun _ => rfl, fun z => absurd (fun i h1 h3 => by omega) z⟩
  | succ j ih =>
    intro k U1 hk hu h2
    obtain ⟨V, rfl⟩ : ∃ V, U1 = V + 1 := ⟨U1 - 1, by omega⟩
    have hpk : p + k < S.length := by omega
    rw [x_X0_isUtf8_L201, if_neg (fun q => by have := (ltI (by omega) (by omega)).mp q; omega), nI_add, X0_at hS (by omega), b1_eq, bA_byt hpk, ifd (and192 _ (byt_lt h8 hpk)), nI_1]
    by_cases w : cnB (byt S (p + k)) = true
    · rw [if_pos w]
      obtain ⟨i1, i2⟩ := ih (k + 1) V (by omega) (by omega) (by omega)
      refine ⟨fun h => i1 (fun i h1 h3 => h i (by omega) h3), fun h => i2 (fun z => h (fun i h1 h3 => ?_))⟩
      by_cases y : i = k
      · rw [y]; exact w
      · exact z i (by omega) h3
    · rw [if_neg w]
      exact ⟨fun h => absurd (h k (Nat.le_refl _) (by omega)) w, fun _ => rfl⟩
theorem X0_u8_L {U a q : Nat} {σ : SG} {S : List Nat} {z : Int32} (hU : 4000 < U) (hS : RB σ a S z) (hq : q ≤ S.length) : ∀ (j p U1 : Nat), q ≤ p + j → j < U1 → p ≤ q + 4 → x_X0_isUtf8_L2 U a (nI q) σ U1 (nI p) = some (zI (u8S S q j p)) := by
  have h8 : ok8 S := hS.2.2.2.2
  have hl : S.length ≤ 4000 := Nat.le_trans hS.2.2.1 (ln_small _)
  intro j
  induction j with
  | zero =>
    intro p U1 hp hu hpq
    obtain ⟨V, rfl⟩ : ∃ V, U1 = V + 1 := ⟨U1 - 1, by omega⟩
    rw [x_X0_isUtf8_L2, if_neg (fun q => by have := (ltI (by omega) (by omega)).mp q; omega)]
    try rfl
  | succ j ih =>
    intro p U1 hp hu hpq
    obtain ⟨V, rfl⟩ : ∃ V, U1 = V + 1 := ⟨U1 - 1, by omega⟩
    rw [x_X0_isUtf8_L2, ifd (ltI (by omega) (by omega)), u8S]
    by_cases hlt : p < q
    · have hpS : p < S.length := by omega
      have hb := byt_lt h8 hpS
      rw [if_pos hlt, if_pos hlt, X0_at hS (by omega), b1_eq, bA_byt hpS, if_neg (nI_neg (by omega)), show (128 : Int32) = nI 128 from rfl, ifd (ltI (by omega) (by decide))]
      by_cases w : byt S p < 128
      · rw [if_pos w, if_pos w]
        unfold x_X0_isUtf8_239
        rw [nI_1]
        exact ih (p + 1) V (by omega) (by omega) (by omega)
      · rw [if_neg w, if_neg w]
        -- the three ends
        have fin : ∀ m lo hi, m = mor (byt S p) → lo = lw2 (byt S p) → hi = hg2 (byt S p) → lo < 256 → hi < 256 → x_X0_isUtf8_157 U a (x_X0_isUtf8_L2 U a (nI q) σ V) (nI q) (nI p) (nI m) (nI lo) (nI hi) σ = some (zI (if chr8 S q p then u8S S q j (p + mor (byt S p) + 1) else false)) := by
          intro m lo hi hm hlo hhi l1 l2
          have hm3 := mor_le (byt S p)
          unfold x_X0_isUtf8_157 x_X0_isUtf8_239
          by_cases m0 : m = 0
          · rw [if_pos (show nI m = 0 by rw [m0]; rfl), if_neg (show ¬ chr8 S q p = true from fun z => (of_decide_eq_true z).1 (by omega))]
            try rfl
          rw [if_neg (show ¬ nI m = 0 from fun z => m0 ((nI_eq (b := 0) (by omega) (by decide)).mp z)), nI_add, ifd (ltI (by omega) (by omega))]
          by_cases m1 : p + m < q
          · have hp1 : p + 1 < S.length := by omega
            have hb1 := byt_lt h8 hp1
            rw [if_pos m1, nI_1, X0_at hS (by omega), b1_eq, b1_eq, bA_byt hp1, ifd (ltI (by omega) (by omega)), ifd (ltI (by omega) (by omega))]
            by_cases c1 : byt S (p + 1) < lo
            · rw [if_pos c1, if_neg (show ¬ chr8 S q p = true from fun z => by have := (of_decide_eq_true z).2.2.1; omega)]; try rfl
            rw [if_neg c1]
            by_cases c2 : hi < byt S (p + 1)
            · rw [if_pos c2, if_neg (show ¬ chr8 S q p = true from fun z => by have := (of_decide_eq_true z).2.2.2.1; omega)]; try rfl
            rw [if_neg c2]
            have hin := X0_u8_in (U := U) (K := x_X0_isUtf8_L2 U a (nI q) σ V (nI (p + m + 1))) (v2 := nI q) hS (show m ≤ 3 by omega) m1 hq hl
            have eq : (∀ i, 2 ≤ i → i ≤ m → cnB (byt S (p + i)) = true) ↔ chr8 S q p = true := by
              unfold chr8
              rw [decide_eq_true_iff]
              constructor
              · intro h
                exact ⟨by omega, by omega, by omega, by omega, fun z => h 2 (by omega) (by omega), fun z => h 3 (by omega) (by omega)⟩
              · rintro ⟨_, _, _, _, k2, k3⟩ i h1 h2
                have : i = 2 ∨ i = 3 := by omega
                rcases this with z | z <;> subst z
                · exact k2 (by omega)
                · exact k3 (by omega)
            have base : ((∀ i, 2 ≤ i → i ≤ m → cnB (byt S (p + i)) = true) → x_X0_isUtf8_L201 U a (x_X0_isUtf8_L2 U a (nI q) σ V (nI (p + m + 1))) (nI q) (nI p) (nI m) σ U 2 = x_X0_isUtf8_L2 U a (nI q) σ V (nI (p + m + 1))) ∧ (¬ (∀ i, 2 ≤ i → i ≤ m → cnB (byt S (p + i)) = true) → x_X0_isUtf8_L201 U a (x_X0_isUtf8_L2 U a (nI q) σ V (nI (p + m + 1))) (nI q) (nI p) (nI m) σ U 2 = some 0) := by
              by_cases m2 : 2 ≤ m
              · exact hin (m - 1) 2 U (by omega) (by omega) (Nat.le_refl _)
              · obtain ⟨V2, hV2⟩ : ∃ V2, U = V2 + 1 := ⟨U - 1, by omega⟩
                rw [hV2, x_X0_isUtf8_L201, if_pos (show nI m < 2 from (ltI (b := 2) (by omega) (by decide)).mpr (by omega))]
                exact ⟨fun _ => rfl, fun z => absurd (fun i h1 h2 => by omega) z⟩
            rw [nI_1]
            by_cases y : chr8 S q p = true
            · rw [base.1 (eq.mpr y), ih (p + m + 1) V (by omega) (by omega) (by omega), if_pos y, hm]
            · rw [base.2 (fun z => y (eq.mp z)), if_neg y]; try rfl
          · rw [if_neg m1, if_neg (show ¬ chr8 S q p = true from fun z => by have := (of_decide_eq_true z).2.1; omega)]; try rfl
        have f91 : ∀ m, m = mor (byt S p) → x_X0_isUtf8_91 U a (x_X0_isUtf8_L2 U a (nI q) σ V) (nI q) (nI p) (nI (byt S p)) (nI m) σ = some (zI (if chr8 S q p then u8S S q j (p + mor (byt S p) + 1) else false)) := by
          intro m hm
          unfold x_X0_isUtf8_91 x_X0_isUtf8_124
          have e1 : ∀ k, k < 256 → (nI (byt S p) = nI k ↔ byt S p = k) := fun k hk => nI_eq (by omega) (by omega)
          have a1 := e1 224 (by decide)
          have a2 := e1 240 (by decide)
          have a3 := e1 237 (by decide)
          have a4 := e1 244 (by decide)
          unfold lw2 hg2 at fin
          by_cases b1 : byt S p = 224
          · rw [if_pos (show nI (byt S p) = 224 from a1.mpr b1), if_neg (show ¬ nI (byt S p) = 237 from fun z => by have := a3.mp z; omega), if_neg (show ¬ nI (byt S p) = 244 from fun z => by have := a4.mp z; omega)]
            exact fin m 160 191 hm (by rw [if_pos b1]) (by rw [if_neg (by omega), if_neg (by omega)]) (by decide) (by decide)
          rw [if_neg (show ¬ nI (byt S p) = 224 from fun z => b1 (a1.mp z))]
          by_cases b2 : byt S p = 240
          · rw [if_pos (show nI (byt S p) = 240 from a2.mpr b2), if_neg (show ¬ nI (byt S p) = 237 from fun z => by have := a3.mp z; omega), if_neg (show ¬ nI (byt S p) = 244 from fun z => by have := a4.mp z; omega)]
            exact fin m 144 191 hm (by rw [if_neg b1, if_pos b2]) (by rw [if_neg (by omega), if_neg (by omega)]) (by decide) (by decide)
          rw [if_neg (show ¬ nI (byt S p) = 240 from fun z => b2 (a2.mp z))]
          by_cases b3 : byt S p = 237
          · rw [if_pos (show nI (byt S p) = 237 from a3.mpr b3)]
            exact fin m 128 159 hm (by rw [if_neg b1, if_neg b2]) (by rw [if_pos b3]) (by decide) (by decide)
          rw [if_neg (show ¬ nI (byt S p) = 237 from fun z => b3 (a3.mp z))]
          by_cases b4 : byt S p = 244
          · rw [if_pos (show nI (byt S p) = 244 from a4.mpr b4)]
            exact fin m 128 143 hm (by rw [if_neg b1, if_neg b2]) (by rw [if_neg b3, if_pos b4]) (by decide) (by decide)
          · rw [if_neg (show ¬ nI (byt S p) = 244 from fun z => b4 (a4.mp z))]
            exact fin m 128 191 hm (by rw [if_neg b1, if_neg b2]) (by rw [if_neg b3, if_neg b4]) (by decide) (by decide)
        unfold x_X0_isUtf8_30 x_X0_isUtf8_50 x_X0_isUtf8_70 x_X0_isUtf8_90
        have l1 : ∀ k, k < 256 → (nI (byt S p) < nI k ↔ byt S p < k) := fun k hk => ltI (by omega) (by omega)
        have l2 : ∀ k, k < 256 → (nI k < nI (byt S p) ↔ k < byt S p) := fun k hk => ltI (by omega) (by omega)
        have c1 : nI (byt S p) < 194 ↔ byt S p < 194 := l1 194 (by decide)
        have c2 : (223 : Int32) < nI (byt S p) ↔ 223 < byt S p := l2 223 (by decide)
        have c3 : nI (byt S p) < 224 ↔ byt S p < 224 := l1 224 (by decide)
        have c4 : (239 : Int32) < nI (byt S p) ↔ 239 < byt S p := l2 239 (by decide)
        have c5 : nI (byt S p) < 240 ↔ byt S p < 240 := l1 240 (by decide)
        have c6 : (244 : Int32) < nI (byt S p) ↔ 244 < byt S p := l2 244 (by decide)
        by_cases d1 : byt S p < 194
        · rw [if_pos (c1.mpr d1), if_pos (c3.mpr (by omega)), if_pos (c5.mpr (by omega))]
          exact f91 0 (by unfold mor; rw [if_neg (by omega), if_neg (by omega), if_neg (by omega)])
        rw [if_neg (fun z => d1 (c1.mp z))]
        by_cases d2 : 223 < byt S p
        · rw [if_pos (c2.mpr d2), if_neg (fun z => by have := c3.mp z; omega)]
          by_cases d3 : 239 < byt S p
          · rw [if_pos (c4.mpr d3), if_neg (fun z => by have := c5.mp z; omega)]
            by_cases d4 : 244 < byt S p
            · rw [if_pos (c6.mpr d4)]; exact f91 0 (by unfold mor; rw [if_neg (by omega), if_neg (by omega), if_neg (by omega)])
            · rw [if_neg (fun z => d4 (c6.mp z))]; exact f91 3 (by unfold mor; rw [if_neg (by omega), if_neg (by omega), if_pos (by omega)])
          · rw [if_neg (fun z => d3 (c4.mp z))]; exact f91 2 (by unfold mor; rw [if_neg (by omega), if_pos (by omega)])
        · rw [if_neg (fun z => d2 (c2.mp z))]; exact f91 1 (by unfold mor; rw [if_pos (by omega)])
    · rw [if_neg hlt, if_neg hlt]; try rfl
/-- a text is UTF-8 -/
def u8T (S : List Nat) (p q : Nat) : Bool := u8S S q (q - p) p
theorem X0_isUtf8 {U a p q : Nat} {σ : SG} {S : List Nat} {z : Int32} (hU : 4000 < U) (hS : RB σ a S z) (hpq : p ≤ q) (hq : q ≤ S.length) : x_X0_isUtf8 U a (nI p) (nI q) σ = some (zI (u8T S p q)) := by
  have hl : S.length ≤ 4000 := Nat.le_trans hS.2.2.1 (ln_small _)
  unfold x_X0_isUtf8 u8T
  exact X0_u8_L hU hS hq (q - p) p U (by omega) (by omega) (by omega)
/-! ===== shifts and masks of longs ===== -/
theorem shk : ∀ k, k < 64 → ((nI k).toInt64.toUInt64 &&& Int64.toUInt64 63) = UInt64.ofNat k := by decide +kernel
theorem lN_bv (w : Nat) : (lN w).toBitVec = BitVec.ofNat 64 w := rfl
theorem lush_bv (x : Int64) {k : Nat} (hk : k < 64) : (lush x (nI k)).toBitVec = x.toBitVec >>> k := by
  unfold lush
  rw [shk k hk]
  show (x.toUInt64 >>> UInt64.ofNat k).toBitVec = _
  rw [UInt64.toBitVec_shiftRight]
  apply BitVec.eq_of_toNat_eq
  rw [BitVec.toNat_ushiftRight]
  show (x.toBitVec >>> ((UInt64.ofNat k).toBitVec.umod 64)).toNat = _
  rw [BitVec.ushiftRight_eq', BitVec.toNat_ushiftRight]
  congr 1
  show (BitVec.ofNat 64 k % (64 : BitVec 64)).toNat = k
  rw [BitVec.toNat_umod]
  rw [BitVec.toNat_ofNat]
  have h1 : k % 2 ^ 64 = k := Nat.mod_eq_of_lt (by omega)
  rw [h1]
  exact Nat.mod_eq_of_lt hk
theorem lush_N {w k : Nat} (hw : w < 2 ^ 63) (hk : k < 64) : lush (lN w) (nI k) = lN (w / 2 ^ k) := by
  apply Int64.toBitVec_inj.mp
  rw [lush_bv _ hk, lN_bv, lN_bv]
  apply BitVec.eq_of_toNat_eq
  have h1 : w / 2 ^ k ≤ w := Nat.div_le_self _ _
  rw [BitVec.toNat_ushiftRight, BitVec.toNat_ofNat, BitVec.toNat_ofNat, Nat.mod_eq_of_lt (by omega), Nat.mod_eq_of_lt (by omega), Nat.shiftRight_eq_div_pow]
theorem land_N {w k : Nat} (hw : w < 2 ^ 63) (hk : k < 63) : lN w &&& lN (2 ^ k - 1) = lN (w % 2 ^ k) := by
  apply Int64.toBitVec_inj.mp
  show (lN w).toBitVec &&& (lN (2 ^ k - 1)).toBitVec = _
  rw [lN_bv, lN_bv, lN_bv]
  apply BitVec.eq_of_toNat_eq
  have h1 : w % 2 ^ k ≤ w := Nat.mod_le _ _
  have h2 : 2 ^ k ≤ 2 ^ 62 := Nat.pow_le_pow_right (by decide) (by omega)
  rw [BitVec.toNat_and, BitVec.toNat_ofNat, BitVec.toNat_ofNat, BitVec.toNat_ofNat, Nat.mod_eq_of_lt (a := w) (by omega), Nat.mod_eq_of_lt (a := 2 ^ k - 1) (by omega), Nat.mod_eq_of_lt (a := w % 2 ^ k) (by omega), Nat.and_two_pow_sub_one_eq_mod]
/-- the tag of a field: its number and kind -/
noncomputable def tgS (S : List Nat) (p e : Nat) : Option (Nat × Nat) := match rdN S 0 p e with
  | none => none
  | some (x, p1) => if x < 8 ∨ 4294967295 < x then none else some (x.toInt.toNat, p1)
theorem tag_of {x : Int64} (h : ¬ (x < 8 ∨ 4294967295 < x)) : ∃ w, x = lN w ∧ 8 ≤ w ∧ w < 2 ^ 32 ∧ x.toInt.toNat = w := by
  have h0 : ¬ x < 0 := fun z => h (Or.inl (Int64.lt_trans z (by decide)))
  obtain ⟨w, hw, rfl⟩ := pk_lOf h0
  have h1 : ¬ w < 8 := fun z => h (Or.inl ((pk_lLT (b := 8) hw (by decide)).mpr z))
  have h2 : ¬ 4294967295 < w := fun z => h (Or.inr ((pk_lLT (a := 4294967295) (by decide) hw).mpr z))
  exact ⟨w, rfl, by omega, by omega, by rw [pk_lT hw]; rfl⟩
/-- which numbers are no tags, as the class asks -/
theorem tag_C {α : Type} {x : Int64} {F K : α} : (if lush x 32 = 0 then (if x < 8 then F else K) else F) = if x < 8 ∨ 4294967295 < x then F else K := by
  by_cases h0 : x < 0
  · have h8 : x < 8 := Int64.lt_trans h0 (by decide)
    rw [if_pos (Or.inl h8), if_pos h8]
    split <;> rfl
  · obtain ⟨w, hw, rfl⟩ := pk_lOf h0
    have e : lush (lN w) 32 = lN (w / 2 ^ 32) := lush_N hw (by decide)
    have e0 : lush (lN w) 32 = 0 ↔ w < 2 ^ 32 := by
      rw [e]
      have : lN (w / 2 ^ 32) = lN 0 ↔ w / 2 ^ 32 = 0 := pk_lEQ (by have := Nat.div_le_self w (2 ^ 32); omega) (by decide)
      exact this.trans (by omega)
    have c1 : lN w < 8 ↔ w < 8 := pk_lLT (b := 8) hw (by decide)
    have c2 : (4294967295 : Int64) < lN w ↔ 4294967295 < w := pk_lLT (a := 4294967295) (by decide) hw
    rw [ifd e0, ifd c1, ifd (show (lN w < 8 ∨ (4294967295 : Int64) < lN w) ↔ (w < 8 ∨ 4294967295 < w) from or_congr c1 c2)]
    by_cases q1 : w < 2 ^ 32
    · rw [if_pos q1]
      by_cases q2 : w < 8
      · rw [if_pos q2, if_pos (Or.inl q2)]
      · rw [if_neg q2, if_neg (by omega)]
    · rw [if_neg q1, if_pos (by omega)]
/-! ===== decoding: the spec, and the class ===== -/
def fOf (D : List Dc) (m w : Nat) : Option Nat := (chF D m).find? (fun i => decide (nmn D i = w))
theorem fOf_isF {T : List Nat} {D : List Dc} (hg : GSc T D) {m w f : Nat} (hm : isM D m) (h : fOf D m w = some f) : ∃ d, isF D m f d := (chF_mem hg hm).mp (List.mem_of_find?_eq_some h)
/-- how long a text or a message is, and where it begins -/
noncomputable def lnS (S : List Nat) (p e : Nat) : Option (Nat × Nat) := match rdN S 0 p e with
  | none => none
  | some (x, p2) => if x < 0 ∨ lN (e - p2) < x then none else some (x.toInt.toNat, p2)
theorem lnS_le {S : List Nat} {p e l p2 : Nat} (h : lnS S p e = some (l, p2)) (he : e ≤ 700) : p < p2 ∧ p2 + l ≤ e := by
  unfold lnS at h
  cases hr : rdN S 0 p e with
  | none => rw [hr] at h; cases h
  | some y =>
    obtain ⟨x, q⟩ := y
    rw [hr] at h
    simp only at h
    have hlt := rdN_lt hr
    by_cases z : x < 0 ∨ lN (e - q) < x
    · rw [if_pos z] at h; cases h
    · rw [if_neg z] at h
      cases h
      have h0 : ¬ x < 0 := fun y => z (Or.inl y)
      obtain ⟨w, hw, rfl⟩ := pk_lOf h0
      have h1 : ¬ e - p2 < w := fun y => z (Or.inr ((pk_lLT (by omega) hw).mpr y))
      rw [pk_lT hw]
      show p < p2 ∧ p2 + w ≤ e
      omega
/-- a packed row -/
noncomputable def dRow (T : List Nat) (D : List Dc) (S : List Nat) (n f : Nat) (d : Dc) (e : Nat) : Nat → AV → Nat → Option AV
  | 0, _, _ => none
  | j + 1, A, p => if p < e then (match rdN S (kdO (fty T D d)) p e with
    | none => none
    | some (x, p') => dRow T D S n f d e j (aPut T D A n f d (mng (fty T D d) x) []) p') else some A
/-- one field of a message on the wire -/
noncomputable def dSt (T : List Nat) (D : List Dc) (S : List Nat) (rc : AV → Nat → Nat → Nat → Nat → Option AV) (n m e p w p1 : Nat) (A : AV) : Option (AV × Nat) :=
  if w % 8 = 2 then (match lnS S p1 e with
    | none => none
    | some (l, p2) => match fOf D m (w / 8) with
      | none => some (aUnk A n (slc S p (p2 + l)), p2 + l)
      | some f => match D[f]? with
        | none => none
        | some d => if dR d && nmr (fty T D d) then (match dRow T D S n f d (p2 + l) 701 A p2 with | none => none | some A' => some (A', p2 + l))
          else if nmr (fty T D d) then some (aUnk A n (slc S p (p2 + l)), p2 + l)
          else if fty T D d = 11 ∧ u8T S p2 (p2 + l) = false then none
          else if fty T D d = 13 then (match ftg T D d with
            | none => none
            | some t => match rc (aMsg D A n f d t).1 (aMsg D A n f d t).2 t (p2 + l) p2 with | none => none | some A' => some (A', p2 + l))
          else some (aPut T D A n f d 0 (slc S p2 (p2 + l)), p2 + l))
  else (match rdN S (w % 8) p1 e with
    | none => none
    | some (x, p2) => match fOf D m (w / 8) with
      | none => some (aUnk A n (slc S p p2), p2)
      | some f => match D[f]? with
        | none => none
        | some d => if kdO (fty T D d) = w % 8 then some (aPut T D A n f d (mng (fty T D d) x) [], p2) else some (aUnk A n (slc S p p2), p2))
noncomputable def dLp (T : List Nat) (D : List Dc) (S : List Nat) (rc : AV → Nat → Nat → Nat → Nat → Option AV) (n m e : Nat) : Nat → AV → Nat → Option AV
  | 0, _, _ => none
  | j + 1, A, p => if p < e then (match tgS S p e with
    | none => none
    | some (w, p1) => match dSt T D S rc n m e p w p1 A with
      | none => none
      | some (A', p') => dLp T D S rc n m e j A' p') else some A
/-- a message on the wire: limit, how deep; the value, which opened one, its message, end, place -/
noncomputable def dMs (T : List Nat) (D : List Dc) (S : List Nat) (lm : Nat) : Nat → Nat → AV → Nat → Nat → Nat → Nat → Option AV
  | 0, _, _, _, _, _, _ => none
  | j + 1, dp, A, n, m, e, p => if lm < dp then none else dLp T D S (dMs T D S lm j (dp + 1)) n m e 701 A p
/-- the class while it decodes -/
def DC (σ : SG) (c : Nat) (T : List Nat) (D : List Dc) (S : List Nat) (G : Gh) (A : AV) (p : Nat) : Prop := CS σ c T D ∧ VG σ c T D G ∧ VE T D G A ∧ RB σ 1 S 0 ∧ sI σ 1094 3 = nI p ∧ gU G ≤ p ∧ (gP G).length ≤ p ∧ p ≤ S.length
def gX (G G' : Gh) : Prop := gC G ≤ gC G' ∧ ∀ m, m < gC G → gN G' m = gN G m ∧ gH G' m = gH G m
theorem gX_refl (G : Gh) : gX G G := ⟨Nat.le_refl _, fun _ _ => ⟨rfl, rfl⟩⟩
theorem gX_trans {G G' G2 : Gh} (h : gX G G') (h' : gX G' G2) : gX G G2 := ⟨Nat.le_trans h.1 h'.1, fun m hm => ⟨(h'.2 m (by have := h.1; omega)).1.trans (h.2 m hm).1, (h'.2 m (by have := h.1; omega)).2.trans (h.2 m hm).2⟩⟩
/-- an outcome of the class's decoding -/
def OD (c : Nat) (T : List Nat) (D : List Dc) (S : List Nat) (G : Gh) (σ : SG) (o : Option (AV × Nat)) (x : Option (Int32 × SG)) : Prop := ∃ τ, x = some (zI o.isSome, τ) ∧ fX σ τ ∧ ∀ A p, o = some (A, p) → ∃ G', DC τ c T D S G' A p ∧ gX G G'
theorem OD_no {c : Nat} {T : List Nat} {D : List Dc} {S : List Nat} {G : Gh} {σ τ : SG} (h : fX σ τ) : OD c T D S G σ none (some (0, τ)) := ⟨τ, rfl, h, fun A p z => by cases z⟩
theorem OD_from {c : Nat} {T : List Nat} {D : List Dc} {S : List Nat} {G G1 : Gh} {σ τ : SG} {o : Option (AV × Nat)} {x : Option (Int32 × SG)} (hf : fX σ τ) (hg : gX G G1) (h : OD c T D S G1 τ o x) : OD c T D S G σ o x := by
  obtain ⟨υ, a, b, d⟩ := h
  refine ⟨υ, a, fX_trans hf b, fun A p z => ?_⟩
  obtain ⟨G', w1, w2⟩ := d A p z
  exact ⟨G', w1, gX_trans hg w2⟩
theorem zb_zI {b : Bool} {x : Option (Int32 × SG)} : zb (zI b) x = x := by cases b <;> rfl
/-- a number was read -/
theorem DC_N {σ τ : SG} {c : Nat} {T : List Nat} {D : List Dc} {S : List Nat} {G : Gh} {A : AV} {p p' : Nat} (h : DC σ c T D S G A p) (hcb : cb c) (hf : fN σ τ) (h3 : sI τ 1094 3 = nI p') (hp : p ≤ p') (hp' : p' ≤ S.length) : DC τ c T D S G A p' := by
  obtain ⟨a1, a2, a3, a4, a5, a6, a7, a8⟩ := h
  exact ⟨CS_fX a1 hcb (fX_N hf), VG_sm a2 (fun b hb => hf.1 b (by omega)), a3, a4.sm (hf.1 _ (by decide)) (hf.1 _ (by decide)), h3, by omega, by omega, hp'⟩
theorem C_row {U c n f e : Nat} {T : List Nat} {D : List Dc} {S : List Nat} {d : Dc} (hU : 4000 < U) (hcb : cb c) (hg : GSc T D) (he : e ≤ S.length) (h13 : fty T D d ≠ 13) (hnm : nmr (fty T D d) = true) : ∀ (j k p U1 : Nat) (σ : SG) (G : Gh) (A : AV), e < j + p → k ≤ p → j < U1 → p ≤ e → DC σ c T D S G A p → n < gC G → isF D (gN G n) f d →
    OD c T D S G σ ((dRow T D S n f d e j A p).map (fun A => (A, e))) (x_X9_takeRow_L3 U 1094 (fun σ16 => x_X9_takeRow_51 U 1094 (nI e) σ16) (some (gH G n)) (ad c (some f)) (nI e) U1 (nI k) σ) := by
  intro j
  induction j with
  | zero =>
    intro k p U1 σ G A hj hk hu hp hD hn hF
    have : S.length ≤ 700 := hD.2.2.2.1.2.2.1
    omega
  | succ j ih =>
    intro k p U1 σ G A hj hk hu hp hD hn hF
    have hSl : S.length ≤ 700 := hD.2.2.2.1.2.2.1
    have hl := hg.2.1
    have hfl := (List.getElem?_eq_some_iff.mp hF.1).1
    have hft : fty T D d ≤ 14 := dTy_lt (hg.fld hF.1 hF.2.1).2.2.2.1
    obtain ⟨V, rfl⟩ : ∃ V, U1 = V + 1 := ⟨U1 - 1, by omega⟩
    have hD' := hD
    obtain ⟨a1, a2, a3, a4, a5, a6, a7, a8⟩ := hD'
    rw [x_X9_takeRow_L3, a5, ifd (ltI (by omega) (by omega)), dRow]
    have fin : ¬ p < e → OD c T D S G σ (some (A, e)) (x_X9_takeRow_51 U 1094 (nI e) σ) := by
      intro z
      have : p = e := by omega
      subst this
      unfold x_X9_takeRow_51
      rw [a5, if_pos rfl]
      exact ⟨σ, rfl, fX_refl σ, fun A' p' h => by cases h; exact ⟨G, hD, gX_refl G⟩⟩
    by_cases q : p < e
    · rw [if_pos q, if_pos q, show (700 : Int32) = nI 700 from rfl, if_pos ((ltI (by omega) (by decide)).mpr (by omega)), ad_some, ck_eq (it_sh hcb (by omega)), (show sI σ (c + 5 + f) 8 = nI (fty T D d) from (a1.it hF.1).2.1), X9_kindOf hft, b1_eq]
      obtain ⟨τ, t1, t2, t3⟩ := X9_readNumber (U := U) (q := kdO (fty T D d)) hU he (kdO_nmr hft).2 hp a4 a5
      rw [t1, b2_eq, ifz]
      cases hr : rdN S (kdO (fty T D d)) p e with
      | none =>
        simp only [Option.isSome_none, Bool.false_eq_true, if_false]
        exact OD_no (fX_N t2)
      | some y =>
        obtain ⟨x, p'⟩ := y
        obtain ⟨v1, v2⟩ := t3 x p' hr
        have hlt := rdN_lt hr
        simp only [Option.isSome_some, if_true]
        have D1 := DC_N hD hcb t2 v2 (by omega) (by omega)
        obtain ⟨b1', b2', b3, b4, b5, b6, b7, b8⟩ := D1
        obtain ⟨υ, G', u1, u2, u3, u4, u5, u6, u7, u8, u9, u10, u11⟩ := C_num hU hcb hg b1' b2' b3 hn (by omega) hF h13 hnm
        have u1' : x_X9_putNumber U 1094 (some (gH G n)) (some (c + 5 + f)) τ = some (1, υ) := u1
        rw [u1', b2_eq, if_neg (by decide), nI_1]
        rw [v1] at u3
        have D2 : DC υ c T D S G' (aPut T D A n f d (mng (fty T D d) x) []) p' := ⟨u4, u2, u3, b4.sm (u5.1 _ (by decide)) (u5.1 _ (by decide)), u6.trans v2, by omega, by rw [u11]; omega, by omega⟩
        have gx : gX G G' := ⟨by omega, fun m hm => ⟨by rw [u9], by rw [u10]⟩⟩
        have key := ih (k + 1) p' V υ G' _ (by omega) (by omega) (by omega) (by omega) D2 (by rw [u8]; exact hn) (by rw [u9]; exact hF)
        rw [u10] at key
        exact OD_from (fX_trans (fX_N t2) u5) gx key
    · rw [if_neg q, if_neg q]
      have := fin q
      split
      · exact this
      · exact this
/-- the length, as the class reads it -/
theorem C_len {U c e p : Nat} {σ : SG} {T : List Nat} {D : List Dc} {S : List Nat} {G : Gh} {A : AV} {K : SG → Option (Int32 × SG)} (hU : 4000 < U) (hcb : cb c) (he : e ≤ S.length) (hp : p ≤ e) (hD : DC σ c T D S G A p) : ∃ τ, fN σ τ ∧ (lnS S p e = none → (b2 (x_X9_readNumber U 1094 0 (nI e) σ) fun v2 σ3 => if v2 = 0 then (some (0, σ3)) else (if sL σ3 1094 4 < 0 then (some (0, σ3)) else (if Int32.toInt64 (nI e - (sI σ3 1094 3)) < sL σ3 1094 4 then (some (0, σ3)) else K σ3))) = some (0, τ)) ∧ ∀ l p2, lnS S p e = some (l, p2) → (b2 (x_X9_readNumber U 1094 0 (nI e) σ) fun v2 σ3 => if v2 = 0 then (some (0, σ3)) else (if sL σ3 1094 4 < 0 then (some (0, σ3)) else (if Int32.toInt64 (nI e - (sI σ3 1094 3)) < sL σ3 1094 4 then (some (0, σ3)) else K σ3))) = K τ ∧ DC τ c T D S G A p2 ∧ (sI τ 1094 3) + (Int64.toInt32 (sL τ 1094 4)) = nI (p2 + l) := by
  have hSl : S.length ≤ 700 := hD.2.2.2.1.2.2.1
  obtain ⟨τ, t1, t2, t3⟩ := X9_readNumber (U := U) (q := 0) hU he (by decide) hp hD.2.2.2.1 hD.2.2.2.2.1
  have t1' : x_X9_readNumber U 1094 0 (nI e) σ = some (zI (rdN S 0 p e).isSome, τ) := t1
  rw [t1', b2_eq, ifz]
  unfold lnS
  refine ⟨τ, t2, ?_⟩
  cases hr : rdN S 0 p e with
  | none =>
    rw [Option.isSome_none, if_neg (show ¬ false = true by decide)]
    exact ⟨fun _ => rfl, fun l p2 h => by cases h⟩
  | some y =>
    obtain ⟨x, q⟩ := y
    obtain ⟨v1, v2⟩ := t3 x q hr
    have hlt := rdN_lt hr
    rw [Option.isSome_some, if_pos (show true = true from rfl)]
    simp only
    rw [v1, v2, nI_sub (by omega), nI_l (by omega)]
    by_cases z0 : x < 0
    · rw [if_pos z0, if_pos (Or.inl z0)]
      exact ⟨fun _ => rfl, fun l p2 h => by cases h⟩
    · rw [if_neg z0]
      by_cases z1 : lN (e - q) < x
      · rw [if_pos z1, if_pos (Or.inr z1)]
        exact ⟨fun _ => rfl, fun l p2 h => by cases h⟩
      · rw [if_neg z1, if_neg (show ¬ (x < 0 ∨ lN (e - q) < x) from fun z => z.elim z0 z1)]
        refine ⟨fun h => (by cases h), fun l p2 h => ?_⟩
        cases h
        refine ⟨rfl, DC_N hD hcb t2 v2 (by omega) (by omega), ?_⟩
        obtain ⟨w, hw, rfl⟩ := pk_lOf z0
        rw [pk_lT hw, lN_i, nI_add]
        try rfl
theorem C_tlen {U c n m e p w p1 dp : Nat} {σ : SG} {T : List Nat} {D : List Dc} {S : List Nat} {G : Gh} {A : AV} {rcC : Option Nat → Option Nat → Int32 → Int32 → SG → Option (Int32 × SG)} {rc : AV → Nat → Nat → Nat → Nat → Option AV} (hU : 4000 < U) (hcb : cb c) (hg : GSc T D) (he : e ≤ S.length) (hp : p < p1) (hp1 : p1 ≤ e) (hD : DC σ c T D S G A p1) (hpu : gU G ≤ p) (hpP : (gP G).length ≤ p) (hn : n < gC G) (hm : gN G n = m) (hw : w % 8 = 2)
    (hrc : ∀ (τ : SG) (G' : Gh) (A' : AV) (n' t e' q : Nat), fX σ τ → e' ≤ S.length → q ≤ e' → DC τ c T D S G' A' q → n' < gC G' → gN G' n' = t → OD c T D S G' τ ((rc A' n' t e' q).map (fun A => (A, e'))) (rcC (some (gH G' n')) (ad c (some t)) (nI e') (nI (dp + 1)) τ)) :
    OD c T D S G σ (dSt T D S rc n m e p w p1 A) (x_X9_takeLength U rcC 1094 (some (gH G n)) (ad c (fOf D m (w / 8))) (nI p) (nI e) (nI dp) σ) := by
  have hSl : S.length ≤ 700 := hD.2.2.2.1.2.2.1
  have hl := hg.2.1
  have hmM : isM D m := by rw [← hm]; exact hD.2.1.2.2.2.2.2.2.2.1 n hn
  unfold x_X9_takeLength dSt
  rw [if_pos hw]
  obtain ⟨τ, t1, t2, t3⟩ := C_len (U := U) (K := fun σ3 => if ad c (fOf D m (w / 8)) = none then (x_X9_takeLength_74 U rcC 1094 (some (gH G n)) (ad c (fOf D m (w / 8))) (nI p) (nI dp) ((sI σ3 1094 3) + (Int64.toInt32 (sL σ3 1094 4))) σ3) else (ck 3 (ad c (fOf D m (w / 8))) fun q45 => if sI σ3 q45 11 = 0 then (x_X9_takeLength_74 U rcC 1094 (some (gH G n)) (ad c (fOf D m (w / 8))) (nI p) (nI dp) ((sI σ3 1094 3) + (Int64.toInt32 (sL σ3 1094 4))) σ3) else (b1 (x_X11_isNumeric (sI σ3 q45 8)) fun v50 => if v50 = 0 then (x_X9_takeLength_74 U rcC 1094 (some (gH G n)) (ad c (fOf D m (w / 8))) (nI p) (nI dp) ((sI σ3 1094 3) + (Int64.toInt32 (sL σ3 1094 4))) σ3) else (x_X9_takeLength_75 U rcC 1094 (some (gH G n)) (ad c (fOf D m (w / 8))) (nI p) (nI dp) ((sI σ3 1094 3) + (Int64.toInt32 (sL σ3 1094 4))) 1 σ3)))) hU hcb he hp1 hD
  cases hln : lnS S p1 e with
  | none =>
    rw [t2 hln]
    exact OD_no (fX_N t1)
  | some y =>
    obtain ⟨l, p2⟩ := y
    obtain ⟨r1, D1, r2⟩ := t3 l p2 hln
    have hle := lnS_le hln (by omega)
    rw [r1, r2]
    simp only
    have D1' := D1
    obtain ⟨b1', b2', b3, b4, b5, b6, b7, b8⟩ := D1'
    -- unknown bytes
    have unk : OD c T D S G σ (some (aUnk A n (slc S p (p2 + l)), p2 + l)) (x_X9_takeLength_105 U rcC 1094 (some (gH G n)) (nI p) (nI (p2 + l)) τ) := by
      unfold x_X9_takeLength_105
      rw [sb_eq]
      have f3 : fN τ (uI τ 1094 3 (nI (p2 + l))) := ⟨fun b hb => sm_uI hb, sI_o (Or.inr (by decide))⟩
      obtain ⟨c1, c2, c3, c4, c5, c6, c7, c8⟩ := DC_N D1 hcb f3 (sI_s _ _ _ _) (Nat.le_add_right _ _) (by omega)
      obtain ⟨υ, G', u1, u2, u3, u4, u5, u6, u7, u8, u9, u10, u11⟩ := C_unk (p := p) (q := p2 + l) hU hcb hg c1 c2 c3 c4 hn (by omega) c5 (by omega) (by omega) (by omega)
      rw [u1, b2_eq, show (1 : Int32) = zI true from rfl, zb_zI]
      refine ⟨υ, rfl, fX_trans (fX_N (fN_trans t1 f3)) u5, fun A' p' h => ?_⟩
      cases h
      exact ⟨G', ⟨u4, u2, u3, c4.sm (u5.1 _ (by decide)) (u5.1 _ (by decide)), u6, by omega, by omega, by omega⟩, by omega, fun m hm => ⟨by rw [u9], by rw [u10]⟩⟩
    cases hf : fOf D m (w / 8) with
    | none =>
      rw [if_pos (show ad c none = none from rfl)]
      unfold x_X9_takeLength_74 x_X9_takeLength_75
      rw [if_pos (show (0 : Int32) = 0 from rfl), if_pos (show ad c none = none from rfl)]
      exact unk
    | some f =>
      obtain ⟨d, hd⟩ := fOf_isF hg hmM hf
      have hF : isF D (gN G n) f d := by rw [hm]; exact hd
      have hfl := (List.getElem?_eq_some_iff.mp hd.1).1
      have hft : fty T D d ≤ 14 := dTy_lt (hg.fld hd.1 hd.2.1).2.2.2.1
      have ety : sI τ (c + 5 + f) 8 = nI (fty T D d) := (b1'.it hd.1).2.1
      simp only
      rw [hd.1]
      simp only
      rw [if_neg (show ¬ ad c (some f) = none by intro z; cases z), ad_some, ck_eq (it_sh hcb (by omega)), (b1'.it hd.1).1.2.2.2.2.2.2.2.2.1, ety, X11_isNumeric (by omega), b1_eq, ifz, ifz]
      -- the field is no row
      have rest : (dR d && nmr (fty T D d)) = false → OD c T D S G σ (if nmr (fty T D d) then some (aUnk A n (slc S p (p2 + l)), p2 + l)
          else if fty T D d = 11 ∧ u8T S p2 (p2 + l) = false then none
          else if fty T D d = 13 then (match ftg T D d with
            | none => none
            | some t => match rc (aMsg D A n f d t).1 (aMsg D A n f d t).2 t (p2 + l) p2 with | none => none | some A' => some (A', p2 + l))
          else some (aPut T D A n f d 0 (slc S p2 (p2 + l)), p2 + l)) (x_X9_takeLength_74 U rcC 1094 (some (gH G n)) (some (c + 5 + f)) (nI p) (nI dp) (nI (p2 + l)) τ) := by
        intro _
        unfold x_X9_takeLength_74 x_X9_takeLength_75
        rw [if_pos (show (0 : Int32) = 0 from rfl), if_neg (show ¬ some (c + 5 + f) = none by intro z; cases z), ck_eq (it_sh hcb (by omega)), ety, X11_isNumeric (by omega), b1_eq, ifz]
        cases hnm : nmr (fty T D d) with
        | true =>
          rw [if_pos (show true = true from rfl), if_pos (show true = true from rfl)]
          exact unk
        | false =>
          rw [if_neg (show ¬ false = true by decide), if_neg (show ¬ false = true by decide)]
          have e11 : nI (fty T D d) = 11 ↔ fty T D d = 11 := nI_eq (b := 11) (by omega) (by decide)
          have e13 : nI (fty T D d) = 13 ↔ fty T D d = 13 := nI_eq (b := 13) (by omega) (by decide)
          -- behind the test for UTF-8
          have put : OD c T D S G σ (if fty T D d = 13 then (match ftg T D d with
              | none => none
              | some t => match rc (aMsg D A n f d t).1 (aMsg D A n f d t).2 t (p2 + l) p2 with | none => none | some A' => some (A', p2 + l))
            else some (aPut T D A n f d 0 (slc S p2 (p2 + l)), p2 + l)) (x_X9_takeLength_145 U rcC 1094 (some (gH G n)) (some (c + 5 + f)) (nI dp) (nI (p2 + l)) τ) := by
            unfold x_X9_takeLength_145
            by_cases q13 : fty T D d = 13
            · rw [if_pos q13]
              obtain ⟨t, ht, hMt⟩ := (ftg_msg hg hd.1 hd.2.1).1 q13
              obtain ⟨a, υ, G', u1, u2, u3, u4, u5, u6, u7, u8, u9, u10, u11, u12, u13⟩ := C_msg hU hcb hg b1' b2' b3 hn (by omega) hF q13 ht
              have u1' : x_X8_put U 389 (some (gH G n)) (some (c + 5 + f)) τ = some (some a, υ) := u1
              rw [u1', b2_eq, if_neg (by intro z; cases z), ck_eq (it_sh hcb (by omega)), (show sI υ (c + 5 + f) 8 = nI (fty T D d) from (u4.it hd.1).2.1), if_pos (e13.mpr q13), (show sP υ (c + 5 + f) 10 = ad c (ftg T D d) from (u4.it hd.1).2.2.1), ht, nI_1]
              have D2 : DC υ c T D S G' (aMsg D A n f d t).1 p2 := ⟨u4, u2, u3, b4.sm (u5.1 _ (by decide)) (u5.1 _ (by decide)), ((u5.1 1094 (by decide) 3).1).trans b5, by omega, by rw [u9]; omega, b8⟩
              have key := hrc υ G' _ (aMsg D A n f d t).2 t (p2 + l) p2 (fX_trans (fX_N t1) (fX_V u5)) (by omega) (by omega) D2 u10 u12
              rw [u11] at key
              obtain ⟨ω, k1, k2, k3⟩ := key
              simp only
              rw [k1, b2_eq, zb_zI]
              refine ⟨ω, ?_, fX_trans (fX_N t1) (fX_trans (fX_V u5) k2), fun A' p' h => ?_⟩
              · cases rc (aMsg D A n f d t).1 (aMsg D A n f d t).2 t (p2 + l) p2 <;> rfl
              · cases hrr : rc (aMsg D A n f d t).1 (aMsg D A n f d t).2 t (p2 + l) p2 with
                | none => rw [hrr] at h; cases h
                | some A2 =>
                  rw [hrr] at h
                  cases h
                  obtain ⟨G2, w1, w2⟩ := k3 A' (p2 + l) (by rw [hrr]; rfl)
                  exact ⟨G2, w1, gX_trans ⟨u7, u8⟩ w2⟩
            · rw [if_neg q13]
              obtain ⟨a, υ, u1, u2, u3, ω, G', v1, v2, v3, v4, v5, v6, v7, v8, v9, v10, v11⟩ := C_txt (p := p2) (q := p2 + l) hU hcb hg b1' b2' b3 b4 hn (by omega) hF q13 hnm (Nat.le_add_right _ _) (by omega) (by omega)
              have u1' : x_X8_put U 389 (some (gH G n)) (some (c + 5 + f)) τ = some (some a, υ) := u1
              rw [u1', b2_eq, if_neg (by intro z; cases z), ck_eq (it_sh hcb (by omega)), u3, if_neg (fun z => q13 (e13.mp z)), u2, b5, v1, b2_eq, show (1 : Int32) = zI true from rfl, zb_zI]
              refine ⟨ω, rfl, fX_trans (fX_N t1) v5, fun A' p' h => ?_⟩
              cases h
              exact ⟨G', ⟨v4, v2, v3, b4.sm (v5.1 _ (by decide)) (v5.1 _ (by decide)), v6, by omega, by omega, by omega⟩, by omega, fun m hm => ⟨by rw [v9], by rw [v10]⟩⟩
          rw [ifd e11]
          by_cases q11 : fty T D d = 11
          · rw [if_pos q11, b5, X0_isUtf8 hU b4 (Nat.le_add_right _ _) (by omega), b1_eq, ifz]
            cases hu8 : u8T S p2 (p2 + l) with
            | false =>
              rw [if_neg (show ¬ false = true by decide), if_pos ⟨q11, rfl⟩]
              exact OD_no (fX_N t1)
            | true =>
              rw [if_pos (show true = true from rfl), if_neg (fun z => by cases z.2)]
              exact put
          · rw [if_neg q11, if_neg (fun z => q11 z.1)]
            exact put
      cases hR : dR d with
      | false =>
        rw [if_neg (show ¬ false = true by decide), Bool.false_and, if_neg (show ¬ false = true by decide)]
        exact rest (by rw [hR]; rfl)
      | true =>
        rw [if_pos (show true = true from rfl), Bool.true_and]
        cases hnm : nmr (fty T D d) with
        | false =>
          rw [if_neg (show ¬ false = true by decide), if_neg (show ¬ false = true by decide)]
          have := rest (by rw [hR, hnm]; rfl)
          rw [hnm, if_neg (show ¬ false = true by decide)] at this
          exact this
        | true =>
          rw [if_pos (show true = true from rfl), if_pos (show true = true from rfl)]
          unfold x_X9_takeLength_75 x_X9_takeRow
          rw [if_neg (show ¬ (1 : Int32) = 0 by decide)]
          have h13 : fty T D d ≠ 13 := fun z => by rw [z] at hnm; cases hnm
          have key := C_row (U := U) (e := p2 + l) hU hcb hg (by omega) h13 hnm 701 0 p2 U τ G A (by omega) (Nat.zero_le _) (by omega) (Nat.le_add_right _ _) D1 hn hF
          obtain ⟨ω, k1, k2, k3⟩ := key
          have k1' : x_X9_takeRow_L3 U 1094 (fun σ16 => x_X9_takeRow_51 U 1094 (nI (p2 + l)) σ16) (some (gH G n)) (some (c + 5 + f)) (nI (p2 + l)) U 0 τ = some (zI ((dRow T D S n f d (p2 + l) 701 A p2).map (fun A => (A, p2 + l))).isSome, ω) := k1
          rw [k1', b2_eq, zb_zI]
          refine ⟨ω, ?_, fX_trans (fX_N t1) k2, fun A' p' h => ?_⟩
          · cases dRow T D S n f d (p2 + l) 701 A p2 <;> rfl
          · cases hrr : dRow T D S n f d (p2 + l) 701 A p2 with
            | none => rw [hrr] at h; cases h
            | some A2 =>
              rw [hrr] at h
              cases h
              exact k3 A' (p2 + l) (by rw [hrr]; rfl)
/-! ===== the class decodes a message ===== -/
theorem C_tnum {U c n m e p w p1 : Nat} {σ : SG} {T : List Nat} {D : List Dc} {S : List Nat} {G : Gh} {A : AV} {rc : AV → Nat → Nat → Nat → Nat → Option AV} (hU : 4000 < U) (hcb : cb c) (hg : GSc T D) (he : e ≤ S.length) (hp : p < p1) (hp1 : p1 ≤ e) (hD : DC σ c T D S G A p1) (hpu : gU G ≤ p) (hpP : (gP G).length ≤ p) (hn : n < gC G) (hm : gN G n = m) (hw : w % 8 ≠ 2) :
    OD c T D S G σ (dSt T D S rc n m e p w p1 A) (x_X9_takeNumber U 1094 (some (gH G n)) (ad c (fOf D m (w / 8))) (nI (w % 8)) (nI p) (nI e) σ) := by
  have hSl : S.length ≤ 700 := hD.2.2.2.1.2.2.1
  have hl := hg.2.1
  have hmM : isM D m := by rw [← hm]; exact hD.2.1.2.2.2.2.2.2.2.1 n hn
  have hw8 : w % 8 < 8 := Nat.mod_lt _ (by decide)
  unfold x_X9_takeNumber dSt
  rw [if_neg hw]
  obtain ⟨τ, t1, t2, t3⟩ := X9_readNumber (U := U) (q := w % 8) hU he hw8 hp1 hD.2.2.2.1 hD.2.2.2.2.1
  rw [t1, b2_eq, ifz]
  cases hr : rdN S (w % 8) p1 e with
  | none =>
    rw [Option.isSome_none, if_neg (show ¬ false = true by decide)]
    exact OD_no (fX_N t2)
  | some y =>
    obtain ⟨x, p2⟩ := y
    obtain ⟨v1, v2⟩ := t3 x p2 hr
    have hlt := rdN_lt hr
    rw [Option.isSome_some, if_pos (show true = true from rfl)]
    simp only
    have D1 := DC_N hD hcb t2 v2 (by omega) (by omega)
    have D1' := D1
    obtain ⟨b1', b2', b3, b4, b5, b6, b7, b8⟩ := D1'
    have unk : OD c T D S G σ (some (aUnk A n (slc S p p2), p2)) (x_X9_takeNumber_36 U 1094 (some (gH G n)) (nI p) τ) := by
      unfold x_X9_takeNumber_36
      obtain ⟨υ, G', u1, u2, u3, u4, u5, u6, u7, u8, u9, u10, u11⟩ := C_unk (p := p) (q := p2) hU hcb hg b1' b2' b3 b4 hn (by omega) b5 (by omega) (by omega) (by omega)
      rw [u1, b2_eq, show (1 : Int32) = zI true from rfl, zb_zI]
      refine ⟨υ, rfl, fX_trans (fX_N t2) u5, fun A' p' h => ?_⟩
      cases h
      exact ⟨G', ⟨u4, u2, u3, b4.sm (u5.1 _ (by decide)) (u5.1 _ (by decide)), u6, by omega, by omega, by omega⟩, by omega, fun m hm => ⟨by rw [u9], by rw [u10]⟩⟩
    cases hf : fOf D m (w / 8) with
    | none =>
      rw [if_pos (show ad c none = none from rfl)]
      exact unk
    | some f =>
      obtain ⟨d, hd⟩ := fOf_isF hg hmM hf
      have hF : isF D (gN G n) f d := by rw [hm]; exact hd
      have hfl := (List.getElem?_eq_some_iff.mp hd.1).1
      have hft : fty T D d ≤ 14 := dTy_lt (hg.fld hd.1 hd.2.1).2.2.2.1
      have ety : sI τ (c + 5 + f) 8 = nI (fty T D d) := (b1'.it hd.1).2.1
      have hk8 := (kdO_nmr hft).2
      simp only
      rw [hd.1]
      simp only
      rw [if_neg (show ¬ ad c (some f) = none by intro z; cases z), ad_some, ck_eq (it_sh hcb (by omega)), ety, X9_kindOf hft, b1_eq, ifd (nI_eq (by omega) (by omega))]
      by_cases q : kdO (fty T D d) = w % 8
      · rw [if_pos q, if_pos q]
        have hnm : nmr (fty T D d) = true := by
          cases h : nmr (fty T D d) with
          | true => rfl
          | false => exact absurd (q.symm.trans ((kdO_nmr hft).1.mpr h)) hw
        have h13 : fty T D d ≠ 13 := fun z => by rw [z] at hnm; cases hnm
        obtain ⟨υ, G', u1, u2, u3, u4, u5, u6, u7, u8, u9, u10, u11⟩ := C_num hU hcb hg b1' b2' b3 hn (by omega) hF h13 hnm
        have u1' : x_X9_putNumber U 1094 (some (gH G n)) (some (c + 5 + f)) τ = some (1, υ) := u1
        rw [u1', b2_eq, show (1 : Int32) = zI true from rfl, zb_zI]
        rw [v1] at u3
        refine ⟨υ, rfl, fX_trans (fX_N t2) u5, fun A' p' h => ?_⟩
        cases h
        exact ⟨G', ⟨u4, u2, u3, b4.sm (u5.1 _ (by decide)) (u5.1 _ (by decide)), u6.trans v2, by omega, by rw [u11]; omega, by omega⟩, by omega, fun m hm => ⟨by rw [u9], by rw [u10]⟩⟩
      · rw [if_neg q, if_neg q]
        exact unk
theorem dSt_lt {T : List Nat} {D : List Dc} {S : List Nat} {rc : AV → Nat → Nat → Nat → Nat → Option AV} {n m e p w p1 : Nat} {A A' : AV} {p' : Nat} (h : dSt T D S rc n m e p w p1 A = some (A', p')) (he : e ≤ 700) : p1 < p' ∧ p' ≤ e := by
  unfold dSt at h
  by_cases hw : w % 8 = 2
  · rw [if_pos hw] at h
    cases hln : lnS S p1 e with
    | none => rw [hln] at h; cases h
    | some y =>
      obtain ⟨l, p2⟩ := y
      have hle := lnS_le hln he
      rw [hln] at h
      simp only at h
      have hq : p' = p2 + l := by
        cases hf : fOf D m (w / 8) with
        | none => rw [hf] at h; cases h; try rfl
        | some f =>
          rw [hf] at h
          simp only at h
          cases hd : D[f]? with
          | none => rw [hd] at h; cases h
          | some d =>
            rw [hd] at h
            simp only at h
            split at h
            · split at h
              · cases h
              · cases h; try rfl
            · split at h
              · cases h; try rfl
              · split at h
                · cases h
                · split at h
                  · split at h
                    · cases h
                    · split at h
                      · cases h
                      · cases h; try rfl
                  · cases h; try rfl
      omega
  · rw [if_neg hw] at h
    cases hr : rdN S (w % 8) p1 e with
    | none => rw [hr] at h; cases h
    | some y =>
      obtain ⟨x, p2⟩ := y
      have hlt := rdN_lt hr
      rw [hr] at h
      simp only at h
      have hq : p' = p2 := by
        cases hf : fOf D m (w / 8) with
        | none => rw [hf] at h; cases h; try rfl
        | some f =>
          rw [hf] at h
          simp only at h
          cases hd : D[f]? with
          | none => rw [hd] at h; cases h
          | some d =>
            rw [hd] at h
            simp only at h
            split at h <;> (cases h; rfl)
      omega
theorem find_congr {L : List Nat} {p q : Nat → Bool} (h : ∀ i ∈ L, p i = q i) : L.find? p = L.find? q := by
  induction L with
  | nil => rfl
  | cons a L ih =>
    rw [List.find?_cons, List.find?_cons, h a (List.mem_cons_self ..), ih (fun i hi => h i (List.mem_cons_of_mem _ hi))]
theorem C_msgL {σb : SG} {U c n m e dp : Nat} {T : List Nat} {D : List Dc} {S : List Nat} {rcC : Option Nat → Option Nat → Int32 → Int32 → SG → Option (Int32 × SG)} {rc : AV → Nat → Nat → Nat → Nat → Option AV} (hU : 4000 < U) (hcb : cb c) (hg : GSc T D) (he : e ≤ S.length) (hSl : S.length ≤ 700) (hmM : isM D m)
    (hrc : ∀ (τ : SG) (G' : Gh) (A' : AV) (n' t e' q : Nat), fX σb τ → e' ≤ S.length → q ≤ e' → DC τ c T D S G' A' q → n' < gC G' → gN G' n' = t → OD c T D S G' τ ((rc A' n' t e' q).map (fun A => (A, e'))) (rcC (some (gH G' n')) (ad c (some t)) (nI e') (nI (dp + 1)) τ)) : ∀ (j k p U1 : Nat) (σ : SG) (G : Gh) (A : AV), e < j + p → k ≤ p → j < U1 → p ≤ e → DC σ c T D S G A p → n < gC G → gN G n = m → fX σb σ →
    OD c T D S G σ ((dLp T D S rc n m e j A p).map (fun A => (A, e))) (x_X9_readMessage_L18 U rcC 1094 (fun σ24 => x_X9_readMessage_145 U rcC 1094 (nI e) σ24) (some (gH G n)) (ad c (some m)) (nI e) (nI dp) U1 (nI k) σ) := by
  have hl := hg.2.1
  obtain ⟨dm, hdm, _⟩ := hmM
  have hml := (List.getElem?_eq_some_iff.mp hdm).1
  intro j
  induction j with
  | zero => intro k p U1 σ G A hj hk hu hp; omega
  | succ j ih =>
    intro k p U1 σ G A hj hk hu hp hD hn hm hfb
    obtain ⟨V, rfl⟩ : ∃ V, U1 = V + 1 := ⟨U1 - 1, by omega⟩
    have hD' := hD
    obtain ⟨a1, a2, a3, a4, a5, a6, a7, a8⟩ := hD'
    rw [x_X9_readMessage_L18, a5, ifd (ltI (by omega) (by omega)), dLp]
    by_cases q : p < e
    · rw [if_pos q, if_pos q, show (700 : Int32) = nI 700 from rfl, if_pos ((ltI (by omega) (by decide)).mpr (by omega))]
      obtain ⟨τ, t1, t2, t3⟩ := X9_readNumber (U := U) (q := 0) hU he (by decide) hp a4 a5
      have t1' : x_X9_readNumber U 1094 0 (nI e) σ = some (zI (rdN S 0 p e).isSome, τ) := t1
      rw [t1', b2_eq, ifz]
      unfold tgS
      cases hr : rdN S 0 p e with
      | none =>
        rw [Option.isSome_none, if_neg (show ¬ false = true by decide)]
        exact OD_no (fX_N t2)
      | some y =>
        obtain ⟨x, p1⟩ := y
        obtain ⟨v1, v2⟩ := t3 x p1 hr
        have hlt := rdN_lt hr
        rw [Option.isSome_some, if_pos (show true = true from rfl), v1, tag_C]
        simp only
        by_cases hx : x < 8 ∨ 4294967295 < x
        · rw [if_pos hx, if_pos hx]
          exact OD_no (fX_N t2)
        · rw [if_neg hx, if_neg hx]
          obtain ⟨w, rfl, hw1, hw2, hw3⟩ := tag_of hx
          simp only
          rw [hw3]
          have D1 := DC_N hD hcb t2 v2 (by omega) (by omega)
          have e3 : lush (lN w) 3 = lN (w / 8) := lush_N (k := 3) (by omega) (by decide)
          have e7 : Int64.toInt32 (lN w &&& 7) = nI (w % 8) := by
            have := land_N (w := w) (k := 3) (by omega) (by decide)
            have h7 : lN w &&& 7 = lN (w % 8) := this
            rw [h7, lN_i]
          have hw8 : w % 8 < 8 := Nat.mod_lt _ (by decide)
          have fnd : (chF D m).find? (fun i => decide (nLi D i = lN (w / 8))) = fOf D m (w / 8) := by
            unfold fOf
            have hM : isM D m := ⟨dm, hdm, by assumption⟩
            apply find_congr
            intro i hi
            obtain ⟨d, hd⟩ := (chF_mem hg hM).mp hi
            have hnu := hg.nu hd.1 hd.2.1
            rw [hnu.1]
            have : lN (nmn D i) = lN (w / 8) ↔ nmn D i = w / 8 := pk_lEQ (by omega) (by have := Nat.div_le_self w 8; omega)
            by_cases y : nmn D i = w / 8
            · rw [decide_eq_true y, decide_eq_true (this.mpr y)]
            · rw [decide_eq_false y, decide_eq_false (fun z => y (this.mp z))]
          rw [ad_some, ck_eq (it_sh hcb (by omega)), e3, C_numbered hU hcb D1.1 hml, b1_eq, e7, fnd]
          -- what follows a field
          have next : ∀ (x9 : Option (Int32 × SG)), OD c T D S G τ (dSt T D S rc n m e p w p1 A) x9 → OD c T D S G σ ((match dSt T D S rc n m e p w p1 A with | none => none | some (A', p') => dLp T D S rc n m e j A' p').map (fun A => (A, e))) (b2 x9 fun v18 σ19 => x_X9_readMessage_130 U rcC 1094 (x_X9_readMessage_L18 U rcC 1094 (fun σ24 => x_X9_readMessage_145 U rcC 1094 (nI e) σ24) (some (gH G n)) (some (c + 5 + m)) (nI e) (nI dp) V) (fun σ24 => x_X9_readMessage_145 U rcC 1094 (nI e) σ24) (some (gH G n)) (some (c + 5 + m)) (nI e) (nI dp) (nI k) v18 σ19) := by
            intro x9 h9
            obtain ⟨υ, u1, u2, u3⟩ := h9
            rw [u1, b2_eq]
            unfold x_X9_readMessage_130
            rw [ifz, nI_1]
            cases hs : dSt T D S rc n m e p w p1 A with
            | none =>
              rw [Option.isSome_none, if_neg (show ¬ false = true by decide)]
              exact OD_no (fX_trans (fX_N t2) u2)
            | some y =>
              obtain ⟨A', p'⟩ := y
              have hd9 := dSt_lt hs (by omega)
              rw [Option.isSome_some, if_pos (show true = true from rfl)]
              obtain ⟨G', w1, w2⟩ := u3 A' p' hs
              have key := ih (k + 1) p' V υ G' A' (by omega) (by omega) (by omega) (by omega) w1 (by have := w2.1; omega) ((w2.2 n hn).1.trans hm) (fX_trans hfb (fX_trans (fX_N t2) u2))
              rw [(w2.2 n hn).2] at key
              exact OD_from (fX_trans (fX_N t2) u2) w2 key
          by_cases hw : w % 8 = 2
          · rw [if_pos (show nI (w % 8) = 2 by rw [hw]; rfl)]
            exact next _ (C_tlen hU hcb hg he (by omega) (by omega) D1 a6 a7 hn hm hw (fun τ' G' A' n' t e' q' hf' => hrc τ' G' A' n' t e' q' (fX_trans hfb (fX_trans (fX_N t2) hf'))))
          · rw [if_neg (show ¬ nI (w % 8) = 2 from fun z => hw ((nI_eq (b := 2) (by omega) (by decide)).mp z))]
            exact next _ (C_tnum hU hcb hg he (by omega) (by omega) D1 a6 a7 hn hm hw)
    · have hpe : p = e := by omega
      rw [if_neg q, if_neg q]
      have fin : OD c T D S G σ (some (A, e)) (x_X9_readMessage_145 U rcC 1094 (nI e) σ) := by
        unfold x_X9_readMessage_145
        rw [a5, if_pos (by rw [hpe])]
        exact ⟨σ, rfl, fX_refl σ, fun A' p' h => by cases h; rw [← hpe]; exact ⟨G, hD, gX_refl G⟩⟩
      split
      · exact fin
      · exact fin
theorem C_ms {U c lm : Nat} {T : List Nat} {D : List Dc} {S : List Nat} (hU : 4000 < U) (hcb : cb c) (hg : GSc T D) (hSl : S.length ≤ 700) (hlm : lm ≤ 20) : ∀ (j dp : Nat) (σ : SG) (G : Gh) (A : AV) (n m e p : Nat), j + dp = 25 → dp ≤ lm + 1 → e ≤ S.length → p ≤ e → DC σ c T D S G A p → n < gC G → gN G n = m → sI σ 1094 5 = nI lm →
    OD c T D S G σ ((dMs T D S lm j dp A n m e p).map (fun A => (A, e))) (x_X9_readMessage U 1094 j (some (gH G n)) (ad c (some m)) (nI e) (nI dp) σ) := by
  intro j
  induction j with
  | zero => intro dp σ G A n m e p hj hdp; omega
  | succ j ih =>
    intro dp σ G A n m e p hj hdp he hp hD hn hm h5
    have hmM : isM D m := by rw [← hm]; exact hD.2.1.2.2.2.2.2.2.2.1 n hn
    rw [x_X9_readMessage, dMs]
    unfold x_X9_readMessage_b
    rw [if_neg (show ¬ ad c (some m) = none by intro z; cases z), h5, ifd (ltI (by omega) (by omega))]
    by_cases q : lm < dp
    · rw [if_pos q, if_pos q]
      exact OD_no (fX_refl σ)
    · rw [if_neg q, if_neg q]
      exact C_msgL (σb := σ) (rc := dMs T D S lm j (dp + 1)) hU hcb hg he hSl hmM (fun τ G' A' n' t e' q' hf' he' hq' hD' hn' ht' => ih (dp + 1) τ G' A' n' t e' q' (by omega) (by omega) he' hq' hD' hn' ht' (hf'.2.2.1.trans h5)) 701 0 p U σ G A (by omega) (Nat.zero_le _) (by omega) hp hD hn hm (fX_refl σ)
/-- the empty value of a message -/
def a0 (m : Nat) : AV := (fun _ => m, 1, fun _ _ => [], fun _ => [])
def g0 (m : Nat) : Gh := (fun _ => m, fun _ => 1091, fun _ => [], 1, 0, [])
/-- the class begins a value -/
theorem C_begin {σ : SG} {c m : Nat} {T : List Nat} {D : List Dc} (hcb : cb c) (hC : CS σ c T D) (hm : isM D m) : ∃ τ, x_X8_begin 389 (some (c + 1)) (ad c (some m)) σ = some τ ∧ VG τ c T D (g0 m) ∧ VE T D (g0 m) (a0 m) ∧ CS τ c T D ∧ (∀ b, b ≠ 389 → b ≠ 1091 → b ≠ 1092 → sm σ τ b) ∧ sP τ 389 4 = some (c + 1) ∧ sP τ 389 5 = ad c (some m) := by
  unfold x_X8_begin
  obtain ⟨υ, a1, a2, a3, a4, a5, a6⟩ := X8_drop (σ := σ)
  rw [a1, b1_eq, sb_eq, sb_eq]
  have fr : ∀ b, b ≠ 389 → sm υ (uP (uP υ 389 4 (some (c + 1))) 389 5 (ad c (some m))) b := fun b hb => sm_trans (sm_uP hb) (sm_uP hb)
  have hc : c = 5 ∨ c = 197 := hcb
  refine ⟨_, rfl, ?_, ⟨rfl, fun _ _ => rfl, fun n _ => ⟨fun f d _ => rfl, rfl⟩⟩, CS_sm hC (fun b h1 h2 => sm_trans (a2 b (by omega) (by omega) (by omega)) (fr b (by omega))), fun b h1 h2 h3 => sm_trans (a2 b h1 h2 h3) (fr b h1), ?_, sP_s _ _ _ _⟩
  · refine ⟨a3.2.2.1, Nat.zero_le _, a3.2.2.2.sm (fr _ (by decide)) (fr _ (by decide)), Nat.one_pos, rfl, fun n hn h0 => ?_, fun n n' hn hn' _ => ?_, fun n _ => hm, fun n n' _ _ _ e he => (by cases he), fun n hn => ⟨?_, Or.inl ?_, List.Pairwise.nil, List.nodup_nil, List.Pairwise.nil, fun e he => (by cases he)⟩⟩
    · have : n < 1 := hn
      omega
    · have : n < 1 := hn
      have : n' < 1 := hn'
      omega
    · show sP _ 1091 2 = none
      rw [(fr 1091 (by decide) 2).2.2]; exact a4
    · show sP _ 1091 3 = none
      rw [(fr 1091 (by decide) 3).2.2]; exact a5
  · rw [sP_o (Or.inr (by decide)), sP_s]
/-- the class reads the tape into a new value -/
theorem C_read {σ : SG} {U c m lm : Nat} {T S : List Nat} {D : List Dc} (hU : 4000 < U) (hcb : cb c) (hg : GSc T D) (hlm : lm ≤ 20) (hC : CS σ c T D) (hV : VG σ c T D (g0 m)) (hE : VE T D (g0 m) (a0 m)) (hS : RB σ 1 S 0) (h5 : sP σ 389 5 = ad c (some m)) :
    ∃ τ, x_X9_read U 1094 (nI lm) σ = some (zI (dMs T D S lm 24 1 (a0 m) 0 m S.length 0).isSome, τ) ∧ fX (uI σ 1094 5 (nI lm)) τ ∧ ∀ A, dMs T D S lm 24 1 (a0 m) 0 m S.length 0 = some A → ∃ G, DC τ c T D S G A S.length := by
  have hSl : S.length ≤ 700 := hS.2.2.1
  unfold x_X9_read
  rw [sb_eq, sb_eq]
  have fr : ∀ b, b ≠ 1094 → sm σ (uI (uI σ 1094 3 0) 1094 5 (nI lm)) b := fun b hb => sm_trans (sm_uI hb) (sm_uI hb)
  have hc : c = 5 ∨ c = 197 := hcb
  have S2 := hS.sm (fr 1 (by decide)) (fr 2 (by decide))
  rw [X0_size S2, b1_eq]
  have D0 : DC (uI (uI σ 1094 3 0) 1094 5 (nI lm)) c T D S (g0 m) (a0 m) 0 := ⟨CS_sm hC (fun b h1 h2 => fr b (by omega)), VG_sm hV (fun b hb => fr b (by omega)), hE, S2, by rw [sI_o (Or.inr (by decide)), sI_s]; rfl, Nat.zero_le _, Nat.zero_le _, Nat.zero_le _⟩
  have e5 : sP (uI (uI σ 1094 3 0) 1094 5 (nI lm)) 389 5 = ad c (some m) := h5
  have key := C_ms (U := U) (lm := lm) hU hcb hg hSl hlm 24 1 _ (g0 m) (a0 m) 0 m S.length 0 (by omega) (by omega) (Nat.le_refl _) (Nat.zero_le _) D0 Nat.one_pos rfl (sI_s _ _ _ _)
  obtain ⟨τ, k1, k2, k3⟩ := key
  have k1' : x_X9_readMessage U 1094 24 (some 1091) (ad c (some m)) (nI S.length) 1 (uI (uI σ 1094 3 0) 1094 5 (nI lm)) = some (zI ((dMs T D S lm 24 1 (a0 m) 0 m S.length 0).map (fun A => (A, S.length))).isSome, τ) := k1
  rw [e5, k1', b2_eq, zb_zI]
  refine ⟨τ, ?_, ?_, fun A hA => ?_⟩
  · cases dMs T D S lm 24 1 (a0 m) 0 m S.length 0 <;> rfl
  · refine ⟨fun b hb => sm_trans (fun k => ?_) (k2.1 b hb), fun k hk => ?_, ?_, ?_, ?_⟩
    · have : b ≠ 1094 := by omega
      exact ⟨by rw [sI_o (Or.inl this), sI_o (Or.inl this), sI_o (Or.inl this)], rfl, rfl⟩
    · exact k2.2.1 k hk
    · rw [k2.2.2.1, sI_s, sI_s]
    · rw [k2.2.2.2.1, sI_o (Or.inl (by decide)), sI_o (Or.inl (by decide)), sI_o (Or.inl (by decide))]
    · rw [k2.2.2.2.2, sI_o (Or.inl (by decide)), sI_o (Or.inl (by decide)), sI_o (Or.inl (by decide))]
  · obtain ⟨G, w1, w2⟩ := k3 A S.length (by rw [hA]; rfl)
    exact ⟨G, w1⟩
/-! ===== the reference's value: its rows ===== -/
/-- a row: of which opened message, field, number, text, the message it opens, does it count -/
abbrev Rg : Type := Nat × Nat × Int64 × List Nat × Nat × Bool
def rN (r : Rg) : Nat := r.1
def rF (r : Rg) : Nat := r.2.1
def rV (r : Rg) : Int64 := r.2.2.1
def rT (r : Rg) : List Nat := r.2.2.2.1
def rK (r : Rg) : Nat := r.2.2.2.2.1
def rA (r : Rg) : Bool := r.2.2.2.2.2
/-- a field's index -/
def fx (D : List Dc) (s f : Nat) : Nat := 60 * s + cnt (D.take f) 2
/-- one row, without whether it counts -/
def RWs (σ : SG) (s : Nat) (T : List Nat) (D : List Dc) (P : List Nat) (i : Nat) (r : Rg) : Prop := sI σ 1165 i = nI (rN r) ∧ sI σ 1166 i = nI (fx D s (rF r)) ∧ sL σ 1167 i = rV r ∧ (∃ a, sI σ 1168 i = nI a ∧ sI σ 1169 i = nI (rT r).length ∧ a + (rT r).length ≤ P.length ∧ slc P a (a + (rT r).length) = rT r) ∧ ∃ d, D[rF r]? = some d ∧ dK d = 2 ∧ sI σ 1170 i = (if fty T D d = 13 then nI (rK r) else -1)
def RT (σ : SG) (s : Nat) (T : List Nat) (D : List Dc) (P : List Nat) (R : List Rg) : Prop := sI σ 1101 82 = nI R.length ∧ R.length ≤ 700 ∧ ∀ i r, R[i]? = some r → RWs σ s T D P i r ∧ sI σ 1171 i = zI (rA r)
/-- does a value of a field put a row out -/
def kil (T : List Nat) (D : List Dc) (n f : Nat) (d : Dc) (r : Rg) : Bool := decide (rN r = n) && (rivB D f d (rF r) || (decide (rF r = f) && decide (fty T D d ≠ 13)))
def off (r : Rg) : Rg := (rN r, rF r, rV r, rT r, rK r, false)
def killR (T : List Nat) (D : List Dc) (n f : Nat) (d : Dc) (R : List Rg) : List Rg := R.map (fun r => if kil T D n f d r then off r else r)
theorem RWs_sm {σ τ : SG} {s : Nat} {T : List Nat} {D : List Dc} {P : List Nat} {i : Nat} {r : Rg} (h : RWs σ s T D P i r) (h1 : ∀ b, 1165 ≤ b → b ≤ 1170 → sI τ b i = sI σ b i ∧ sL τ b i = sL σ b i) : RWs τ s T D P i r := by
  obtain ⟨a1, a2, a3, ⟨a, a4, a5, a6⟩, d, a7, a8, a9⟩ := h
  exact ⟨((h1 1165 (by decide) (by decide)).1).trans a1, ((h1 1166 (by decide) (by decide)).1).trans a2, ((h1 1167 (by decide) (by decide)).2).trans a3, ⟨a, ((h1 1168 (by decide) (by decide)).1).trans a4, ((h1 1169 (by decide) (by decide)).1).trans a5, a6⟩, d, a7, a8, ((h1 1170 (by decide) (by decide)).1).trans a9⟩
theorem RWs_off {σ : SG} {s : Nat} {T : List Nat} {D : List Dc} {P : List Nat} {i : Nat} {r : Rg} (h : RWs σ s T D P i r) : RWs σ s T D P i (off r) := h
theorem fx_inj {T : List Nat} {D : List Dc} (hg : GSc T D) {s f g : Nat} {d e : Dc} (hs : s < 2) (hd : D[f]? = some d) (h2 : dK d = 2) (he : D[g]? = some e) (h2' : dK e = 2) : nI (fx D s f) = nI (fx D s g) ↔ f = g := by
  obtain ⟨_, _, l2, _⟩ := lim_of hg.2.2.2.1
  have c1 := cnt_take_lt hd h2
  have c2 := cnt_take_lt he h2'
  refine ⟨fun z => ?_, fun z => by rw [z]⟩
  have := (nI_eq (a := fx D s f) (b := fx D s g) (by unfold fx; omega) (by unfold fx; omega)).mp z
  unfold fx at this
  exact ord_inj hd h2 he h2' (by omega)
/-- a field's row of the reference's schema -/
theorem RS.f {σ : SG} {s : Nat} {T : List Nat} {D : List Dc} (h : RS σ s T D) {f : Nat} {d : Dc} (hd : D[f]? = some d) (h2 : dK d = 2) : fx D s f < 60 * s + 60 ∧ sI σ 1114 (fx D s f) = oq D 0 (dS d) ∧ sI σ 1117 (fx D s f) = nI (dN d).2 ∧ sI σ 1118 (fx D s f) = nI (fty T D d) ∧ sI σ 1119 (fx D s f) = refI D (ftg T D d) ∧ sI σ 1120 (fx D s f) = zI (dR d) ∧ sI σ 1121 (fx D s f) = zI (dPa (lkC T D) T (wl T 701 0) D d) ∧ sI σ 1122 (fx D s f) = oq D 4 (dO d) := by
  obtain ⟨_, _, l2, _⟩ := lim_of h.1
  have c1 := cnt_take_lt hd h2
  obtain ⟨a1, a2, a3, a4, a5, a6, a7, a8⟩ := (h.2.2 f d hd).2.2.1 h2
  exact ⟨by unfold fx; omega, a1, a3, a4, a5, a6, a7, a8⟩
theorem WF.one {D : List Dc} {i : Nat} {d : Dc} (h : WF D) (hd : D[i]? = some d) (h2 : dK d = 2) : ∀ m, dO d = some m → ∃ x, D[m]? = some x ∧ dK x = 4 := fun m hm => by
  rcases (h i d hd).2 with z | z | z | z | z
  · omega
  · omega
  · omega
  · obtain ⟨x, a1, a2, _⟩ := z.2.2 m hm
    have hl := (List.getElem?_eq_some_iff.mp a1).1
    rw [List.length_take] at hl
    rw [List.getElem?_take_of_lt (by omega)] at a1
    exact ⟨x, a1, a2⟩
  · omega
/-- the cells of the flags alone -/
def fA (σ τ : SG) : Prop := fP (fun b _ => b = 1171) σ τ
theorem N_kill_L {U s n f : Nat} {T : List Nat} {D : List Dc} {P : List Nat} {d : Dc} {R : List Rg} {K : SG → Option (Int32 × SG)} (hU : 4000 < U) (hs : s < 2) (hg : GSc T D) (hd : D[f]? = some d) (h2 : dK d = 2) (hn : n < 400) (hRn : ∀ r ∈ R, rN r < 400) : ∀ (j i U1 : Nat) (σ : SG), i + j = R.length → j < U1 → RS σ s T D → RT σ s T D P ((killR T D n f d (R.take i)) ++ R.drop i) →
    ∃ τ, x_X12_rowFor_L18 U 1101 K (nI n) (nI (fx D s f)) U1 (nI i) σ = K τ ∧ RT τ s T D P (killR T D n f d R) ∧ fA σ τ := by
  have hl := hg.2.1
  intro j
  induction j with
  | zero =>
    intro i U1 σ hi hu hS hR
    obtain ⟨V, rfl⟩ : ∃ V, U1 = V + 1 := ⟨U1 - 1, by omega⟩
    have e : killR T D n f d (R.take i) ++ R.drop i = killR T D n f d R := by rw [List.take_of_length_le (by omega), List.drop_eq_nil_of_le (by omega), List.append_nil]
    rw [e] at hR
    have hlen : (killR T D n f d R).length = R.length := List.length_map ..
    have hc := hR.1
    rw [hlen] at hc
    have h700 := hR.2.1
    rw [hlen] at h700
    rw [x_X12_rowFor_L18, hc, if_neg (fun q => by have := (ltI (by omega) (by omega)).mp q; omega)]
    exact ⟨σ, rfl, hR, fP_refl _ _⟩
  | succ j ih =>
    intro i U1 σ hi hu hS hR
    obtain ⟨V, rfl⟩ : ∃ V, U1 = V + 1 := ⟨U1 - 1, by omega⟩
    have hil : i < R.length := by omega
    have hlen : ((killR T D n f d (R.take i)) ++ R.drop i).length = R.length := by
      rw [List.length_append, List.length_drop]
      unfold killR
      rw [List.length_map, List.length_take]; omega
    have hc := hR.1
    rw [hlen] at hc
    have h700 := hR.2.1
    rw [hlen] at h700
    have hr := List.getElem?_eq_getElem hil
    have hri : ((killR T D n f d (R.take i)) ++ R.drop i)[i]? = some R[i] := by
      have hkl : (killR T D n f d (R.take i)).length = i := by unfold killR; rw [List.length_map, List.length_take]; omega
      rw [List.getElem?_append_right (by omega), hkl, Nat.sub_self, List.getElem?_drop]
      exact hr
    obtain ⟨⟨w1, w2, w3, w4, x, hx, hx2, w5⟩, w6⟩ := hR.2.2 i _ hri
    obtain ⟨f1, _, _, f4, _, _, _, f8⟩ := hS.f hd h2
    obtain ⟨g1, _, _, _, _, _, _, g8⟩ := hS.f hx hx2
    have hnr := hRn _ (List.getElem_mem hil)
    -- the next place
    have step : ∀ (r' : Rg), r' = (if kil T D n f d R[i] then off R[i] else R[i]) → killR T D n f d (R.take (i + 1)) ++ R.drop (i + 1) = (killR T D n f d (R.take i)) ++ r' :: R.drop (i + 1) := by
      intro r' hr'
      have e1 : R.take (i + 1) = R.take i ++ [R[i]] := by rw [List.take_add_one, hr]; try rfl
      rw [e1]
      unfold killR
      rw [List.map_append, List.append_assoc, hr']
      try rfl
    have dr : R.drop i = R[i] :: R.drop (i + 1) := List.drop_eq_getElem_cons hil
    have skip : kil T D n f d R[i] = false → ∃ τ, x_X12_rowFor_L18 U 1101 K (nI n) (nI (fx D s f)) V (nI (i + 1)) σ = K τ ∧ RT τ s T D P (killR T D n f d R) ∧ fA σ τ := by
      intro hk
      refine ih (i + 1) V σ (by omega) (by omega) hS ?_
      rw [step R[i] (by rw [hk]; rfl), ← dr]
      exact hR
    have kill : kil T D n f d R[i] = true → ∃ τ, x_X12_rowFor_L18 U 1101 K (nI n) (nI (fx D s f)) V (nI (i + 1)) (uI σ 1171 i (vp_nar .boolean 0)) = K τ ∧ RT τ s T D P (killR T D n f d R) ∧ fA σ τ := by
      intro hk
      have e0 : vp_nar .boolean 0 = zI false := by decide
      have f1 : fA σ (uI σ 1171 i (vp_nar .boolean 0)) := fP_u rfl
      obtain ⟨τ, t1, t2, t3⟩ := ih (i + 1) V (uI σ 1171 i (vp_nar .boolean 0)) (by omega) (by omega) (RS_keep hS (fun b k hb => (f1 b k (fun z => by unfold PKP at hb; omega)).1)) (by
        rw [step (off R[i]) (by rw [hk]; rfl)]
        have hl2 : ((killR T D n f d (R.take i)) ++ off R[i] :: R.drop (i + 1)).length = R.length := by rw [← hlen, dr, List.length_append, List.length_append, List.length_cons, List.length_cons]
        refine ⟨?_, by rw [hl2]; omega, fun k r hkr => ?_⟩
        · rw [hl2, (f1 1101 82 (by decide)).1]; exact hc
        · have hkl : (killR T D n f d (R.take i)).length = i := by unfold killR; rw [List.length_map, List.length_take]; omega
          by_cases z : k = i
          · subst z
            rw [List.getElem?_append_right (by omega), hkl, Nat.sub_self] at hkr
            simp at hkr
            subst hkr
            refine ⟨RWs_off (RWs_sm (hR.2.2 k _ hri).1 (fun b h1 h2 => ⟨sI_o (Or.inl (by omega)), rfl⟩)), ?_⟩
            rw [sI_s, e0]; try rfl
          · have hkr' : ((killR T D n f d (R.take i)) ++ R.drop i)[k]? = some r := by
              rw [dr]
              rcases Nat.lt_or_ge k i with y | y
              · rw [List.getElem?_append_left (by omega)] at hkr ⊢; exact hkr
              · obtain ⟨k', rfl⟩ : ∃ k', k = i + (k' + 1) := ⟨k - i - 1, by omega⟩
                rw [List.getElem?_append_right (by omega), hkl, show i + (k' + 1) - i = k' + 1 by omega, List.getElem?_cons_succ] at hkr ⊢
                exact hkr
            obtain ⟨y1, y2⟩ := hR.2.2 k r hkr'
            exact ⟨RWs_sm y1 (fun b h1 h2 => ⟨sI_o (Or.inl (by omega)), rfl⟩), by rw [sI_o (Or.inr z)]; exact y2⟩)
      exact ⟨τ, t1, t2, fP_trans f1 t3⟩
    rw [x_X12_rowFor_L18, hc, if_pos ((ltI (by omega) (by omega)).mpr hil), ix_in (by omega) (by decide), w2, ifd (fx_inj hg hs hx hx2 hd h2)]
    unfold x_X12_rowFor_70 x_X12_rowFor_71 x_X12_rowFor_109 x_X12_rowFor_116
    have hrv : rF R[i] ≠ f → (rivB D f d (rF R[i]) = true ↔ dO d ≠ none ∧ dO x = dO d) := fun hne => by
      unfold rivB; rw [hx]; simp only; rw [decide_eq_true_iff]
      exact ⟨fun z => ⟨z.1, z.2.2⟩, fun z => ⟨z.1, hne, z.2⟩⟩
    -- no rival
    have plain : rivB D f d (rF R[i]) = false → ∃ τ, (ix (nI i) 800 fun j12 => if sI σ 1165 j12 = nI n then (if (0 : Int32) = 0 then (ix (nI i) 800 fun j18 => if sI σ 1166 j18 = nI (fx D s f) then (ix (nI (fx D s f)) 120 fun j23 => if sI σ 1118 j23 = 13 then (x_X12_rowFor_L18 U 1101 K (nI n) (nI (fx D s f)) V (nI i + 1) σ) else (ix (nI i) 800 fun j28 => sb (uI σ 1171 j28 (vp_nar .boolean 0)) fun σ32 => x_X12_rowFor_L18 U 1101 K (nI n) (nI (fx D s f)) V (nI i + 1) σ32)) else (x_X12_rowFor_L18 U 1101 K (nI n) (nI (fx D s f)) V (nI i + 1) σ)) else (ix (nI i) 800 fun j28 => sb (uI σ 1171 j28 (vp_nar .boolean 0)) fun σ32 => x_X12_rowFor_L18 U 1101 K (nI n) (nI (fx D s f)) V (nI i + 1) σ32)) else (x_X12_rowFor_L18 U 1101 K (nI n) (nI (fx D s f)) V (nI i + 1) σ)) = K τ ∧ RT τ s T D P (killR T D n f d R) ∧ fA σ τ := by
      intro hnr'
      rw [ix_in (by omega) (by decide), w1, ifd (nI_eq (by omega) (by omega)), if_pos (show (0 : Int32) = 0 from rfl), ix_in (by omega) (by decide), w2, ifd (fx_inj hg hs hx hx2 hd h2), ix_in (by omega) (by decide), f4, nI_1]
      have ft := dTy_lt (lk := lkC T D) (T := T) (Ws := wl T 701 0) (D := D) (hg.fld hd h2).2.2.2.1
      have e13 : nI (fty T D d) = 13 ↔ fty T D d = 13 := nI_eq (b := 13) (by unfold fty; omega) (by decide)
      by_cases q1 : rN R[i] = n
      · rw [if_pos q1]
        by_cases q2 : rF R[i] = f
        · rw [if_pos q2, ifd e13]
          by_cases q3 : fty T D d = 13
          · rw [if_pos q3]
            exact skip (by unfold kil; rw [hnr', decide_eq_false (show ¬ fty T D d ≠ 13 from fun z => z q3)]; simp)
          · rw [if_neg q3, ix_in (by omega) (by decide), sb_eq]
            exact kill (by unfold kil; rw [decide_eq_true q1, decide_eq_true q2, decide_eq_true q3]; simp)
        · rw [if_neg q2]
          exact skip (by unfold kil; rw [hnr', decide_eq_false q2]; simp)
      · rw [if_neg q1]
        exact skip (by unfold kil; rw [decide_eq_false q1]; rfl)
    by_cases q : rF R[i] = f
    · rw [if_pos q]
      exact plain (by rw [q]; exact rivB_self)
    · rw [if_neg q, ix_in (by omega) (by decide), f8, ifd (oq_neg hl)]
      by_cases q0 : dO d = none
      · rw [if_pos q0]
        exact plain (by
          cases hb : rivB D f d (rF R[i]) with
          | false => rfl
          | true => exact absurd q0 ((hrv q).mp hb).1)
      · rw [if_neg q0, ix_in (by omega) (by decide), w2, ix_in (by omega) (by decide), ix_in (by omega) (by decide), g8, f8, ifd (oq_inj hl (hg.1.one hx hx2) (hg.1.one hd h2))]
        by_cases q1 : dO x = dO d
        · rw [if_pos q1, ix_in (by omega) (by decide), w1, ifd (nI_eq (by omega) (by omega)), if_neg (show ¬ (1 : Int32) = 0 by decide), ix_in (by omega) (by decide), sb_eq, nI_1]
          have hb := (hrv q).mpr ⟨q0, q1⟩
          by_cases q2 : rN R[i] = n
          · rw [if_pos q2]
            exact kill (by unfold kil; rw [decide_eq_true q2, hb]; rfl)
          · rw [if_neg q2]
            exact skip (by unfold kil; rw [decide_eq_false q2]; rfl)
        · rw [if_neg q1]
          exact plain (by
            cases hb : rivB D f d (rF R[i]) with
            | false => rfl
            | true => exact absurd ((hrv q).mp hb).2 q1)
/-! ===== the reference's value: which row a value goes to ===== -/
/-- a row that counts, of a field of an opened message -/
def pRw (n f : Nat) (r : Rg) : Bool := decide (rN r = n) && decide (rF r = f) && rA r
def rwI (o : Option Nat) : Int32 := match o with
  | none => -1
  | some i => nI i
theorem N_rowOf_L {U s n f : Nat} {T : List Nat} {D : List Dc} {P : List Nat} {d : Dc} {R : List Rg} {σ : SG} (hs : s < 2) (hg : GSc T D) (hd : D[f]? = some d) (h2 : dK d = 2) (hn : n < 400) (hRn : ∀ r ∈ R, rN r < 400) (hR : RT σ s T D P R) : ∀ (j i U1 : Nat), i + j = R.length → j < U1 →
    x_X12_rowOf_L2 U 1101 (nI n) (nI (fx D s f)) σ U1 (nI i) = some (rwI (ff (pRw n f) (R.drop i) i)) := by
  have h700 := hR.2.1
  intro j
  induction j with
  | zero =>
    intro i U1 hi hu
    obtain ⟨V, rfl⟩ : ∃ V, U1 = V + 1 := ⟨U1 - 1, by omega⟩
    rw [x_X12_rowOf_L2, hR.1, if_neg (fun q => by have := (ltI (by omega) (by omega)).mp q; omega), List.drop_eq_nil_of_le (by omega)]
    try rfl
  | succ j ih =>
    intro i U1 hi hu
    obtain ⟨V, rfl⟩ : ∃ V, U1 = V + 1 := ⟨U1 - 1, by omega⟩
    have hil : i < R.length := by omega
    have hr := List.getElem?_eq_getElem hil
    obtain ⟨⟨w1, w2, w3, w4, x, hx, hx2, w5⟩, w6⟩ := hR.2.2 i _ hr
    have hnr := hRn _ (List.getElem_mem hil)
    have nx := ih (i + 1) V (by omega) (by omega)
    rw [x_X12_rowOf_L2, hR.1, if_pos ((ltI (by omega) (by omega)).mpr hil), ix_in (by omega) (by decide), w6, ifz, ix_in (by omega) (by decide), w1, ifd (nI_eq (by omega) (by omega)), ix_in (by omega) (by decide), w2, ifd (fx_inj hg hs hx hx2 hd h2), ff_drop hr]
    unfold x_X12_rowOf_41
    rw [nI_1]
    cases ha : rA R[i] with
    | false =>
      rw [if_neg (show ¬ false = true by decide), if_neg (show ¬ pRw n f R[i] = true from fun z => by unfold pRw at z; rw [ha, Bool.and_false] at z; cases z)]
      exact nx
    | true =>
      rw [if_pos (show true = true from rfl)]
      by_cases q1 : rN R[i] = n
      · rw [if_pos q1]
        by_cases q2 : rF R[i] = f
        · rw [if_pos q2, if_pos (show pRw n f R[i] = true by unfold pRw; rw [decide_eq_true q1, decide_eq_true q2, ha]; rfl)]
          try rfl
        · rw [if_neg q2, if_neg (show ¬ pRw n f R[i] = true from fun z => by unfold pRw at z; rw [decide_eq_false q2, Bool.and_false] at z; cases z)]
          exact nx
      · rw [if_neg q1, if_neg (show ¬ pRw n f R[i] = true from fun z => by unfold pRw at z; rw [decide_eq_false q1] at z; cases z)]
        exact nx
theorem N_rowOf {U s n f : Nat} {T : List Nat} {D : List Dc} {P : List Nat} {d : Dc} {R : List Rg} {σ : SG} (hU : 4000 < U) (hs : s < 2) (hg : GSc T D) (hd : D[f]? = some d) (h2 : dK d = 2) (hn : n < 400) (hRn : ∀ r ∈ R, rN r < 400) (hR : RT σ s T D P R) : x_X12_rowOf U 1101 (nI n) (nI (fx D s f)) σ = some (rwI (ff (pRw n f) R 0)) := by
  have h700 := hR.2.1
  exact N_rowOf_L (U := U) hs hg hd h2 hn hRn hR R.length 0 U (by omega) (by omega)
/-- a new row's cells -/
def NwR (σ : SG) (i n x : Nat) : Prop := sI σ 1165 i = nI n ∧ sI σ 1166 i = nI x ∧ sL σ 1167 i = 0 ∧ sI σ 1168 i = 0 ∧ sI σ 1169 i = 0 ∧ sI σ 1170 i = -1 ∧ sI σ 1171 i = 1
/-- the old rows stand, and there may be one more -/
def RTo (σ : SG) (s : Nat) (T : List Nat) (D : List Dc) (P : List Nat) (R : List Rg) : Prop := R.length ≤ 700 ∧ ∀ i r, R[i]? = some r → RWs σ s T D P i r ∧ sI σ 1171 i = zI (rA r)
theorem N_addRow {s n x : Nat} {T : List Nat} {D : List Dc} {P : List Nat} {R : List Rg} {σ : SG} (hR : RT σ s T D P R) (hl : R.length < 700) : ∃ τ, x_X12_addRow 1101 (nI n) (nI x) σ = some (nI R.length, τ) ∧ RTo τ s T D P R ∧ sI τ 1101 82 = nI (R.length + 1) ∧ NwR τ R.length n x ∧ fP (fun b k => (b = 1101 ∧ k = 82) ∨ (1165 ≤ b ∧ b ≤ 1171 ∧ k = R.length)) σ τ := by
  unfold x_X12_addRow
  rw [hR.1, nI_1, sb_eq, ix_in (by omega) (by decide), sb_eq, ix_in (by omega) (by decide), sb_eq, ix_in (by omega) (by decide), sb_eq, ix_in (by omega) (by decide), sb_eq, ix_in (by omega) (by decide), sb_eq, ix_in (by omega) (by decide), sb_eq, ix_in (by omega) (by decide), sb_eq]
  have fr : fP (fun b k => (b = 1101 ∧ k = 82) ∨ (1165 ≤ b ∧ b ≤ 1171 ∧ k = R.length)) σ (uI (uI (uI (uI (uL (uI (uI (uI σ 1101 82 (nI (R.length + 1))) 1165 R.length (nI n)) 1166 R.length (nI x)) 1167 R.length 0) 1168 R.length 0) 1169 R.length 0) 1170 R.length (-1)) 1171 R.length (vp_nar .boolean 1)) := by
    refine fP_trans (fP_trans (fP_trans (fP_trans (fP_trans (fP_trans (fP_trans (fP_u ?_) (fP_u ?_)) (fP_u ?_)) (fP_L ?_)) (fP_u ?_)) (fP_u ?_)) (fP_u ?_)) (fP_u ?_)
    · exact Or.inl ⟨rfl, rfl⟩
    all_goals exact Or.inr ⟨by decide, by decide, rfl⟩
  refine ⟨_, rfl, ⟨hR.2.1, fun i r hi => ?_⟩, ?_, ⟨?_, ?_, ?_, ?_, ?_, ?_, ?_⟩, fr⟩
  · have hil := (List.getElem?_eq_some_iff.mp hi).1
    obtain ⟨y1, y2⟩ := hR.2.2 i r hi
    exact ⟨RWs_sm y1 (fun b h1 h2 => ⟨(fr b i (by omega)).1, (fr b i (by omega)).2.1⟩), ((fr 1171 i (by omega)).1).trans y2⟩
  · rw [sI_o (Or.inl (by decide)), sI_o (Or.inl (by decide)), sI_o (Or.inl (by decide)), sI_o (Or.inl (by decide)), sI_uL, sI_o (Or.inl (by decide)), sI_o (Or.inl (by decide)), sI_s]
  · rw [sI_o (Or.inl (by decide)), sI_o (Or.inl (by decide)), sI_o (Or.inl (by decide)), sI_o (Or.inl (by decide)), sI_uL, sI_o (Or.inl (by decide)), sI_s]
  · rw [sI_o (Or.inl (by decide)), sI_o (Or.inl (by decide)), sI_o (Or.inl (by decide)), sI_o (Or.inl (by decide)), sI_uL, sI_s]
  · show sL (uL _ 1167 R.length 0) 1167 R.length = 0
    exact sL_s _ _ _ _
  · rw [sI_o (Or.inl (by decide)), sI_o (Or.inl (by decide)), sI_o (Or.inl (by decide)), sI_s]
  · rw [sI_o (Or.inl (by decide)), sI_o (Or.inl (by decide)), sI_s]
  · rw [sI_o (Or.inl (by decide)), sI_s]
  · rw [sI_s]; decide
theorem killR_len {T : List Nat} {D : List Dc} {n f : Nat} {d : Dc} {R : List Rg} : (killR T D n f d R).length = R.length := List.length_map ..
theorem killR_N {T : List Nat} {D : List Dc} {n f : Nat} {d : Dc} {R : List Rg} (h : ∀ r ∈ R, rN r < 400) : ∀ r ∈ killR T D n f d R, rN r < 400 := by
  intro r hr
  obtain ⟨x, hx, rfl⟩ := List.mem_map.mp hr
  have := h x hx
  split <;> exact this
/-- the rows before a new value is told -/
def kR (T : List Nat) (D : List Dc) (n f : Nat) (d : Dc) (R : List Rg) : List Rg := if dR d then R else killR T D n f d R
/-- which row there is already -/
def oldR (T : List Nat) (D : List Dc) (n f : Nat) (d : Dc) (R : List Rg) : Option Nat := if dR d then none else ff (pRw n f) (killR T D n f d R) 0
theorem N_rowFor {U s n f : Nat} {T : List Nat} {D : List Dc} {P : List Nat} {d : Dc} {R : List Rg} {σ : SG} (hU : 4000 < U) (hs : s < 2) (hg : GSc T D) (hd : D[f]? = some d) (h2 : dK d = 2) (hn : n < 400) (hRn : ∀ r ∈ R, rN r < 400) (hS : RS σ s T D) (hR : RT σ s T D P R) (hl : R.length < 700) :
    (oldR T D n f d R = none → ∃ τ, x_X12_rowFor U 1101 (nI n) (nI (fx D s f)) σ = some (nI R.length, τ) ∧ RTo τ s T D P (kR T D n f d R) ∧ sI τ 1101 82 = nI (R.length + 1) ∧ NwR τ R.length n (fx D s f) ∧ fP (fun b k => (b = 1101 ∧ k = 82) ∨ (1165 ≤ b ∧ b ≤ 1171)) σ τ) ∧
    (∀ i, oldR T D n f d R = some i → ∃ τ, x_X12_rowFor U 1101 (nI n) (nI (fx D s f)) σ = some (nI i, τ) ∧ RT τ s T D P (kR T D n f d R) ∧ fP (fun b k => (b = 1101 ∧ k = 82) ∨ (1165 ≤ b ∧ b ≤ 1171)) σ τ) := by
  obtain ⟨f1, _, _, _, _, f6, _, _⟩ := hS.f hd h2
  have h700 := hR.2.1
  unfold x_X12_rowFor oldR kR
  rw [ix_in (by omega) (by decide), f6, ifz]
  cases hRp : dR d with
  | true =>
    rw [if_pos (show true = true from rfl), if_pos (show true = true from rfl), if_pos (show true = true from rfl)]
    refine ⟨fun _ => ?_, fun i h => by cases h⟩
    obtain ⟨τ, t1, t2, t3, t4, t5⟩ := N_addRow (n := n) (x := fx D s f) hR hl
    rw [t1, b2_eq]
    exact ⟨τ, rfl, t2, t3, t4, fP_mono t5 (fun b k z => by omega)⟩
  | false =>
    rw [if_neg (show ¬ false = true by decide), if_neg (show ¬ false = true by decide), if_neg (show ¬ false = true by decide)]
    obtain ⟨υ, u1, u2, u3⟩ := N_kill_L (U := U) (K := fun σ51 => b1 (x_X12_rowOf U 1101 (nI n) (nI (fx D s f)) σ51) fun v53 => if v53 = (-1) then (b2 (x_X12_addRow 1101 (nI n) (nI (fx D s f)) σ51) fun v56 σ57 => some (v56, σ57)) else (some (v53, σ51))) hU hs hg hd h2 hn hRn R.length 0 U σ (by omega) (by omega) hS (by rw [List.take_zero, List.drop_zero]; exact hR)
    have u1' := u1
    rw [show nI 0 = 0 from rfl] at u1'
    rw [u1', N_rowOf hU hs hg hd h2 hn (killR_N hRn) u2, b1_eq]
    have fA' : fP (fun b k => (b = 1101 ∧ k = 82) ∨ (1165 ≤ b ∧ b ≤ 1171)) σ υ := fP_mono u3 (fun b k z => by omega)
    refine ⟨fun h => ?_, fun i h => ?_⟩
    · rw [h, if_pos (show rwI none = -1 from rfl)]
      obtain ⟨τ, t1, t2, t3, t4, t5⟩ := N_addRow (n := n) (x := fx D s f) u2 (by rw [killR_len]; exact hl)
      rw [killR_len] at t1 t3 t4
      rw [t1, b2_eq]
      exact ⟨τ, rfl, t2, t3, t4, fP_trans fA' (fP_mono t5 (fun b k z => by omega))⟩
    · rw [h]
      obtain ⟨r, a1, _⟩ := ff_some _ _ _ h
      have hil := (List.getElem?_eq_some_iff.mp a1).1
      rw [killR_len] at hil
      rw [if_neg (show ¬ rwI (some i) = -1 from fun z => nI_neg (a := i) (by omega) (by rw [show nI i = -1 from z]; decide))]
      exact ⟨υ, rfl, u2, fA'⟩
/-- the reference's value, beyond the schema: rows, unknown bytes, texts, of which row each message is, how deep -/
abbrev Rh : Type := List Rg × List (Nat × List Nat) × List Nat × (Nat → Nat) × (Nat → Nat)
def zR (H : Rh) : List Rg := H.1
def zU (H : Rh) : List (Nat × List Nat) := H.2.1
def zP (H : Rh) : List Nat := H.2.2.1
def zW (H : Rh) : Nat → Nat := H.2.2.2.1
def zD (H : Rh) : Nat → Nat := H.2.2.2.2
def UKs (σ : SG) (P : List Nat) (i : Nat) (u : Nat × List Nat) : Prop := sI σ 1172 i = nI u.1 ∧ ∃ a, sI σ 1173 i = nI a ∧ sI σ 1174 i = nI u.2.length ∧ a + u.2.length ≤ P.length ∧ slc P a (a + u.2.length) = u.2
/-- the rows, as they must be -/
def RwOk (T : List Nat) (D : List Dc) (A : AV) (r : Rg) : Prop := rN r < aC A ∧ ∃ d, isF D (aN A (rN r)) (rF r) d ∧ (fty T D d = 13 → rN r < rK r ∧ rK r < aC A ∧ ftg T D d = some (aN A (rK r)))
def NdOk (σ : SG) (T : List Nat) (D : List Dc) (A : AV) (H : Rh) (n : Nat) : Prop := isM D (aN A n) ∧ sI σ 1160 n = nI (cnt (D.take (aN A n)) 0) ∧ sI σ 1161 n = (if n = 0 then -1 else nI (zW H n)) ∧ sI σ 1162 n = nI (zD H n) ∧ (n ≠ 0 → ∃ r d, (zR H)[zW H n]? = some r ∧ D[rF r]? = some d ∧ fty T D d = 13 ∧ rK r = n ∧ rN r < n)
/-- a row's item -/
def itR (T : List Nat) (D : List Dc) (d : Dc) (r : Rg) : It := if fty T D d = 13 then (0, [], rK r) else if nmr (fty T D d) then (rV r, [], 0) else (0, rT r, 0)
def VRe (T : List Nat) (D : List Dc) (A : AV) (H : Rh) : Prop := ∀ n, n < aC A → (∀ f d, isF D (aN A n) f d → ((zR H).filter (pRw n f)).map (itR T D d) = aE A n f) ∧ (((zU H).filter (fun u => decide (u.1 = n))).map (fun u => u.2)).flatten = aU A n
def VR (σ : SG) (s : Nat) (T : List Nat) (D : List Dc) (A : AV) (H : Rh) : Prop := sI σ 1101 80 = nI s ∧ RT σ s T D (zP H) (zR H) ∧ (sI σ 1101 84 = nI (zP H).length ∧ RI σ 1175 (zP H) ∧ ok8 (zP H) ∧ (zP H).length ≤ 700) ∧ (sI σ 1101 83 = nI (zU H).length ∧ (zU H).length ≤ 350 ∧ ∀ i u, (zU H)[i]? = some u → u.1 < aC A ∧ UKs σ (zP H) i u) ∧ (sI σ 1101 81 = nI (aC A) ∧ 0 < aC A ∧ aC A ≤ 351 ∧ ∀ n, n < aC A → NdOk σ T D A H n) ∧ (∀ r ∈ zR H, RwOk T D A r) ∧ VRe T D A H
/-- what the reference's value may touch -/
def PV (b k : Nat) : Prop := (b = 1101 ∧ (k = 81 ∨ k = 82 ∨ k = 83 ∨ k = 84 ∨ k = 107)) ∨ (1160 ≤ b ∧ b ≤ 1175)
theorem RS_PV {σ τ : SG} {s : Nat} {T : List Nat} {D : List Dc} (h : RS σ s T D) (hf : fP PV σ τ) : RS τ s T D := RS_keep h (fun b k hb => (hf b k (by unfold PV; unfold PKP at hb; omega)).1)
/-! ===== the reference puts numbers and texts ===== -/
theorem pRw_off {n f : Nat} {r : Rg} : pRw n f (off r) = false := by unfold pRw off rA; simp
/-- what of a field counts once rows are put out -/
theorem fil_kill {T : List Nat} {D : List Dc} {n f n' g : Nat} {d : Dc} {R : List Rg} : (killR T D n f d R).filter (pRw n' g) = R.filter (fun r => pRw n' g r && !kil T D n f d r) := by
  unfold killR
  rw [List.filter_map]
  have e : R.filter (pRw n' g ∘ fun r => if kil T D n f d r then off r else r) = R.filter (fun r => pRw n' g r && !kil T D n f d r) := by
    apply List.filter_congr
    intro r _
    show pRw n' g (if kil T D n f d r then off r else r) = _
    cases kil T D n f d r with
    | true => rw [if_pos rfl, pRw_off, Bool.not_true, Bool.and_false]
    | false => rw [if_neg (by decide), Bool.not_false, Bool.and_true]
  rw [e]
  have : ∀ r ∈ R.filter (fun r => pRw n' g r && !kil T D n f d r), (if kil T D n f d r then off r else r) = id r := fun r hr => by
    have := (List.mem_filter.mp hr).2
    rw [Bool.and_eq_true, Bool.not_eq_true'] at this
    rw [this.2]; try rfl
  rw [List.map_congr_left this, List.map_id]
theorem pRw_of {n f : Nat} {r : Rg} (h : pRw n f r = true) : rN r = n ∧ rF r = f := by
  unfold pRw at h
  rw [Bool.and_eq_true, Bool.and_eq_true] at h
  exact ⟨of_decide_eq_true h.1.1, of_decide_eq_true h.1.2⟩
/-- fields that a value leaves alone, that it puts out, and its own -/
theorem fil_kR {T : List Nat} {D : List Dc} {n f n' g : Nat} {d : Dc} {R : List Rg} (hro : dR d = true → dO d = none) : (kR T D n f d R).filter (pRw n' g) = if n' = n then (if g = f then (if dR d then R.filter (pRw n f) else if fty T D d = 13 then R.filter (pRw n f) else []) else if rivB D f d g then [] else R.filter (pRw n g)) else R.filter (pRw n' g) := by
  have same : ∀ (n' g : Nat), (∀ r, pRw n' g r = true → kil T D n f d r = false) → R.filter (fun r => pRw n' g r && !kil T D n f d r) = R.filter (pRw n' g) := fun n' g h => by
    apply List.filter_congr
    intro r _
    cases hp : pRw n' g r with
    | false => rfl
    | true => rw [h r hp]; try rfl
  have gone : ∀ (n' g : Nat), (∀ r, pRw n' g r = true → kil T D n f d r = true) → R.filter (fun r => pRw n' g r && !kil T D n f d r) = [] := fun n' g h => by
    rw [List.filter_eq_nil_iff]
    intro r _
    cases hp : pRw n' g r with
    | false => simp
    | true => rw [h r hp]; simp
  unfold kR
  cases hR : dR d with
  | true =>
    rw [if_pos (show true = true from rfl), if_pos (show true = true from rfl)]
    have hno : ∀ g, rivB D f d g = false := fun g => by
      unfold rivB
      cases D[g]? with
      | none => rfl
      | some x => exact decide_eq_false (fun z => z.1 (hro hR))
    by_cases q : n' = n
    · subst q
      rw [if_pos rfl]
      by_cases q2 : g = f
      · rw [if_pos q2, q2]
      · rw [if_neg q2, hno g, if_neg (show ¬ false = true by decide)]
    · rw [if_neg q]
  | false =>
    rw [if_neg (show ¬ false = true by decide), if_neg (show ¬ false = true by decide), fil_kill]
    by_cases q : n' = n
    · subst q
      rw [if_pos rfl]
      by_cases q2 : g = f
      · subst q2
        rw [if_pos rfl]
        by_cases q3 : fty T D d = 13
        · rw [if_pos q3]
          refine same _ _ (fun r hr => ?_)
          obtain ⟨a1, a2⟩ := pRw_of hr
          unfold kil
          rw [a2, rivB_self, decide_eq_false (show ¬ fty T D d ≠ 13 from fun z => z q3)]; simp
        · rw [if_neg q3]
          refine gone _ _ (fun r hr => ?_)
          obtain ⟨a1, a2⟩ := pRw_of hr
          unfold kil
          rw [decide_eq_true a1, decide_eq_true a2, decide_eq_true q3]; simp
      · rw [if_neg q2]
        cases hb : rivB D f d g with
        | true =>
          rw [if_pos (show true = true from rfl)]
          refine gone _ _ (fun r hr => ?_)
          obtain ⟨a1, a2⟩ := pRw_of hr
          unfold kil
          rw [decide_eq_true a1, a2, hb]; try rfl
        | false =>
          rw [if_neg (show ¬ false = true by decide)]
          refine same _ _ (fun r hr => ?_)
          obtain ⟨a1, a2⟩ := pRw_of hr
          unfold kil
          rw [a2, hb, decide_eq_false q2]; simp
    · rw [if_neg q]
      refine same _ _ (fun r hr => ?_)
      obtain ⟨a1, a2⟩ := pRw_of hr
      unfold kil
      rw [decide_eq_false (fun z => q (a1.symm.trans z))]; try rfl
theorem oldR_no {T : List Nat} {D : List Dc} {n f : Nat} {d : Dc} {R : List Rg} (h13 : fty T D d ≠ 13) : oldR T D n f d R = none := by
  unfold oldR
  cases hR : dR d with
  | true => rfl
  | false =>
    rw [if_neg (show ¬ false = true by decide)]
    refine ff_no _ _ (fun r hr => ?_)
    cases hp : pRw n f r with
    | false => rfl
    | true =>
      exfalso
      have hm : r ∈ (killR T D n f d R).filter (pRw n f) := List.mem_filter.mpr ⟨hr, hp⟩
      have := fil_kR (T := T) (D := D) (n := n) (f := f) (n' := n) (g := f) (d := d) (R := R) (fun z => by rw [hR] at z; cases z)
      unfold kR at this
      rw [hR, if_neg (show ¬ false = true by decide), if_pos rfl, if_pos rfl, if_neg (show ¬ false = true by decide), if_neg h13] at this
      rw [this] at hm
      cases hm
theorem kR_mem {T : List Nat} {D : List Dc} {n f : Nat} {d : Dc} {R : List Rg} {r : Rg} (h : r ∈ kR T D n f d R) : ∃ x ∈ R, rN r = rN x ∧ rF r = rF x ∧ rV r = rV x ∧ rT r = rT x ∧ rK r = rK x := by
  unfold kR at h
  split at h
  · exact ⟨r, h, rfl, rfl, rfl, rfl, rfl⟩
  · obtain ⟨x, hx, rfl⟩ := List.mem_map.mp h
    refine ⟨x, hx, ?_⟩
    split <;> exact ⟨rfl, rfl, rfl, rfl, rfl⟩
theorem kR_len {T : List Nat} {D : List Dc} {n f : Nat} {d : Dc} {R : List Rg} : (kR T D n f d R).length = R.length := by
  unfold kR
  split
  · rfl
  · exact killR_len
theorem kR_get {T : List Nat} {D : List Dc} {n f : Nat} {d : Dc} {R : List Rg} {i : Nat} {r : Rg} (h : R[i]? = some r) : ∃ x, (kR T D n f d R)[i]? = some x ∧ rN x = rN r ∧ rF x = rF r ∧ rK x = rK r := by
  unfold kR
  split
  · exact ⟨r, h, rfl, rfl, rfl⟩
  · unfold killR
    rw [List.getElem?_map, h]
    refine ⟨(if kil T D n f d r then off r else r), rfl, ?_⟩
    split <;> exact ⟨rfl, rfl, rfl⟩
theorem RwOk_kR {T : List Nat} {D : List Dc} {A : AV} {n f : Nat} {d : Dc} {R : List Rg} (h : ∀ r ∈ R, RwOk T D A r) : ∀ r ∈ kR T D n f d R, RwOk T D A r := fun r hr => by
  obtain ⟨x, hx, e1, e2, _, _, e5⟩ := kR_mem hr
  have := h x hx
  unfold RwOk at this ⊢
  rw [e1, e2, e5]; exact this
/-- a value that opens nothing: the rows then -/
theorem VR_put {σ τ : SG} {s n f : Nat} {T : List Nat} {D : List Dc} {A : AV} {H : Rh} {d : Dc} {v v' : Int64} {t t' P' : List Nat} (hg : GSc T D) (h : VR σ s T D A H) (hn : n < aC A) (hF : isF D (aN A n) f d) (h13 : fty T D d ≠ 13) (hl : (zR H).length < 700) (hP' : (sI τ 1101 84 = nI P'.length ∧ RI τ 1175 P' ∧ ok8 P' ∧ P'.length ≤ 700)) (hpl : (zP H).length ≤ P'.length) (hpre : ∀ x y, y ≤ (zP H).length → slc P' x y = slc (zP H) x y)
    (t1 : RTo τ s T D (zP H) (kR T D n f d (zR H))) (t2 : sI τ 1101 82 = nI ((zR H).length + 1)) (t3 : RWs τ s T D P' (zR H).length (n, f, v, t, 0, !noth T D d v' t')) (t4 : sI τ 1171 (zR H).length = zI (!noth T D d v' t')) (hf : ∀ b k, (b = 1101 ∧ (k = 80 ∨ k = 81 ∨ k = 83)) ∨ (1160 ≤ b ∧ b ≤ 1162) ∨ (1172 ≤ b ∧ b ≤ 1174) → sI τ b k = sI σ b k)
    (hnum : nmr (fty T D d) = true → v' = v ∧ t' = []) (htxt : nmr (fty T D d) = false → v' = 0 ∧ t' = t) : VR τ s T D (aPut T D A n f d v' t') (kR T D n f d (zR H) ++ [(n, f, v, t, 0, !noth T D d v' t')], zU H, P', zW H, zD H) := by
  obtain ⟨g1, g2, g3, g4, g5, g6, g7⟩ := h
  have hlen : (kR T D n f d (zR H) ++ [(n, f, v, t, 0, !noth T D d v' t')]).length = (zR H).length + 1 := by rw [List.length_append, kR_len]; try rfl
  have upg : ∀ i r, RWs τ s T D (zP H) i r → RWs τ s T D P' i r := fun i r hr => by
    obtain ⟨a1, a2, a3, ⟨a, a4, a5, a6, a7⟩, a8⟩ := hr
    exact ⟨a1, a2, a3, ⟨a, a4, a5, Nat.le_trans a6 hpl, by rw [hpre _ _ a6]; exact a7⟩, a8⟩
  refine ⟨(hf 1101 80 (by omega)).trans g1, ⟨t2.trans (by rw [← hlen]; rfl), (by show (kR T D n f d (zR H) ++ [(n, f, v, t, 0, !noth T D d v' t')]).length ≤ 700; rw [hlen]; omega), fun i r hi => ?_⟩, hP', ⟨(hf 1101 83 (by omega)).trans g4.1, g4.2.1, fun i u hu => ?_⟩, ⟨(hf 1101 81 (by omega)).trans g5.1, g5.2.1, g5.2.2.1, fun m hm => ?_⟩, fun r hr => ?_, fun m hm => ?_⟩
  · by_cases z : i = (zR H).length
    · subst z
      have hi' : (kR T D n f d (zR H) ++ [(n, f, v, t, 0, !noth T D d v' t')])[(zR H).length]? = some r := hi
      rw [List.getElem?_append_right (by rw [kR_len]; exact Nat.le_refl _), kR_len, Nat.sub_self] at hi'
      simp at hi'
      subst hi'
      exact ⟨t3, t4⟩
    · have hil := (List.getElem?_eq_some_iff.mp hi).1
      have hil' : i < (kR T D n f d (zR H) ++ [(n, f, v, t, 0, !noth T D d v' t')]).length := hil
      rw [hlen] at hil'
      have hi' : (kR T D n f d (zR H) ++ [(n, f, v, t, 0, !noth T D d v' t')])[i]? = some r := hi
      rw [List.getElem?_append_left (by rw [kR_len]; omega)] at hi'
      obtain ⟨y1, y2⟩ := t1.2 i r hi'
      exact ⟨upg i r y1, y2⟩
  · obtain ⟨u1, u2, a, u3, u4, u5, u6⟩ := g4.2.2 i u hu
    exact ⟨u1, (hf 1172 i (by omega)).trans u2, a, (hf 1173 i (by omega)).trans u3, (hf 1174 i (by omega)).trans u4, Nat.le_trans u5 hpl, by show slc P' a (a + u.2.length) = u.2; rw [hpre _ _ u5]; exact u6⟩
  · obtain ⟨n1, n2, n3, n4, n5⟩ := g5.2.2.2 m hm
    refine ⟨n1, (hf 1160 m (by omega)).trans n2, (hf 1161 m (by omega)).trans n3, (hf 1162 m (by omega)).trans n4, fun z => ?_⟩
    obtain ⟨r, d', r1, r2, r3, r4, r5⟩ := n5 z
    obtain ⟨x, x1, x2, x3, x4⟩ := kR_get (T := T) (D := D) (n := n) (f := f) (d := d) r1
    refine ⟨x, d', ?_, by rw [x3]; exact r2, r3, x4.trans r4, by rw [x2]; exact r5⟩
    show (kR T D n f d (zR H) ++ _)[zW H m]? = some x
    rw [List.getElem?_append_left (List.getElem?_eq_some_iff.mp x1).1]; exact x1
  · have hr' : r ∈ kR T D n f d (zR H) ++ [(n, f, v, t, 0, !noth T D d v' t')] := hr
    rcases List.mem_append.mp hr' with z | z
    · exact RwOk_kR g6 r z
    · rw [List.mem_singleton.mp z]
      exact ⟨hn, d, hF, fun y => absurd y h13⟩
  · obtain ⟨k1, k2⟩ := g7 m hm
    refine ⟨fun g x hx => ?_, k2⟩
    show ((kR T D n f d (zR H) ++ [(n, f, v, t, 0, !noth T D d v' t')]).filter (pRw m g)).map (itR T D x) = up (aE A) n _ m g
    rw [List.filter_append, List.map_append, fil_kR (fun z => (hg.fld hF.1 hF.2.1).2.2.2.2.2 z)]
    have last : [(n, f, v, t, 0, !noth T D d v' t')].filter (pRw m g) = if m = n ∧ g = f ∧ noth T D d v' t' = false then [(n, f, v, t, 0, !noth T D d v' t')] else [] := by
      rw [List.filter_cons, List.filter_nil]
      have e : pRw m g (n, f, v, t, 0, !noth T D d v' t') = true ↔ (m = n ∧ g = f ∧ noth T D d v' t' = false) := by
        unfold pRw rN rF rA
        rw [Bool.and_eq_true, Bool.and_eq_true, decide_eq_true_iff, decide_eq_true_iff, Bool.not_eq_true']
        exact ⟨fun z => ⟨z.1.1.symm, z.1.2.symm, z.2⟩, fun z => ⟨⟨z.1.symm, z.2.1.symm⟩, z.2.2⟩⟩
      exact ifd e
    rw [last]
    by_cases q : m = n
    · subst q
      rw [if_pos rfl, up_s]
      show _ = (if g = f then (if dR d then aE A m f ++ [(v', t', 0)] else if noth T D d v' t' then [] else [(v', t', 0)]) else if rivB D f d g then [] else aE A m g)
      by_cases q2 : g = f
      · subst q2
        have : x = d := by have := hx.1; rw [hF.1] at this; exact (Option.some.inj this).symm
        subst this
        have it : itR T D x (m, g, v, t, 0, !noth T D x v' t') = (v', t', 0) := by
          unfold itR
          rw [if_neg h13]
          cases hq : nmr (fty T D x) with
          | true => obtain ⟨w1, w2⟩ := hnum hq; rw [if_pos rfl, w1, w2]; try rfl
          | false => obtain ⟨w1, w2⟩ := htxt hq; rw [if_neg (by decide), w1, w2]; try rfl
        rw [if_pos rfl, if_pos rfl]
        cases hR : dR x with
        | true =>
          have nz : noth T D x v' t' = false := by unfold noth; rw [hR]; try rfl
          rw [if_pos rfl, if_pos rfl, if_pos ⟨rfl, rfl, nz⟩, k1 g x hx]
          show _ ++ [itR T D x _] = _
          rw [it]
        | false =>
          rw [if_neg (show ¬ false = true by decide), if_neg (show ¬ false = true by decide), if_neg h13]
          cases nz : noth T D x v' t' with
          | true => rw [if_neg (fun y => by cases y.2.2), if_pos rfl]; try rfl
          | false =>
            rw [nz] at it
            rw [if_pos ⟨rfl, rfl, rfl⟩, if_neg (show ¬ false = true by decide)]
            show [itR T D x _] = _
            rw [it]
      · rw [if_neg q2, if_neg q2, if_neg (show ¬ (m = m ∧ g = f ∧ noth T D d v' t' = false) from fun y => q2 y.2.1)]
        cases hb : rivB D f d g with
        | true => rfl
        | false =>
          rw [if_neg (show ¬ false = true by decide), if_neg (show ¬ false = true by decide), k1 g x hx]
          show aE A m g ++ [] = _
          rw [List.append_nil]
    · rw [if_neg q, up_o q, if_neg (fun y => q y.1), k1 g x hx]
      show aE A m g ++ [] = _
      rw [List.append_nil]
/-! ===== the reference puts numbers, texts, unknown bytes, messages ===== -/
theorem VR.n400 {σ : SG} {s : Nat} {T : List Nat} {D : List Dc} {A : AV} {H : Rh} (h : VR σ s T D A H) : ∀ r ∈ zR H, rN r < 400 := fun r hr => by
  have h1 := (h.2.2.2.2.2.1 r hr).1
  have h2 := h.2.2.2.2.1.2.2.1
  omega
theorem rf_pv {σ τ : SG} (h : fP (fun b k => (b = 1101 ∧ k = 82) ∨ (1165 ≤ b ∧ b ≤ 1171)) σ τ) : fP PV σ τ := fP_mono h (fun b k z => by unfold PV; omega)
/-- a new row is told its number or its text -/
theorem V_end {σ υ τ : SG} {s n f : Nat} {T : List Nat} {D : List Dc} {A : AV} {H : Rh} {d : Dc} {v v' : Int64} {t t' : List Nat} {a : Nat} (hg : GSc T D) (h : VR σ s T D A H) (hn : n < aC A) (hF : isF D (aN A n) f d) (h13 : fty T D d ≠ 13) (hl : (zR H).length < 700) (u2 : RTo υ s T D (zP H) (kR T D n f d (zR H))) (u3 : sI υ 1101 82 = nI ((zR H).length + 1)) (u4 : NwR υ (zR H).length n (fx D s f)) (u5 : fP (fun b k => (b = 1101 ∧ k = 82) ∨ (1165 ≤ b ∧ b ≤ 1171)) σ υ)
    (h71 : sI τ 1171 (zR H).length = zI (!noth T D d v' t')) (hI : ∀ b k, ((b ≠ 1171 ∧ b ≠ 1168 ∧ b ≠ 1169) ∨ k ≠ (zR H).length) → sI τ b k = sI υ b k) (hLn : ∀ b k, (b ≠ 1167 ∨ k ≠ (zR H).length) → sL τ b k = sL υ b k) (hv : sL τ 1167 (zR H).length = v) (h68 : sI τ 1168 (zR H).length = nI a) (h69 : sI τ 1169 (zR H).length = nI t.length) (hat : a + t.length ≤ (zP H).length) (hst : slc (zP H) a (a + t.length) = t)
    (hnum : nmr (fty T D d) = true → v' = v ∧ t' = []) (htxt : nmr (fty T D d) = false → v' = 0 ∧ t' = t) : VR τ s T D (aPut T D A n f d v' t') (kR T D n f d (zR H) ++ [(n, f, v, t, 0, !noth T D d v' t')], zU H, zP H, zW H, zD H) := by
  obtain ⟨w1, w2, w3, w4, w5, w6, w7⟩ := u4
  obtain ⟨p1, p2, p3, p4⟩ := h.2.2.1
  refine VR_put hg h hn hF h13 hl ⟨(hI 1101 84 (Or.inl (by decide))).trans (((u5 1101 84 (by omega)).1).trans p1), fun i c hi => (hI 1175 i (Or.inl (by decide))).trans (((u5 1175 i (by omega)).1).trans (p2 i c hi)), p3, p4⟩ (Nat.le_refl _) (fun _ _ _ => rfl) ⟨by rw [kR_len]; omega, fun i r hi => ?_⟩ ((hI 1101 82 (Or.inl (by decide))).trans u3) ⟨(hI 1165 _ (Or.inl (by decide))).trans w1, (hI 1166 _ (Or.inl (by decide))).trans w2, hv, ⟨a, h68, h69, hat, hst⟩, d, hF.1, hF.2.1, ?_⟩ h71 (fun b k hb => (hI b k (Or.inl (by omega))).trans ((u5 b k (by omega)).1)) hnum htxt
  · have hil := (List.getElem?_eq_some_iff.mp hi).1
    rw [kR_len] at hil
    obtain ⟨y1, y2⟩ := u2.2 i r hi
    exact ⟨RWs_sm y1 (fun b h1 h2 => ⟨hI b i (Or.inr (by omega)), hLn b i (Or.inr (by omega))⟩), (hI 1171 i (Or.inr (by omega))).trans y2⟩
  · rw [if_neg h13]; exact (hI 1170 _ (Or.inl (by decide))).trans w6
/-- each opened message knows its row -/
def BKp (T : List Nat) (D : List Dc) (R : List Rg) (W : Nat → Nat) : Prop := ∀ i r d, R[i]? = some r → D[rF r]? = some d → fty T D d = 13 → W (rK r) = i
theorem kR_inv {T : List Nat} {D : List Dc} {n f : Nat} {d : Dc} {R : List Rg} {i : Nat} {x : Rg} (h : (kR T D n f d R)[i]? = some x) : ∃ r, R[i]? = some r ∧ rN x = rN r ∧ rF x = rF r ∧ rK x = rK r := by
  unfold kR killR at h
  cases hR : dR d with
  | true => rw [hR, if_pos rfl] at h; exact ⟨x, h, rfl, rfl, rfl⟩
  | false =>
    rw [hR, if_neg (show ¬ false = true by decide), List.getElem?_map] at h
    cases hr : R[i]? with
    | none => rw [hr] at h; cases h
    | some r =>
      rw [hr] at h
      have h' : (if kil T D n f d r = true then off r else r) = x := Option.some.inj h
      subst h'
      refine ⟨r, rfl, ?_, ?_, ?_⟩ <;> (split <;> rfl)
theorem BK_kR {T : List Nat} {D : List Dc} {n f : Nat} {d : Dc} {R : List Rg} {W : Nat → Nat} (h : BKp T D R W) : BKp T D (kR T D n f d R) W := by
  intro i x y hx hy h13
  obtain ⟨r, h1, _, h2, h3⟩ := kR_inv hx
  rw [h3]
  exact h i r y h1 (by rw [← h2]; exact hy) h13
/-- how deep each opened message is -/
def DPk (T : List Nat) (D : List Dc) (lm : Nat) (A : AV) (H : Rh) : Prop := (∀ n, n < aC A → zD H n ≤ lm) ∧ (∀ r ∈ zR H, ∀ d, D[rF r]? = some d → fty T D d = 13 → zD H (rK r) = zD H (rN r) + 1) ∧ BKp T D (zR H) (zW H)
theorem DPk_put {T : List Nat} {D : List Dc} {lm n f : Nat} {A : AV} {H : Rh} {d : Dc} {v v' : Int64} {t t' P : List Nat} {b : Bool} (hd : D[f]? = some d) (h13 : fty T D d ≠ 13) (h : DPk T D lm A H) : DPk T D lm (aPut T D A n f d v' t') (kR T D n f d (zR H) ++ [(n, f, v, t, 0, b)], zU H, P, zW H, zD H) := by
  have last : ∀ (r : Rg) (y : Dc), r = (n, f, v, t, 0, b) → D[rF r]? = some y → fty T D y = 13 → False := fun r y e hy hy13 => by
    rw [e] at hy
    have : D[f]? = some y := hy
    rw [hd] at this
    cases this
    exact h13 hy13
  refine ⟨h.1, fun r hr y hy hy13 => ?_, fun i r y hi hy hy13 => ?_⟩
  · show zD H (rK r) = zD H (rN r) + 1
    rcases List.mem_append.mp hr with q | q
    · obtain ⟨z, hz, e1, e2, _, _, e5⟩ := kR_mem q
      rw [e5, e1]
      exact h.2.1 z hz y (by rw [← e2]; exact hy) hy13
    · exact absurd (last r y (List.mem_singleton.mp q) hy hy13) id
  · have hi' : (kR T D n f d (zR H) ++ [(n, f, v, t, 0, b)])[i]? = some r := hi
    by_cases q : i < (kR T D n f d (zR H)).length
    · rw [List.getElem?_append_left q] at hi'
      exact BK_kR h.2.2 i r y hi' hy hy13
    · rw [List.getElem?_append_right (by omega)] at hi'
      have : r ∈ [((n, f, v, t, 0, b) : Rg)] := List.mem_of_getElem? hi'
      exact absurd (last r y (List.mem_singleton.mp this) hy hy13) id
/-- how many bytes the rows and the unknown fields hold -/
def zT (H : Rh) : Nat := ((zR H).map (fun r => (rT r).length)).sum + ((zU H).map (fun u => u.2.length)).sum
theorem kR_T {T : List Nat} {D : List Dc} {n f : Nat} {d : Dc} {R : List Rg} : (kR T D n f d R).map (fun r => (rT r).length) = R.map (fun r => (rT r).length) := by
  unfold kR killR
  cases dR d with
  | true => rfl
  | false =>
    rw [if_neg (show ¬ false = true by decide), List.map_map]
    apply List.map_congr_left
    intro r _
    show (rT (if kil T D n f d r = true then off r else r)).length = _
    split <;> rfl
theorem zT_put {T : List Nat} {D : List Dc} {n f k : Nat} {d : Dc} {H : Rh} {v : Int64} {t P : List Nat} {b : Bool} {w z : Nat → Nat} : zT (kR T D n f d (zR H) ++ [(n, f, v, t, k, b)], zU H, P, w, z) = zT H + t.length := by
  show ((kR T D n f d (zR H) ++ [(n, f, v, t, k, b)]).map (fun r => (rT r).length)).sum + ((zU H).map (fun u => u.2.length)).sum = zT H + t.length
  rw [List.map_append, kR_T, List.sum_append]
  unfold zT
  show _ + (t.length + 0) + _ = _
  omega
theorem nar0 : vp_nar .boolean 0 = zI false := by decide
theorem V_num {U s n f : Nat} {σ : SG} {T : List Nat} {D : List Dc} {A : AV} {H : Rh} {d : Dc} {x : Int64} (hU4 : 4000 < U) (hs : s < 2) (hg : GSc T D) (hS : RS σ s T D) (h : VR σ s T D A H) (hn : n < aC A) (hF : isF D (aN A n) f d) (h13 : fty T D d ≠ 13) (hnm : nmr (fty T D d) = true) (hl : (zR H).length < 700) :
    ∃ τ H', x_X12_putNumber U 1101 (nI n) (nI (fx D s f)) x σ = some τ ∧ VR τ s T D (aPut T D A n f d x []) H' ∧ fP PV σ τ ∧ sI τ 1101 107 = sI σ 1101 107 ∧ (zR H').length = (zR H).length + 1 ∧ zU H' = zU H ∧ zP H' = zP H ∧ zD H' = zD H ∧ ∀ lm, DPk T D lm A H → (DPk T D lm (aPut T D A n f d x []) H' ∧ zT H' = zT H) := by
  have hn4 : n < 400 := by have := h.2.2.2.2.1.2.2.1; omega
  have hl9 := hg.2.1
  obtain ⟨υ, u1, u2, u3, u4, u5⟩ := (N_rowFor hU4 hs hg hF.1 hF.2.1 hn4 h.n400 hS h.2.1 hl).1 (oldR_no h13)
  unfold x_X12_putNumber
  rw [u1, b2_eq, ix_in (by omega) (by decide), sb_eq]
  have hS2 : RS (uL υ 1167 (zR H).length x) s T D := RS_keep hS (fun b k hb => ((rf_pv u5) b k (by unfold PV; unfold PKP at hb; omega)).1)
  obtain ⟨f1, _, _, _, _, f6, _, f8⟩ := hS2.f hF.1 hF.2.1
  have w := u4
  obtain ⟨w1, w2, w3, w4, w5, w6, w7⟩ := w
  have hlen : (kR T D n f d (zR H) ++ [(n, f, x, [], 0, !noth T D d x [])]).length = (zR H).length + 1 := by rw [List.length_append, kR_len]; try rfl
  have fv : fP PV σ (uL υ 1167 (zR H).length x) := fP_trans (rf_pv u5) (fP_L (Or.inr ⟨by decide, by decide⟩))
  have live : noth T D d x [] = false → ∃ τ H', some (uL υ 1167 (zR H).length x) = some τ ∧ VR τ s T D (aPut T D A n f d x []) H' ∧ fP PV σ τ ∧ sI τ 1101 107 = sI σ 1101 107 ∧ (zR H').length = (zR H).length + 1 ∧ zU H' = zU H ∧ zP H' = zP H ∧ zD H' = zD H ∧ ∀ lm, DPk T D lm A H → (DPk T D lm (aPut T D A n f d x []) H' ∧ zT H' = zT H) := by
    intro nz
    refine ⟨_, _, rfl, V_end (τ := uL υ 1167 (zR H).length x) (v := x) (t := []) (a := 0) hg h hn hF h13 hl u2 u3 u4 u5 (by rw [nz]; exact w7) (fun _ _ _ => rfl) (fun b k hb => sL_o hb) (sL_s _ _ _ _) w4 w5 (Nat.zero_le _) rfl (fun _ => ⟨rfl, rfl⟩) (fun z => by rw [hnm] at z; cases z), fv, (u5 1101 107 (by omega)).1, hlen, rfl, rfl, rfl, fun lm q => ⟨DPk_put hF.1 h13 q, zT_put⟩⟩
  have dead : noth T D d x [] = true → ∃ τ H', some (uI (uL υ 1167 (zR H).length x) 1171 (zR H).length (vp_nar .boolean 0)) = some τ ∧ VR τ s T D (aPut T D A n f d x []) H' ∧ fP PV σ τ ∧ sI τ 1101 107 = sI σ 1101 107 ∧ (zR H').length = (zR H).length + 1 ∧ zU H' = zU H ∧ zP H' = zP H ∧ zD H' = zD H ∧ ∀ lm, DPk T D lm A H → (DPk T D lm (aPut T D A n f d x []) H' ∧ zT H' = zT H) := by
    intro nz
    refine ⟨_, _, rfl, V_end (τ := uI (uL υ 1167 (zR H).length x) 1171 (zR H).length (vp_nar .boolean 0)) (v := x) (t := []) (a := 0) hg h hn hF h13 hl u2 u3 u4 u5 (by rw [sI_s, nz, nar0]; rfl) (fun b k hb => by rw [sI_o (by omega)]; rfl) (fun b k hb => sL_o hb) (sL_s _ _ _ _) (by rw [sI_o (Or.inl (by decide))]; exact w4) (by rw [sI_o (Or.inl (by decide))]; exact w5) (Nat.zero_le _) rfl (fun _ => ⟨rfl, rfl⟩) (fun z => by rw [hnm] at z; cases z), fP_trans fv (fP_u (Or.inr ⟨by decide, by decide⟩)), by rw [sI_o (Or.inl (by decide))]; exact (u5 1101 107 (by omega)).1, hlen, rfl, rfl, rfl, fun lm q => ⟨DPk_put hF.1 h13 q, zT_put⟩⟩
  have nzE : noth T D d x [] = (!dR d && decide (dO d = none) && decide (x = 0)) := by
    unfold noth
    rw [hnm, if_pos rfl, decide_eq_true h13, Bool.and_true]
  by_cases q0 : x = 0
  · rw [if_pos q0, ix_in (by omega) (by decide), f6, ifz, ix_in (by omega) (by decide), f8, ifd (oq_neg hl9), ix_in (by omega) (by decide), sb_eq]
    cases hR : dR d with
    | true => rw [if_pos (show true = true from rfl)]; exact live (by rw [nzE, hR]; rfl)
    | false =>
      rw [if_neg (show ¬ false = true by decide)]
      by_cases q1 : dO d = none
      · rw [if_pos q1]; exact dead (by rw [nzE, hR, decide_eq_true q1, decide_eq_true q0]; rfl)
      · rw [if_neg q1]; exact live (by rw [nzE, hR, decide_eq_false q1]; rfl)
  · rw [if_neg q0]; exact live (by rw [nzE, decide_eq_false q0, Bool.and_false])
/-- a text that stands at the end of the texts -/
theorem V_txt {U s n f a : Nat} {σ : SG} {T : List Nat} {D : List Dc} {A : AV} {H : Rh} {d : Dc} (hU4 : 4000 < U) (hs : s < 2) (hg : GSc T D) (hS : RS σ s T D) (h : VR σ s T D A H) (hn : n < aC A) (hF : isF D (aN A n) f d) (h13 : fty T D d ≠ 13) (hnm : nmr (fty T D d) = false) (hl : (zR H).length < 700) (ha : a ≤ (zP H).length) :
    ∃ τ H', x_X12_putText_34 U 1101 (nI n) (nI (fx D s f)) (nI a) (nI ((zP H).length - a)) σ = some τ ∧ VR τ s T D (aPut T D A n f d 0 (slc (zP H) a (zP H).length)) H' ∧ fP PV σ τ ∧ sI τ 1101 107 = sI σ 1101 107 ∧ (zR H').length = (zR H).length + 1 ∧ zU H' = zU H ∧ zP H' = zP H ∧ zD H' = zD H ∧ ∀ lm, DPk T D lm A H → (DPk T D lm (aPut T D A n f d 0 (slc (zP H) a (zP H).length)) H' ∧ zT H' = zT H + ((zP H).length - a)) := by
  have hn4 : n < 400 := by have := h.2.2.2.2.1.2.2.1; omega
  have hl9 := hg.2.1
  have hp7 := h.2.2.1.2.2.2
  obtain ⟨υ, u1, u2, u3, u4, u5⟩ := (N_rowFor hU4 hs hg hF.1 hF.2.1 hn4 h.n400 hS h.2.1 hl).1 (oldR_no h13)
  unfold x_X12_putText_34
  rw [u1, b2_eq, ix_in (by omega) (by decide), sb_eq, ix_in (by omega) (by decide), sb_eq]
  have fv : fP PV σ (uI (uI υ 1168 (zR H).length (nI a)) 1169 (zR H).length (nI ((zP H).length - a))) := fP_trans (rf_pv u5) (fP_trans (fP_u (Or.inr ⟨by decide, by decide⟩)) (fP_u (Or.inr ⟨by decide, by decide⟩)))
  have hS2 : RS (uI (uI υ 1168 (zR H).length (nI a)) 1169 (zR H).length (nI ((zP H).length - a))) s T D := RS_PV hS fv
  obtain ⟨f1, _, _, _, _, f6, _, f8⟩ := hS2.f hF.1 hF.2.1
  have w := u4
  obtain ⟨w1, w2, w3, w4, w5, w6, w7⟩ := w
  have hlt : (slc (zP H) a (zP H).length).length = (zP H).length - a := slc_len ha (Nat.le_refl _)
  have hst : slc (zP H) a (a + (slc (zP H) a (zP H).length).length) = slc (zP H) a (zP H).length := by rw [hlt, show a + ((zP H).length - a) = (zP H).length by omega]
  have hlen : (kR T D n f d (zR H) ++ [(n, f, 0, slc (zP H) a (zP H).length, 0, !noth T D d 0 (slc (zP H) a (zP H).length))]).length = (zR H).length + 1 := by rw [List.length_append, kR_len]; try rfl
  have live : noth T D d 0 (slc (zP H) a (zP H).length) = false → ∃ τ H', some (uI (uI υ 1168 (zR H).length (nI a)) 1169 (zR H).length (nI ((zP H).length - a))) = some τ ∧ VR τ s T D (aPut T D A n f d 0 (slc (zP H) a (zP H).length)) H' ∧ fP PV σ τ ∧ sI τ 1101 107 = sI σ 1101 107 ∧ (zR H').length = (zR H).length + 1 ∧ zU H' = zU H ∧ zP H' = zP H ∧ zD H' = zD H ∧ ∀ lm, DPk T D lm A H → (DPk T D lm (aPut T D A n f d 0 (slc (zP H) a (zP H).length)) H' ∧ zT H' = zT H + ((zP H).length - a)) := by
    intro nz
    refine ⟨_, _, rfl, V_end (τ := uI (uI υ 1168 (zR H).length (nI a)) 1169 (zR H).length (nI ((zP H).length - a))) (v := 0) (t := slc (zP H) a (zP H).length) (a := a) hg h hn hF h13 hl u2 u3 u4 u5 (by rw [nz, sI_o (Or.inl (by decide)), sI_o (Or.inl (by decide))]; exact w7) (fun b k hb => by rw [sI_o (by omega), sI_o (by omega)]) (fun b k hb => rfl) w3 (by rw [sI_o (Or.inl (by decide)), sI_s]) (by rw [sI_s, hlt]) (by rw [hlt]; omega) hst (fun z => by rw [hnm] at z; cases z) (fun _ => ⟨rfl, rfl⟩), fv, by rw [sI_o (Or.inl (by decide)), sI_o (Or.inl (by decide))]; exact (u5 1101 107 (by omega)).1, hlen, rfl, rfl, rfl, fun lm q => ⟨DPk_put hF.1 h13 q, by rw [zT_put, hlt]⟩⟩
  have dead : noth T D d 0 (slc (zP H) a (zP H).length) = true → ∃ τ H', some (uI (uI (uI υ 1168 (zR H).length (nI a)) 1169 (zR H).length (nI ((zP H).length - a))) 1171 (zR H).length (vp_nar .boolean 0)) = some τ ∧ VR τ s T D (aPut T D A n f d 0 (slc (zP H) a (zP H).length)) H' ∧ fP PV σ τ ∧ sI τ 1101 107 = sI σ 1101 107 ∧ (zR H').length = (zR H).length + 1 ∧ zU H' = zU H ∧ zP H' = zP H ∧ zD H' = zD H ∧ ∀ lm, DPk T D lm A H → (DPk T D lm (aPut T D A n f d 0 (slc (zP H) a (zP H).length)) H' ∧ zT H' = zT H + ((zP H).length - a)) := by
    intro nz
    refine ⟨_, _, rfl, V_end (τ := uI (uI (uI υ 1168 (zR H).length (nI a)) 1169 (zR H).length (nI ((zP H).length - a))) 1171 (zR H).length (vp_nar .boolean 0)) (v := 0) (t := slc (zP H) a (zP H).length) (a := a) hg h hn hF h13 hl u2 u3 u4 u5 (by rw [sI_s, nz, nar0]; rfl) (fun b k hb => by rw [sI_o (by omega), sI_o (by omega), sI_o (by omega)]) (fun b k hb => rfl) w3 (by rw [sI_o (Or.inl (by decide)), sI_o (Or.inl (by decide)), sI_s]) (by rw [sI_o (Or.inl (by decide)), sI_s, hlt]) (by rw [hlt]; omega) hst (fun z => by rw [hnm] at z; cases z) (fun _ => ⟨rfl, rfl⟩), fP_trans fv (fP_u (Or.inr ⟨by decide, by decide⟩)), by rw [sI_o (Or.inl (by decide)), sI_o (Or.inl (by decide)), sI_o (Or.inl (by decide))]; exact (u5 1101 107 (by omega)).1, hlen, rfl, rfl, rfl, fun lm q => ⟨DPk_put hF.1 h13 q, by rw [zT_put, hlt]⟩⟩
  have e0 : slc (zP H) a (zP H).length = [] ↔ (zP H).length - a = 0 := by
    rw [← hlt]
    exact ⟨fun z => by rw [z]; rfl, fun z => List.eq_nil_of_length_eq_zero z⟩
  have nzE : noth T D d 0 (slc (zP H) a (zP H).length) = (!dR d && decide (dO d = none) && decide ((zP H).length - a = 0)) := by
    unfold noth
    rw [hnm, if_neg (show ¬ false = true by decide), decide_eq_true h13, Bool.and_true]
    congr 1
    by_cases z : (zP H).length - a = 0
    · rw [decide_eq_true z, decide_eq_true (e0.mpr z)]
    · rw [decide_eq_false z, decide_eq_false (fun y => z (e0.mp y))]
  have ez : nI ((zP H).length - a) = 0 ↔ (zP H).length - a = 0 := nI_eq (b := 0) (by omega) (by decide)
  rw [ifd ez]
  by_cases q0 : (zP H).length - a = 0
  · rw [if_pos q0, ix_in (by omega) (by decide), f6, ifz, ix_in (by omega) (by decide), f8, ifd (oq_neg hl9), ix_in (by omega) (by decide), sb_eq]
    cases hR : dR d with
    | true => rw [if_pos (show true = true from rfl)]; exact live (by rw [nzE, hR]; rfl)
    | false =>
      rw [if_neg (show ¬ false = true by decide)]
      by_cases q1 : dO d = none
      · rw [if_pos q1]; exact dead (by rw [nzE, hR, decide_eq_true q1, decide_eq_true q0]; rfl)
      · rw [if_neg q1]; exact live (by rw [nzE, hR, decide_eq_false q1]; rfl)
  · rw [if_neg q0]; exact live (by rw [nzE, decide_eq_false q0, Bool.and_false])
/-- the texts grow -/
theorem VR_pool {σ τ : SG} {s : Nat} {T : List Nat} {D : List Dc} {A : AV} {H : Rh} {Q : List Nat} (h : VR σ s T D A H) (h84 : sI τ 1101 84 = nI (zP H ++ Q).length) (hR : RI τ 1175 (zP H ++ Q)) (h8 : ok8 Q) (hl : (zP H ++ Q).length ≤ 700) (hf : fP (fun b k => (b = 1101 ∧ k = 84) ∨ b = 1175) σ τ) : VR τ s T D A (zR H, zU H, zP H ++ Q, zW H, zD H) := by
  obtain ⟨g1, g2, g3, g4, g5, g6, g7⟩ := h
  have ci : ∀ b k, (b ≠ 1101 ∨ k ≠ 84) → b ≠ 1175 → sI τ b k = sI σ b k ∧ sL τ b k = sL σ b k := fun b k h1 h2 => ⟨(hf b k (by omega)).1, (hf b k (by omega)).2.1⟩
  have hpl : (zP H).length ≤ (zP H ++ Q).length := by rw [List.length_append]; omega
  refine ⟨((ci 1101 80 (by omega) (by decide)).1).trans g1, ⟨((ci 1101 82 (by omega) (by decide)).1).trans g2.1, g2.2.1, fun i r hi => ?_⟩, ⟨h84, hR, fun c hc => (List.mem_append.mp hc).elim (g3.2.2.1 c) (h8 c), hl⟩, ⟨((ci 1101 83 (by omega) (by decide)).1).trans g4.1, g4.2.1, fun i u hu => ?_⟩, ⟨((ci 1101 81 (by omega) (by decide)).1).trans g5.1, g5.2.1, g5.2.2.1, fun m hm => ?_⟩, g6, g7⟩
  · obtain ⟨y1, y2⟩ := g2.2.2 i r hi
    obtain ⟨a1, a2, a3, ⟨a, a4, a5, a6, a7⟩, a8⟩ := RWs_sm (τ := τ) y1 (fun b h1 h2 => ci b i (by omega) (by omega))
    exact ⟨⟨a1, a2, a3, ⟨a, a4, a5, Nat.le_trans a6 hpl, by show slc (zP H ++ Q) a (a + (rT r).length) = rT r; rw [slc_pre a6]; exact a7⟩, a8⟩, ((ci 1171 i (by omega) (by decide)).1).trans y2⟩
  · obtain ⟨u1, u2, a, u3, u4, u5, u6⟩ := g4.2.2 i u hu
    exact ⟨u1, ((ci 1172 i (by omega) (by decide)).1).trans u2, a, ((ci 1173 i (by omega) (by decide)).1).trans u3, ((ci 1174 i (by omega) (by decide)).1).trans u4, Nat.le_trans u5 hpl, by show slc (zP H ++ Q) a (a + u.2.length) = u.2; rw [slc_pre u5]; exact u6⟩
  · obtain ⟨n1, n2, n3, n4, n5⟩ := g5.2.2.2 m hm
    exact ⟨n1, ((ci 1160 m (by omega) (by decide)).1).trans n2, ((ci 1161 m (by omega) (by decide)).1).trans n3, ((ci 1162 m (by omega) (by decide)).1).trans n4, n5⟩
/-! ===== the reference keeps unknown bytes, opens messages ===== -/
/-- bytes of the tape are copied to the texts -/
def PLs (σ : SG) (P : List Nat) : Prop := sI σ 1101 84 = nI P.length ∧ RI σ 1175 P
theorem N_cp_unk {U e : Nat} {S : List Nat} (hSl : S.length ≤ 700) (he : e ≤ S.length) : ∀ (j k U1 : Nat) (σ : SG) (P : List Nat), k + j = e → j < U1 → RI σ 1102 S → PLs σ P → P.length + j ≤ 700 →
    ∃ τ, x_X12_addUnknown_L48 U 1101 (nI e) U1 (nI k) σ = some τ ∧ PLs τ (P ++ slc S k e) ∧ fP (fun b k => (b = 1101 ∧ k = 84) ∨ b = 1175) σ τ := by
  intro j
  induction j with
  | zero =>
    intro k U1 σ P hk hu hT hP hl
    obtain ⟨V, rfl⟩ : ∃ V, U1 = V + 1 := ⟨U1 - 1, by omega⟩
    rw [x_X12_addUnknown_L48, if_neg (fun q => by have := (ltI (by omega) (by omega)).mp q; omega), slc_nil (by omega), List.append_nil]
    exact ⟨σ, rfl, hP, fP_refl _ _⟩
  | succ j ih =>
    intro k U1 σ P hk hu hT hP hl
    obtain ⟨V, rfl⟩ : ∃ V, U1 = V + 1 := ⟨U1 - 1, by omega⟩
    have hkS : k < S.length := by omega
    have f1 : fP (fun b k => (b = 1101 ∧ k = 84) ∨ b = 1175) σ (uI (uI σ 1175 P.length (nI S[k])) 1101 84 (nI (P.length + 1))) := fP_trans (fP_u (Or.inr rfl)) (fP_u (Or.inl ⟨rfl, rfl⟩))
    rw [x_X12_addUnknown_L48, if_pos ((ltI (by omega) (by omega)).mpr (by omega)), ix_in (by omega) (by decide), hP.1, ix_in (by omega) (by decide), sb_eq, sb_eq, hT _ _ (List.getElem?_eq_getElem hkS), sI_o (Or.inl (by decide)), hP.1, nI_1, nI_1]
    obtain ⟨τ, t1, t2, t3⟩ := ih (k + 1) V (uI (uI σ 1175 P.length (nI S[k])) 1101 84 (nI (P.length + 1))) (P ++ [S[k]]) (by omega) (by omega) (hT.sm (sm_trans (sm_uI (by decide)) (sm_uI (by decide)))) ⟨by rw [sI_s, List.length_append]; rfl, (RI_snoc hP.2).sm (sm_uI (by decide))⟩ (by rw [List.length_append, List.length_singleton]; omega)
    refine ⟨τ, t1, ?_, fP_trans f1 t3⟩
    rw [slc_cons (show k < e by omega) hkS, List.append_cons]
    exact t2
theorem N_cp_txt {U e : Nat} {S : List Nat} {K : SG → Option SG} {v1 v2 v5 : Int32} (hSl : S.length ≤ 700) (he : e ≤ S.length) : ∀ (j k U1 : Nat) (σ : SG) (P : List Nat), k + j = e → j < U1 → RI σ 1102 S → PLs σ P → P.length + j ≤ 700 →
    ∃ τ, x_X12_takeLength_L141 U 1101 K v1 v2 (nI e) v5 U1 (nI k) σ = K τ ∧ PLs τ (P ++ slc S k e) ∧ fP (fun b k => (b = 1101 ∧ k = 84) ∨ b = 1175) σ τ := by
  intro j
  induction j with
  | zero =>
    intro k U1 σ P hk hu hT hP hl
    obtain ⟨V, rfl⟩ : ∃ V, U1 = V + 1 := ⟨U1 - 1, by omega⟩
    rw [x_X12_takeLength_L141, if_neg (fun q => by have := (ltI (by omega) (by omega)).mp q; omega), slc_nil (by omega), List.append_nil]
    exact ⟨σ, rfl, hP, fP_refl _ _⟩
  | succ j ih =>
    intro k U1 σ P hk hu hT hP hl
    obtain ⟨V, rfl⟩ : ∃ V, U1 = V + 1 := ⟨U1 - 1, by omega⟩
    have hkS : k < S.length := by omega
    have f1 : fP (fun b k => (b = 1101 ∧ k = 84) ∨ b = 1175) σ (uI (uI σ 1175 P.length (nI S[k])) 1101 84 (nI (P.length + 1))) := fP_trans (fP_u (Or.inr rfl)) (fP_u (Or.inl ⟨rfl, rfl⟩))
    rw [x_X12_takeLength_L141, if_pos ((ltI (by omega) (by omega)).mpr (by omega)), ix_in (by omega) (by decide), hP.1, ix_in (by omega) (by decide), sb_eq, sb_eq, hT _ _ (List.getElem?_eq_getElem hkS), sI_o (Or.inl (by decide)), hP.1, nI_1, nI_1]
    obtain ⟨τ, t1, t2, t3⟩ := ih (k + 1) V (uI (uI σ 1175 P.length (nI S[k])) 1101 84 (nI (P.length + 1))) (P ++ [S[k]]) (by omega) (by omega) (hT.sm (sm_trans (sm_uI (by decide)) (sm_uI (by decide)))) ⟨by rw [sI_s, List.length_append]; rfl, (RI_snoc hP.2).sm (sm_uI (by decide))⟩ (by rw [List.length_append, List.length_singleton]; omega)
    refine ⟨τ, t1, ?_, fP_trans f1 t3⟩
    rw [slc_cons (show k < e by omega) hkS, List.append_cons]
    exact t2
theorem ok8_slc {S : List Nat} (h : ok8 S) {a b : Nat} : ok8 (slc S a b) := fun c hc => h c (List.mem_of_mem_drop (List.mem_of_mem_take hc))
theorem V_unk {U s n p e : Nat} {σ : SG} {T S : List Nat} {D : List Dc} {A : AV} {H : Rh} (hU4 : 4000 < U) (h : VR σ s T D A H) (hn : n < aC A) (hT : RI σ 1102 S) (h8 : ok8 S) (hSl : S.length ≤ 700) (hpe : p ≤ e) (he : e ≤ S.length) (hul : (zU H).length < 350) (hpl : (zP H).length + (e - p) ≤ 700) :
    ∃ τ H', x_X12_addUnknown U 1101 (nI n) (nI p) (nI e) σ = some τ ∧ VR τ s T D (aUnk A n (slc S p e)) H' ∧ fP PV σ τ ∧ sI τ 1101 107 = sI σ 1101 107 ∧ zR H' = zR H ∧ (zU H').length = (zU H).length + 1 ∧ (zP H').length = (zP H).length + (e - p) ∧ zD H' = zD H ∧ zW H' = zW H ∧ zT H' = zT H + (e - p) := by
  have hlp := h.2.2.1
  have h83 := h.2.2.2.1.1
  unfold x_X12_addUnknown
  rw [h83, ix_in (by omega) (by decide), sb_eq]
  have e1 : sI (uI σ 1172 (zU H).length (nI n)) 1101 83 = nI (zU H).length := by rw [sI_o (Or.inl (by decide))]; exact h83
  have e2 : sI (uI σ 1172 (zU H).length (nI n)) 1101 84 = nI (zP H).length := by rw [sI_o (Or.inl (by decide))]; exact hlp.1
  rw [e1, ix_in (by omega) (by decide), sb_eq, e2]
  have e3 : sI (uI (uI σ 1172 (zU H).length (nI n)) 1173 (zU H).length (nI (zP H).length)) 1101 83 = nI (zU H).length := by rw [sI_o (Or.inl (by decide))]; exact e1
  rw [e3, ix_in (by omega) (by decide), sb_eq, sb_eq, nI_sub hpe]
  have e4 : sI (uI (uI (uI σ 1172 (zU H).length (nI n)) 1173 (zU H).length (nI (zP H).length)) 1174 (zU H).length (nI (e - p))) 1101 83 = nI (zU H).length := by rw [sI_o (Or.inl (by decide))]; exact e3
  rw [e4, nI_1]
  have F1 : fP (fun b k => (b = 1101 ∧ k = 83) ∨ (1172 ≤ b ∧ b ≤ 1174 ∧ k = (zU H).length)) σ (uI (uI (uI (uI σ 1172 (zU H).length (nI n)) 1173 (zU H).length (nI (zP H).length)) 1174 (zU H).length (nI (e - p))) 1101 83 (nI ((zU H).length + 1))) := by
    refine fP_trans (fP_trans (fP_trans (fP_u ?_) (fP_u ?_)) (fP_u ?_)) (fP_u ?_)
    · exact Or.inr ⟨by decide, by decide, rfl⟩
    · exact Or.inr ⟨by decide, by decide, rfl⟩
    · exact Or.inr ⟨by decide, by decide, rfl⟩
    · exact Or.inl ⟨rfl, rfl⟩
  have c72 : sI (uI (uI (uI (uI σ 1172 (zU H).length (nI n)) 1173 (zU H).length (nI (zP H).length)) 1174 (zU H).length (nI (e - p))) 1101 83 (nI ((zU H).length + 1))) 1172 (zU H).length = nI n := by rw [sI_o (Or.inl (by decide)), sI_o (Or.inl (by decide)), sI_o (Or.inl (by decide)), sI_s]
  have c73 : sI (uI (uI (uI (uI σ 1172 (zU H).length (nI n)) 1173 (zU H).length (nI (zP H).length)) 1174 (zU H).length (nI (e - p))) 1101 83 (nI ((zU H).length + 1))) 1173 (zU H).length = nI (zP H).length := by rw [sI_o (Or.inl (by decide)), sI_o (Or.inl (by decide)), sI_s]
  have c74 : sI (uI (uI (uI (uI σ 1172 (zU H).length (nI n)) 1173 (zU H).length (nI (zP H).length)) 1174 (zU H).length (nI (e - p))) 1101 83 (nI ((zU H).length + 1))) 1174 (zU H).length = nI (e - p) := by rw [sI_o (Or.inl (by decide)), sI_s]
  have c83 : sI (uI (uI (uI (uI σ 1172 (zU H).length (nI n)) 1173 (zU H).length (nI (zP H).length)) 1174 (zU H).length (nI (e - p))) 1101 83 (nI ((zU H).length + 1))) 1101 83 = nI ((zU H).length + 1) := sI_s _ _ _ _
  generalize (uI (uI (uI (uI σ 1172 (zU H).length (nI n)) 1173 (zU H).length (nI (zP H).length)) 1174 (zU H).length (nI (e - p))) 1101 83 (nI ((zU H).length + 1))) = σ4 at *
  obtain ⟨τ, t1, t2, t3⟩ := N_cp_unk (U := U) hSl he (e - p) p U σ4 (zP H) (by omega) (by omega) (fun i c hi => ((F1 1102 i (by omega)).1).trans (hT i c hi)) ⟨((F1 1101 84 (by omega)).1).trans hlp.1, fun i c hi => ((F1 1175 i (by omega)).1).trans (hlp.2.1 i c hi)⟩ (by omega)
  have hsl : (slc S p e).length = e - p := slc_len hpe he
  have hPl : (zP H ++ slc S p e).length = (zP H).length + (e - p) := by rw [List.length_append, hsl]
  have fv : fP PV σ τ := fP_trans (fP_mono F1 (fun b k z => by unfold PV; omega)) (fP_mono t3 (fun b k z => by unfold PV; omega))
  have ci : ∀ b k, (b = 1101 → k ≠ 83 ∧ k ≠ 84) → b ≠ 1175 → (1172 ≤ b ∧ b ≤ 1174 → k ≠ (zU H).length) → sI τ b k = sI σ b k ∧ sL τ b k = sL σ b k := fun b k h1 h2 h3 => ⟨((t3 b k (by omega)).1).trans ((F1 b k (by omega)).1), ((t3 b k (by omega)).2.1).trans ((F1 b k (by omega)).2.1)⟩
  refine ⟨τ, (zR H, zU H ++ [(n, slc S p e)], zP H ++ slc S p e, zW H, zD H), t1, ?_, fv, (ci 1101 107 (by decide) (by decide) (by omega)).1, rfl, by show (zU H ++ _).length = _; rw [List.length_append]; rfl, hPl, rfl, rfl, by show ((zR H).map (fun r => (rT r).length)).sum + ((zU H ++ [(n, slc S p e)]).map (fun u => u.2.length)).sum = zT H + (e - p); rw [List.map_append, List.sum_append, ← hsl]; unfold zT; show _ + (_ + ((slc S p e).length + 0)) = _; omega⟩
  obtain ⟨g1, g2, g3, g4, g5, g6, g7⟩ := h
  have hpl' : (zP H).length ≤ (zP H ++ slc S p e).length := by omega
  refine ⟨((ci 1101 80 (by decide) (by decide) (by omega)).1).trans g1, ⟨((ci 1101 82 (by decide) (by decide) (by omega)).1).trans g2.1, g2.2.1, fun i r hi => ?_⟩, ⟨t2.1, t2.2, fun c hc => (List.mem_append.mp hc).elim (g3.2.2.1 c) (ok8_slc h8 c), by show (zP H ++ slc S p e).length ≤ 700; omega⟩, ⟨?_, ?_, fun i u hu => ?_⟩, ⟨((ci 1101 81 (by decide) (by decide) (by omega)).1).trans g5.1, g5.2.1, g5.2.2.1, fun m hm => ?_⟩, g6, fun m hm => ?_⟩
  · obtain ⟨y1, y2⟩ := g2.2.2 i r hi
    obtain ⟨a1, a2, a3, ⟨a, a4, a5, a6, a7⟩, a8⟩ := RWs_sm (τ := τ) y1 (fun b h1 h2 => ci b i (by omega) (by omega) (by omega))
    exact ⟨⟨a1, a2, a3, ⟨a, a4, a5, Nat.le_trans a6 hpl', by show slc (zP H ++ slc S p e) a (a + (rT r).length) = rT r; rw [slc_pre a6]; exact a7⟩, a8⟩, ((ci 1171 i (by omega) (by decide) (by omega)).1).trans y2⟩
  · rw [(t3 1101 83 (by omega)).1, c83]
    show _ = nI (zU H ++ _).length
    rw [List.length_append]; try rfl
  · show (zU H ++ _).length ≤ 350
    rw [List.length_append]
    show (zU H).length + 1 ≤ 350
    omega
  · have hu' : (zU H ++ [(n, slc S p e)])[i]? = some u := hu
    by_cases z : i = (zU H).length
    · subst z
      rw [List.getElem?_append_right (Nat.le_refl _), Nat.sub_self] at hu'
      simp at hu'
      subst hu'
      refine ⟨hn, ((t3 1172 _ (by omega)).1).trans c72, (zP H).length, ((t3 1173 _ (by omega)).1).trans c73, by rw [(t3 1174 _ (by omega)).1, c74, hsl], by show (zP H).length + (slc S p e).length ≤ (zP H ++ slc S p e).length; rw [hsl, hPl]; omega, ?_⟩
      show slc (zP H ++ slc S p e) (zP H).length ((zP H).length + (slc S p e).length) = slc S p e
      unfold slc
      rw [List.drop_left, List.take_of_length_le]
      rw [Nat.add_sub_cancel_left]
      exact Nat.le_refl _
    · have hil := (List.getElem?_eq_some_iff.mp hu').1
      rw [List.length_append, List.length_singleton] at hil
      rw [List.getElem?_append_left (by omega)] at hu'
      obtain ⟨u1, u2, a, u3, u4, u5, u6⟩ := g4.2.2 i u hu'
      exact ⟨u1, ((ci 1172 i (by omega) (by decide) (by omega)).1).trans u2, a, ((ci 1173 i (by omega) (by decide) (by omega)).1).trans u3, ((ci 1174 i (by omega) (by decide) (by omega)).1).trans u4, Nat.le_trans u5 hpl', by show slc (zP H ++ slc S p e) a (a + u.2.length) = u.2; rw [slc_pre u5]; exact u6⟩
  · obtain ⟨n1, n2, n3, n4, n5⟩ := g5.2.2.2 m hm
    exact ⟨n1, ((ci 1160 m (by omega) (by decide) (by omega)).1).trans n2, ((ci 1161 m (by omega) (by decide) (by omega)).1).trans n3, ((ci 1162 m (by omega) (by decide) (by omega)).1).trans n4, n5⟩
  · obtain ⟨k1, k2⟩ := g7 m hm
    refine ⟨k1, ?_⟩
    show (((zU H ++ [(n, slc S p e)]).filter (fun u => decide (u.1 = m))).map (fun u => u.2)).flatten = up (aU A) n _ m
    rw [List.filter_append, List.map_append, List.flatten_append, k2, List.filter_cons, List.filter_nil]
    by_cases q : n = m
    · subst q
      rw [decide_eq_true rfl, if_pos rfl, up_s]
      simp
    · rw [decide_eq_false q, if_neg (show ¬ false = true by decide), up_o (fun z => q z.symm)]
      simp
/-! ===== the reference opens a message ===== -/
theorem ff_filter {α : Type} {p : α → Bool} : ∀ (L : List α) (k i : Nat), ff p L k = some i → ∃ d K, L[i - k]? = some d ∧ L.filter p = d :: K := by
  intro L
  induction L with
  | nil => intro k i h; cases h
  | cons a L ih =>
    intro k i h
    rw [ff] at h
    cases e : p a with
    | true =>
      rw [e, if_pos rfl] at h
      cases h
      exact ⟨a, L.filter p, by rw [Nat.sub_self]; rfl, by rw [List.filter_cons, e, if_pos rfl]⟩
    | false =>
      rw [e, if_neg (by decide)] at h
      obtain ⟨d, K, h1, h2⟩ := ih (k + 1) i h
      obtain ⟨_, _, _, h3, _⟩ := ff_some _ _ _ h
      exact ⟨d, K, by rw [show i - k = (i - (k + 1)) + 1 by omega]; exact h1, by rw [List.filter_cons, e, if_neg (by decide)]; exact h2⟩
theorem V_msg {U s n f t lm : Nat} {σ : SG} {T : List Nat} {D : List Dc} {A : AV} {H : Rh} {d : Dc} (hU4 : 4000 < U) (hs : s < 2) (hg : GSc T D) (hS : RS σ s T D) (h : VR σ s T D A H) (hdp : DPk T D lm A H) (hlm : lm ≤ 20) (h85 : sI σ 1101 85 = nI lm) (hn : n < aC A) (hF : isF D (aN A n) f d) (h13 : fty T D d = 13) (ht : ftg T D d = some t) (hl : (zR H).length < 700) (hc : aC A < 351) (h107 : sI σ 1101 107 = 0) :
    ∃ τ H', x_X12_putMessage U 1101 (nI n) (nI (fx D s f)) σ = some (nI (aMsg D A n f d t).2, τ) ∧ VR τ s T D (aMsg D A n f d t).1 H' ∧ fP PV σ τ ∧ (sI τ 1101 107 = 0 ↔ zD H n + 1 ≤ lm) ∧ (zD H n + 1 ≤ lm → DPk T D lm (aMsg D A n f d t).1 H' ∧ zD H' (aMsg D A n f d t).2 = zD H n + 1 ∧ zD H' n = zD H n) ∧ (zR H').length ≤ (zR H).length + 1 ∧ zU H' = zU H ∧ zP H' = zP H ∧ aC (aMsg D A n f d t).1 ≤ aC A + 1 ∧ (aMsg D A n f d t).2 < aC (aMsg D A n f d t).1 ∧ (∀ m, m < aC A → zD H' m = zD H m) ∧ zT H' = zT H := by
  have hn4 : n < 400 := by omega
  have hl9 := hg.2.1
  obtain ⟨new, old⟩ := N_rowFor hU4 hs hg hF.1 hF.2.1 hn4 h.n400 hS h.2.1 hl
  have hro : dR d = true → dO d = none := (hg.fld hF.1 hF.2.1).2.2.2.2.2
  obtain ⟨_, hMt⟩ := (show ∃ t', ftg T D d = some t' ∧ isM D t' from (ftg_msg hg hF.1 hF.2.1).1 h13)
  have hMt : isM D t := by
    obtain ⟨t', e1, e2⟩ := (ftg_msg hg hF.1 hF.2.1).1 h13
    rw [ht] at e1
    cases e1
    exact e2
  have H0 := h
  obtain ⟨g1, g2, g3, g4, g5, g6, g7⟩ := h
  have it13 : ∀ r, itR T D d r = (0, [], rK r) := fun r => by unfold itR; rw [if_pos h13]
  unfold x_X12_putMessage x_X12_putMessage_42
  cases ho : oldR T D n f d (zR H) with
  | some i =>
    obtain ⟨υ, u1, u2, u3⟩ := old i ho
    have hRf : dR d = false := by
      unfold oldR at ho
      cases hR : dR d with
      | true => rw [hR] at ho; cases ho
      | false => rfl
    have ho' := ho
    unfold oldR at ho'
    rw [hRf, if_neg (show ¬ false = true by decide)] at ho'
    obtain ⟨r, K, r1, r2⟩ := ff_filter _ _ _ ho'
    rw [Nat.sub_zero] at r1
    have ekR : kR T D n f d (zR H) = killR T D n f d (zR H) := by unfold kR; rw [hRf]; try rfl
    have hil := (List.getElem?_eq_some_iff.mp r1).1
    rw [killR_len] at hil
    have hpr : pRw n f r = true := by
      have : r ∈ (killR T D n f d (zR H)).filter (pRw n f) := by rw [r2]; exact List.mem_cons_self ..
      exact (List.mem_filter.mp this).2
    obtain ⟨hrn, hrf⟩ := pRw_of hpr
    have hEf : aE A n f = (0, [], rK r) :: K.map (itR T D d) := by
      have hk := fil_kR (T := T) (D := D) (n := n) (f := f) (n' := n) (g := f) (d := d) (R := zR H) hro
      rw [if_pos rfl, if_pos rfl, hRf, if_neg (show ¬ false = true by decide), if_pos h13, ekR, r2] at hk
      rw [← (g7 n hn).1 f d hF, ← hk, List.map_cons, it13]
    have hm : aMsg D A n f d t = (aOld D A n f d, rK r) := by unfold aMsg; rw [hRf, hEf]
    rw [ekR] at u2
    have hrow := (u2.2.2 i r r1).1
    obtain ⟨_, _, _, _, d', hd', hd2', h70⟩ := hrow
    rw [hrf, hF.1] at hd'
    cases hd'
    rw [if_pos h13] at h70
    have hmem : r ∈ killR T D n f d (zR H) := List.mem_of_getElem? r1
    have hok := RwOk_kR (T := T) (D := D) (n := n) (f := f) (d := d) g6 r (by rw [ekR]; exact hmem)
    obtain ⟨o1, d2, o2, o3⟩ := hok
    have : d2 = d := by have := o2.1; rw [hrf, hF.1] at this; exact (Option.some.inj this).symm
    subst this
    obtain ⟨o4, o5, o6⟩ := o3 h13
    have hkb : rK r < 2 ^ 31 := by omega
    rw [u1, b2_eq, ix_in (by omega) (by decide), h70, if_neg (show ¬ nI (rK r) = -1 from fun z => nI_neg hkb (by rw [z]; decide)), ix_in (by omega) (by decide), h70, hm]
    have c107 : sI υ 1101 107 = 0 := ((u3 1101 107 (by omega)).1).trans h107
    have hdr : zD H (rK r) = zD H n + 1 := by
      obtain ⟨x, hx, e1, e2, _, _, e5⟩ := kR_mem (T := T) (D := D) (n := n) (f := f) (d := d2) (R := zR H) (r := r) (by rw [ekR]; exact hmem)
      have := hdp.2.1 x hx d2 (by rw [← e2, hrf]; exact hF.1) h13
      rw [e5, ← hrn, e1]; exact this
    have hle : zD H n + 1 ≤ lm := by rw [← hdr]; exact hdp.1 _ o5
    refine ⟨υ, (killR T D n f d2 (zR H), zU H, zP H, zW H, zD H), rfl, ?_, rf_pv u3, ⟨fun _ => hle, fun _ => c107⟩, fun _ => ⟨⟨hdp.1, fun x hx y hy hy13 => ?_, (by have := BK_kR (n := n) (f := f) (d := d2) hdp.2.2; rw [ekR] at this; exact this)⟩, hdr, rfl⟩, by show (killR T D n f d2 (zR H)).length ≤ _; rw [killR_len]; omega, rfl, rfl, Nat.le_succ _, o5, fun _ _ => rfl, by show ((killR T D n f d2 (zR H)).map (fun r => (rT r).length)).sum + _ = zT H; rw [← ekR, kR_T]; rfl⟩
    · refine ⟨((u3 1101 80 (by omega)).1).trans g1, u2, ⟨((u3 1101 84 (by omega)).1).trans g3.1, fun i c hi => ((u3 1175 i (by omega)).1).trans (g3.2.1 i c hi), g3.2.2⟩, ⟨((u3 1101 83 (by omega)).1).trans g4.1, g4.2.1, fun i u hu => ?_⟩, ⟨((u3 1101 81 (by omega)).1).trans g5.1, g5.2.1, g5.2.2.1, fun m hm => ?_⟩, fun x hx => ?_, fun m hm => ⟨fun g x hx => ?_, (g7 m hm).2⟩⟩
      · obtain ⟨w1, w2, a, w3, w4, w5⟩ := g4.2.2 i u hu
        exact ⟨w1, ((u3 1172 i (by omega)).1).trans w2, a, ((u3 1173 i (by omega)).1).trans w3, ((u3 1174 i (by omega)).1).trans w4, w5⟩
      · obtain ⟨n1, n2, n3, n4, n5⟩ := g5.2.2.2 m hm
        refine ⟨n1, ((u3 1160 m (by omega)).1).trans n2, ((u3 1161 m (by omega)).1).trans n3, ((u3 1162 m (by omega)).1).trans n4, fun z => ?_⟩
        obtain ⟨y, d', y1, y2, y3, y4, y5⟩ := n5 z
        obtain ⟨w, w1, w2, w3, w4⟩ := kR_get (T := T) (D := D) (n := n) (f := f) (d := d2) y1
        rw [ekR] at w1
        exact ⟨w, d', w1, by rw [w3]; exact y2, y3, w4.trans y4, by rw [w2]; exact y5⟩
      · exact RwOk_kR (T := T) (D := D) (n := n) (f := f) (d := d2) g6 x (by rw [ekR]; exact hx)
      · have hk := fil_kR (T := T) (D := D) (n := n) (f := f) (n' := m) (g := g) (d := d2) (R := zR H) hro
        rw [ekR] at hk
        show ((killR T D n f d2 (zR H)).filter (pRw m g)).map (itR T D x) = up (aE A) n _ m g
        rw [hk]
        by_cases q : m = n
        · subst q
          rw [if_pos rfl, up_s]
          show _ = (if g ≠ f ∧ rivB D f d2 g then [] else aE A m g)
          by_cases q2 : g = f
          · subst q2
            rw [if_pos rfl, hRf, if_neg (show ¬ false = true by decide), if_pos h13, if_neg (fun z => z.1 rfl)]
            exact (g7 m hm).1 g x hx
          · rw [if_neg q2]
            cases hb : rivB D f d2 g with
            | true => rw [if_pos rfl, if_pos ⟨q2, rfl⟩]; try rfl
            | false => rw [if_neg (show ¬ false = true by decide), if_neg (fun z => by cases z.2)]; exact (g7 m hm).1 g x hx
        · rw [if_neg q, up_o q]
          exact (g7 m hm).1 g x hx
    · obtain ⟨z, hz, e1, e2, _, _, e5⟩ := kR_mem (T := T) (D := D) (n := n) (f := f) (d := d2) (R := zR H) (r := x) (by rw [ekR]; exact hx)
      show zD H (rK x) = zD H (rN x) + 1
      rw [e5, e1]
      exact hdp.2.1 z hz y (by rw [← e2]; exact hy) hy13
  | none =>
    obtain ⟨υ, u1, u2, u3, u4, u5⟩ := new ho
    have w := u4
    obtain ⟨w1, w2, w3, w4, w5, w6, w7⟩ := w
    -- the field opens a new message
    have hm : aMsg D A n f d t = (aNew D A n f d t, aC A) := by
      unfold aMsg
      cases hR : dR d with
      | true => rfl
      | false =>
        have ho' := ho
        unfold oldR at ho'
        rw [hR, if_neg (show ¬ false = true by decide)] at ho'
        have ekR : kR T D n f d (zR H) = killR T D n f d (zR H) := by unfold kR; rw [hR]; try rfl
        have hk := fil_kR (T := T) (D := D) (n := n) (f := f) (n' := n) (g := f) (d := d) (R := zR H) hro
        rw [if_pos rfl, if_pos rfl, hR, if_neg (show ¬ false = true by decide), if_pos h13, ekR] at hk
        have h0 : aE A n f = [] := by
          rw [← (g7 n hn).1 f d hF, ← hk, List.filter_eq_nil_iff.mpr]
          · rfl
          · intro r hr
            rw [ff_none _ _ ho' r hr]; decide
        rw [h0]
    obtain ⟨f1, _, _, _, f5, _, _, _⟩ := hS.f hF.1 hF.2.1
    have hpv := rf_pv u5
    have e19 : sI υ 1119 (fx D s f) = nI (cnt (D.take t) 0) := by
      rw [(u5 1119 _ (by omega)).1, f5, ht]
      unfold refI
      simp only
      obtain ⟨x, hx, hx0⟩ := hMt
      rw [knd_some hx, hx0]
    have e62 : sI υ 1162 n = nI (zD H n) := ((u5 1162 n (by omega)).1).trans (g5.2.2.2 n hn).2.2.2.1
    have e81 : sI υ 1101 81 = nI (aC A) := ((u5 1101 81 (by omega)).1).trans g5.1
    have hdn := hdp.1 n hn
    rw [u1, b2_eq, ix_in (by omega) (by decide), w6, if_pos rfl, ix_in (by omega) (by decide), ix_in hn4 (by decide), e19, e62, nI_1]
    unfold x_X12_addNode
    rw [e81, nI_1, sb_eq, ix_in (by omega) (by decide), sb_eq, ix_in (by omega) (by decide), sb_eq, ix_in (by omega) (by decide), sb_eq]
    have F1 : fP (fun b k => (b = 1101 ∧ k = 81) ∨ (1160 ≤ b ∧ b ≤ 1162 ∧ k = aC A)) υ (uI (uI (uI (uI υ 1101 81 (nI (aC A + 1))) 1160 (aC A) (nI (cnt (D.take t) 0))) 1161 (aC A) (nI (zR H).length)) 1162 (aC A) (nI (zD H n + 1))) := by
      refine fP_trans (fP_trans (fP_trans (fP_u ?_) (fP_u ?_)) (fP_u ?_)) (fP_u ?_)
      · exact Or.inl ⟨rfl, rfl⟩
      all_goals exact Or.inr ⟨by decide, by decide, rfl⟩
    have c81 : sI (uI (uI (uI (uI υ 1101 81 (nI (aC A + 1))) 1160 (aC A) (nI (cnt (D.take t) 0))) 1161 (aC A) (nI (zR H).length)) 1162 (aC A) (nI (zD H n + 1))) 1101 81 = nI (aC A + 1) := by rw [sI_o (Or.inl (by decide)), sI_o (Or.inl (by decide)), sI_o (Or.inl (by decide)), sI_s]
    have c60 : sI (uI (uI (uI (uI υ 1101 81 (nI (aC A + 1))) 1160 (aC A) (nI (cnt (D.take t) 0))) 1161 (aC A) (nI (zR H).length)) 1162 (aC A) (nI (zD H n + 1))) 1160 (aC A) = nI (cnt (D.take t) 0) := by rw [sI_o (Or.inl (by decide)), sI_o (Or.inl (by decide)), sI_s]
    have c61 : sI (uI (uI (uI (uI υ 1101 81 (nI (aC A + 1))) 1160 (aC A) (nI (cnt (D.take t) 0))) 1161 (aC A) (nI (zR H).length)) 1162 (aC A) (nI (zD H n + 1))) 1161 (aC A) = nI (zR H).length := by rw [sI_o (Or.inl (by decide)), sI_s]
    have c62 : sI (uI (uI (uI (uI υ 1101 81 (nI (aC A + 1))) 1160 (aC A) (nI (cnt (D.take t) 0))) 1161 (aC A) (nI (zR H).length)) 1162 (aC A) (nI (zD H n + 1))) 1162 (aC A) = nI (zD H n + 1) := sI_s _ _ _ _
    generalize (uI (uI (uI (uI υ 1101 81 (nI (aC A + 1))) 1160 (aC A) (nI (cnt (D.take t) 0))) 1161 (aC A) (nI (zR H).length)) 1162 (aC A) (nI (zD H n + 1))) = ω at *
    have c85 : sI ω 1101 85 = nI lm := ((F1 1101 85 (by omega)).1).trans (((u5 1101 85 (by omega)).1).trans h85)
    have c107 : sI ω 1101 107 = 0 := ((F1 1101 107 (by omega)).1).trans (((u5 1101 107 (by omega)).1).trans h107)
    rw [c85, ifd (ltI (by omega) (by omega)), hm]
    -- the end, whichever the flag
    have fin : ∀ (ψ : SG), fP (fun b k => b = 1101 ∧ k = 107) ω ψ → (sI ψ 1101 107 = 0 ↔ zD H n + 1 ≤ lm) → ∃ τ H', (ix (nI (zR H).length) 800 fun j20 => sb (uI ψ 1170 j20 (nI (aC A))) fun σ24 => ix (nI (zR H).length) 800 fun j25 => some (sI σ24 1170 j25, σ24)) = some (nI (aC A), τ) ∧ VR τ s T D (aNew D A n f d t) H' ∧ fP PV σ τ ∧ (sI τ 1101 107 = 0 ↔ zD H n + 1 ≤ lm) ∧ (zD H n + 1 ≤ lm → DPk T D lm (aNew D A n f d t) H' ∧ zD H' (aC A) = zD H n + 1 ∧ zD H' n = zD H n) ∧ (zR H').length ≤ (zR H).length + 1 ∧ zU H' = zU H ∧ zP H' = zP H ∧ aC (aNew D A n f d t) ≤ aC A + 1 ∧ aC A < aC (aNew D A n f d t) ∧ (∀ m, m < aC A → zD H' m = zD H m) ∧ zT H' = zT H := by
      intro ψ fψ hψ
      rw [ix_in (by omega) (by decide), sb_eq, ix_in (by omega) (by decide), sI_s]
      have ci : ∀ b k, (b = 1101 → k ≠ 81 ∧ k ≠ 82 ∧ k ≠ 107) → ¬ (1160 ≤ b ∧ b ≤ 1162 ∧ k = aC A) → ¬ (1165 ≤ b ∧ b ≤ 1171) → sI (uI ψ 1170 (zR H).length (nI (aC A))) b k = sI σ b k := fun b k h1 h2 h3 => by
        rw [sI_o (by omega), (fψ b k (by omega)).1, (F1 b k (by omega)).1, (u5 b k (by omega)).1]
      have cu : ∀ b k, 1165 ≤ b → b ≤ 1171 → (b ≠ 1170 ∨ k ≠ (zR H).length) → sI (uI ψ 1170 (zR H).length (nI (aC A))) b k = sI υ b k ∧ sL (uI ψ 1170 (zR H).length (nI (aC A))) b k = sL υ b k := fun b k h1 h2 h3 => by
        refine ⟨?_, ?_⟩
        · rw [sI_o (by omega), (fψ b k (by omega)).1, (F1 b k (by omega)).1]
        · show sL ψ b k = _
          rw [(fψ b k (by omega)).2.1, (F1 b k (by omega)).2.1]
      have cw : ∀ b k, b = 1101 ∧ k = 81 ∨ (1160 ≤ b ∧ b ≤ 1162) → sI (uI ψ 1170 (zR H).length (nI (aC A))) b k = sI ω b k := fun b k h1 => by rw [sI_o (by omega), (fψ b k (by omega)).1]
      have hlen : (kR T D n f d (zR H) ++ [(n, f, 0, [], aC A, true)]).length = (zR H).length + 1 := by rw [List.length_append, kR_len]; try rfl
      refine ⟨_, (kR T D n f d (zR H) ++ [(n, f, 0, [], aC A, true)], zU H, zP H, up (zW H) (aC A) (zR H).length, up (zD H) (aC A) (zD H n + 1)), rfl, ?_, ?_, by rw [sI_o (Or.inl (by decide))]; exact hψ, fun hle => ⟨⟨fun m hm' => ?_, fun r hr y hy hy13 => ?_, fun i r y hi hy hy13 => ?_⟩, up_s _ _ _, up_o (by omega)⟩, by show (kR T D n f d (zR H) ++ _).length ≤ _; rw [hlen]; omega, rfl, rfl, Nat.le_refl _, Nat.lt_succ_self _, fun m hm' => up_o (by omega), by rw [zT_put]; rfl⟩
      · refine ⟨(ci 1101 80 (by decide) (by omega) (by decide)).trans g1, ⟨?_, by show (kR T D n f d (zR H) ++ _).length ≤ 700; rw [hlen]; omega, fun i r hi => ?_⟩, ⟨(ci 1101 84 (by decide) (by omega) (by decide)).trans g3.1, fun i c hi => (ci 1175 i (by omega) (by omega) (by decide)).trans (g3.2.1 i c hi), g3.2.2⟩, ⟨(ci 1101 83 (by decide) (by omega) (by decide)).trans g4.1, g4.2.1, fun i u hu => ?_⟩, ⟨?_, Nat.succ_pos _, by show aC A + 1 ≤ 351; omega, fun m hm' => ?_⟩, fun r hr => ?_, fun m hm' => ?_⟩
        · show _ = nI (kR T D n f d (zR H) ++ _).length
          rw [hlen, sI_o (Or.inl (by decide)), (fψ 1101 82 (by omega)).1, (F1 1101 82 (by omega)).1]; exact u3
        · have hi' : (kR T D n f d (zR H) ++ [(n, f, 0, [], aC A, true)])[i]? = some r := hi
          by_cases z : i = (zR H).length
          · subst z
            rw [List.getElem?_append_right (by rw [kR_len]; exact Nat.le_refl _), kR_len, Nat.sub_self] at hi'
            simp at hi'
            subst hi'
            refine ⟨⟨(cu 1165 _ (by decide) (by decide) (Or.inl (by decide))).1.trans w1, (cu 1166 _ (by decide) (by decide) (Or.inl (by decide))).1.trans w2, (cu 1167 _ (by decide) (by decide) (Or.inl (by decide))).2.trans w3, ⟨0, (cu 1168 _ (by decide) (by decide) (Or.inl (by decide))).1.trans w4, (cu 1169 _ (by decide) (by decide) (Or.inl (by decide))).1.trans w5, Nat.zero_le _, rfl⟩, d, hF.1, hF.2.1, ?_⟩, (cu 1171 _ (by decide) (by decide) (Or.inl (by decide))).1.trans w7⟩
            rw [if_pos h13, sI_s]; try rfl
          · have hil := (List.getElem?_eq_some_iff.mp hi').1
            rw [hlen] at hil
            rw [List.getElem?_append_left (by rw [kR_len]; omega)] at hi'
            obtain ⟨y1, y2⟩ := u2.2 i r hi'
            exact ⟨RWs_sm y1 (fun b h1 h2 => cu b i h1 (by omega) (Or.inr z)), (cu 1171 i (by decide) (by decide) (Or.inr z)).1.trans y2⟩
        · obtain ⟨v1, v2, a, v3, v4, v5⟩ := g4.2.2 i u hu
          exact ⟨Nat.lt_succ_of_lt v1, (ci 1172 i (by omega) (by omega) (by omega)).trans v2, a, (ci 1173 i (by omega) (by omega) (by omega)).trans v3, (ci 1174 i (by omega) (by omega) (by omega)).trans v4, v5⟩
        · rw [cw 1101 81 (Or.inl ⟨rfl, rfl⟩)]; exact c81
        · by_cases z : m = aC A
          · subst z
            refine ⟨?_, ?_, ?_, ?_, fun _ => ⟨(n, f, 0, [], aC A, true), d, ?_, hF.1, h13, rfl, hn⟩⟩
            · show isM D (up (aN A) (aC A) t (aC A)); rw [up_s]; exact hMt
            · show _ = nI (cnt (D.take (up (aN A) (aC A) t (aC A))) 0); rw [up_s, cw 1160 _ (Or.inr (by decide))]; exact c60
            · rw [cw 1161 _ (Or.inr (by decide)), c61, if_neg (by omega)]
              show _ = nI (up (zW H) (aC A) (zR H).length (aC A)); rw [up_s]
            · rw [cw 1162 _ (Or.inr (by decide)), c62]
              show _ = nI (up (zD H) (aC A) (zD H n + 1) (aC A)); rw [up_s]
            · show (kR T D n f d (zR H) ++ [(n, f, 0, [], aC A, true)])[up (zW H) (aC A) (zR H).length (aC A)]? = _
              rw [up_s, List.getElem?_append_right (by rw [kR_len]; exact Nat.le_refl _), kR_len, Nat.sub_self]; try rfl
          · have hm2 : m < aC A := by have : m < aC A + 1 := hm'; omega
            obtain ⟨n1, n2, n3, n4, n5⟩ := g5.2.2.2 m hm2
            refine ⟨?_, ?_, ?_, ?_, fun z0 => ?_⟩
            · show isM D (up (aN A) (aC A) t m); rw [up_o z]; exact n1
            · show _ = nI (cnt (D.take (up (aN A) (aC A) t m)) 0); rw [up_o z]; exact (ci 1160 m (by omega) (by omega) (by omega)).trans n2
            · show _ = (if m = 0 then -1 else nI (up (zW H) (aC A) (zR H).length m)); rw [up_o z]; exact (ci 1161 m (by omega) (by omega) (by omega)).trans n3
            · show _ = nI (up (zD H) (aC A) (zD H n + 1) m); rw [up_o z]; exact (ci 1162 m (by omega) (by omega) (by omega)).trans n4
            · obtain ⟨y, d', y1, y2, y3, y4, y5⟩ := n5 z0
              obtain ⟨x, x1, x2, x3, x4⟩ := kR_get (T := T) (D := D) (n := n) (f := f) (d := d) y1
              refine ⟨x, d', ?_, by rw [x3]; exact y2, y3, x4.trans y4, by rw [x2]; exact y5⟩
              show (kR T D n f d (zR H) ++ _)[up (zW H) (aC A) (zR H).length m]? = some x
              rw [up_o z, List.getElem?_append_left (List.getElem?_eq_some_iff.mp x1).1]; exact x1
        · have hr' : r ∈ kR T D n f d (zR H) ++ [(n, f, 0, [], aC A, true)] := hr
          rcases List.mem_append.mp hr' with z | z
          · obtain ⟨o1, y, o2, o3⟩ := RwOk_kR g6 r z
            refine ⟨Nat.lt_succ_of_lt o1, y, ?_, fun y13 => ?_⟩
            · show isF D (up (aN A) (aC A) t (rN r)) (rF r) y; rw [up_o (by omega)]; exact o2
            · obtain ⟨p1, p2, p3⟩ := o3 y13
              refine ⟨p1, Nat.lt_succ_of_lt p2, ?_⟩
              show _ = some (up (aN A) (aC A) t (rK r)); rw [up_o (by omega)]; exact p3
          · rw [List.mem_singleton.mp z]
            refine ⟨Nat.lt_succ_of_lt hn, d, ?_, fun _ => ⟨hn, Nat.lt_succ_self _, ?_⟩⟩
            · show isF D (up (aN A) (aC A) t n) f d; rw [up_o (by omega)]; exact hF
            · show _ = some (up (aN A) (aC A) t (aC A)); rw [up_s]; exact ht
        · have last : ∀ g, [((n, f, 0, [], aC A, true) : Rg)].filter (pRw m g) = if m = n ∧ g = f then [(n, f, 0, [], aC A, true)] else [] := fun g => by
            rw [List.filter_cons, List.filter_nil]
            have e : pRw m g (n, f, 0, [], aC A, true) = true ↔ (m = n ∧ g = f) := by
              unfold pRw rN rF rA
              rw [Bool.and_true, Bool.and_eq_true, decide_eq_true_iff, decide_eq_true_iff]
              exact ⟨fun z => ⟨z.1.symm, z.2.symm⟩, fun z => ⟨z.1.symm, z.2.symm⟩⟩
            exact ifd e
          by_cases z : m = aC A
          · subst z
            refine ⟨fun g x hx => ?_, ?_⟩
            · show ((kR T D n f d (zR H) ++ [(n, f, 0, [], aC A, true)]).filter (pRw (aC A) g)).map (itR T D x) = up _ (aC A) (fun _ => []) (aC A) g
              rw [up_s, List.filter_append, last, if_neg (fun y => by omega), List.filter_eq_nil_iff.mpr]
              · rfl
              · intro r hr hp
                have := (RwOk_kR g6 r hr).1
                have := (pRw_of hp).1
                omega
            · show _ = up (aU A) (aC A) [] (aC A)
              rw [up_s, List.filter_eq_nil_iff.mpr]
              · rfl
              · intro u hu hp
                obtain ⟨i, hi⟩ := List.getElem?_of_mem hu
                have := (g4.2.2 i u hi).1
                have := of_decide_eq_true hp
                omega
          · have hm2 : m < aC A := by have : m < aC A + 1 := hm'; omega
            obtain ⟨k1, k2⟩ := g7 m hm2
            refine ⟨fun g x hx => ?_, ?_⟩
            · have hx' : isF D (aN A m) g x := by
                have : isF D (up (aN A) (aC A) t m) g x := hx
                rw [up_o z] at this; exact this
              show ((kR T D n f d (zR H) ++ [(n, f, 0, [], aC A, true)]).filter (pRw m g)).map (itR T D x) = up (up (aE A) n _) (aC A) (fun _ => []) m g
              rw [up_o z, List.filter_append, List.map_append, fil_kR hro, last]
              by_cases q : m = n
              · subst q
                rw [if_pos rfl, up_s]
                show _ = (if g = f then aE A m f ++ [(0, [], aC A)] else if rivB D f d g then [] else aE A m g)
                by_cases q2 : g = f
                · subst q2
                  have : x = d := by have := hx'.1; rw [hF.1] at this; exact (Option.some.inj this).symm
                  subst this
                  have e : (if dR x then (zR H).filter (pRw m g) else if fty T D x = 13 then (zR H).filter (pRw m g) else []) = (zR H).filter (pRw m g) := by
                    cases dR x
                    · rw [if_neg (show ¬ false = true by decide), if_pos h13]
                    · rw [if_pos rfl]
                  rw [if_pos rfl, if_pos rfl, e, if_pos ⟨rfl, rfl⟩, k1 g x hx']
                  show _ ++ [itR T D x _] = _
                  rw [it13]; try rfl
                · rw [if_neg q2, if_neg q2, if_neg (show ¬ (m = m ∧ g = f) from fun y => q2 y.2)]
                  cases hb : rivB D f d g with
                  | true => rfl
                  | false =>
                    rw [if_neg (show ¬ false = true by decide), if_neg (show ¬ false = true by decide), k1 g x hx']
                    show aE A m g ++ [] = _
                    rw [List.append_nil]
              · rw [if_neg q, up_o q, if_neg (fun y => q y.1), k1 g x hx']
                show aE A m g ++ [] = _
                rw [List.append_nil]
            · show _ = up (aU A) (aC A) [] m
              rw [up_o z]; exact k2
      · refine fP_trans hpv (fP_trans (fP_mono F1 (fun b k z => by unfold PV; omega)) (fP_trans (fP_mono fψ (fun b k z => by unfold PV; omega)) (fP_u (Or.inr ⟨by decide, by decide⟩))))
      · show up (zD H) (aC A) (zD H n + 1) m ≤ lm
        by_cases z : m = aC A
        · rw [z, up_s]; exact hle
        · rw [up_o z]; exact hdp.1 m (by have : m < aC A + 1 := hm'; omega)
      · show up (zD H) (aC A) (zD H n + 1) (rK r) = up (zD H) (aC A) (zD H n + 1) (rN r) + 1
        have hr' : r ∈ kR T D n f d (zR H) ++ [(n, f, 0, [], aC A, true)] := hr
        rcases List.mem_append.mp hr' with z | z
        · obtain ⟨o1, y', o2, o3⟩ := RwOk_kR g6 r z
          have : y' = y := by have := o2.1; rw [hy] at this; exact (Option.some.inj this).symm
          subst this
          obtain ⟨p1, p2, p3⟩ := o3 hy13
          rw [up_o (by omega), up_o (by omega)]
          obtain ⟨x, hx, e1, e2, _, _, e5⟩ := kR_mem z
          rw [e5, e1]
          exact hdp.2.1 x hx y' (by rw [← e2]; exact hy) hy13
        · rw [List.mem_singleton.mp z]
          show up (zD H) (aC A) (zD H n + 1) (aC A) = up (zD H) (aC A) (zD H n + 1) n + 1
          rw [up_s, up_o (by omega)]
      · have hi' : (kR T D n f d (zR H) ++ [(n, f, 0, [], aC A, true)])[i]? = some r := hi
        show up (zW H) (aC A) (zR H).length (rK r) = i
        by_cases q : i < (kR T D n f d (zR H)).length
        · rw [List.getElem?_append_left q] at hi'
          obtain ⟨o1, y', o2, o3⟩ := RwOk_kR g6 r (List.mem_of_getElem? hi')
          have : y' = y := by have := o2.1; rw [hy] at this; exact (Option.some.inj this).symm
          subst this
          rw [up_o (by have := (o3 hy13).2.1; omega)]
          exact BK_kR hdp.2.2 i r y' hi' hy hy13
        · have hil := (List.getElem?_eq_some_iff.mp hi').1
          rw [hlen] at hil
          rw [kR_len] at q
          rw [List.getElem?_append_right (by rw [kR_len]; omega)] at hi'
          have : r ∈ [((n, f, 0, [], aC A, true) : Rg)] := List.mem_of_getElem? hi'
          rw [List.mem_singleton.mp this]
          show up (zW H) (aC A) (zR H).length (aC A) = i
          rw [up_s]; omega
    by_cases q : lm < zD H n + 1
    · rw [if_pos q, sb_eq, b2_eq]
      exact fin _ (fP_u ⟨rfl, rfl⟩) ⟨fun z => by rw [sI_s] at z; exact absurd z (by decide), fun z => by omega⟩
    · rw [if_neg q, b2_eq]
      exact fin _ (fP_refl _ _) ⟨fun _ => by omega, fun _ => c107⟩
