/-! ===== the class puts numbers, texts, unknown bytes, messages ===== -/
/-- only one chain changes -/
theorem VE_put {T : List Nat} {D : List Dc} {G G2 : Gh} {A : AV} {n f : Nat} {d : Dc} {v : Int64} {t : List Nat} {e : Eg} (h : VE T D G A) (hn : n < gC G) (hF : isF D (gN G n) f d) (h13 : fty T D d ≠ 13) (c1 : gC G2 = gC G) (c2 : ∀ m, m < gC G → gN G2 m = gN G m) (c3 : ∀ m, m < gC G → m ≠ n → gL G2 m = gL G m) (hit : itm T D d e = (v, t, 0)) (hlv : live T D d e = !noth T D d v t)
    (cf : flo (some f) (gL G2 n) = if dR d then flo (some f) (gL G n) ++ [e] else [e]) (cg : ∀ g, g ≠ f → flo (some g) (gL G2 n) = if rivB D f d g then [] else flo (some g) (gL G n)) (cn : flo none (gL G2 n) = flo none (gL G n)) : VE T D G2 (aPut T D A n f d v t) := by
  obtain ⟨h1, h2, h3⟩ := h
  refine ⟨c1.trans h1, fun m hm => (c2 m (by omega)).trans (h2 m (by omega)), fun m hm => ?_⟩
  rw [c2 m (by omega)]
  by_cases q : m = n
  · subst q
    obtain ⟨k1, k2⟩ := h3 m hn
    refine ⟨fun g x hx => ?_, by rw [cn]; exact k2⟩
    show _ = up (aE A) m _ m g
    rw [up_s]
    by_cases w : g = f
    · subst w
      have : x = d := by have := hx.1; rw [hF.1] at this; exact (Option.some.inj this).symm
      subst this
      rw [if_pos rfl, cf]
      cases hR : dR x with
      | true =>
        have nz : noth T D x v t = false := by unfold noth; rw [hR]; rfl
        rw [if_pos rfl, if_pos rfl, List.filter_append, List.map_append, k1 g x hx, List.filter_cons, hlv, nz]
        show _ ++ [itm T D x e] = _
        rw [hit]
      | false =>
        rw [if_neg (by decide), if_neg (by decide), List.filter_cons, hlv]
        cases nz : noth T D x v t with
        | true => rfl
        | false =>
          show [itm T D x e] = _
          rw [hit]; rfl
    · rw [if_neg w, cg g w]
      cases rivB D f d g with
      | true => rfl
      | false => exact k1 g x hx
  · rw [c3 m (by omega) q]
    show VEn T D _ _ (up (aE A) n _ m) _
    rw [up_o q]
    exact h3 m (by omega)
theorem flo_un {D : List Dc} {f : Nat} {d : Dc} {L : List Eg} {b : Eg} (hun : unE D L) (hd : D[f]? = some d) (hR : dR d = false) (hb : b ∈ L) (hbf : eF b = some f) : flo (some f) L = [b] := by
  have hu : unE D (flo (some f) L) := hun.sublist List.filter_sublist
  have hm : b ∈ flo (some f) L := flo_mem.mpr ⟨hb, hbf⟩
  cases hL : flo (some f) L with
  | nil => rw [hL] at hm; cases hm
  | cons x K =>
    cases K with
    | nil => rw [hL] at hm; rw [List.mem_singleton.mp hm]
    | cons y K =>
      exfalso
      rw [hL] at hu
      obtain ⟨h1, _⟩ := List.pairwise_cons.mp hu
      have hx : x ∈ flo (some f) L := by rw [hL]; exact List.mem_cons_self ..
      have hy : y ∈ flo (some f) L := by rw [hL]; exact List.mem_cons_of_mem _ (List.mem_cons_self ..)
      have := h1 y (List.mem_cons_self ..) f d (flo_mem.mp hx).2 (flo_mem.mp hy).2 hd
      rw [hR] at this; cases this
theorem nodup_map_inj {L : List Eg} (h : (L.map eA).Nodup) : ∀ {x y : Eg}, x ∈ L → y ∈ L → eA x = eA y → x = y := by
  induction L with
  | nil => intro x y hx; cases hx
  | cons a L ih =>
    intro x y hx hy hxy
    rw [List.map_cons] at h
    obtain ⟨h1, h2⟩ := List.nodup_cons.mp h
    rcases List.mem_cons.mp hx with z | z <;> rcases List.mem_cons.mp hy with w | w
    · rw [z, w]
    · exact absurd (by rw [← z, hxy]; exact List.mem_map_of_mem w) h1
    · exact absurd (by rw [← w, ← hxy]; exact List.mem_map_of_mem z) h1
    · exact ih h2 z w hxy
/-- how chains differ after a put -/
def CPt (D : List Dc) (G G1 : Gh) (n f : Nat) (d : Dc) (a : Nat) : Prop := (∃ e ∈ gL G1 n, eA e = a) ∧ ∀ (v : Int64) (t : List Nat), ∃ e, eV e = v ∧ eT e = t ∧ flo (some f) (setE a v t (gL G1 n)) = (if dR d then flo (some f) (gL G n) ++ [e] else [e]) ∧ (∀ g, g ≠ f → flo (some g) (setE a v t (gL G1 n)) = if rivB D f d g then [] else flo (some g) (gL G n)) ∧ flo none (setE a v t (gL G1 n)) = flo none (gL G n)
theorem VG.fi {σ : SG} {c : Nat} {T : List Nat} {D : List Dc} {G : Gh} (h : VG σ c T D G) {n : Nat} (hn : n < gC G) : ∀ x ∈ gL G n, ∀ g, eF x = some g → ∃ y, isF D (gN G n) g y := fun x hx g hgx => by
  obtain ⟨y, y1, _⟩ := (h.e hn hx).2.2.2.2.2.2 g hgx
  exact ⟨y, y1⟩
theorem rivB_self {D : List Dc} {f : Nat} {d : Dc} : rivB D f d f = false := by
  unfold rivB
  cases D[f]? with
  | none => rfl
  | some x => exact decide_eq_false (fun z => z.2.1 rfl)
theorem drG_sub {D : List Dc} {o : Option Nat} {L : List Eg} : List.Sublist (drG D o L) L := by
  unfold drG
  split
  · exact List.Sublist.refl _
  · split
    · exact List.Sublist.refl _
    · split
      · exact List.Sublist.refl _
      · exact List.filter_sublist
/-- the class puts a value of a field that opens no message: the node, and how chains differ -/
theorem C_put {U c n f : Nat} {σ : SG} {T : List Nat} {D : List Dc} {G : Gh} {d : Dc} (hU : 4000 < U) (hcb : cb c) (hg : GSc T D) (hC : CS σ c T D) (h : VG σ c T D G) (hn : n < gC G) (hu : gU G < 700) (hF : isF D (gN G n) f d) (h13 : fty T D d ≠ 13) :
    ∃ a τ G1, x_X8_put U 389 (some (gH G n)) (ad c (some f)) σ = some (some a, τ) ∧ fV σ τ ∧ CS τ c T D ∧ VG τ c T D G1 ∧ 391 ≤ a ∧ a < 1091 ∧ gC G1 = gC G ∧ gN G1 = gN G ∧ gH G1 = gH G ∧ (∀ m, m ≠ n → gL G1 m = gL G m) ∧ gP G1 = gP G ∧ gU G1 ≤ gU G + 1 ∧ CPt D G G1 n f d a := by
  obtain ⟨a, τ, p1, p2, p3, p4, p5⟩ := X8_put (o := some f) hU hcb hg hC h hn hu (fun g hg' => by cases hg'; exact ⟨d, hF⟩)
  have hv := h.2.2.2.2.2.2.2.2.2 n hn
  have fi := h.fi hn
  have hfd : ∀ x ∈ gL G n, ∀ g, eF x = some g → ∃ y, D[g]? = some y := fun x hx g hgx => by obtain ⟨y, hy⟩ := fi x hx g hgx; exact ⟨y, hy.1⟩
  have hdr := flo_dr (L := gL G n) hF.1 hfd
  have hsub : List.Sublist (drG D (some f) (gL G n)) (gL G n) := drG_sub
  have hmt : mtO T D (some f) = none := by unfold mtO; simp only; rw [hF.1]; simp only; rw [if_neg h13]
  have hf1 : flo (some f) (drG D (some f) (gL G n)) = flo (some f) (gL G n) := by rw [hdr (some f)]; simp only; rw [rivB_self]; rfl
  cases hr : ruE D (some f) (drG D (some f) (gL G n)) with
  | some b =>
    obtain ⟨q1, q2⟩ := p4 b hr
    have hr' := hr
    unfold ruE at hr'
    cases hbl : (twE D (some f) (drG D (some f) (gL G n))).getLast? with
    | none => rw [hbl] at hr'; cases hr'
    | some b' =>
      rw [hbl] at hr'
      simp only at hr'
      by_cases q : eF b' = some f ∧ (∀ d, D[f]? = some d → dR d = false)
      · rw [if_pos q] at hr'
        cases hr'
        obtain ⟨Z, hZ⟩ := List.getLast?_eq_some_iff.mp hbl
        have hb1 : b ∈ drG D (some f) (gL G n) := by rw [← tdE D (some f) (drG D (some f) (gL G n)), hZ]; simp
        have hbL := hsub.subset hb1
        have hR := q.2 d hF.1
        have fb : flo (some f) (drG D (some f) (gL G n)) = [b] := flo_un (hv.2.2.2.2.1.sublist hsub) hF.1 hR hb1 q.1
        have hbe := h.e hn hbL
        have b0 := hbe.1
        have b1' := hbe.2.1
        refine ⟨a, τ, _, p1, p2, p3, q2, by omega, by omega, rfl, rfl, rfl, fun m hm => up_o hm, rfl, Nat.le_succ _, ⟨b, ?_, q1.symm⟩, fun v t => ⟨(eA b, eF b, eK b, v, t), rfl, rfl, ?_, fun g hgf => ?_, ?_⟩⟩
        · show b ∈ up (gL G) n _ n
          rw [up_s]; exact hb1
        · show flo (some f) (setE a v t (up (gL G) n _ n)) = _
          rw [up_s, flo_set, fb, hR, q1]
          show [if eA b = eA b then _ else _] = _
          rw [if_pos rfl]; rfl
        · show flo (some g) (setE a v t (up (gL G) n _ n)) = _
          rw [up_s, flo_set, hdr (some g)]
          simp only
          cases rivB D f d g with
          | true => rfl
          | false =>
            simp only [Bool.false_eq_true, if_false]
            refine setE_no (fun e he => ?_)
            obtain ⟨e1, e2⟩ := flo_mem.mp he
            rw [q1]
            intro z
            have : e = b := by
              have hnd := hv.2.2.2.1
              exact nodup_map_inj hnd e1 hbL z
            rw [this, q.1] at e2
            exact hgf (Option.some.inj e2).symm
        · show flo none (setE a v t (up (gL G) n _ n)) = _
          rw [up_s, flo_set, hdr none]
          refine setE_no (fun e he => ?_)
          obtain ⟨e1, e2⟩ := flo_mem.mp he
          rw [q1]
          intro z
          have : e = b := nodup_map_inj hv.2.2.2.1 e1 hbL z
          rw [this, q.1] at e2
          cases e2
      · rw [if_neg q] at hr'; cases hr'
  | none =>
    obtain ⟨q1, q2⟩ := p5 hr
    rw [hmt] at q2
    have hsr : srE D (drG D (some f) (gL G n)) := hv.2.2.1.sublist hsub
    have fresh : ∀ e ∈ drG D (some f) (gL G n), eA e ≠ 391 + gU G := fun e he => by have := (h.e hn (hsub.subset he)).2.1; omega
    have gl : gL (gNew D (gSet G n (drG D (some f) (gL G n))) n (some f) none) n = insE D (391 + gU G, some f, 0, 0, []) (drG D (some f) (gL G n)) := by
      show up (up (gL G) n (drG D (some f) (gL G n))) n (insE D (391 + gU G, some f, 0, 0, []) (up (gL G) n (drG D (some f) (gL G n)) n)) n = _
      rw [up_s, up_s]
    refine ⟨a, τ, _, p1, p2, p3, q2, by omega, by omega, rfl, rfl, rfl, fun m hm => (up_o hm).trans (up_o hm), rfl, Nat.le_refl _, ⟨(391 + gU G, some f, 0, 0, []), by rw [gl]; exact mem_insE.mpr (Or.inl rfl), q1.symm⟩, fun v t => ⟨(391 + gU G, some f, 0, v, t), rfl, rfl, ?_, fun g hgf => ?_, ?_⟩⟩
    · rw [gl, flo_set, flo_ins hsr, if_pos (show eF (391 + gU G, some f, 0, 0, []) = some f from rfl), setE_app, q1, setE_no (fun e he => fresh e (flo_mem.mp he).1), hf1]
      have e1 : setE (391 + gU G) v t [(391 + gU G, some f, 0, 0, [])] = [(391 + gU G, some f, 0, v, t)] := by
        show [if 391 + gU G = 391 + gU G then _ else _] = _
        rw [if_pos rfl]; rfl
      rw [e1]
      cases hR : dR d with
      | true => rfl
      | false =>
        -- it stands once, and is not there
        have h0 : flo (some f) (gL G n) = [] := by
          rw [← hf1]
          refine flo_nil (fun e he hef => ?_)
          obtain ⟨b, b1', b2', _⟩ := tw_last hg hsr hF (fun x hx => fi x (hsub.subset hx)) he hef
          unfold ruE at hr
          rw [b1'] at hr
          simp only at hr
          rw [if_pos ⟨b2', fun d' hd' => by rw [hF.1] at hd'; cases hd'; exact hR⟩] at hr
          cases hr
        rw [h0]; rfl
    · rw [gl, flo_set, flo_ins hsr, if_neg (show ¬ eF (391 + gU G, some f, 0, 0, []) = some g from fun z => hgf (Option.some.inj z).symm), q1, setE_no (fun e he => fresh e (flo_mem.mp he).1), hdr (some g)]
    · rw [gl, flo_set, flo_ins hsr, if_neg (show ¬ eF (391 + gU G, some f, 0, 0, []) = none from fun z => by cases z), q1, setE_no (fun e he => fresh e (flo_mem.mp he).1), hdr none]
