/-! ===== the reference puts numbers and texts ===== -/
theorem pRw_off {n f : Nat} {r : Rg} : pRw n f (off r) = false := by unfold pRw off rA; simp
/-- what of a field counts once rows are put out -/
theorem fil_kill {T : List Nat} {D : List Dc} {n f n' g : Nat} {d : Dc} {R : List Rg} : (killR T D n f d R).filter (pRw n' g) = R.filter (fun r => pRw n' g r && !kil T D n f d r) := by
  unfold killR
  rw [List.filter_map]
  have e : R.filter (pRw n' g ∘ fun r => if kil T D n f d r then off r else r) = R.filter (fun r => pRw n' g r && !kil T D n f d r) := by
    apply List.filter_congr
    intro r _
    show pRw n' g (if kil T D n f d r then off r else r) = _
    cases kil T D n f d r with
    | true => rw [if_pos rfl, pRw_off, Bool.not_true, Bool.and_false]
    | false => rw [if_neg (by decide), Bool.not_false, Bool.and_true]
  rw [e]
  have : ∀ r ∈ R.filter (fun r => pRw n' g r && !kil T D n f d r), (if kil T D n f d r then off r else r) = id r := fun r hr => by
    have := (List.mem_filter.mp hr).2
    rw [Bool.and_eq_true, Bool.not_eq_true'] at this
    rw [this.2]; rfl
  rw [List.map_congr_left this, List.map_id]
theorem pRw_of {n f : Nat} {r : Rg} (h : pRw n f r = true) : rN r = n ∧ rF r = f := by
  unfold pRw at h
  rw [Bool.and_eq_true, Bool.and_eq_true] at h
  exact ⟨of_decide_eq_true h.1.1, of_decide_eq_true h.1.2⟩
/-- fields that a value leaves alone, that it puts out, and its own -/
theorem fil_kR {T : List Nat} {D : List Dc} {n f n' g : Nat} {d : Dc} {R : List Rg} (hro : dR d = true → dO d = none) : (kR T D n f d R).filter (pRw n' g) = if n' = n then (if g = f then (if dR d then R.filter (pRw n f) else if fty T D d = 13 then R.filter (pRw n f) else []) else if rivB D f d g then [] else R.filter (pRw n g)) else R.filter (pRw n' g) := by
  have same : ∀ (n' g : Nat), (∀ r, pRw n' g r = true → kil T D n f d r = false) → R.filter (fun r => pRw n' g r && !kil T D n f d r) = R.filter (pRw n' g) := fun n' g h => by
    apply List.filter_congr
    intro r _
    cases hp : pRw n' g r with
    | false => rfl
    | true => rw [h r hp]; rfl
  have gone : ∀ (n' g : Nat), (∀ r, pRw n' g r = true → kil T D n f d r = true) → R.filter (fun r => pRw n' g r && !kil T D n f d r) = [] := fun n' g h => by
    rw [List.filter_eq_nil_iff]
    intro r _
    cases hp : pRw n' g r with
    | false => simp
    | true => rw [h r hp]; simp
  unfold kR
  cases hR : dR d with
  | true =>
    rw [if_pos (show true = true from rfl), if_pos (show true = true from rfl)]
    have hno : ∀ g, rivB D f d g = false := fun g => by
      unfold rivB
      cases D[g]? with
      | none => rfl
      | some x => exact decide_eq_false (fun z => z.1 (hro hR))
    by_cases q : n' = n
    · subst q
      rw [if_pos rfl]
      by_cases q2 : g = f
      · rw [if_pos q2, q2]
      · rw [if_neg q2, hno g, if_neg (show ¬ false = true by decide)]
    · rw [if_neg q]
  | false =>
    rw [if_neg (show ¬ false = true by decide), if_neg (show ¬ false = true by decide), fil_kill]
    by_cases q : n' = n
    · subst q
      rw [if_pos rfl]
      by_cases q2 : g = f
      · subst q2
        rw [if_pos rfl]
        by_cases q3 : fty T D d = 13
        · rw [if_pos q3]
          refine same _ _ (fun r hr => ?_)
          obtain ⟨a1, a2⟩ := pRw_of hr
          unfold kil
          rw [a2, rivB_self, decide_eq_false (show ¬ fty T D d ≠ 13 from fun z => z q3)]; simp
        · rw [if_neg q3]
          refine gone _ _ (fun r hr => ?_)
          obtain ⟨a1, a2⟩ := pRw_of hr
          unfold kil
          rw [decide_eq_true a1, decide_eq_true a2, decide_eq_true q3]; simp
      · rw [if_neg q2]
        cases hb : rivB D f d g with
        | true =>
          rw [if_pos (show true = true from rfl)]
          refine gone _ _ (fun r hr => ?_)
          obtain ⟨a1, a2⟩ := pRw_of hr
          unfold kil
          rw [decide_eq_true a1, a2, hb]; rfl
        | false =>
          rw [if_neg (show ¬ false = true by decide)]
          refine same _ _ (fun r hr => ?_)
          obtain ⟨a1, a2⟩ := pRw_of hr
          unfold kil
          rw [a2, hb, decide_eq_false q2]; simp
    · rw [if_neg q]
      refine same _ _ (fun r hr => ?_)
      obtain ⟨a1, a2⟩ := pRw_of hr
      unfold kil
      rw [decide_eq_false (fun z => q (a1.symm.trans z))]; rfl
theorem oldR_no {T : List Nat} {D : List Dc} {n f : Nat} {d : Dc} {R : List Rg} (h13 : fty T D d ≠ 13) : oldR T D n f d R = none := by
  unfold oldR
  cases hR : dR d with
  | true => rfl
  | false =>
    rw [if_neg (show ¬ false = true by decide)]
    refine ff_no _ _ (fun r hr => ?_)
    cases hp : pRw n f r with
    | false => rfl
    | true =>
      exfalso
      have hm : r ∈ (killR T D n f d R).filter (pRw n f) := List.mem_filter.mpr ⟨hr, hp⟩
      have := fil_kR (T := T) (D := D) (n := n) (f := f) (n' := n) (g := f) (d := d) (R := R) (fun z => by rw [hR] at z; cases z)
      unfold kR at this
      rw [hR, if_neg (show ¬ false = true by decide), if_pos rfl, if_pos rfl, if_neg (show ¬ false = true by decide), if_neg h13] at this
      rw [this] at hm
      cases hm
theorem kR_mem {T : List Nat} {D : List Dc} {n f : Nat} {d : Dc} {R : List Rg} {r : Rg} (h : r ∈ kR T D n f d R) : ∃ x ∈ R, rN r = rN x ∧ rF r = rF x ∧ rV r = rV x ∧ rT r = rT x ∧ rK r = rK x := by
  unfold kR at h
  split at h
  · exact ⟨r, h, rfl, rfl, rfl, rfl, rfl⟩
  · obtain ⟨x, hx, rfl⟩ := List.mem_map.mp h
    refine ⟨x, hx, ?_⟩
    split <;> exact ⟨rfl, rfl, rfl, rfl, rfl⟩
theorem kR_len {T : List Nat} {D : List Dc} {n f : Nat} {d : Dc} {R : List Rg} : (kR T D n f d R).length = R.length := by
  unfold kR
  split
  · rfl
  · exact killR_len
theorem kR_get {T : List Nat} {D : List Dc} {n f : Nat} {d : Dc} {R : List Rg} {i : Nat} {r : Rg} (h : R[i]? = some r) : ∃ x, (kR T D n f d R)[i]? = some x ∧ rN x = rN r ∧ rF x = rF r ∧ rK x = rK r := by
  unfold kR
  split
  · exact ⟨r, h, rfl, rfl, rfl⟩
  · unfold killR
    rw [List.getElem?_map, h]
    refine ⟨(if kil T D n f d r then off r else r), rfl, ?_⟩
    split <;> exact ⟨rfl, rfl, rfl⟩
theorem RwOk_kR {T : List Nat} {D : List Dc} {A : AV} {n f : Nat} {d : Dc} {R : List Rg} (h : ∀ r ∈ R, RwOk T D A r) : ∀ r ∈ kR T D n f d R, RwOk T D A r := fun r hr => by
  obtain ⟨x, hx, e1, e2, _, _, e5⟩ := kR_mem hr
  have := h x hx
  unfold RwOk at this ⊢
  rw [e1, e2, e5]; exact this
/-- a value that opens nothing: the rows then -/
theorem VR_put {σ τ : SG} {s n f : Nat} {T : List Nat} {D : List Dc} {A : AV} {H : Rh} {d : Dc} {v v' : Int64} {t t' P' : List Nat} (hg : GSc T D) (h : VR σ s T D A H) (hn : n < aC A) (hF : isF D (aN A n) f d) (h13 : fty T D d ≠ 13) (hl : (zR H).length < 700) (hP' : (sI τ 1101 84 = nI P'.length ∧ RI τ 1175 P' ∧ ok8 P' ∧ P'.length ≤ 700)) (hpl : (zP H).length ≤ P'.length) (hpre : ∀ x y, y ≤ (zP H).length → slc P' x y = slc (zP H) x y)
    (t1 : RTo τ s T D (zP H) (kR T D n f d (zR H))) (t2 : sI τ 1101 82 = nI ((zR H).length + 1)) (t3 : RWs τ s T D P' (zR H).length (n, f, v, t, 0, !noth T D d v' t')) (t4 : sI τ 1171 (zR H).length = zI (!noth T D d v' t')) (hf : ∀ b k, (b = 1101 ∧ (k = 80 ∨ k = 81 ∨ k = 83)) ∨ (1160 ≤ b ∧ b ≤ 1162) ∨ (1172 ≤ b ∧ b ≤ 1174) → sI τ b k = sI σ b k)
    (hnum : nmr (fty T D d) = true → v' = v ∧ t' = []) (htxt : nmr (fty T D d) = false → v' = 0 ∧ t' = t) : VR τ s T D (aPut T D A n f d v' t') (kR T D n f d (zR H) ++ [(n, f, v, t, 0, !noth T D d v' t')], zU H, P', zW H, zD H) := by
  obtain ⟨g1, g2, g3, g4, g5, g6, g7⟩ := h
  have hlen : (kR T D n f d (zR H) ++ [(n, f, v, t, 0, !noth T D d v' t')]).length = (zR H).length + 1 := by rw [List.length_append, kR_len]; rfl
  have upg : ∀ i r, RWs τ s T D (zP H) i r → RWs τ s T D P' i r := fun i r hr => by
    obtain ⟨a1, a2, a3, ⟨a, a4, a5, a6, a7⟩, a8⟩ := hr
    exact ⟨a1, a2, a3, ⟨a, a4, a5, Nat.le_trans a6 hpl, by rw [hpre _ _ a6]; exact a7⟩, a8⟩
  refine ⟨(hf 1101 80 (by omega)).trans g1, ⟨t2.trans (by rw [← hlen]; rfl), (by show (kR T D n f d (zR H) ++ [(n, f, v, t, 0, !noth T D d v' t')]).length ≤ 700; rw [hlen]; omega), fun i r hi => ?_⟩, hP', ⟨(hf 1101 83 (by omega)).trans g4.1, g4.2.1, fun i u hu => ?_⟩, ⟨(hf 1101 81 (by omega)).trans g5.1, g5.2.1, g5.2.2.1, fun m hm => ?_⟩, fun r hr => ?_, fun m hm => ?_⟩
  · by_cases z : i = (zR H).length
    · subst z
      have hi' : (kR T D n f d (zR H) ++ [(n, f, v, t, 0, !noth T D d v' t')])[(zR H).length]? = some r := hi
      rw [List.getElem?_append_right (by rw [kR_len]; exact Nat.le_refl _), kR_len, Nat.sub_self] at hi'
      simp at hi'
      subst hi'
      exact ⟨t3, t4⟩
    · have hil := (List.getElem?_eq_some_iff.mp hi).1
      have hil' : i < (kR T D n f d (zR H) ++ [(n, f, v, t, 0, !noth T D d v' t')]).length := hil
      rw [hlen] at hil'
      have hi' : (kR T D n f d (zR H) ++ [(n, f, v, t, 0, !noth T D d v' t')])[i]? = some r := hi
      rw [List.getElem?_append_left (by rw [kR_len]; omega)] at hi'
      obtain ⟨y1, y2⟩ := t1.2 i r hi'
      exact ⟨upg i r y1, y2⟩
  · obtain ⟨u1, u2, a, u3, u4, u5, u6⟩ := g4.2.2 i u hu
    exact ⟨u1, (hf 1172 i (by omega)).trans u2, a, (hf 1173 i (by omega)).trans u3, (hf 1174 i (by omega)).trans u4, Nat.le_trans u5 hpl, by show slc P' a (a + u.2.length) = u.2; rw [hpre _ _ u5]; exact u6⟩
  · obtain ⟨n1, n2, n3, n4, n5⟩ := g5.2.2.2 m hm
    refine ⟨n1, (hf 1160 m (by omega)).trans n2, (hf 1161 m (by omega)).trans n3, (hf 1162 m (by omega)).trans n4, fun z => ?_⟩
    obtain ⟨r, d', r1, r2, r3, r4, r5⟩ := n5 z
    obtain ⟨x, x1, x2, x3, x4⟩ := kR_get (T := T) (D := D) (n := n) (f := f) (d := d) r1
    refine ⟨x, d', ?_, by rw [x3]; exact r2, r3, x4.trans r4, by rw [x2]; exact r5⟩
    show (kR T D n f d (zR H) ++ _)[zW H m]? = some x
    rw [List.getElem?_append_left (List.getElem?_eq_some_iff.mp x1).1]; exact x1
  · have hr' : r ∈ kR T D n f d (zR H) ++ [(n, f, v, t, 0, !noth T D d v' t')] := hr
    rcases List.mem_append.mp hr' with z | z
    · exact RwOk_kR g6 r z
    · rw [List.mem_singleton.mp z]
      exact ⟨hn, d, hF, fun y => absurd y h13⟩
  · obtain ⟨k1, k2⟩ := g7 m hm
    refine ⟨fun g x hx => ?_, k2⟩
    show ((kR T D n f d (zR H) ++ [(n, f, v, t, 0, !noth T D d v' t')]).filter (pRw m g)).map (itR T D x) = up (aE A) n _ m g
    rw [List.filter_append, List.map_append, fil_kR (fun z => (hg.fld hF.1 hF.2.1).2.2.2.2.2 z)]
    have last : [(n, f, v, t, 0, !noth T D d v' t')].filter (pRw m g) = if m = n ∧ g = f ∧ noth T D d v' t' = false then [(n, f, v, t, 0, !noth T D d v' t')] else [] := by
      rw [List.filter_cons, List.filter_nil]
      have e : pRw m g (n, f, v, t, 0, !noth T D d v' t') = true ↔ (m = n ∧ g = f ∧ noth T D d v' t' = false) := by
        unfold pRw rN rF rA
        rw [Bool.and_eq_true, Bool.and_eq_true, decide_eq_true_iff, decide_eq_true_iff, Bool.not_eq_true']
        exact ⟨fun z => ⟨z.1.1.symm, z.1.2.symm, z.2⟩, fun z => ⟨⟨z.1.symm, z.2.1.symm⟩, z.2.2⟩⟩
      exact ifd e
    rw [last]
    by_cases q : m = n
    · subst q
      rw [if_pos rfl, up_s]
      show _ = (if g = f then (if dR d then aE A m f ++ [(v', t', 0)] else if noth T D d v' t' then [] else [(v', t', 0)]) else if rivB D f d g then [] else aE A m g)
      by_cases q2 : g = f
      · subst q2
        have : x = d := by have := hx.1; rw [hF.1] at this; exact (Option.some.inj this).symm
        subst this
        have it : itR T D x (m, g, v, t, 0, !noth T D x v' t') = (v', t', 0) := by
          unfold itR
          rw [if_neg h13]
          cases hq : nmr (fty T D x) with
          | true => obtain ⟨w1, w2⟩ := hnum hq; rw [if_pos rfl, w1, w2]; rfl
          | false => obtain ⟨w1, w2⟩ := htxt hq; rw [if_neg (by decide), w1, w2]; rfl
        rw [if_pos rfl, if_pos rfl]
        cases hR : dR x with
        | true =>
          have nz : noth T D x v' t' = false := by unfold noth; rw [hR]; rfl
          rw [if_pos rfl, if_pos rfl, if_pos ⟨rfl, rfl, nz⟩, k1 g x hx]
          show _ ++ [itR T D x _] = _
          rw [it]
        | false =>
          rw [if_neg (show ¬ false = true by decide), if_neg (show ¬ false = true by decide), if_neg h13]
          cases nz : noth T D x v' t' with
          | true => rw [if_neg (fun y => by cases y.2.2), if_pos rfl]; rfl
          | false =>
            rw [nz] at it
            rw [if_pos ⟨rfl, rfl, rfl⟩, if_neg (show ¬ false = true by decide)]
            show [itR T D x _] = _
            rw [it]
      · rw [if_neg q2, if_neg q2, if_neg (show ¬ (m = m ∧ g = f ∧ noth T D d v' t' = false) from fun y => q2 y.2.1)]
        cases hb : rivB D f d g with
        | true => rfl
        | false =>
          rw [if_neg (show ¬ false = true by decide), if_neg (show ¬ false = true by decide), k1 g x hx]
          show aE A m g ++ [] = _
          rw [List.append_nil]
    · rw [if_neg q, up_o q, if_neg (fun y => q y.1), k1 g x hx]
      show aE A m g ++ [] = _
      rw [List.append_nil]
