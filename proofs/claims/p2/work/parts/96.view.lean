/-! ===== a value, as both see it; the class's side ===== -/
abbrev It : Type := Int64 × List Nat × Nat
/-- a value: the message of each opened one, how many, what each field holds, unknown bytes -/
abbrev AV : Type := (Nat → Nat) × Nat × (Nat → Nat → List It) × (Nat → List Nat)
def aN (A : AV) : Nat → Nat := A.1
def aC (A : AV) : Nat := A.2.1
def aE (A : AV) : Nat → Nat → List It := A.2.2.1
def aU (A : AV) : Nat → List Nat := A.2.2.2
/-- a value that counts as none -/
def noth (T : List Nat) (D : List Dc) (d : Dc) (v : Int64) (t : List Nat) : Bool := !dR d && decide (dO d = none) && decide (fty T D d ≠ 13) && (if nmr (fty T D d) then decide (v = 0) else decide (t = []))
def rivB (D : List Dc) (f : Nat) (d : Dc) (g : Nat) : Bool := match D[g]? with
  | none => false
  | some x => decide (dO d ≠ none ∧ g ≠ f ∧ dO x = dO d)
/-- one more value of a field -/
def aPut (T : List Nat) (D : List Dc) (A : AV) (n f : Nat) (d : Dc) (v : Int64) (t : List Nat) : AV := (aN A, aC A, up (aE A) n (fun g => if g = f then (if dR d then aE A n f ++ [(v, t, 0)] else if noth T D d v t then [] else [(v, t, 0)]) else if rivB D f d g then [] else aE A n g), aU A)
/-- a message is opened that was not there -/
def aNew (D : List Dc) (A : AV) (n f : Nat) (d : Dc) (t : Nat) : AV := (up (aN A) (aC A) t, aC A + 1, up (up (aE A) n (fun g => if g = f then aE A n f ++ [(0, [], aC A)] else if rivB D f d g then [] else aE A n g)) (aC A) (fun _ => []), up (aU A) (aC A) [])
/-- a message is opened again -/
def aOld (D : List Dc) (A : AV) (n f : Nat) (d : Dc) : AV := (aN A, aC A, up (aE A) n (fun g => if g ≠ f ∧ rivB D f d g then [] else aE A n g), aU A)
def aUnk (A : AV) (n : Nat) (t : List Nat) : AV := (aN A, aC A, aE A, up (aU A) n (aU A n ++ t))
def flo (o : Option Nat) (L : List Eg) : List Eg := L.filter (fun e => decide (eF e = o))
def itm (T : List Nat) (D : List Dc) (d : Dc) (e : Eg) : It := if fty T D d = 13 then (0, [], eK e) else if nmr (fty T D d) then (eV e, [], 0) else (0, eT e, 0)
def live (T : List Nat) (D : List Dc) (d : Dc) (e : Eg) : Bool := !noth T D d (eV e) (eT e)
def VEn (T : List Nat) (D : List Dc) (m : Nat) (L : List Eg) (E : Nat → List It) (u : List Nat) : Prop := (∀ f d, isF D m f d → ((flo (some f) L).filter (live T D d)).map (itm T D d) = E f) ∧ ((flo none L).map eT).flatten = u
def VE (T : List Nat) (D : List Dc) (G : Gh) (A : AV) : Prop := gC G = aC A ∧ (∀ n, n < gC G → gN G n = aN A n) ∧ ∀ n, n < gC G → VEn T D (gN G n) (gL G n) (aE A n) (aU A n)
theorem flo_mem {o : Option Nat} {L : List Eg} {e : Eg} : e ∈ flo o L ↔ e ∈ L ∧ eF e = o := by
  unfold flo
  rw [List.mem_filter, decide_eq_true_iff]
theorem flo_app (o : Option Nat) (A B : List Eg) : flo o (A ++ B) = flo o A ++ flo o B := List.filter_append ..
theorem flo_cons (o : Option Nat) (e : Eg) (B : List Eg) : flo o (e :: B) = (if eF e = o then [e] else []) ++ flo o B := by
  unfold flo
  rw [List.filter_cons]
  by_cases q : eF e = o
  · rw [decide_eq_true q, if_pos rfl, if_pos q]; rfl
  · rw [decide_eq_false q, if_neg (by decide), if_neg q]; rfl
theorem flo_nil {o : Option Nat} {L : List Eg} (h : ∀ e ∈ L, eF e ≠ o) : flo o L = [] := by
  unfold flo
  rw [List.filter_eq_nil_iff]
  intro e he
  rw [decide_eq_true_iff]
  exact h e he
theorem flo_dr {D : List Dc} {f : Nat} {d : Dc} {L : List Eg} (hd : D[f]? = some d) (hL : ∀ x ∈ L, ∀ g, eF x = some g → ∃ y, D[g]? = some y) (o : Option Nat) : flo o (drG D (some f) L) = match o with | none => flo none L | some g => if rivB D f d g then [] else flo (some g) L := by
  have e0 : drG D (some f) L = if dO d = none then L else L.filter (fun e => !riv D f d e) := by unfold drG; simp only; rw [hd]
  rw [e0]
  by_cases q : dO d = none
  · rw [if_pos q]
    cases o with
    | none => rfl
    | some g =>
      have : rivB D f d g = false := by
        unfold rivB
        cases D[g]? with
        | none => rfl
        | some x => exact decide_eq_false (fun z => z.1 q)
      simp only
      rw [this]
      rfl
  · rw [if_neg q]
    unfold flo
    rw [List.filter_filter]
    cases o with
    | none =>
      apply List.filter_congr
      intro e _
      by_cases z : eF e = none
      · have : riv D f d e = false := by unfold riv; rw [z]
        rw [decide_eq_true z, this]; rfl
      · rw [decide_eq_false z]; rfl
    | some g =>
      simp only
      cases hx : D[g]? with
      | none =>
        have : rivB D f d g = false := by unfold rivB; rw [hx]
        rw [this]
        simp only [Bool.false_eq_true, if_false]
        apply List.filter_congr
        intro e he
        by_cases z : eF e = some g
        · obtain ⟨y, hy⟩ := hL e he g z
          rw [hx] at hy; cases hy
        · rw [decide_eq_false z]; rfl
      | some x =>
        have e1 : rivB D f d g = decide (g ≠ f ∧ dO x = dO d) := by
          unfold rivB
          rw [hx]
          simp only
          by_cases w : g ≠ f ∧ dO x = dO d
          · rw [decide_eq_true w, decide_eq_true ⟨q, w.1, w.2⟩]
          · rw [decide_eq_false w, decide_eq_false (fun z => w z.2)]
        have e2 : ∀ e, eF e = some g → riv D f d e = decide (g ≠ f ∧ dO x = dO d) := fun e he => by unfold riv; rw [he]; simp only; rw [hx]
        rw [e1]
        by_cases w : g ≠ f ∧ dO x = dO d
        · rw [decide_eq_true w, if_pos rfl, List.filter_eq_nil_iff]
          intro e _
          by_cases z : eF e = some g
          · rw [decide_eq_true z, e2 e z, decide_eq_true w]; decide
          · rw [decide_eq_false z]; simp
        · rw [decide_eq_false w, if_neg (by decide)]
          apply List.filter_congr
          intro e _
          by_cases z : eF e = some g
          · rw [decide_eq_true z, e2 e z, decide_eq_false w]; rfl
          · rw [decide_eq_false z]; rfl
theorem flo_ins {D : List Dc} {e : Eg} {L : List Eg} (hs : srE D L) (o : Option Nat) : flo o (insE D e L) = if eF e = o then flo o L ++ [e] else flo o L := by
  have hL := tdE D (eF e) L
  unfold insE
  rw [flo_app, flo_cons]
  by_cases q : eF e = o
  · rw [if_pos q, if_pos q]
    have h0 : flo o (dwE D (eF e) L) = [] := flo_nil (fun x hx z => by
      have := dwE_gt L hs x hx
      rw [z, q] at this
      omega)
    conv => rhs; rw [← hL, flo_app, h0, List.append_nil]
    rw [h0, List.append_nil]
  · rw [if_neg q, if_neg q, List.nil_append]
    conv => rhs; rw [← hL, flo_app]
/-- a node's number and text are told -/
def setE (a : Nat) (v : Int64) (t : List Nat) (L : List Eg) : List Eg := L.map (fun e => if eA e = a then (eA e, eF e, eK e, v, t) else e)
theorem setE_a {a : Nat} {v : Int64} {t : List Nat} {L : List Eg} : (setE a v t L).map eA = L.map eA := by
  unfold setE
  rw [List.map_map]
  apply List.map_congr_left
  intro e _
  show eA (if eA e = a then (eA e, eF e, eK e, v, t) else e) = eA e
  split <;> rfl
theorem setE_f {a : Nat} {v : Int64} {t : List Nat} (e : Eg) : eF (if eA e = a then (eA e, eF e, eK e, v, t) else e) = eF e := by split <;> rfl
theorem setE_no {a : Nat} {v : Int64} {t : List Nat} {L : List Eg} (h : ∀ e ∈ L, eA e ≠ a) : setE a v t L = L := by
  unfold setE
  have := List.map_congr_left (l := L) (f := fun e => if eA e = a then (eA e, eF e, eK e, v, t) else e) (g := id) (fun e he => if_neg (h e he))
  rw [this, List.map_id]
theorem flo_set {a : Nat} {v : Int64} {t : List Nat} {o : Option Nat} {L : List Eg} : flo o (setE a v t L) = setE a v t (flo o L) := by
  unfold flo setE
  rw [List.filter_map]
  congr 1
  apply List.filter_congr
  intro e _
  show decide (eF (if eA e = a then (eA e, eF e, eK e, v, t) else e) = o) = _
  rw [setE_f]
theorem setE_app {a : Nat} {v : Int64} {t : List Nat} {A B : List Eg} : setE a v t (A ++ B) = setE a v t A ++ setE a v t B := List.map_append ..
theorem LN_set {σ : SG} {a : Nat} {v : Int64} {t : List Nat} : ∀ (L : List Eg) (p : Option Nat), LN σ (setE a v t L) p ↔ LN σ L p := by
  intro L
  induction L with
  | nil => intro p; exact Iff.rfl
  | cons e L ih =>
    intro p
    have e1 : setE a v t (e :: L) = (if eA e = a then (eA e, eF e, eK e, v, t) else e) :: setE a v t L := rfl
    have e2 : eA (if eA e = a then (eA e, eF e, eK e, v, t) else e) = eA e := by split <;> rfl
    rw [e1]
    show (p = some (eA _) ∧ LN σ (setE a v t L) (sP σ (eA _) 1)) ↔ _
    rw [e2, ih]
    exact Iff.rfl
/-- a node's number and text change, the texts grow -/
theorem VG_set {σ τ : SG} {c n a x y : Nat} {T : List Nat} {D : List Dc} {G : Gh} {v : Int64} {t P' : List Nat} (h : VG σ c T D G) (hn : n < gC G) (ha : ∃ e ∈ gL G n, eA e = a) (h4 : sL τ a 4 = v) (h5 : sI τ a 5 = nI x) (h6 : sI τ a 6 = nI y) (hxy : x ≤ y) (hy : y ≤ P'.length) (ht : slc P' x y = t) (hP : RB τ 1092 P' 0) (hpre : ∀ x y, y ≤ (gP G).length → slc P' x y = slc (gP G) x y) (hpl : (gP G).length ≤ P'.length) (hf : fP (fun b k => (b = a ∧ (k = 4 ∨ k = 5 ∨ k = 6)) ∨ b = 1092 ∨ b = 1093) σ τ) : VG τ c T D (gN G, gH G, up (gL G) n (setE a v t (gL G n)), gC G, gU G, P') := by
  obtain ⟨e0, he0, rfl⟩ := ha
  have H := h
  obtain ⟨g1, g2, g3, g4, g5, g6, g7, g8, g9, g10⟩ := h
  have hE0 := H.e hn he0
  have b0 := hE0.1
  have b1' := hE0.2.1
  have cell : ∀ b k, b < 1092 → (b ≠ eA e0 ∨ k < 4) → sI τ b k = sI σ b k ∧ sL τ b k = sL σ b k ∧ sP τ b k = sP σ b k := fun b k h1 h2 => hf b k (by rintro (z | z | z) <;> omega)
  have mem : ∀ j e, e ∈ up (gL G) n (setE (eA e0) v t (gL G n)) j → ∃ e' ∈ gL G j, eA e = eA e' ∧ eF e = eF e' ∧ eK e = eK e' ∧ ((e = e' ∧ (j ≠ n ∨ eA e ≠ eA e0)) ∨ (j = n ∧ eA e = eA e0 ∧ eV e = v ∧ eT e = t)) := fun j e he => by
    by_cases q : j = n
    · subst q
      rw [up_s] at he
      obtain ⟨e', he', hx⟩ := List.mem_map.mp he
      by_cases w : eA e' = eA e0
      · rw [if_pos w] at hx
        exact ⟨e', he', by rw [← hx]; rfl, by rw [← hx]; rfl, by rw [← hx]; rfl, Or.inr ⟨rfl, by rw [← hx]; exact w, by rw [← hx]; rfl, by rw [← hx]; rfl⟩⟩
      · rw [if_neg w] at hx
        exact ⟨e', he', by rw [hx], by rw [hx], by rw [hx], Or.inl ⟨hx.symm, Or.inr (by rw [← hx]; exact w)⟩⟩
    · rw [up_o q] at he
      exact ⟨e, he, rfl, rfl, rfl, Or.inl ⟨rfl, Or.inl q⟩⟩
  refine ⟨((cell 389 3 (by decide) (Or.inr (by decide))).1).trans g1, g2, hP, g4, g5, g6, g7, g8, fun m m' hm hm' hne e he e' he' => ?_, fun m hm => ?_⟩
  · obtain ⟨x1, hx1, q1, _⟩ := mem m e he
    obtain ⟨x2, hx2, q2, _⟩ := mem m' e' he'
    rw [q1, q2]
    exact g9 m m' hm hm' hne x1 hx1 x2 hx2
  · obtain ⟨a1, a2, a3, a4, a5, a6⟩ := g10 m hm
    have hhm := H.h hm
    -- each entry
    have each : ∀ e ∈ up (gL G) n (setE (eA e0) v t (gL G n)) m, EO τ c T D (gN G, gH G, up (gL G) n (setE (eA e0) v t (gL G n)), gC G, gU G, P') m e := by
      intro e he
      obtain ⟨e', he', q1, q2, q3, q4⟩ := mem m e he
      obtain ⟨b1, b2, b3, b4, b5, b6, b7⟩ := a6 e' he'
      have l1 : eA e' < 1092 := by omega
      refine ⟨by rw [q1]; exact b1, by rw [q1]; exact b2, by rw [q1, q2, (cell (eA e') 0 l1 (Or.inr (by decide))).2.2]; exact b3, ?_, ?_, fun z => ?_, fun f hf' => ?_⟩
      · rcases q4 with ⟨z, w⟩ | ⟨z, w1, w2, w3⟩
        · subst z
          have hne : eA e ≠ eA e0 := by
            rcases w with w | w
            · exact g9 m n hm hn w e he' e0 he0
            · exact w
          rw [(cell (eA e) 4 l1 (Or.inl hne)).2.1]; exact b4
        · rw [w1, w2]; exact h4
      · rcases q4 with ⟨z, w⟩ | ⟨z, w1, w2, w3⟩
        · subst z
          have hne : eA e ≠ eA e0 := by
            rcases w with w | w
            · exact g9 m n hm hn w e he' e0 he0
            · exact w
          obtain ⟨i, j, x1, x2, x3, x4, x5⟩ := b5
          exact ⟨i, j, ((cell (eA e) 5 l1 (Or.inl hne)).1).trans x1, ((cell (eA e) 6 l1 (Or.inl hne)).1).trans x2, x3, Nat.le_trans x4 hpl, (hpre i j x4).trans x5⟩
        · exact ⟨x, y, by rw [w1]; exact h5, by rw [w1]; exact h6, hxy, hy, by rw [w3]; exact ht⟩
      · rw [q2] at z
        rw [q1, (cell (eA e') 2 l1 (Or.inr (by decide))).2.2]
        exact b6 z
      · rw [q2] at hf'
        obtain ⟨d, x1, x2, x3⟩ := b7 f hf'
        rw [q1, q3, (cell (eA e') 2 l1 (Or.inr (by decide))).2.2]
        exact ⟨d, x1, x2, x3⟩
    have hL2 : sP τ (gH G m) 2 = sP σ (gH G m) 2 := (cell _ 2 hhm.2.1 (Or.inr (by decide))).2.2
    have hL3 : sP τ (gH G m) 3 = sP σ (gH G m) 3 := (cell _ 3 hhm.2.1 (Or.inr (by decide))).2.2
    have lnk : LN τ (gL G m) (sP σ (gH G m) 2) := LN_keep _ _ a1 (fun e he => (cell _ 1 (by have := (a6 e he).2.1; omega) (Or.inr (by decide))).2.2)
    by_cases q : m = n
    · subst q
      have eL : up (gL G) m (setE (eA e0) v t (gL G m)) m = setE (eA e0) v t (gL G m) := up_s _ _ _
      refine ⟨?_, ?_, ?_, ?_, ?_, each⟩
      · show LN τ (up (gL G) m (setE (eA e0) v t (gL G m)) m) _
        rw [eL, LN_set]
        show LN τ (gL G m) (sP τ (gH G m) 2)
        rw [hL2]; exact lnk
      · show sP τ (gH G m) 3 = none ∨ ∃ e ∈ up (gL G) m (setE (eA e0) v t (gL G m)) m, sP τ (gH G m) 3 = some (eA e)
        rw [eL, hL3]
        rcases a2 with z | ⟨r, hr, z⟩
        · exact Or.inl z
        · refine Or.inr ⟨_, List.mem_map_of_mem hr, ?_⟩
          rw [z]
          congr 1
          split <;> rfl
      · show srE D (up (gL G) m (setE (eA e0) v t (gL G m)) m)
        rw [eL]
        unfold srE setE
        rw [List.pairwise_map]
        refine a3.imp (fun {p q} h => ?_)
        rw [setE_f, setE_f]; exact h
      · show ((up (gL G) m (setE (eA e0) v t (gL G m)) m).map eA).Nodup
        rw [eL, setE_a]; exact a4
      · show unE D (up (gL G) m (setE (eA e0) v t (gL G m)) m)
        rw [eL]
        unfold unE setE
        rw [List.pairwise_map]
        refine a5.imp (fun {p q} h => ?_)
        rw [setE_f, setE_f]; exact h
    · have eL : up (gL G) n (setE (eA e0) v t (gL G n)) m = gL G m := up_o q
      refine ⟨?_, ?_, ?_, ?_, ?_, each⟩
      · show LN τ (up (gL G) n (setE (eA e0) v t (gL G n)) m) (sP τ (gH G m) 2)
        rw [eL, hL2]; exact lnk
      · show sP τ (gH G m) 3 = none ∨ ∃ e ∈ up (gL G) n (setE (eA e0) v t (gL G n)) m, sP τ (gH G m) 3 = some (eA e)
        rw [eL, hL3]; exact a2
      · show srE D (up (gL G) n (setE (eA e0) v t (gL G n)) m)
        rw [eL]; exact a3
      · show ((up (gL G) n (setE (eA e0) v t (gL G n)) m).map eA).Nodup
        rw [eL]; exact a4
      · show unE D (up (gL G) n (setE (eA e0) v t (gL G n)) m)
        rw [eL]; exact a5
