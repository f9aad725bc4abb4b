/-! ===== encode: what is written ===== -/
theorem filter_head {D : List Dc} {k : Nat} : ∀ (L : List Eg), srE D L → (∀ e ∈ L, k ≤ key D (eF e)) → L = L.filter (fun e => decide (key D (eF e) = k)) ++ L.filter (fun e => decide (key D (eF e) ≠ k)) := by
  intro L
  induction L with
  | nil => intro _ _; rfl
  | cons e L ih =>
    intro h hk
    obtain ⟨h1, h2⟩ := List.pairwise_cons.mp h
    by_cases q : key D (eF e) = k
    · rw [List.filter_cons, if_pos (decide_eq_true q), List.filter_cons, if_neg (by rw [decide_eq_true_iff]; exact fun z => z q), List.cons_append, ← ih h2 (fun x hx => hk x (List.mem_cons_of_mem _ hx))]
    · have hgt : ∀ x ∈ e :: L, key D (eF x) ≠ k := fun x hx => by
        rcases List.mem_cons.mp hx with z | z
        · rw [z]; exact q
        · have := h1 x z
          have := hk e (List.mem_cons_self ..)
          omega
      rw [List.filter_eq_nil_iff.mpr (fun x hx => by rw [decide_eq_true_iff]; exact hgt x hx), List.filter_eq_self.mpr (fun x hx => decide_eq_true (hgt x hx)), List.nil_append]
/-- a chain of entries, field by field -/
theorem grp {D : List Dc} : ∀ (F : List Nat) (L : List Eg), srt D F → srE D L → (∀ f ∈ F, nmn D f < 9223372036854775807) → (∀ e ∈ L, ∀ f, eF e = some f → f ∈ F) → L = F.flatMap (fun f => flo (some f) L) ++ flo none L := by
  intro F
  induction F with
  | nil =>
    intro L _ _ _ h
    have : flo none L = L := by
      unfold flo
      rw [List.filter_eq_self]
      intro e he
      cases hf : eF e with
      | none => rfl
      | some f => exact absurd (h e he f hf) (by simp)
    rw [List.flatMap_nil, List.nil_append, this]
  | cons f F ih =>
    intro L hF hL hb h
    obtain ⟨f1, f2⟩ := List.pairwise_cons.mp hF
    have hk : ∀ e ∈ L, nmn D f ≤ key D (eF e) := fun e he => by
      cases hf : eF e with
      | none => have := hb f (List.mem_cons_self ..); show nmn D f ≤ 9223372036854775807; omega
      | some g =>
        show nmn D f ≤ nmn D g
        rcases List.mem_cons.mp (h e he g hf) with z | z
        · rw [z]; exact Nat.le_refl _
        · have := f1 g z; omega
    have e1 := filter_head L hL hk
    have ekey : ∀ e ∈ L, (key D (eF e) = nmn D f ↔ eF e = some f) := fun e he => by
      constructor
      · intro z
        cases hf : eF e with
        | none =>
          rw [hf] at z
          have z' : 9223372036854775807 = nmn D f := z
          have := hb f (List.mem_cons_self ..)
          omega
        | some g =>
          rw [hf] at z
          have z' : nmn D g = nmn D f := z
          rcases List.mem_cons.mp (h e he g hf) with y | y
          · rw [y]
          · have := f1 g y; omega
      · intro z; rw [z]; rfl
    have e2 : L.filter (fun e => decide (key D (eF e) = nmn D f)) = flo (some f) L := by
      unfold flo
      apply List.filter_congr
      intro e he
      exact decide_eq_decide.mpr (ekey e he)
    have hsub : (L.filter (fun e => decide (key D (eF e) ≠ nmn D f))).Sublist L := List.filter_sublist
    have e3 := ih (L.filter (fun e => decide (key D (eF e) ≠ nmn D f))) f2 (List.Pairwise.sublist hsub hL) (fun g hg => hb g (List.mem_cons_of_mem _ hg)) (fun e he g hf => by
      obtain ⟨h1, h2⟩ := List.mem_filter.mp he
      rcases List.mem_cons.mp (h e h1 g hf) with y | y
      · rw [y] at hf
        exact absurd ((ekey e h1).mpr hf) (of_decide_eq_true h2)
      · exact y)
    have e4 : ∀ o, o ≠ some f → flo o (L.filter (fun e => decide (key D (eF e) ≠ nmn D f))) = flo o L := fun o ho => by
      unfold flo
      rw [List.filter_filter]
      apply List.filter_congr
      intro e he
      by_cases q : eF e = o
      · rw [decide_eq_true q, Bool.true_and]
        exact decide_eq_true (fun z => ho (by rw [← q]; exact (ekey e he).mp z))
      · rw [decide_eq_false q, Bool.false_and]
    rw [e2, e3, e4 none (by intro z; cases z)] at e1
    have e5 : F.flatMap (fun f_1 => flo (some f_1) (L.filter (fun e => decide (key D (eF e) ≠ nmn D f)))) = F.flatMap (fun g => flo (some g) L) := by
      have : ∀ (K : List Nat), (∀ g ∈ K, g ≠ f) → K.flatMap (fun f_1 => flo (some f_1) (L.filter (fun e => decide (key D (eF e) ≠ nmn D f)))) = K.flatMap (fun g => flo (some g) L) := by
        intro K
        induction K with
        | nil => intro _; rfl
        | cons g K ih =>
          intro hK
          rw [List.flatMap_cons, List.flatMap_cons, ih (fun x hx => hK x (List.mem_cons_of_mem _ hx)), e4 (some g) (fun z => hK g (List.mem_cons_self ..) (Option.some.inj z))]
      exact this F (fun g hg z => by have := f1 g hg; rw [z] at this; omega)
    rw [e5] at e1
    rw [List.flatMap_cons, List.append_assoc]
    exact e1
/-- a number's bytes -/
def zzg (x : Int64) : Int64 := (lshl9 x 1) ^^^ (lshr9 x 63)
def nuB (t : Nat) (x : Int64) : List Nat := if kdO t = 1 then fxB x 0 8 else if kdO t = 5 then fxB x 0 4 else if t = 4 ∨ t = 5 then vB (zzg x) else vB x
def tgB (d : Dc) (k : Nat) : List Nat := vB ((lshl9 (lN (dN d).2) 3) ||| lN k)
/-- bytes behind their length -/
def lnB (C : List Nat) : List Nat := vB (lN C.length) ++ C
def eIt (T : List Nat) (D : List Dc) (rc : Nat → List Nat) (d : Dc) (it : It) : List Nat := tgB d (kdO (fty T D d)) ++ (if kdO (fty T D d) = 2 then lnB (if fty T D d = 13 then rc it.2.2 else it.2.1) else nuB (fty T D d) it.1)
def eRw (T : List Nat) (D : List Dc) (d : Dc) (E : List It) : List Nat := match E with
  | [] => []
  | _ :: _ => tgB d 2 ++ lnB (E.flatMap (fun it => nuB (fty T D d) it.1))
def eFd (T : List Nat) (D : List Dc) (A : AV) (rc : Nat → List Nat) (n f : Nat) : List Nat := match D[f]? with
  | none => []
  | some d => if dPa (lkC T D) T (wl T 701 0) D d then eRw T D d (aE A n f) else (aE A n f).flatMap (eIt T D rc d)
/-- a message's bytes -/
def eMs (T : List Nat) (D : List Dc) (A : AV) : Nat → Nat → List Nat
  | 0, _ => []
  | j + 1, n => (chF D (aN A n)).flatMap (eFd T D A (eMs T D A j) n) ++ aU A n
