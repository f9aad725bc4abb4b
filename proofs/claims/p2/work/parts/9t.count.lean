/-! ===== how many values a value holds ===== -/
def isT (T : List Nat) (D : List Dc) (f : Nat) : Bool := match D[f]? with
  | none => false
  | some d => decide (fty T D d = 13)
/-- what an opened message holds, field by field -/
def its (D : List Dc) (A : AV) (n : Nat) : List (Nat × It) := (chF D (aN A n)).flatMap (fun f => (aE A n f).map (fun it => (f, it)))
/-- the messages that it holds -/
def chN (T : List Nat) (D : List Dc) (A : AV) (n : Nat) : List Nat := ((its D A n).filter (fun y => isT T D y.1)).map (fun y => y.2.2.2)
def tc (T : List Nat) (D : List Dc) (A : AV) : Nat → Nat → Nat
  | 0, _ => 0
  | j + 1, n => (its D A n).length + ((chN T D A n).map (tc T D A j)).sum
/-- the opened messages are a forest: z tells how deep each is -/
def AW (T : List Nat) (D : List Dc) (A : AV) (z : Nat → Nat) : Prop := 0 < aC A ∧ z 0 = 1 ∧ (∀ n, n < aC A → z n ≤ 20 ∧ ∀ c ∈ chN T D A n, n < c ∧ c < aC A ∧ z c = z n + 1) ∧ ((List.range (aC A)).flatMap (chN T D A)).Nodup
/-- which messages are reached, of the first k -/
def alL (T : List Nat) (D : List Dc) (A : AV) : Nat → List Nat
  | 0 => []
  | k + 1 => if k = 0 ∨ k ∈ (alL T D A k).flatMap (chN T D A) then alL T D A k ++ [k] else alL T D A k
def tcf (T : List Nat) (D : List Dc) (A : AV) (z : Nat → Nat) (n : Nat) : Nat := tc T D A (21 - z n) n
/-- the number of values -/
def nV (T : List Nat) (D : List Dc) (A : AV) : Nat := ((alL T D A (aC A)).map (fun n => (its D A n).length)).sum
theorem tcf_eq {T : List Nat} {D : List Dc} {A : AV} {z : Nat → Nat} (h : AW T D A z) {n : Nat} (hn : n < aC A) : tcf T D A z n = (its D A n).length + ((chN T D A n).map (tcf T D A z)).sum := by
  obtain ⟨_, _, h2, _⟩ := h
  obtain ⟨a, b⟩ := h2 n hn
  unfold tcf
  rw [show 21 - z n = (20 - z n) + 1 by omega, tc]
  congr 2
  apply List.map_congr_left
  intro c hc
  rw [(b c hc).2.2, show 21 - (z n + 1) = 20 - z n by omega]
theorem alL_lt {T : List Nat} {D : List Dc} {A : AV} : ∀ k, (alL T D A k).Sublist (List.range k) := by
  intro k
  induction k with
  | zero => exact List.Sublist.refl _
  | succ k ih =>
    rw [alL, List.range_succ]
    split
    · exact List.Sublist.append ih (List.Sublist.refl _)
    · exact List.Sublist.trans ih (List.sublist_append_left _ _)
theorem flatMap_sub {α β : Type} {f : α → List β} : ∀ {L M : List α}, L.Sublist M → (L.flatMap f).Sublist (M.flatMap f) := by
  intro L M h
  induction h with
  | slnil => exact List.Sublist.refl _
  | cons a _ ih => rw [List.flatMap_cons]; exact List.Sublist.trans ih (List.sublist_append_right _ _)
  | cons_cons a _ ih => rw [List.flatMap_cons, List.flatMap_cons]; exact List.Sublist.append (List.Sublist.refl _) ih
theorem sum_from {g : Nat → Nat} {k : Nat} : ∀ (P : List Nat), P.Nodup → ((P.filter (fun c => decide (k ≤ c))).map g).sum = ((P.filter (fun c => decide (k + 1 ≤ c))).map g).sum + (if k ∈ P then g k else 0) := by
  intro P
  induction P with
  | nil => intro _; rfl
  | cons c P ih =>
    intro h
    obtain ⟨h1, h2⟩ := List.nodup_cons.mp h
    have e := ih h2
    by_cases q : c = k
    · subst q
      rw [List.filter_cons, if_pos (decide_eq_true (Nat.le_refl _)), List.filter_cons, if_neg (by rw [decide_eq_true_iff]; omega), if_pos (List.mem_cons_self ..), List.map_cons, List.sum_cons, e, if_neg h1]
      omega
    · have hm : k ∈ c :: P ↔ k ∈ P := by
        rw [List.mem_cons]
        exact ⟨fun z => z.elim (fun y => absurd y.symm q) id, Or.inr⟩
      rw [show (if k ∈ c :: P then g k else 0) = (if k ∈ P then g k else 0) from ifd hm]
      by_cases q2 : k ≤ c
      · rw [List.filter_cons, if_pos (decide_eq_true q2), List.filter_cons, if_pos (decide_eq_true (by omega)), List.map_cons, List.map_cons, List.sum_cons, List.sum_cons, e]
        omega
      · rw [List.filter_cons, if_neg (by rw [decide_eq_true_iff]; omega), List.filter_cons, if_neg (by rw [decide_eq_true_iff]; omega), e]
theorem nV_step {T : List Nat} {D : List Dc} {A : AV} {z : Nat → Nat} (h : AW T D A z) : ∀ k, 1 ≤ k → k ≤ aC A → ((alL T D A k).map (fun n => (its D A n).length)).sum + ((((alL T D A k).flatMap (chN T D A)).filter (fun c => decide (k ≤ c))).map (tcf T D A z)).sum = tcf T D A z 0 := by
  intro k
  induction k with
  | zero => intro h1; omega
  | succ k ih =>
    intro _ hk
    by_cases q0 : k = 0
    · subst q0
      have e : alL T D A (0 + 1) = [0] := by rw [alL, if_pos (Or.inl rfl)]; rfl
      rw [e, tcf_eq h (by omega)]
      have e2 : ([0].flatMap (chN T D A)).filter (fun c => decide (0 + 1 ≤ c)) = chN T D A 0 := by
        rw [List.flatMap_cons, List.flatMap_nil, List.append_nil, List.filter_eq_self]
        intro c hc
        have := ((h.2.2.1 0 h.1).2 c hc).1
        exact decide_eq_true (by omega)
      rw [e2]
      rfl
    · have ih' := ih (by omega) (by omega)
      have nd : ((alL T D A k).flatMap (chN T D A)).Nodup := List.Nodup.sublist (flatMap_sub (List.Sublist.trans (alL_lt k) (List.range_sublist.mpr (by omega)))) h.2.2.2
      have e := sum_from (g := tcf T D A z) (k := k) _ nd
      rw [e] at ih'
      by_cases qm : k ∈ (alL T D A k).flatMap (chN T D A)
      · rw [if_pos qm] at ih'
        rw [alL, if_pos (Or.inr qm), List.map_append, List.sum_append, List.flatMap_append, List.filter_append, List.map_append, List.sum_append]
        have e2 : ([k].flatMap (chN T D A)).filter (fun c => decide (k + 1 ≤ c)) = chN T D A k := by
          rw [List.flatMap_cons, List.flatMap_nil, List.append_nil, List.filter_eq_self]
          intro c hc
          have := ((h.2.2.1 k (by omega)).2 c hc).1
          exact decide_eq_true (by omega)
        rw [e2]
        have e3 := tcf_eq h (show k < aC A by omega)
        show _ + ((its D A k).length + 0) + _ = _
        omega
      · rw [if_neg qm] at ih'
        rw [alL, if_neg (fun y => y.elim q0 qm)]
        exact ih'
theorem nV_tc {T : List Nat} {D : List Dc} {A : AV} {z : Nat → Nat} (h : AW T D A z) : tcf T D A z 0 = nV T D A := by
  have e := nV_step h (aC A) h.1 (Nat.le_refl _)
  have e2 : ((alL T D A (aC A)).flatMap (chN T D A)).filter (fun c => decide (aC A ≤ c)) = [] := by
    rw [List.filter_eq_nil_iff]
    intro c hc
    obtain ⟨n, hn, hc'⟩ := List.mem_flatMap.mp hc
    have hn' := List.mem_range.mp ((alL_lt (aC A)).subset hn)
    have := ((h.2.2.1 n hn').2 c hc').2.1
    rw [decide_eq_true_iff]
    omega
  rw [e2] at e
  unfold nV
  rw [← e]
  rfl
theorem chN_mem {T : List Nat} {D : List Dc} {A : AV} {n c : Nat} : c ∈ chN T D A n ↔ ∃ f ∈ chF D (aN A n), isT T D f = true ∧ ∃ it ∈ aE A n f, it.2.2 = c := by
  unfold chN its
  rw [List.mem_map]
  constructor
  · rintro ⟨y, hy, rfl⟩
    obtain ⟨h1, h2⟩ := List.mem_filter.mp hy
    obtain ⟨f, hf, h3⟩ := List.mem_flatMap.mp h1
    obtain ⟨it, h4, h5⟩ := List.mem_map.mp h3
    subst h5
    exact ⟨f, hf, h2, it, h4, rfl⟩
  · rintro ⟨f, hf, h2, it, h4, rfl⟩
    exact ⟨(f, it), List.mem_filter.mpr ⟨List.mem_flatMap.mpr ⟨f, hf, List.mem_map.mpr ⟨it, h4, rfl⟩⟩, h2⟩, rfl⟩
/-- a sum over entries, field by field -/
theorem sum_part {L : List Eg} {g : Eg → Nat} {F : List Nat} (hF : F.Nodup) (h0 : ∀ e ∈ L, eF e = none → g e = 0) (h1 : ∀ e ∈ L, ∀ f, eF e = some f → f ∈ F) : (L.map g).sum = (F.map (fun f => ((flo (some f) L).map g).sum)).sum := by
  have add : ∀ (F : List Nat) (a b : Nat → Nat), (F.map (fun f => a f + b f)).sum = (F.map a).sum + (F.map b).sum := by
    intro F a b
    induction F with
    | nil => rfl
    | cons f F ih => rw [List.map_cons, List.sum_cons, List.map_cons, List.sum_cons, List.map_cons, List.sum_cons, ih]; omega
  have one : ∀ (F : List Nat) (o : Option Nat) (x : Nat), F.Nodup → (∀ f, o = some f → f ∈ F) → (o = none → x = 0) → (F.map (fun f => if o = some f then x else 0)).sum = x := by
    intro F
    induction F with
    | nil =>
      intro o x _ h1 h2
      cases o with
      | none => rw [h2 rfl]; rfl
      | some f => exact absurd (h1 f rfl) (by simp)
    | cons f F ih =>
      intro o x hnd h1 h2
      obtain ⟨n1, n2⟩ := List.nodup_cons.mp hnd
      rw [List.map_cons, List.sum_cons]
      by_cases q : o = some f
      · rw [if_pos q]
        have : F.map (fun f' => if o = some f' then x else 0) = F.map (fun _ => 0) := by
          apply List.map_congr_left
          intro f' hf'
          rw [if_neg (fun y => n1 (by rw [q] at y; cases y; exact hf'))]
        rw [this]
        have z0 : ∀ (F : List Nat), (F.map (fun _ => 0)).sum = 0 := by intro F; induction F with | nil => rfl | cons a F ih => rw [List.map_cons, List.sum_cons, ih]
        rw [z0]; rfl
      · rw [if_neg q, Nat.zero_add]
        exact ih o x n2 (fun f' hf' => (List.mem_cons.mp (h1 f' hf')).elim (fun y => absurd (by rw [hf', y]) q) id) h2
  induction L with
  | nil =>
    have z0 : ∀ (F : List Nat), (F.map (fun f => ((flo (some f) []).map g).sum)).sum = 0 := by intro F; induction F with | nil => rfl | cons a F ih => rw [List.map_cons, List.sum_cons, ih]; rfl
    exact (z0 F).symm
  | cons e L ih =>
    rw [List.map_cons, List.sum_cons, ih (fun x hx => h0 x (List.mem_cons_of_mem _ hx)) (fun x hx => h1 x (List.mem_cons_of_mem _ hx))]
    have : F.map (fun f => ((flo (some f) (e :: L)).map g).sum) = F.map (fun f => (if eF e = some f then g e else 0) + ((flo (some f) L).map g).sum) := by
      apply List.map_congr_left
      intro f _
      rw [flo_cons, List.map_append, List.sum_append]
      by_cases q : eF e = some f
      · rw [if_pos q, if_pos q]; rfl
      · rw [if_neg q, if_neg q]; rfl
    rw [this, add, one F (eF e) (g e) hF (fun f hf => h1 e (List.mem_cons_self ..) f hf) (fun hn => h0 e (List.mem_cons_self ..) hn)]
/-- what one node's items add up to -/
theorem sum_its {T : List Nat} {D : List Dc} {A : AV} {n : Nat} {h : Nat → Nat} : (its D A n).length + ((chN T D A n).map h).sum = ((chF D (aN A n)).map (fun f => ((aE A n f).map (fun it => 1 + if isT T D f then h it.2.2 else 0)).sum)).sum := by
  unfold chN its
  have in1 : ∀ (f : Nat) (E : List It), (E.map (fun it => (f, it))).length + ((((E.map (fun it => (f, it))).filter (fun y => isT T D y.1)).map (fun y => y.2.2.2)).map h).sum = (E.map (fun it => 1 + if isT T D f then h it.2.2 else 0)).sum := by
    intro f E
    induction E with
    | nil => rfl
    | cons it E ih =>
      rw [List.map_cons, List.length_cons, List.filter_cons, List.map_cons, List.sum_cons, ← ih]
      cases hT : isT T D f with
      | true =>
        rw [if_pos (show true = true from rfl), if_pos (show true = true from rfl), List.map_cons, List.map_cons, List.sum_cons]
        show _ + 1 + (h it.2.2 + _) = _
        omega
      | false =>
        rw [if_neg (show ¬ false = true by decide), if_neg (show ¬ false = true by decide)]
        omega
  generalize chF D (aN A n) = F
  induction F with
  | nil => rfl
  | cons f F ih =>
    rw [List.flatMap_cons, List.length_append, List.filter_append, List.map_append, List.map_append, List.sum_append, List.map_cons, List.sum_cons, ← in1 f (aE A n f), ← ih]
    omega
