/-! ===== chains of the class's items ===== -/
/-- a chain of items, from a pointer on -/
def LK (σ : SG) (c : Nat) : List Nat → Option Nat → Prop
  | [], p => p = none
  | i :: L, p => p = some (c + 5 + i) ∧ LK σ c L (sP σ (c + 5 + i) 16)
theorem LK_keep {σ τ : SG} {c : Nat} : ∀ (L : List Nat) (p : Option Nat), LK σ c L p → (∀ i ∈ L, sP τ (c + 5 + i) 16 = sP σ (c + 5 + i) 16) → LK τ c L p := by
  intro L
  induction L with
  | nil => intro p h _; exact h
  | cons i L ih =>
    intro p h hk
    refine ⟨h.1, ?_⟩
    rw [hk i (List.mem_cons_self ..)]
    exact ih _ h.2 (fun j hj => hk j (List.mem_cons_of_mem _ hj))
/-- what stands behind the last of a first piece -/
theorem LK_mid {σ : SG} {c b : Nat} {B : List Nat} : ∀ (A : List Nat) (p : Option Nat), LK σ c (A ++ b :: B) p → LK σ c B (sP σ (c + 5 + b) 16) := by
  intro A
  induction A with
  | nil => intro p h; exact h.2
  | cons a A ih => intro p h; exact ih _ h.2
theorem LK_put {σ τ : SG} {c b k : Nat} {B : List Nat} (hb : sP τ (c + 5 + b) 16 = some (c + 5 + k)) (hk : LK τ c B (sP τ (c + 5 + k) 16)) : ∀ (A : List Nat) (p : Option Nat), LK σ c (A ++ b :: B) p → (∀ i ∈ A, sP τ (c + 5 + i) 16 = sP σ (c + 5 + i) 16) → LK τ c (A ++ b :: k :: B) p := by
  intro A
  induction A with
  | nil => intro p h _; exact ⟨h.1, hb, hk⟩
  | cons a A ih =>
    intro p h ha
    refine ⟨h.1, ?_⟩
    rw [ha a (List.mem_cons_self ..)]
    exact ih _ h.2 (fun i hi => ha i (List.mem_cons_of_mem _ hi))
theorem ne2 {b a j k : Nat} (h : ¬ (b = a ∧ j = k)) : b ≠ a ∨ j ≠ k := by omega
/-- a declaration's number -/
def nLi (D : List Dc) (i : Nat) : Int64 := match D[i]? with
  | some d => nL (dN d)
  | none => 0
theorem nLi_some {D : List Dc} {i : Nat} {d : Dc} (h : D[i]? = some d) : nLi D i = nL (dN d) := by unfold nLi; rw [h]
theorem JS.num {σ : SG} {c i : Nat} {D : List Dc} (h : JS σ c D) (hi : i < D.length) : sL σ (c + 5 + i) 6 = nLi D i := by
  have hd := List.getElem?_eq_getElem hi
  rw [nLi_some hd]
  exact (h.2.2 i _ hd).2.2.2.2.2.2.1
theorem X3_memberNumbered_L {U c a : Nat} {σ : SG} {D : List Dc} {v : Int64} (hcb : cb c) (hJ : JS σ c D) : ∀ (L : List Nat) (p : Option Nat) (U1 : Nat), LK σ c L p → (∀ i ∈ L, i < D.length) → L.length < U1 →
    x_X3_memberNumbered_L5 U a v σ U1 p = some (ad c (L.find? (fun i => decide (nLi D i = v)))) := by
  have hl := hJ.2.1
  intro L
  induction L with
  | nil =>
    intro p U1 h _ hu
    obtain ⟨V, rfl⟩ : ∃ V, U1 = V + 1 := ⟨U1 - 1, by simp at hu; omega⟩
    rw [x_X3_memberNumbered_L5, show p = none from h, if_pos rfl]; try rfl
  | cons i L ih =>
    intro p U1 h hb hu
    rw [List.length_cons] at hu
    obtain ⟨V, rfl⟩ : ∃ V, U1 = V + 1 := ⟨U1 - 1, by omega⟩
    have hi := hb i (List.mem_cons_self ..)
    obtain ⟨h1, h2⟩ := h
    rw [x_X3_memberNumbered_L5, h1, if_neg (by intro z; cases z), ck_eq (it_sh hcb (by omega)), hJ.num hi, List.find?_cons]
    by_cases q : nLi D i = v
    · rw [if_pos q, decide_eq_true q]; try rfl
    · rw [if_neg q, decide_eq_false q]
      exact ih _ V h2 (fun j hj => hb j (List.mem_cons_of_mem _ hj)) (by omega)
theorem X3_memberNumbered {U c a : Nat} {σ : SG} {D : List Dc} {v : Int64} {L : List Nat} (hU : 4000 < U) (hcb : cb c) (hJ : JS σ c D) (h : LK σ c L (sP σ a 15)) (hb : ∀ i ∈ L, i < D.length) (hL : L.length ≤ 200) :
    x_X3_memberNumbered U a v σ = some (ad c (L.find? (fun i => decide (nLi D i = v)))) := by
  unfold x_X3_memberNumbered
  exact X3_memberNumbered_L hcb hJ L _ U h hb (by omega)
/-- the last one before, or what was told -/
def prv (c : Nat) (o : Option Nat) (L : List Nat) : Option Nat := match L.getLast? with
  | none => o
  | some i => some (c + 5 + i)
theorem prv_cons (c : Nat) (o : Option Nat) (i : Nat) (L : List Nat) : prv c o (i :: L) = prv c (some (c + 5 + i)) L := by
  unfold prv
  cases L with
  | nil => rfl
  | cons j L => rw [List.getLast?_cons_cons]; cases e : (j :: L).getLast? with
    | none => simp at e
    | some x => rfl
theorem X3_insert_L {U c a k : Nat} {σ : SG} {D : List Dc} {K : Option Nat → Option SG} (hcb : cb c) (hJ : JS σ c D) (hk : k < D.length) : ∀ (L : List Nat) (o p : Option Nat) (U1 : Nat), LK σ c L p → (∀ i ∈ L, i < D.length) → L.length < U1 →
    x_X3_insert_L7 U a K (some (c + 5 + k)) σ U1 o p = K (prv c o (L.takeWhile (fun i => decide (nLi D i < nLi D k)))) := by
  have hl := hJ.2.1
  intro L
  induction L with
  | nil =>
    intro o p U1 h _ hu
    obtain ⟨V, rfl⟩ : ∃ V, U1 = V + 1 := ⟨U1 - 1, by simp at hu; omega⟩
    rw [x_X3_insert_L7, show p = none from h, if_pos rfl]; try rfl
  | cons i L ih =>
    intro o p U1 h hb hu
    rw [List.length_cons] at hu
    obtain ⟨V, rfl⟩ : ∃ V, U1 = V + 1 := ⟨U1 - 1, by omega⟩
    have hi := hb i (List.mem_cons_self ..)
    obtain ⟨h1, h2⟩ := h
    rw [x_X3_insert_L7, h1, if_neg (by intro z; cases z), ck_eq (it_sh hcb (by omega)), ck_eq (it_sh hcb (by omega)), hJ.num hi, hJ.num hk, List.takeWhile_cons]
    by_cases q : nLi D i < nLi D k
    · rw [if_pos q, decide_eq_true q, if_pos rfl, prv_cons]
      exact ih _ _ V h2 (fun j hj => hb j (List.mem_cons_of_mem _ hj)) (by omega)
    · rw [if_neg q, decide_eq_false q, if_neg (by decide)]; try rfl
/-- a chain with one more in it, at its number's place -/
def insN (D : List Dc) (k : Nat) (L : List Nat) : List Nat := L.takeWhile (fun i => decide (nLi D i < nLi D k)) ++ k :: L.dropWhile (fun i => decide (nLi D i < nLi D k))
theorem mem_insN {D : List Dc} {k i : Nat} {L : List Nat} : i ∈ insN D k L ↔ i = k ∨ i ∈ L := by
  unfold insN
  have h : i ∈ L ↔ i ∈ L.takeWhile (fun i => decide (nLi D i < nLi D k)) ∨ i ∈ L.dropWhile (fun i => decide (nLi D i < nLi D k)) := by
    conv => lhs; rw [← List.takeWhile_append_dropWhile (p := fun i => decide (nLi D i < nLi D k)) (l := L)]
    exact List.mem_append
  rw [List.mem_append, List.mem_cons, h]
  constructor
  · rintro (z | z | z)
    · exact Or.inr (Or.inl z)
    · exact Or.inl z
    · exact Or.inr (Or.inr z)
  · rintro (z | z | z)
    · exact Or.inr (Or.inl z)
    · exact Or.inl z
    · exact Or.inr (Or.inr z)
theorem len_insN {D : List Dc} {k : Nat} {L : List Nat} : (insN D k L).length = L.length + 1 := by
  unfold insN
  have h := congrArg List.length (List.takeWhile_append_dropWhile (p := fun i => decide (nLi D i < nLi D k)) (l := L))
  rw [List.length_append] at h
  rw [List.length_append, List.length_cons]
  omega
theorem list_last {L : List Nat} : L = [] ∨ ∃ A b, L = A ++ [b] := by
  cases h : L.getLast? with
  | none => exact Or.inl (by simpa using h)
  | some b => exact Or.inr ⟨L.dropLast, b, by
      rcases List.getLast?_eq_some_iff.mp h with ⟨A, e⟩
      rw [e, List.dropLast_concat]⟩
/-- what an insertion touches: a chain's pointers -/
theorem X3_insert {U c m k : Nat} {σ : SG} {D : List Dc} {L : List Nat} (hU : 4000 < U) (hcb : cb c) (hJ : JS σ c D) (hk : k < D.length) (hm : m < D.length) (h : LK σ c L (sP σ (c + 5 + m) 15)) (hb : ∀ i ∈ L, i < D.length) (hL : L.length ≤ 200) (hn : k ∉ L) (hnd : L.Nodup) :
    ∃ τ, x_X3_insert U (c + 5 + m) (some (c + 5 + k)) σ = some τ ∧ LK τ c (insN D k L) (sP τ (c + 5 + m) 15) ∧ fP (fun b j => (b = c + 5 + k ∧ j = 16) ∨ (b = c + 5 + m ∧ j = 15) ∨ (j = 16 ∧ ∃ i ∈ L, b = c + 5 + i)) σ τ := by
  have hl := hJ.2.1
  unfold x_X3_insert
  rw [X3_insert_L hcb hJ hk L none _ U h hb (by omega)]
  unfold insN
  have hspl := List.takeWhile_append_dropWhile (p := fun i => decide (nLi D i < nLi D k)) (l := L)
  generalize L.takeWhile (fun i => decide (nLi D i < nLi D k)) = A at *
  generalize L.dropWhile (fun i => decide (nLi D i < nLi D k)) = B at *
  subst hspl
  unfold x_X3_insert_33
  rcases list_last (L := A) with hA | ⟨A', b, hA⟩
  · subst hA
    rw [if_pos (show prv c none [] = none from rfl), ck_eq (it_sh hcb (by omega)), sb_eq, sb_eq]
    refine ⟨_, rfl, ?_, ?_⟩
    · refine ⟨sP_s _ _ _ _, ?_⟩
      rw [sP_o (Or.inr (by decide)), sP_s]
      refine LK_keep _ _ h (fun i hi => ?_)
      have hik : i ≠ k := fun z => hn (z ▸ hi)
      rw [sP_o (Or.inr (by decide)), sP_o (Or.inl (by omega))]
    · intro b' j hj
      refine ⟨rfl, rfl, ?_⟩
      rw [sP_o (ne2 (fun zy => hj (Or.inr (Or.inl zy)))), sP_o (ne2 (fun zy => hj (Or.inl zy)))]
  · subst hA
    have hp : prv c none (A' ++ [b]) = some (c + 5 + b) := by unfold prv; rw [List.getLast?_append]; try rfl
    have hbm : b ∈ A' ++ [b] ++ B := by simp
    have hbl := hb b hbm
    have hbk : b ≠ k := fun z => hn (z ▸ hbm)
    rw [hp, if_neg (by intro z; cases z), ck_eq (it_sh hcb (by omega)), ck_eq (it_sh hcb (by omega)), sb_eq, sb_eq]
    have h' : LK σ c (A' ++ b :: B) (sP σ (c + 5 + m) 15) := by rw [List.append_assoc] at h; exact h
    have hnd' : (A' ++ b :: B).Nodup := by rw [List.append_assoc] at hnd; exact hnd
    obtain ⟨n1, n2, n3⟩ := List.nodup_append.mp hnd'
    refine ⟨_, rfl, ?_, ?_⟩
    · rw [sP_o (Or.inr (by decide)), sP_o (Or.inr (by decide)), List.append_assoc]
      show LK _ c (A' ++ b :: k :: B) _
      refine LK_put (σ := σ) (sP_s _ _ _ _) ?_ A' _ h' (fun i hi => ?_)
      · rw [sP_o (Or.inl (by omega)), sP_s]
        refine LK_keep _ _ (LK_mid A' _ h') (fun i hi => ?_)
        have hik : i ≠ k := fun z => hn (by rw [← z]; simp [hi])
        have hib : i ≠ b := fun z => (List.nodup_cons.mp n2).1 (z ▸ hi)
        rw [sP_o (Or.inl (by omega)), sP_o (Or.inl (by omega))]
      · have hik : i ≠ k := fun z => hn (by rw [← z]; simp [hi])
        have hib : i ≠ b := fun z => n3 i hi b (List.mem_cons_self ..) z
        rw [sP_o (Or.inl (by omega)), sP_o (Or.inl (by omega))]
    · intro b' j hj
      refine ⟨rfl, rfl, ?_⟩
      rw [sP_o (ne2 (fun zy => hj (Or.inr (Or.inr ⟨zy.2, b, hbm, zy.1⟩)))), sP_o (ne2 (fun zy => hj (Or.inl zy)))]
theorem X3_append_L {U c a k : Nat} {σ : SG} {D : List Dc} {K : Option Nat → Option SG} (hcb : cb c) (hl : D.length < 180) : ∀ (L : List Nat) (p : Option Nat) (U1 : Nat), LK σ c L p → (∀ i ∈ L, i < D.length) → L.length < U1 →
    x_X3_append_L5 U a K (some (c + 5 + k)) σ U1 p = K (prv c none L) := by
  intro L
  induction L with
  | nil =>
    intro p U1 h _ hu
    obtain ⟨V, rfl⟩ : ∃ V, U1 = V + 1 := ⟨U1 - 1, by simp at hu; omega⟩
    rw [x_X3_append_L5, show p = none from h, if_pos rfl]; try rfl
  | cons i L ih =>
    intro p U1 h hb hu
    rw [List.length_cons] at hu
    obtain ⟨V, rfl⟩ : ∃ V, U1 = V + 1 := ⟨U1 - 1, by omega⟩
    have hi := hb i (List.mem_cons_self ..)
    obtain ⟨h1, h2⟩ := h
    rw [x_X3_append_L5, h1, if_neg (by intro z; cases z), ck_eq (it_sh hcb (by omega))]
    cases L with
    | nil => rw [if_pos (show sP σ (c + 5 + i) 16 = none from h2)]; try rfl
    | cons j L =>
      rw [if_neg (by rw [h2.1]; intro z; cases z), ih _ V h2 (fun j hj => hb j (List.mem_cons_of_mem _ hj)) (by omega), prv_cons, prv_cons, prv_cons]
theorem X3_append {U c m k : Nat} {σ : SG} {D : List Dc} {L : List Nat} (hU : 4000 < U) (hcb : cb c) (hl : D.length < 180) (hk : k < D.length) (hm : m < D.length) (h : LK σ c L (sP σ (c + 5 + m) 15)) (hb : ∀ i ∈ L, i < D.length) (hL : L.length ≤ 200) (hn : k ∉ L) (hnd : L.Nodup) (hk0 : sP σ (c + 5 + k) 16 = none) :
    ∃ τ, x_X3_append U (c + 5 + m) (some (c + 5 + k)) σ = some τ ∧ LK τ c (L ++ [k]) (sP τ (c + 5 + m) 15) ∧ fP (fun b j => (b = c + 5 + m ∧ j = 15) ∨ (j = 16 ∧ ∃ i ∈ L, b = c + 5 + i)) σ τ := by
  unfold x_X3_append
  rw [X3_append_L hcb hl L _ U h hb (by omega)]
  unfold x_X3_append_24
  rcases list_last (L := L) with hA | ⟨A, b, hA⟩
  · subst hA
    rw [if_pos (show prv c none [] = none from rfl), sb_eq]
    refine ⟨_, rfl, ⟨sP_s _ _ _ _, ?_⟩, ?_⟩
    · rw [sP_o (Or.inr (by decide))]; exact hk0
    · intro b' j hj
      refine ⟨rfl, rfl, ?_⟩
      rw [sP_o (ne2 (fun zy => hj (Or.inl zy)))]
  · subst hA
    have hp : prv c none (A ++ [b]) = some (c + 5 + b) := by unfold prv; rw [List.getLast?_append]; try rfl
    have hbm : b ∈ A ++ [b] := by simp
    have hbl := hb b hbm
    have hbk : b ≠ k := fun z => hn (z ▸ hbm)
    obtain ⟨n1, n2, n3⟩ := List.nodup_append.mp hnd
    rw [hp, if_neg (by intro z; cases z), ck_eq (it_sh hcb (by omega)), sb_eq]
    refine ⟨_, rfl, ?_, ?_⟩
    · rw [sP_o (Or.inr (by decide)), List.append_assoc]
      refine LK_put (σ := σ) (B := []) (sP_s _ _ _ _) ?_ A _ h (fun i hi => ?_)
      · rw [sP_o (Or.inl (by omega))]; exact hk0
      · have hib : i ≠ b := fun z => n3 i hi b (List.mem_cons_self ..) z
        rw [sP_o (Or.inl (by omega))]
    · intro b' j hj
      refine ⟨rfl, rfl, ?_⟩
      rw [sP_o (ne2 (fun zy => hj (Or.inr ⟨zy.2, b, hbm, zy.1⟩)))]
/-- the members of a message or an enum among the first k declarations -/
def chD (D : List Dc) : Nat → Nat → List Nat
  | 0, _ => []
  | k + 1, a => match D[k]? with
    | none => chD D k a
    | some d => if dK d = 2 ∧ dS d = some a then insN D k (chD D k a) else if dK d = 3 ∧ dO d = some a then chD D k a ++ [k] else chD D k a
theorem chD_mem {D : List Dc} {a : Nat} : ∀ (k i : Nat), i ∈ chD D k a ↔ i < k ∧ ∃ d, D[i]? = some d ∧ ((dK d = 2 ∧ dS d = some a) ∨ (dK d = 3 ∧ dO d = some a)) := by
  intro k
  induction k with
  | zero => intro i; rw [chD]; exact ⟨fun h => (by cases h), fun h => by omega⟩
  | succ k ih =>
    intro i
    rw [chD]
    have ext : ∀ (P : Prop), (P ↔ (i = k ∧ ∃ d, D[i]? = some d ∧ ((dK d = 2 ∧ dS d = some a) ∨ (dK d = 3 ∧ dO d = some a))) ∨ i ∈ chD D k a) → (P ↔ i < k + 1 ∧ ∃ d, D[i]? = some d ∧ ((dK d = 2 ∧ dS d = some a) ∨ (dK d = 3 ∧ dO d = some a))) := by
      intro P hP
      rw [hP, ih i]
      constructor
      · rintro (⟨z, y⟩ | ⟨z, y⟩)
        · exact ⟨by omega, y⟩
        · exact ⟨by omega, y⟩
      · rintro ⟨z, y⟩
        by_cases q : i = k
        · exact Or.inl ⟨q, y⟩
        · exact Or.inr ⟨by omega, y⟩
    cases e : D[k]? with
    | none =>
      refine ext _ ⟨fun z => Or.inr z, ?_⟩
      rintro (⟨z, d, y, _⟩ | z)
      · rw [z, e] at y; cases y
      · exact z
    | some d =>
      simp only
      by_cases q1 : dK d = 2 ∧ dS d = some a
      · rw [if_pos q1]
        refine ext _ ?_
        rw [mem_insN]
        constructor
        · rintro (z | z)
          · exact Or.inl ⟨z, d, by rw [z]; exact e, Or.inl q1⟩
          · exact Or.inr z
        · rintro (⟨z, _⟩ | z)
          · exact Or.inl z
          · exact Or.inr z
      rw [if_neg q1]
      by_cases q2 : dK d = 3 ∧ dO d = some a
      · rw [if_pos q2]
        refine ext _ ?_
        rw [List.mem_append, List.mem_singleton]
        constructor
        · rintro (z | z)
          · exact Or.inr z
          · exact Or.inl ⟨z, d, by rw [z]; exact e, Or.inr q2⟩
        · rintro (⟨z, _⟩ | z)
          · exact Or.inr z
          · exact Or.inl z
      rw [if_neg q2]
      refine ext _ ⟨fun z => Or.inr z, ?_⟩
      rintro (⟨z, x, y, w⟩ | z)
      · rw [z, e] at y
        cases y
        rcases w with w | w
        · exact absurd w q1
        · exact absurd w q2
      · exact z
theorem chD_lt {D : List Dc} {a k i : Nat} (h : i ∈ chD D k a) : i < k ∧ i < D.length := by
  obtain ⟨h1, d, h2, _⟩ := (chD_mem k i).mp h
  exact ⟨h1, (List.getElem?_eq_some_iff.mp h2).1⟩
theorem insN_nodup {D : List Dc} {k : Nat} {L : List Nat} (h : L.Nodup) (hk : k ∉ L) : (insN D k L).Nodup := by
  unfold insN
  have hs := List.takeWhile_append_dropWhile (p := fun i => decide (nLi D i < nLi D k)) (l := L)
  generalize L.takeWhile (fun i => decide (nLi D i < nLi D k)) = A at *
  generalize L.dropWhile (fun i => decide (nLi D i < nLi D k)) = B at *
  subst hs
  obtain ⟨n1, n2, n3⟩ := List.nodup_append.mp h
  refine List.nodup_append.mpr ⟨n1, List.nodup_cons.mpr ⟨fun z => hk (by simp [z]), n2⟩, fun a ha b hb => ?_⟩
  rcases List.mem_cons.mp hb with z | z
  · subst z; exact fun y => hk (by rw [← y]; simp [ha])
  · exact n3 a ha b z
theorem chD_nodup {D : List Dc} {a : Nat} : ∀ k, (chD D k a).Nodup := by
  intro k
  induction k with
  | zero => rw [chD]; exact List.nodup_nil
  | succ k ih =>
    have hk : k ∉ chD D k a := fun z => by have := (chD_lt z).1; omega
    rw [chD]
    cases e : D[k]? with
    | none => exact ih
    | some d =>
      simp only
      split
      · exact insN_nodup ih hk
      · split
        · exact List.nodup_append.mpr ⟨ih, by simp, fun x hx y hy => by rw [List.mem_singleton.mp hy]; exact fun z => hk (z ▸ hx)⟩
        · exact ih
theorem chD_len {D : List Dc} {a : Nat} : ∀ k, (chD D k a).length ≤ k := by
  intro k
  induction k with
  | zero => rw [chD]; exact Nat.le_refl _
  | succ k ih =>
    rw [chD]
    cases e : D[k]? with
    | none => simp only; omega
    | some d =>
      simp only
      split
      · rw [len_insN]; omega
      · split
        · rw [List.length_append, List.length_singleton]; omega
        · omega
/-! ===== the class judges one declaration ===== -/
/-- numbers can stand in a packed row -/
def nmr (t : Nat) : Bool := decide (t ≤ 10 ∨ t = 14)
def knd (D : List Dc) (t : Nat) : Nat := match D[t]? with
  | some e => dK e
  | none => 0
/-- a named type -/
def nmd (d : Dc) : Bool := decide (dK d = 2 ∧ dT d = 13)
/-- where a field's type is declared; its type -/
def dTg (lk : Option Nat → List Nat → Option Nat) (T : List Nat) (Ws : List Wd) (D : List Dc) (d : Dc) : Option Nat := if nmd d then rsl lk T Ws D d else none
def dTy (lk : Option Nat → List Nat → Option Nat) (T : List Nat) (Ws : List Wd) (D : List Dc) (d : Dc) : Nat := if nmd d then (match rsl lk T Ws D d with | some t => if knd D t = 0 then 13 else 14 | none => 13) else dT d
def dPa (lk : Option Nat → List Nat → Option Nat) (T : List Nat) (Ws : List Wd) (D : List Dc) (d : Dc) : Bool := dR d && nmr (dTy lk T Ws D d) && decide (dP d ≠ 2) && decide (dK d = 2)
/-- a field's number may be one, its packed may stand there; a value's number may be one -/
def okN (n : Nat) : Bool := decide (1 ≤ n ∧ n ≤ 536870911 ∧ ¬ (19000 ≤ n ∧ n ≤ 19999))
def okP (lk : Option Nat → List Nat → Option Nat) (T : List Nat) (Ws : List Wd) (D : List Dc) (d : Dc) : Bool := decide (dP d = 0) || (dR d && nmr (dTy lk T Ws D d))
def okV (v : Bool × Nat) : Bool := decide (v.2 ≤ 2147483647 ∨ (v.1 = true ∧ v.2 = 2147483648))
def okT (lk : Option Nat → List Nat → Option Nat) (T : List Nat) (Ws : List Wd) (D : List Dc) (d : Dc) : Bool := !nmd d || (rsl lk T Ws D d).isSome
def okK (lk : Option Nat → List Nat → Option Nat) (T : List Nat) (Ws : List Wd) (D : List Dc) (k : Nat) (d : Dc) : Bool :=
  if dK d = 2 then okN (dN d).2 && (match dS d with | some m => ((chD D k m).find? (fun i => decide (nLi D i = nL (dN d)))).isNone | none => false) && okP lk T Ws D d
  else if dK d = 3 then okV (dN d) && (match dO d with | some e => decide (chD D k e = [] → (dN d).2 = 0) | none => false)
  else true
def okD (lk : Option Nat → List Nat → Option Nat) (T : List Nat) (Ws : List Wd) (D : List Dc) (k : Nat) (d : Dc) : Bool := okT lk T Ws D d && !tkn T D k d && okK lk T Ws D k d
/-- the cells that judging may change -/
def PJ (c b j : Nat) : Prop := (b = c ∧ (j = 3 ∨ j = 4)) ∨ (c + 5 ≤ b ∧ b < c + 185 ∧ (j = 8 ∨ j = 10 ∨ j = 12 ∨ j = 15 ∨ j = 16))
theorem IS_PJ {c a i : Nat} {σ τ : SG} {d : Dc} (h : IS σ c a i d) (hf : ∀ j, ¬ (j = 8 ∨ j = 10 ∨ j = 12 ∨ j = 15 ∨ j = 16) → sI τ a j = sI σ a j ∧ sL τ a j = sL σ a j ∧ sP τ a j = sP σ a j) : IS τ c a i d := by
  obtain ⟨h0, h1, h2, h3, h4, h5, h6, h9, h11, h13, h14⟩ := h
  refine ⟨?_, ?_, ?_, ?_, ?_, ?_, ?_, fun z => ?_, ?_, ?_, ?_⟩
  · rw [(hf 0 (by decide)).1]; exact h0
  · rw [(hf 1 (by decide)).1]; exact h1
  · rw [(hf 2 (by decide)).2.2]; exact h2
  · rw [(hf 3 (by decide)).2.2]; exact h3
  · rw [(hf 4 (by decide)).1]; exact h4
  · rw [(hf 5 (by decide)).1]; exact h5
  · rw [(hf 6 (by decide)).2.1]; exact h6
  · rw [(hf 9 (by decide)).1]; exact h9 z
  · rw [(hf 11 (by decide)).1]; exact h11
  · rw [(hf 13 (by decide)).1]; exact h13
  · rw [(hf 14 (by decide)).1]; exact h14
theorem JS_PJ {c : Nat} {σ τ : SG} {D : List Dc} (h : JS σ c D) (hf : fP (PJ c) σ τ) : JS τ c D := by
  refine ⟨((hf (c + 1) 3 (by unfold PJ; omega)).1).trans h.1, h.2.1, fun i d hd => IS_PJ (h.2.2 i d hd) (fun j hj => hf _ _ (by unfold PJ; omega))⟩
theorem RB_PJ {c a : Nat} {σ τ : SG} {T : List Nat} {z : Int32} (h : RB σ a T z) (hf : fP (PJ c) σ τ) (ha : a ≠ c) (ha' : a + 1 ≠ c) (hb : a < c ∨ (c < a ∧ a < c + 4) ∨ c + 185 ≤ a) (hb' : a + 1 < c + 5 ∨ c + 185 ≤ a) : RB τ a T z :=
  h.sm (fun k => hf a k (by unfold PJ; omega)) (fun k => hf (a + 1) k (by unfold PJ; omega))
theorem WA_PJ {c : Nat} {σ τ : SG} {Ws : List Wd} (h : WA σ (c + 186) Ws) (hf : fP (PJ c) σ τ) : WA τ (c + 186) Ws := by
  refine ⟨((hf (c + 186) 5 (by unfold PJ; omega)).1).trans h.1, h.2.1, fun i x hi => ?_⟩
  obtain ⟨a1, a2, a3, a4⟩ := h.2.2 i x hi
  exact ⟨((hf (c + 186 + 1) i (by unfold PJ; omega)).1).trans a1, ((hf (c + 186 + 2) i (by unfold PJ; omega)).1).trans a2, ((hf (c + 186 + 3) i (by unfold PJ; omega)).1).trans a3, ((hf (c + 186 + 4) i (by unfold PJ; omega)).2.1).trans a4⟩
/-- how the items stand when the first k are judged -/
def JI (σ : SG) (c : Nat) (T : List Nat) (Ws : List Wd) (D : List Dc) (k i : Nat) (d : Dc) : Prop := (k ≤ i → sI σ (c + 5 + i) 8 = nI (dT d) ∧ sP σ (c + 5 + i) 10 = none ∧ sI σ (c + 5 + i) 12 = 0 ∧ sP σ (c + 5 + i) 16 = none) ∧ (i < k → sI σ (c + 5 + i) 8 = nI (dTy (lkC T D) T Ws D d) ∧ sP σ (c + 5 + i) 10 = ad c (dTg (lkC T D) T Ws D d) ∧ sI σ (c + 5 + i) 12 = zI (dPa (lkC T D) T Ws D d)) ∧ LK σ c (chD D k i) (sP σ (c + 5 + i) 15)
def JD (σ : SG) (c : Nat) (T : List Nat) (Ws : List Wd) (D : List Dc) (k : Nat) : Prop := ∀ i d, D[i]? = some d → JI σ c T Ws D k i d
theorem JD_0 {σ : SG} {c : Nat} {T : List Nat} {Ws : List Wd} {D : List Dc} (h : ITs σ c D) : JD σ c T Ws D 0 := by
  intro i d hd
  obtain ⟨h0, h1, h2, h3, h4, h5, h6, h8, h9, h10, h11, h12, h13, h14, h15, h16⟩ := h.2.2.2 i d hd
  exact ⟨fun _ => ⟨h8, h10, h12, h16⟩, fun z => by omega, h15⟩
/-- judging one item -/
def JR (c : Nat) (T : List Nat) (Ws : List Wd) (D : List Dc) (k : Nat) (σ : SG) (ok : Bool) (x : Option SG) : Prop := ∃ τ, x = some τ ∧ fP (PJ c) σ τ ∧ (ok = true → sI τ c 3 = sI σ c 3 ∧ JD τ c T Ws D (k + 1)) ∧ (ok = false → ¬ sI τ c 3 = 0)
theorem JR_fail {c k : Nat} {T : List Nat} {Ws : List Wd} {D : List Dc} {σ υ : SG} {v p : Int32} {ok : Bool} (hv : ¬ v = 0) (hf : fP (PJ c) σ υ) (hok : ok = false) : JR c T Ws D k σ ok (b1 (x_X2_fail c v p υ) fun τ => some τ) := by
  unfold x_X2_fail
  rw [sb_eq, sb_eq, b1_eq]
  refine ⟨_, rfl, fP_trans hf (fP_trans (fP_u (Or.inl ⟨rfl, Or.inl rfl⟩)) (fP_u (Or.inl ⟨rfl, Or.inr rfl⟩))), fun z => (by rw [hok] at z; cases z), fun _ => ?_⟩
  rw [sI_o (Or.inr (by decide)), sI_s]
  exact hv
/-- all but the item k and the chains stay -/
theorem JD_step {c k : Nat} {T : List Nat} {Ws : List Wd} {D : List Dc} {σ τ : SG} (h : JD σ c T Ws D k) (h8 : ∀ i, i ≠ k → i < D.length → sI τ (c + 5 + i) 8 = sI σ (c + 5 + i) 8 ∧ sP τ (c + 5 + i) 10 = sP σ (c + 5 + i) 10 ∧ sI τ (c + 5 + i) 12 = sI σ (c + 5 + i) 12) (h16 : ∀ i, k < i → i < D.length → sP τ (c + 5 + i) 16 = sP σ (c + 5 + i) 16) (hk : ∀ d, D[k]? = some d → sI τ (c + 5 + k) 8 = nI (dTy (lkC T D) T Ws D d) ∧ sP τ (c + 5 + k) 10 = ad c (dTg (lkC T D) T Ws D d) ∧ sI τ (c + 5 + k) 12 = zI (dPa (lkC T D) T Ws D d)) (hc : ∀ a, a < D.length → LK τ c (chD D (k + 1) a) (sP τ (c + 5 + a) 15)) : JD τ c T Ws D (k + 1) := by
  intro i d hd
  have hi := (List.getElem?_eq_some_iff.mp hd).1
  obtain ⟨a1, a2, a3⟩ := h i d hd
  refine ⟨fun z => ?_, fun z => ?_, hc i hi⟩
  · obtain ⟨b1', b2', b3⟩ := h8 i (by omega) hi
    obtain ⟨c1, c2, c3, c4⟩ := a1 (by omega)
    exact ⟨b1'.trans c1, b2'.trans c2, b3.trans c3, (h16 i (by omega) hi).trans c4⟩
  · by_cases q : i = k
    · subst q; exact hk d hd
    · obtain ⟨b1', b2', b3⟩ := h8 i q hi
      obtain ⟨c1, c2, c3⟩ := a2 (by omega)
      exact ⟨b1'.trans c1, b2'.trans c2, b3.trans c3⟩
/-- chains that k does not belong to -/
theorem chD_other {D : List Dc} {k a : Nat} {d : Dc} (hd : D[k]? = some d) (h1 : ¬ (dK d = 2 ∧ dS d = some a)) (h2 : ¬ (dK d = 3 ∧ dO d = some a)) : chD D (k + 1) a = chD D k a := by
  rw [chD, hd]
  simp only
  rw [if_neg h1, if_neg h2]
/-- two holders have no member in common -/
theorem chD_apart {D : List Dc} {k a a' i : Nat} (hne : a ≠ a') (h : i ∈ chD D k a) (h' : i ∈ chD D k a') : False := by
  obtain ⟨_, d, e, w⟩ := (chD_mem k i).mp h
  obtain ⟨_, d', e', w'⟩ := (chD_mem k i).mp h'
  rw [e] at e'
  cases e'
  rcases w with w | w <;> rcases w' with w' | w'
  · rw [w.2] at w'; exact hne (Option.some.inj w'.2)
  · omega
  · omega
  · rw [w.2] at w'; exact hne (Option.some.inj w'.2)
theorem nI_13 : (13 : Int32) = nI 13 := rfl
theorem X11_isNumeric {t : Nat} (ht : t < 100) : x_X11_isNumeric (nI t) = some (zI (nmr t)) := (by decide +kernel : ∀ t, t < 100 → x_X11_isNumeric (nI t) = some (zI (nmr t))) t ht
theorem dTy_lt {lk : Option Nat → List Nat → Option Nat} {T : List Nat} {Ws : List Wd} {D : List Dc} {d : Dc} (h : dT d ≤ 13) : dTy lk T Ws D d ≤ 14 := by
  unfold dTy
  split
  · split
    · split <;> decide
    · decide
  · omega
/-- the judging of a field, once its type is found and its name is free -/
theorem X2_judgeField {U c k : Nat} {T : List Nat} {Ws : List Wd} {D : List Dc} {d : Dc} {σ0 σ : SG} (hU : 4000 < U) (hcb : cb c) (hJ : JS σ c D) (hW : WF D) (hd : D[k]? = some d) (h2 : dK d = 2) (hN1 : (dN d).1 = false) (hN2 : (dN d).2 ≤ 2 ^ 40) (hP2 : dP d ≤ 2) (hT13 : dT d ≤ 13) (hf : fP (PJ c) σ0 σ) (hD0 : JD σ0 c T Ws D k) (h3 : sI σ c 3 = sI σ0 c 3)
    (h8 : ∀ i, i ≠ k → i < D.length → sI σ (c + 5 + i) 8 = sI σ0 (c + 5 + i) 8 ∧ sP σ (c + 5 + i) 10 = sP σ0 (c + 5 + i) 10 ∧ sI σ (c + 5 + i) 12 = sI σ0 (c + 5 + i) 12) (h16 : ∀ i, i < D.length → sP σ (c + 5 + i) 16 = sP σ0 (c + 5 + i) 16 ∧ sP σ (c + 5 + i) 15 = sP σ0 (c + 5 + i) 15) (hk8 : sI σ (c + 5 + k) 8 = nI (dTy (lkC T D) T Ws D d)) (hk10 : sP σ (c + 5 + k) 10 = ad c (dTg (lkC T D) T Ws D d)) :
    JR c T Ws D k σ0 (okK (lkC T D) T Ws D k d) (b1 (x_X2_judgeField U c (some (c + 5 + k)) σ) fun τ => some τ) := by
  have hl := hJ.2.1
  have hkl := (List.getElem?_eq_some_iff.mp hd).1
  have hI := hJ.2.2 k _ hd
  have hv : sL σ (c + 5 + k) 6 = lN (dN d).2 := by rw [hI.2.2.2.2.2.2.1]; unfold nL; rw [hN1]; try rfl
  have hnl : nL (dN d) = lN (dN d).2 := by unfold nL; rw [hN1]; try rfl
  obtain ⟨m, hm⟩ : ∃ m, dS d = some m := by
    rcases (hW k d hd).2 with z | z | z | z | z
    · omega
    · omega
    · omega
    · cases e : dS d with
      | none => exact absurd e z.2.1
      | some m => exact ⟨m, rfl⟩
    · omega
  have hml : m < k := (hW.before hd).1 m hm
  have hmd := List.getElem?_eq_getElem (show m < D.length by omega)
  -- outside: an error
  have bad : okK (lkC T D) T Ws D k d = false → JR c T Ws D k σ0 (okK (lkC T D) T Ws D k d) (b1 (x_X2_judgeField_67 U c (some (c + 5 + k)) σ) fun τ => some τ) := by
    intro z
    unfold x_X2_judgeField_67
    rw [ck_eq (it_sh hcb (by omega))]
    have := JR_fail (c := c) (k := k) (T := T) (Ws := Ws) (D := D) (p := sI σ (c + 5 + k) 7) (v := 4) (by decide) hf z
    obtain ⟨τ, e, r⟩ := this
    refine ⟨τ, ?_, r⟩
    cases e2 : x_X2_fail c 4 (sI σ (c + 5 + k) 7) σ with
    | none => rw [e2] at e; cases e
    | some y => rw [e2, b1_eq] at e; cases e; try rfl
  have out35 : okN (dN d).2 = false → JR c T Ws D k σ0 (okK (lkC T D) T Ws D k d) (b1 (x_X2_judgeField_35 U c (some (c + 5 + k)) (lN (dN d).2) σ) fun τ => some τ) := by
    intro z
    have zk : okK (lkC T D) T Ws D k d = false := by unfold okK; rw [if_pos h2, z]; try rfl
    unfold x_X2_judgeField_35 x_X2_judgeField_40
    rw [ck_eq (it_sh hcb (by omega)), if_neg (by decide)]
    exact bad zk
  have in39 : okN (dN d).2 = true → JR c T Ws D k σ0 (okK (lkC T D) T Ws D k d) (b1 (x_X2_judgeField_39 U c (some (c + 5 + k)) (lN (dN d).2) σ) fun τ => some τ) := by
    intro zN
    have hLK : LK σ c (chD D k m) (sP σ (c + 5 + m) 15) := by
      rw [(h16 m (by omega)).2]
      exact LK_keep _ _ (hD0 m _ hmd).2.2 (fun i hi => (h16 i (chD_lt hi).2).1)
    have hch := chD_len (D := D) (a := m) k
    have hkn : k ∉ chD D k m := fun z => by have := (chD_lt z).1; omega
    unfold x_X2_judgeField_39 x_X2_judgeField_40
    rw [ck_eq (it_sh hcb (by omega)), if_pos rfl, hI.2.2.1, hm, if_neg (show ¬ ad c (some m) = none by intro z; cases z), ad_some, ck_eq (it_sh hcb (by omega)), X3_memberNumbered hU hcb hJ hLK (fun i hi => (chD_lt hi).2) (by omega), b1_eq]
    cases hfi : (chD D k m).find? (fun i => decide (nLi D i = lN (dN d).2)) with
    | some i =>
      rw [if_neg (by intro z; cases z)]
      refine bad ?_
      unfold okK
      rw [if_pos h2, hm, hnl]; simp only; rw [hfi, zN]
      try rfl
    | none =>
      rw [if_pos (show ad c none = none from rfl)]
      obtain ⟨τ, e1, e2, e3⟩ := X3_insert (U := U) hU hcb hJ hkl (by omega) hLK (fun i hi => (chD_lt hi).2) (by omega) hkn (chD_nodup k)
      rw [e1, b1_eq]
      have okk : okK (lkC T D) T Ws D k d = okP (lkC T D) T Ws D d := by
        unfold okK
        rw [if_pos h2, hm, hnl]; simp only; rw [hfi, zN]
        try rfl
      rw [okk]
      have fτ : fP (PJ c) σ τ := fP_mono e3 (fun b j z => by
        rcases z with ⟨z1, z2⟩ | ⟨z1, z2⟩ | ⟨z1, i, z2, z3⟩
        · exact Or.inr (by omega)
        · exact Or.inr (by omega)
        · have := (chD_lt z2).2; exact Or.inr (by omega))
      have cell : ∀ i j, j ≠ 15 → j ≠ 16 → sI τ (c + 5 + i) j = sI σ (c + 5 + i) j ∧ sL τ (c + 5 + i) j = sL σ (c + 5 + i) j ∧ sP τ (c + 5 + i) j = sP σ (c + 5 + i) j := fun i j h15 h16 => e3 _ _ (by
        rintro (z | z | z)
        · exact h16 z.2
        · exact h15 z.2
        · exact h16 z.1)
      -- the end: what is told of packed
      have fin : ∀ (s1 row : Int32) (pa : Bool), s1 = zI pa → pa = dPa (lkC T D) T Ws D d → (okP (lkC T D) T Ws D d = false → row = 0 ∧ dP d ≠ 0) → (okP (lkC T D) T Ws D d = true → row = 0 → dP d = 0) → JR c T Ws D k σ0 (okP (lkC T D) T Ws D d) (b1 (x_X2_judgeField_125 U c (some (c + 5 + k)) row s1 (some (c + 5 + k)) τ) fun τ => some τ) := by
        intro s1 row pa hs hpa hbad hgood
        unfold x_X2_judgeField_125
        rw [ck_eq (it_sh hcb (by omega)), hs]
        have hzb : ∀ (y : Option SG), zb (zI pa) y = y := fun y => by cases pa <;> rfl
        rw [hzb, sb_eq, ck_eq (it_sh hcb (by omega)), sI_o (Or.inr (by decide)), (cell k 14 (by decide) (by decide)).1]
        have fυ : fP (PJ c) σ0 (uI τ (c + 5 + k) 12 (zI pa)) := fP_trans hf (fP_trans fτ (fP_u (Or.inr (by omega))))
        have good : okP (lkC T D) T Ws D d = true → JR c T Ws D k σ0 (okP (lkC T D) T Ws D d) (some (uI τ (c + 5 + k) 12 (zI pa))) := by
          intro zo
          refine ⟨_, rfl, fυ, fun _ => ⟨?_, ?_⟩, fun z => (by rw [zo] at z; cases z)⟩
          · have hc5 : c ≠ c + 5 + k := by omega
            rw [sI_o (Or.inl hc5), (e3 c 3 (by rintro (z | z | ⟨_, i, z2, z3⟩) <;> omega)).1]
            exact h3
          · refine JD_step hD0 (fun i hi hil => ?_) (fun i hi hil => ?_) (fun d' hd' => ?_) (fun a ha => ?_)
            · have hne : c + 5 + i ≠ c + 5 + k := by omega
              obtain ⟨w1, w2, w3⟩ := h8 i hi hil
              rw [sI_o (Or.inl hne), sP_uI, sI_o (Or.inl hne), (cell i 8 (by decide) (by decide)).1, (cell i 10 (by decide) (by decide)).2.2, (cell i 12 (by decide) (by decide)).1]
              exact ⟨w1, w2, w3⟩
            · rw [sP_uI, (e3 (c + 5 + i) 16 (by
                rintro (z | z | ⟨_, j, z2, z3⟩)
                · omega
                · omega
                · have := (chD_lt z2).1; omega)).2.2]
              exact (h16 i hil).1
            · rw [hd] at hd'
              cases hd'
              rw [sI_o (Or.inr (by decide)), sP_uI, sI_s, (cell k 8 (by decide) (by decide)).1, (cell k 10 (by decide) (by decide)).2.2]
              exact ⟨hk8, hk10, by rw [hpa]⟩
            · rw [sP_uI]
              by_cases q : a = m
              · subst q
                have ec : chD D (k + 1) a = insN D k (chD D k a) := by rw [chD, hd]; simp only; rw [if_pos ⟨h2, hm⟩]
                rw [ec]
                exact LK_keep _ _ e2 (fun i _ => sP_uI _ _ _ _ _ _)
              · have had := List.getElem?_eq_getElem ha
                rw [chD_other hd (fun z => q (by rw [hm] at z; exact (Option.some.inj z.2).symm)) (fun z => by omega), (e3 (c + 5 + a) 15 (by rintro (z | z | z) <;> omega)).2.2, (h16 a ha).2]
                refine LK_keep _ _ (hD0 a _ had).2.2 (fun i hi => ?_)
                rw [sP_uI, (e3 (c + 5 + i) 16 (by
                  rintro (z | z | ⟨_, j, z2, z3⟩)
                  · have := (chD_lt hi).1; omega
                  · omega
                  · have : i = j := by omega
                    subst this
                    exact chD_apart q hi z2)).2.2]
                exact (h16 i (chD_lt hi).2).1
        by_cases q0 : dP d = 0
        · rw [if_pos (hI.2.2.2.2.2.2.2.2.2.2.mpr q0), b1_eq]
          exact good (by unfold okP; rw [decide_eq_true q0]; rfl)
        · rw [if_neg (fun z => q0 (hI.2.2.2.2.2.2.2.2.2.2.mp z))]
          cases ho : okP (lkC T D) T Ws D d with
          | false =>
            rw [if_pos (hbad ho).1]
            have := JR_fail (c := c) (k := k) (T := T) (Ws := Ws) (D := D) (ok := false) (v := 6) (p := sI σ (c + 5 + k) 14) (by decide) fυ rfl
            obtain ⟨υ, y1, y2⟩ := this
            refine ⟨υ, ?_, y2⟩
            cases e9 : x_X2_fail c 6 (sI σ (c + 5 + k) 14) (uI τ (c + 5 + k) 12 (zI pa)) with
            | none => rw [e9] at y1; cases y1
            | some y => rw [e9, b1_eq] at y1; cases y1; try rfl
          | true =>
            rw [if_neg (fun z => q0 (hgood ho z)), b1_eq]
            rw [ho] at good
            exact good rfl
      rw [(cell k 11 (by decide) (by decide)).1, hI.2.2.2.2.2.2.2.2.1]
      unfold x_X2_judgeField_104 x_X2_judgeField_105 x_X2_judgeField_124
      rw [ifz]
      have hpa0 : ∀ r, dPa (lkC T D) T Ws D d = r ↔ (dR d && nmr (dTy (lkC T D) T Ws D d) && decide (dP d ≠ 2)) = r := fun r => by unfold dPa; rw [h2]; simp
      cases hR : dR d with
      | false =>
        rw [if_neg (by decide), if_pos rfl]
        refine fin 0 0 false rfl ?_ (fun z => ⟨rfl, ?_⟩) (fun z _ => ?_)
        · unfold dPa; rw [hR]; try rfl
        · intro y; unfold okP at z; rw [y] at z; cases z
        · unfold okP at z; rw [hR] at z; simpa using z
      | true =>
        rw [if_pos rfl, (cell k 8 (by decide) (by decide)).1, hk8, X11_isNumeric (by have := dTy_lt (lk := lkC T D) (T := T) (Ws := Ws) (D := D) hT13; omega), b1_eq, ifz]
        cases hn : nmr (dTy (lkC T D) T Ws D d) with
        | false =>
          rw [if_neg (by decide), if_pos rfl]
          refine fin 0 0 false rfl ?_ (fun z => ⟨rfl, ?_⟩) (fun z _ => ?_)
          · unfold dPa; rw [hR, hn]; try rfl
          · intro y; unfold okP at z; rw [y] at z; cases z
          · unfold okP at z; rw [hR, hn] at z; simpa using z
        | true =>
          have ho : okP (lkC T D) T Ws D d = true := by unfold okP; rw [hR, hn]; simp
          rw [if_pos rfl, if_neg (by decide), ck_eq (it_sh hcb (by omega)), (cell k 13 (by decide) (by decide)).1, hI.2.2.2.2.2.2.2.2.2.1, ifz]
          by_cases q2 : dP d = 2
          · rw [decide_eq_true q2, if_pos rfl]
            refine fin 0 1 false rfl ?_ (fun z => by rw [ho] at z; cases z) (fun _ z => by cases z)
            unfold dPa; rw [hR, hn, decide_eq_false (fun z => z q2)]; try rfl
          · rw [decide_eq_false q2, if_neg (by decide)]
            refine fin 1 1 true rfl ?_ (fun z => by rw [ho] at z; cases z) (fun _ z => by cases z)
            unfold dPa; rw [hR, hn, decide_eq_true q2, decide_eq_true h2]; try rfl
  unfold x_X2_judgeField
  rw [ck_eq (it_sh hcb (by omega)), hv]
  have c1 : lN (dN d).2 < 1 ↔ (dN d).2 < 1 := pk_lLT (b := 1) (by omega) (by decide)
  have c2 : (536870911 : Int64) < lN (dN d).2 ↔ 536870911 < (dN d).2 := pk_lLT (a := 536870911) (by decide) (by omega)
  have c3 : lN (dN d).2 < 19000 ↔ (dN d).2 < 19000 := pk_lLT (b := 19000) (by omega) (by decide)
  have c4 : (19999 : Int64) < lN (dN d).2 ↔ 19999 < (dN d).2 := pk_lLT (a := 19999) (by decide) (by omega)
  rw [ifd c1, ifd c2, ifd c3, ifd c4]
  by_cases q1 : (dN d).2 < 1
  · rw [if_pos q1]; exact out35 (decide_eq_false (by omega))
  rw [if_neg q1]
  by_cases q2 : 536870911 < (dN d).2
  · rw [if_pos q2]; exact out35 (decide_eq_false (by omega))
  rw [if_neg q2]
  by_cases q3 : (dN d).2 < 19000
  · rw [if_pos q3]; exact in39 (decide_eq_true (by omega))
  rw [if_neg q3]
  by_cases q4 : 19999 < (dN d).2
  · rw [if_pos q4]; exact in39 (decide_eq_true (by omega))
  rw [if_neg q4]; exact out35 (decide_eq_false (by omega))
/-! ===== the class judges values, and all declarations ===== -/
theorem nL_toInt {v : Bool × Nat} (h : v.2 < 2 ^ 62) : (nL v).toInt = if v.1 then -(v.2 : Int) else (v.2 : Int) := by
  unfold nL
  cases v.1 with
  | false => simp only [Bool.false_eq_true, if_false]; exact pk_lT (by omega)
  | true =>
    simp only [if_true]
    rw [Int64.toInt_neg, pk_lT (by omega)]
    apply Int.bmod_eq_of_le
    · have : (2 : Int) ^ 64 = 18446744073709551616 := by decide
      have h9 : (2 : Nat) ^ 62 = 4611686018427387904 := by decide
      simp; omega
    · have h9 : (2 : Nat) ^ 62 = 4611686018427387904 := by decide
      simp; omega
theorem nL_lo {v : Bool × Nat} (h : v.2 < 2 ^ 62) : nL v < (-2147483648) ↔ v.1 = true ∧ 2147483648 < v.2 := by
  rw [Int64.lt_iff_toInt_lt, nL_toInt h, show ((-2147483648 : Int64)).toInt = -2147483648 by decide]
  cases v.1 <;> simp <;> omega
theorem nL_hi {v : Bool × Nat} (h : v.2 < 2 ^ 62) : (2147483647 : Int64) < nL v ↔ v.1 = false ∧ 2147483647 < v.2 := by
  rw [Int64.lt_iff_toInt_lt, nL_toInt h, show ((2147483647 : Int64)).toInt = 2147483647 by decide]
  cases v.1 <;> simp <;> omega
theorem nL_0 {v : Bool × Nat} (h : v.2 < 2 ^ 62) : nL v = 0 ↔ v.2 = 0 := by
  rw [← Int64.toInt_inj, nL_toInt h, show ((0 : Int64)).toInt = 0 by decide]
  cases v.1 <;> simp
theorem LK_nil {σ : SG} {c : Nat} {L : List Nat} {p : Option Nat} (h : LK σ c L p) : p = none ↔ L = [] := by
  cases L with
  | nil => exact ⟨fun _ => rfl, fun _ => h⟩
  | cons i L => rw [h.1]; exact ⟨fun z => (by cases z), fun z => (by cases z)⟩
theorem b1_id (x : Option SG) : (b1 x fun τ => some τ) = x := by cases x <;> rfl
theorem X2_judgeValue {U c k : Nat} {T : List Nat} {Ws : List Wd} {D : List Dc} {d : Dc} {σ : SG} (hU : 4000 < U) (hcb : cb c) (hJ : JS σ c D) (hW : WF D) (hd : D[k]? = some d) (h3 : dK d = 3) (hN2 : (dN d).2 ≤ 2 ^ 40) (hD0 : JD σ c T Ws D k) :
    JR c T Ws D k σ (okK (lkC T D) T Ws D k d) (b1 (x_X2_judgeValue U c (some (c + 5 + k)) σ) fun τ => some τ) := by
  have hl := hJ.2.1
  have hkl := (List.getElem?_eq_some_iff.mp hd).1
  have hI := hJ.2.2 k _ hd
  obtain ⟨e, he⟩ : ∃ e, dO d = some e := by
    rcases (hW k d hd).2 with z | z | z | z | z
    · omega
    · omega
    · omega
    · omega
    · obtain ⟨_, e, he, _⟩ := z; exact ⟨e, he⟩
  have hel : e < k := (hW.before hd).2 e he
  have hed := List.getElem?_eq_getElem (show e < D.length by omega)
  have hkk := hD0 k d hd
  obtain ⟨u8, u10, u12, u16⟩ := hkk.1 (Nat.le_refl _)
  have hLK := (hD0 e _ hed).2.2
  have hch := chD_len (D := D) (a := e) k
  have hkn : k ∉ chD D k e := fun z => by have := (chD_lt z).1; omega
  have okk : okK (lkC T D) T Ws D k d = (okV (dN d) && decide (chD D k e = [] → (dN d).2 = 0)) := by
    unfold okK
    rw [if_neg (by omega), if_pos h3, he]
  rw [okk, b1_id]
  have bad : (okV (dN d) && decide (chD D k e = [] → (dN d).2 = 0)) = false → JR c T Ws D k σ (okV (dN d) && decide (chD D k e = [] → (dN d).2 = 0)) (x_X2_judgeValue_57 U c (some (c + 5 + k)) σ) := by
    intro z
    unfold x_X2_judgeValue_57
    rw [ck_eq (it_sh hcb (by omega))]
    exact JR_fail (by decide) (fP_refl _ _) z
  unfold x_X2_judgeValue
  rw [ck_eq (it_sh hcb (by omega)), hI.2.2.2.2.2.2.1, hI.2.2.2.1, he]
  have good : okV (dN d) = true → JR c T Ws D k σ (okV (dN d) && decide (chD D k e = [] → (dN d).2 = 0)) (x_X2_judgeValue_32 U c (some (c + 5 + k)) (ad c (some e)) 0 σ) := by
    intro zv
    unfold x_X2_judgeValue_32
    rw [if_pos rfl, if_neg (by intro z; cases z), ad_some, ck_eq (it_sh hcb (by omega))]
    have app : (chD D k e = [] → (dN d).2 = 0) → JR c T Ws D k σ (okV (dN d) && decide (chD D k e = [] → (dN d).2 = 0)) (x_X2_judgeValue_68 U c (some (c + 5 + k)) (some (c + 5 + e)) σ) := by
      intro z0
      rw [zv, decide_eq_true z0]
      unfold x_X2_judgeValue_68
      rw [ck_eq (it_sh hcb (by omega)), b1_id]
      obtain ⟨τ, e1, e2, e3⟩ := X3_append (U := U) hU hcb hl hkl (by omega) hLK (fun i hi => (chD_lt hi).2) (by omega) hkn (chD_nodup k) u16
      have cell : ∀ i j, j ≠ 15 → j ≠ 16 → sI τ (c + 5 + i) j = sI σ (c + 5 + i) j ∧ sL τ (c + 5 + i) j = sL σ (c + 5 + i) j ∧ sP τ (c + 5 + i) j = sP σ (c + 5 + i) j := fun i j h15 h16 => e3 _ _ (by
        rintro (z | z)
        · exact h15 z.2
        · exact h16 z.1)
      refine ⟨τ, e1, fP_mono e3 (fun b j z => ?_), fun _ => ⟨?_, ?_⟩, fun z => (by cases z)⟩
      · rcases z with z | ⟨z1, i, z2, z3⟩
        · exact Or.inr (by omega)
        · have := (chD_lt z2).2; exact Or.inr (by omega)
      · rw [(e3 c 3 (by rintro (z | ⟨_, i, z2, z3⟩) <;> omega)).1]
      · refine JD_step hD0 (fun i hi hil => ?_) (fun i hi hil => ?_) (fun d' hd' => ?_) (fun a ha => ?_)
        · exact ⟨(cell i 8 (by decide) (by decide)).1, (cell i 10 (by decide) (by decide)).2.2, (cell i 12 (by decide) (by decide)).1⟩
        · exact (e3 (c + 5 + i) 16 (by
            rintro (z | ⟨_, j, z2, z3⟩)
            · omega
            · have := (chD_lt z2).1; omega)).2.2
        · rw [hd] at hd'
          cases hd'
          have hn : nmd d = false := decide_eq_false (fun z => by omega)
          rw [(cell k 8 (by decide) (by decide)).1, (cell k 10 (by decide) (by decide)).2.2, (cell k 12 (by decide) (by decide)).1, u8, u10, u12]
          unfold dTy dTg dPa
          rw [hn, decide_eq_false (show ¬ dK d = 2 by omega), Bool.and_false]
          exact ⟨rfl, rfl, rfl⟩
        · by_cases q : a = e
          · subst q
            have ec : chD D (k + 1) a = chD D k a ++ [k] := by rw [chD, hd]; simp only; rw [if_neg (by omega), if_pos ⟨h3, he⟩]
            rw [ec]
            exact e2
          · have had := List.getElem?_eq_getElem ha
            rw [chD_other hd (fun z => by omega) (fun z => q (by rw [he] at z; exact (Option.some.inj z.2).symm)), (e3 (c + 5 + a) 15 (by rintro (z | z) <;> omega)).2.2]
            refine LK_keep _ _ (hD0 a _ had).2.2 (fun i hi => ?_)
            exact (e3 (c + 5 + i) 16 (by
              rintro (z | ⟨_, j, z2, z3⟩)
              · omega
              · have : i = j := by omega
                subst this
                exact chD_apart q hi z2)).2.2
    by_cases q1 : chD D k e = []
    · rw [if_pos ((LK_nil hLK).mpr q1), ck_eq (it_sh hcb (by omega)), hI.2.2.2.2.2.2.1]
      by_cases q2 : (dN d).2 = 0
      · rw [if_pos ((nL_0 (by omega)).mpr q2)]; exact app (fun _ => q2)
      · rw [if_neg (fun z => q2 ((nL_0 (by omega)).mp z))]
        exact bad (by rw [zv, decide_eq_false (fun z => q2 (z q1))]; rfl)
    · rw [if_neg (fun z => q1 ((LK_nil hLK).mp z))]
      exact app (fun z => absurd z q1)
  have out27 : okV (dN d) = false → JR c T Ws D k σ (okV (dN d) && decide (chD D k e = [] → (dN d).2 = 0)) (x_X2_judgeValue_27 U c (some (c + 5 + k)) (ad c (some e)) σ) := by
    intro z
    unfold x_X2_judgeValue_27 x_X2_judgeValue_32
    rw [if_neg (by decide)]
    exact bad (by rw [z]; rfl)
  rw [ifd (nL_lo (v := dN d) (by omega)), ifd (nL_hi (v := dN d) (by omega))]
  by_cases q1 : (dN d).1 = true ∧ 2147483648 < (dN d).2
  · rw [if_pos q1]
    exact out27 (decide_eq_false (by rintro (z | z) <;> omega))
  rw [if_neg q1]
  by_cases q2 : (dN d).1 = false ∧ 2147483647 < (dN d).2
  · rw [if_pos q2]
    refine out27 (decide_eq_false ?_)
    rintro (z | z)
    · omega
    · rw [q2.1] at z; cases z.1
  rw [if_neg q2]
  refine good (decide_eq_true ?_)
  cases hb : (dN d).1 with
  | true =>
    have : ¬ 2147483648 < (dN d).2 := fun z => q1 ⟨hb, z⟩
    by_cases q : (dN d).2 = 2147483648
    · exact Or.inr ⟨rfl, q⟩
    · exact Or.inl (by omega)
  | false =>
    have : ¬ 2147483647 < (dN d).2 := fun z => q2 ⟨hb, z⟩
    exact Or.inl (by omega)
/-- the class judges one declaration -/
theorem X2_judge {U c k : Nat} {T : List Nat} {Ws : List Wd} {D : List Dc} {d : Dc} {σ : SG} (hU : 4000 < U) (hcb : cb c) (hS : WS T Ws) (hWA : WA σ (c + 186) Ws) (hT : RB σ (c + 2) T 0) (hJ : JS σ c D) (hW : WF D) (hG : GD T Ws D) (hd : D[k]? = some d) (h0 : sI σ c 3 = 0) (hD0 : JD σ c T Ws D k) :
    JR c T Ws D k σ (okD (lkC T D) T Ws D k d) (x_X2_judge U c (some (c + 5 + k)) (nI k) σ) := by
  have hl := hJ.2.1
  have hkl := (List.getElem?_eq_some_iff.mp hd).1
  have hI := hJ.2.2 k _ hd
  have hN : GNs T D := fun i d hd => (hG i d hd).1
  obtain ⟨g1, g2, g3⟩ := hG k d hd
  have hk5 := hW.k5 hd
  obtain ⟨u8, u10, u12, u16⟩ := (hD0 k d hd).1 (Nat.le_refl _)
  -- a declaration whose type is told, or that has none
  have rest : ∀ (v : Int32) (σ1 : SG), (v = 0 ↔ dK d ≠ 2) → fP (PJ c) σ σ1 → sI σ1 c 3 = sI σ c 3 → okT (lkC T D) T Ws D d = true → (∀ i, i ≠ k → i < D.length → sI σ1 (c + 5 + i) 8 = sI σ (c + 5 + i) 8 ∧ sP σ1 (c + 5 + i) 10 = sP σ (c + 5 + i) 10 ∧ sI σ1 (c + 5 + i) 12 = sI σ (c + 5 + i) 12) → (∀ i, i < D.length → sP σ1 (c + 5 + i) 16 = sP σ (c + 5 + i) 16 ∧ sP σ1 (c + 5 + i) 15 = sP σ (c + 5 + i) 15) → sI σ1 (c + 5 + k) 8 = nI (dTy (lkC T D) T Ws D d) → sP σ1 (c + 5 + k) 10 = ad c (dTg (lkC T D) T Ws D d) → (dK d ≠ 2 → σ1 = σ) → JR c T Ws D k σ (okD (lkC T D) T Ws D k d) (x_X2_judge_59 U c (some (c + 5 + k)) (nI k) v σ1) := by
    intro v σ1 hv f1 h31 hoT a8 a16 k8 k10 hsame
    have J1 := JS_PJ hJ f1
    have I1 := J1.2.2 k _ hd
    have hT1 : RB σ1 (c + 2) T 0 := RB_PJ hT f1 (by omega) (by omega) (by omega) (by omega)
    unfold x_X2_judge_59
    rw [X2_isTaken hU hcb hT1 J1 hN hd, b1_eq, ifz]
    cases ht : tkn T D k d with
    | true =>
      rw [if_pos rfl, ck_eq (it_sh hcb (by omega))]
      refine JR_fail (by decide) f1 ?_
      unfold okD; rw [ht]; simp
    | false =>
      rw [if_neg (by decide)]
      have hok : okD (lkC T D) T Ws D k d = okK (lkC T D) T Ws D k d := by unfold okD; rw [ht, hoT]; simp
      rw [hok]
      by_cases q2 : dK d = 2
      · rw [if_neg (fun z => (hv.mp z) q2)]
        obtain ⟨n1, n2, n3⟩ := g2.2.2.1 q2
        exact X2_judgeField hU hcb J1 hW hd q2 n1 g2.1 g2.2.1 n2 f1 hD0 h31 a8 a16 k8 k10
      · rw [if_pos (hv.mpr q2), ck_eq (it_sh hcb (by omega)), I1.1]
        have hs := hsame q2
        subst hs
        by_cases q3 : dK d = 3
        · rw [if_pos (show nI (dK d) = 3 by rw [q3]; rfl)]
          exact X2_judgeValue hU hcb hJ hW hd q3 g2.1 hD0
        · rw [if_neg (show ¬ nI (dK d) = 3 from fun z => q3 ((nI_eq (b := 3) (by omega) (by decide)).mp z))]
          have okt : okK (lkC T D) T Ws D k d = true := by unfold okK; rw [if_neg q2, if_neg q3]
          refine ⟨_, rfl, fP_refl _ _, fun _ => ⟨rfl, ?_⟩, fun z => (by rw [okt] at z; cases z)⟩
          refine JD_step hD0 (fun i hi hil => ⟨rfl, rfl, rfl⟩) (fun i hi hil => rfl) (fun d' hd' => ?_) (fun a ha => ?_)
          · rw [hd] at hd'
            cases hd'
            refine ⟨k8, k10, ?_⟩
            rw [u12]
            unfold dPa
            rw [decide_eq_false q2, Bool.and_false]
            try rfl
          · rw [chD_other hd (fun z => q2 z.1) (fun z => q3 z.1)]
            exact (hD0 a _ (List.getElem?_eq_getElem ha)).2.2
  unfold x_X2_judge
  rw [if_neg (by intro z; cases z), ck_eq (it_sh hcb (by omega)), hI.1]
  by_cases q2 : dK d = 2
  · rw [if_pos (show nI (dK d) = 2 by rw [q2]; rfl)]
    unfold x_X2_judge_18
    rw [if_neg (by decide), ck_eq (it_sh hcb (by omega)), u8]
    obtain ⟨n1, n2, n3⟩ := g2.2.2.1 q2
    by_cases q13 : dT d = 13
    · rw [if_pos (show nI (dT d) = 13 by rw [q13]; rfl)]
      obtain ⟨k', hk'⟩ := n3 q13
      have hnm : nmd d = true := decide_eq_true ⟨q2, q13⟩
      rw [X2_findsType hU hcb hS hWA hT hJ hW hN hd q13 hk']
      unfold x_X2_findsType_129
      cases er : rsl (lkC T D) T Ws D d with
      | none =>
        rw [if_pos (show ad c none = none from rfl), b2_eq, if_pos rfl, hI.2.2.2.2.2.2.2.1 q13]
        obtain ⟨p, hp⟩ := X10_startOf_any (w := c + 186) (σ := σ) (nI (dW d))
        rw [hp, b1_eq]
        refine JR_fail (by decide) (fP_refl _ _) ?_
        unfold okD okT
        rw [hnm, er]; try rfl
      | some t =>
        have htl : t < D.length := by
          have hrs : ∀ (n j : Nat) (f : Option Nat), (∀ t, f = some t → t < D.length) → ∀ t, rsN (lkC T D) T Ws n j f = some t → t < D.length := by
            intro n
            induction n with
            | zero => intro j f hf t h; exact hf t h
            | succ n ih =>
              intro j f hf t h
              cases f with
              | none => cases h
              | some x =>
                rw [rsN] at h
                by_cases q : sS T Ws 46 (j + 1) = true
                · rw [if_pos q] at h
                  refine ih _ _ (fun t ht => ?_) t h
                  obtain ⟨y, w1, _⟩ := ff_some _ _ _ ht
                  have := (List.getElem?_eq_some_iff.mp w1).1; omega
                · rw [if_neg q] at h; exact hf t h
          have hlk : ∀ sc nm t, lkC T D sc nm = some t → t < D.length := fun sc nm t ht => by
            obtain ⟨y, w1, _⟩ := ff_some _ _ _ ht
            have := (List.getElem?_eq_some_iff.mp w1).1; omega
          have hru : ∀ (n : Nat) (sc : Option Nat) nm t, rsU (lkC T D) D nm n sc = some t → t < D.length := by
            intro n
            induction n with
            | zero => intro sc nm t h; cases h
            | succ n ih =>
              intro sc nm t h
              cases sc with
              | none => exact hlk _ _ _ h
              | some m =>
                rw [rsU] at h
                cases e9 : lkC T D (some m) nm with
                | some y => rw [e9] at h; cases h; exact hlk _ _ _ e9
                | none => rw [e9] at h; exact ih _ _ _ h
          unfold rsl at er
          refine hrs _ _ _ (fun t ht => ?_) t er
          split at ht
          · exact hlk _ _ _ ht
          · exact hru _ _ _ _ ht
        have htd := List.getElem?_eq_getElem htl
        have hkn : knd D t = dK D[t] := by unfold knd; rw [htd]
        rw [if_neg (by intro z; cases z), ck_eq (it_sh hcb (by omega)), sb_eq, ad_some, ck_eq (it_sh hcb (by omega)), sI_uP, (hJ.2.2 t _ htd).1]
        have hk5t := hW.k5 htd
        have key : ∀ ty : Nat, dTy (lkC T D) T Ws D d = ty → JR c T Ws D k σ (okD (lkC T D) T Ws D k d) (b2 (x_X2_findsType_158 U c (nI ty) (some (c + 5 + k)) (uP σ (c + 5 + k) 10 (some (c + 5 + t)))) fun v29 σ30 => if v29 = 0 then (b1 (x_X10_startOf (c + 186) (sI σ30 (c + 5 + k) 9) σ30) fun v33 => b1 (x_X2_fail c 5 v33 σ30) fun σ35 => some σ35) else (x_X2_judge_59 U c (some (c + 5 + k)) (nI k) 1 σ30)) := by
          intro ty hty
          unfold x_X2_findsType_158
          rw [ck_eq (it_sh hcb (by omega)), sb_eq, b2_eq, if_neg (by decide)]
          refine rest 1 _ ⟨fun z => (by cases z), fun z => absurd q2 z⟩ (fP_trans (τ := uP σ (c + 5 + k) 10 (some (c + 5 + t))) (fun b j hj => ⟨rfl, rfl, ?_⟩) (fP_u (Or.inr (by omega)))) ?_ ?_ (fun i hi hil => ?_) (fun i hil => ?_) ?_ ?_ (fun z => absurd q2 z)
          · rw [sP_o]
            by_cases z : b = c + 5 + k
            · exact Or.inr (fun y => hj (Or.inr (by omega)))
            · exact Or.inl z
          · rw [sI_o (Or.inl (by omega)), sI_uP]
          · unfold okT; rw [hnm, er]; try rfl
          · rw [sI_o (Or.inl (by omega)), sI_uP, sP_uI, sP_o (Or.inl (by omega)), sI_o (Or.inl (by omega)), sI_uP]
            exact ⟨rfl, rfl, rfl⟩
          · rw [sP_uI, sP_uI, sP_o (Or.inr (by decide)), sP_o (Or.inr (by decide))]
            exact ⟨rfl, rfl⟩
          · rw [sI_s, hty]
          · rw [sP_uI, sP_s]
            unfold dTg; rw [hnm, er]; try rfl
        by_cases q0 : dK D[t] = 0
        · rw [if_pos (show nI (dK D[t]) = 0 by rw [q0]; rfl)]
          exact key 13 (by unfold dTy; rw [hnm, er]; simp only [if_true]; rw [hkn, if_pos q0])
        · rw [if_neg (show ¬ nI (dK D[t]) = 0 from fun z => q0 ((nI_eq (b := 0) (by omega) (by decide)).mp z))]
          exact key 14 (by unfold dTy; rw [hnm, er]; simp only [if_true]; rw [hkn, if_neg q0])
    · rw [if_neg (show ¬ nI (dT d) = 13 from fun z => q13 ((nI_eq (b := 13) (by omega) (by decide)).mp z))]
      have hnm : nmd d = false := decide_eq_false (fun z => q13 z.2)
      refine rest 1 σ ⟨fun z => (by cases z), fun z => absurd q2 z⟩ (fP_refl _ _) rfl ?_ (fun i _ _ => ⟨rfl, rfl, rfl⟩) (fun i _ => ⟨rfl, rfl⟩) ?_ ?_ (fun _ => rfl)
      · unfold okT; rw [hnm]; try rfl
      · rw [u8]; unfold dTy; rw [hnm]; try rfl
      · rw [u10]; unfold dTg; rw [hnm]; try rfl
  · rw [if_neg (show ¬ nI (dK d) = 2 from fun z => q2 ((nI_eq (b := 2) (by omega) (by decide)).mp z))]
    unfold x_X2_judge_18
    rw [if_pos rfl]
    have hnm : nmd d = false := decide_eq_false (fun z => q2 z.1)
    refine rest 0 σ ⟨fun _ => q2, fun _ => rfl⟩ (fP_refl _ _) rfl ?_ (fun i _ _ => ⟨rfl, rfl, rfl⟩) (fun i _ => ⟨rfl, rfl⟩) ?_ ?_ (fun _ => rfl)
    · unfold okT; rw [hnm]; try rfl
    · rw [u8]; unfold dTy; rw [hnm]; try rfl
    · rw [u10]; unfold dTg; rw [hnm]; try rfl
/-! ===== the class compiles ===== -/
def okA (lk : Option Nat → List Nat → Option Nat) (T : List Nat) (Ws : List Wd) (D : List Dc) : Bool := (List.range D.length).all (fun k => match D[k]? with | some d => okD lk T Ws D k d | none => true)
theorem okA_iff {lk : Option Nat → List Nat → Option Nat} {T : List Nat} {Ws : List Wd} {D : List Dc} : okA lk T Ws D = true ↔ ∀ k d, D[k]? = some d → okD lk T Ws D k d = true := by
  unfold okA
  rw [List.all_eq_true]
  constructor
  · intro h k d hd
    have hk := (List.getElem?_eq_some_iff.mp hd).1
    have := h k (List.mem_range.mpr hk)
    rw [hd] at this
    exact this
  · intro h k _
    cases e : D[k]? with
    | none => rfl
    | some d => exact h k d e
def lim (D : List Dc) : Bool := decide (cnt D 0 ≤ 16 ∧ cnt D 1 ≤ 8 ∧ cnt D 2 ≤ 60 ∧ cnt D 3 ≤ 40 ∧ cnt D 4 ≤ 16 ∧ nmB D ≤ 600)
/-- what a text compiles to -/
def scm (T : List Nat) : Option (List Dc) := match dcl T with
  | none => none
  | some D => if okA (lkC T D) T (wl T 701 0) D && lim D then some D else none
/-- a schema as the class holds it -/
def CS (σ : SG) (c : Nat) (T : List Nat) (D : List Dc) : Prop := RB σ (c + 2) T 0 ∧ JS σ c D ∧ JD σ c T (wl T 701 0) D D.length ∧ ∀ k, k < 5 → sI σ (c + 185) k = nI (cnt D k)
theorem X6_count {c k : Nat} {σ : SG} {D : List Dc} (h : ∀ k, k < 5 → sI σ (c + 185) k = nI (cnt D k)) (hk : k < 5) : x_X6_count (c + 1) (nI k) σ = some (nI (cnt D k)) := by
  unfold x_X6_count
  rw [if_neg (nI_neg (by omega)), show (5 : Int32) = nI 5 from rfl, if_pos ((ltI (by omega) (by decide)).mpr hk), ix_in hk (by decide), show c + 1 + 184 = c + 185 by omega, h k hk]
theorem nmB_le {D : List Dc} {T : List Nat} (h : GNs T D) (hl : T.length ≤ 700) (hd : D.length < 180) : nmB D ≤ 700 * 180 := by
  have : ∀ (L : List Dc), (∀ d ∈ L, dE d - dA d ≤ 700) → nmB L ≤ 700 * L.length := by
    intro L
    induction L with
    | nil => intro _; exact Nat.le_refl _
    | cons a L ih =>
      intro hL
      have h1 := hL a (List.mem_cons_self ..)
      have h2 := ih (fun d hd => hL d (List.mem_cons_of_mem _ hd))
      have e : nmB (a :: L) = (dE a - dA a) + nmB L := by unfold nmB; rw [List.map_cons, List.sum_cons]
      rw [e, List.length_cons]
      omega
  have h2 := this D (fun d hd => by
    obtain ⟨i, hi⟩ := List.getElem?_of_mem hd
    have := (h i d hi).2.1
    omega)
  omega
theorem X2_isTooMuch {c : Nat} {σ : SG} {D : List Dc} (h : ∀ k, k < 5 → sI σ (c + 185) k = nI (cnt D k)) (h4 : sI σ (c + 1) 4 = nI (nmB D)) (hl : D.length < 180) (hn : nmB D < 2 ^ 31) : x_X2_isTooMuch c σ = some (zI (!lim D)) := by
  have hc : ∀ k, cnt D k < 2 ^ 31 := fun k => by have := cnt_le D k; omega
  have cc : ∀ (k m : Nat), k < 5 → m < 2 ^ 31 → (nI m < nI (cnt D k) ↔ m < cnt D k) := fun k m _ hm => ltI hm (hc k)
  unfold x_X2_isTooMuch x_X6_nameBytes
  have e0 := X6_count (k := 0) h (by decide)
  have e1 := X6_count (k := 1) h (by decide)
  have e2 := X6_count (k := 2) h (by decide)
  have e3 := X6_count (k := 3) h (by decide)
  have e4 := X6_count (k := 4) h (by decide)
  have e0' : x_X6_count (c + 1) 0 σ = some (nI (cnt D 0)) := e0
  have e1' : x_X6_count (c + 1) 1 σ = some (nI (cnt D 1)) := e1
  have e2' : x_X6_count (c + 1) 2 σ = some (nI (cnt D 2)) := e2
  have e3' : x_X6_count (c + 1) 3 σ = some (nI (cnt D 3)) := e3
  have e4' : x_X6_count (c + 1) 4 σ = some (nI (cnt D 4)) := e4
  rw [e0', b1_eq, e1', b1_eq, e2', b1_eq, e3', b1_eq, e4', b1_eq, b1_eq, h4]
  have c0 : (16 : Int32) < nI (cnt D 0) ↔ 16 < cnt D 0 := cc 0 16 (by decide) (by decide)
  have c1 : (8 : Int32) < nI (cnt D 1) ↔ 8 < cnt D 1 := cc 1 8 (by decide) (by decide)
  have c2 : (60 : Int32) < nI (cnt D 2) ↔ 60 < cnt D 2 := cc 2 60 (by decide) (by decide)
  have c3 : (40 : Int32) < nI (cnt D 3) ↔ 40 < cnt D 3 := cc 3 40 (by decide) (by decide)
  have c4 : (16 : Int32) < nI (cnt D 4) ↔ 16 < cnt D 4 := cc 4 16 (by decide) (by decide)
  have c5 : (600 : Int32) < nI (nmB D) ↔ 600 < nmB D := ltI (a := 600) (by decide) hn
  rw [ifd c0, ifd c1, ifd c2, ifd c3, ifd c4, ifd c5]
  unfold lim
  by_cases q0 : 16 < cnt D 0
  · rw [if_pos q0, decide_eq_false (by omega)]; try rfl
  rw [if_neg q0]
  by_cases q1 : 8 < cnt D 1
  · rw [if_pos q1, decide_eq_false (by omega)]; try rfl
  rw [if_neg q1]
  by_cases q2 : 60 < cnt D 2
  · rw [if_pos q2, decide_eq_false (by omega)]; try rfl
  rw [if_neg q2]
  by_cases q3 : 40 < cnt D 3
  · rw [if_pos q3, decide_eq_false (by omega)]; try rfl
  rw [if_neg q3]
  by_cases q4 : 16 < cnt D 4
  · rw [if_pos q4, decide_eq_false (by omega)]; try rfl
  rw [if_neg q4]
  by_cases q5 : 600 < nmB D
  · rw [if_pos q5, decide_eq_false (by omega)]; try rfl
  rw [if_neg q5, decide_eq_true (by omega)]; try rfl
theorem X2_run_L {U c : Nat} {T : List Nat} {Ws : List Wd} {D : List Dc} {K : SG → Option (Int32 × SG)} {v1 : Option Nat} (hU : 4000 < U) (hcb : cb c) (hS : WS T Ws) (hW : WF D) (hG : GD T Ws D) : ∀ (j k U1 : Nat) (σ : SG), k + j = D.length → j < U1 → WA σ (c + 186) Ws → RB σ (c + 2) T 0 → JS σ c D → sI σ c 3 = 0 → JD σ c T Ws D k →
    ∃ τ, x_X2_run_L65 U c K v1 U1 (nI k) σ = K τ ∧ fP (PJ c) σ τ ∧ (sI τ c 3 = 0 ↔ ∀ i d, k ≤ i → D[i]? = some d → okD (lkC T D) T Ws D i d = true) ∧ (sI τ c 3 = 0 → JD τ c T Ws D D.length) := by
  intro j
  induction j with
  | zero =>
    intro k U1 σ hk hu hWA hT hJ h0 hD
    have hl := hJ.2.1
    obtain ⟨V, rfl⟩ : ∃ V, U1 = V + 1 := ⟨U1 - 1, by omega⟩
    rw [x_X2_run_L65, show x_X6_used (c + 1) σ = some (sI σ (c + 1) 3) from rfl, b1_eq, hJ.1, if_neg (fun q => by have := (ltI (by omega) (by omega)).mp q; omega)]
    refine ⟨σ, rfl, fP_refl _ _, ⟨fun _ i d hi hd => ?_, fun _ => h0⟩, fun _ => by rw [show D.length = k by omega]; exact hD⟩
    have := (List.getElem?_eq_some_iff.mp hd).1
    omega
  | succ j ih =>
    intro k U1 σ hk hu hWA hT hJ h0 hD
    have hl := hJ.2.1
    have hkl : k < D.length := by omega
    have hd := List.getElem?_eq_getElem hkl
    obtain ⟨V, rfl⟩ : ∃ V, U1 = V + 1 := ⟨U1 - 1, by omega⟩
    obtain ⟨τ, e1, e2, e3, e4⟩ := X2_judge hU hcb hS hWA hT hJ hW hG hd h0 hD
    rw [x_X2_run_L65, show x_X6_used (c + 1) σ = some (sI σ (c + 1) 3) from rfl, b1_eq, hJ.1, if_pos ((ltI (by omega) (by omega)).mpr hkl), if_pos h0, X6_item hJ.1 hl hkl, b1_eq, e1, b1_eq, nI_1]
    have J1 := JS_PJ hJ e2
    cases ho : okD (lkC T D) T Ws D k D[k] with
    | true =>
      obtain ⟨g1, g2⟩ := e3 ho
      obtain ⟨υ, f1, f2, f3, f4⟩ := ih (k + 1) V τ (by omega) (by omega) (WA_PJ hWA e2) (RB_PJ hT e2 (by omega) (by omega) (by omega) (by omega)) J1 (g1.trans h0) g2
      refine ⟨υ, f1, fP_trans e2 f2, ?_, f4⟩
      rw [f3]
      constructor
      · intro h i d hi hd'
        by_cases q : i = k
        · subst q
          rw [hd] at hd'
          cases hd'
          exact ho
        · exact h i d (by omega) hd'
      · intro h i d hi hd'; exact h i d (by omega) hd'
    | false =>
      have z := e4 ho
      obtain ⟨V2, rfl⟩ : ∃ V2, V = V2 + 1 := ⟨V - 1, by omega⟩
      refine ⟨τ, ?_, e2, ⟨fun y => absurd y z, fun h => ?_⟩, fun y => absurd y z⟩
      · rw [x_X2_run_L65, show x_X6_used (c + 1) τ = some (sI τ (c + 1) 3) from rfl, b1_eq, J1.1, if_neg z]
        split <;> rfl
      · have := h k _ (Nat.le_refl _) hd
        rw [ho] at this; cases this
theorem fC_PJ {c : Nat} {σ τ : SG} (h : fP (PJ c) σ τ) : fC c σ τ := fun b hb k => h b k (by unfold PJ; omega)
theorem fC_refl (c : Nat) (σ : SG) : fC c σ σ := fun b _ => sm_refl σ b
/-- the end of the class's compile: an error empties the schema -/
theorem X2_run_bad {U c : Nat} {σ : SG} (hU : 4000 < U) (h : ¬ sI σ c 3 = 0) : ∃ τ, x_X2_run_126 U c σ = some (sI σ c 3, τ) ∧ fC c σ τ ∧ CS τ c [] [] := by
  unfold x_X2_run_126
  rw [if_neg h]
  obtain ⟨τ, e1, e2, e3, e4⟩ := X6_clear (c := c) (σ := σ) hU
  rw [e1, b1_eq]
  refine ⟨τ, by rw [(e4 c (by omega) (by omega) (by omega) 3).1], fun b hb => e4 b (by omega) (by omega) (by omega), e2, ⟨e3.1, by decide, fun i d hd => by simp at hd⟩, fun i d hd => by simp at hd, e3.2.2.1⟩
theorem X2_run {U c : Nat} {σ : SG} {T : List Nat} (hU : 4000 < U) (hcb : cb c) (hT : RB σ 1 T 0) :
    ∃ v τ, x_X2_run U c (some 1) σ = some (v, τ) ∧ fC c σ τ ∧ (scm T = none → CS τ c [] []) ∧ ∀ D, scm T = some D → CS τ c T D := by
  have hl : T.length ≤ 700 := hT.2.2.1
  have h8 : ok8 T := hT.2.2.2.2
  obtain ⟨σ16, a1, a2, a3, a4, a5, a6, a7, a8⟩ := X2_pre hU hcb hT
  obtain ⟨v, σ19, b1', b2', b3, b4⟩ := X5_read hU hcb a3 a5 a4 a6
  have hT19 : RB σ19 (c + 2) T 0 := a2.sm (b2' _ (by omega) (by omega) (by omega)) (b2' _ (by omega) (by omega) (by omega))
  have hT1 : RB σ19 1 T 0 := a7.sm (b2' _ (by rcases hcb with rfl | rfl <;> decide) (by rcases hcb with rfl | rfl <;> decide) (by rcases hcb with rfl | rfl <;> decide)) (b2' _ (by rcases hcb with rfl | rfl <;> decide) (by rcases hcb with rfl | rfl <;> decide) (by rcases hcb with rfl | rfl <;> decide))
  have hWA19 := a4.fR b2'
  rw [a8, b1', b2_eq, sb_eq, sI_s]
  have fA : fC c σ σ19 := fC_trans a1 (fC_R b2')
  -- an error of the reading
  cases hdc : dcl T with
  | none =>
    have hno : scm T = none := by unfold scm; rw [hdc]
    have hv : ¬ v = 0 := fun z => (b3.mp z) hdc
    rw [if_neg hv]
    have hep : ∃ p, x_X5_endPlace (c + 191) (uI σ19 c 3 v) = some p := by
      unfold x_X5_endPlace
      obtain ⟨p, hp⟩ := X10_startOf_any (w := c + 191 - 5) (σ := uI σ19 c 3 v) (sI (uI σ19 c 3 v) (c + 191) 6)
      rw [hp]
      exact ⟨p, rfl⟩
    obtain ⟨p, hp⟩ := hep
    rw [hp, b1_eq]
    unfold x_X2_run_60
    rw [sb_eq]
    have h3 : ¬ sI (uI (uI σ19 c 3 v) c 4 p) c 3 = 0 := by rw [sI_o (Or.inr (by decide)), sI_s]; exact hv
    have hL : x_X2_run_L65 U c (fun σ31 => x_X2_run_102 U c (some 1) σ31) (some 1) U 0 (uI (uI σ19 c 3 v) c 4 p) = x_X2_run_126 U c (uI (uI σ19 c 3 v) c 4 p) := by
      obtain ⟨V, rfl⟩ : ∃ V, U = V + 1 := ⟨U - 1, by omega⟩
      rw [x_X2_run_L65, show x_X6_used (c + 1) (uI (uI σ19 c 3 v) c 4 p) = some (sI (uI (uI σ19 c 3 v) c 4 p) (c + 1) 3) from rfl, b1_eq, if_neg h3]
      unfold x_X2_run_102
      rw [if_neg h3]
      split <;> rfl
    rw [hL]
    obtain ⟨τ, e1, e2, e3⟩ := X2_run_bad hU h3
    refine ⟨_, τ, e1, fC_trans fA (fC_trans (fun b hb => sm_trans (sm_uI (by omega)) (sm_uI (by omega))) e2), fun _ => e3, fun D hD => by rw [hno] at hD; cases hD⟩
  | some D =>
    obtain ⟨hG, hW, hDl⟩ := dcl_GD h8 hl hdc
    have hv : v = 0 := b3.mpr (by show dcl T ≠ none; rw [hdc]; intro z; cases z)
    have hI := b4 D hdc
    rw [if_pos hv]
    unfold x_X2_run_60
    rw [sb_eq]
    have fB : fP (PJ c) σ19 (uI (uI σ19 c 3 v) c 4 (-1)) := fP_trans (fP_u (Or.inl ⟨rfl, Or.inl rfl⟩)) (fP_u (Or.inl ⟨rfl, Or.inr rfl⟩))
    have z3 : sI (uI (uI σ19 c 3 v) c 4 (-1)) c 3 = 0 := by rw [sI_o (Or.inr (by decide)), sI_s]; exact hv
    have I3 : ITs (uI (uI σ19 c 3 v) c 4 (-1)) c D := ⟨((fB (c + 1) 3 (by unfold PJ; omega)).1).trans hI.1, ((fB (c + 1) 4 (by unfold PJ; omega)).1).trans hI.2.1, fun k hk => ((fB (c + 185) k (by unfold PJ; omega)).1).trans (hI.2.2.1 k hk), fun i d hd => (hI.2.2.2 i d hd).sm (sm_trans (sm_uI (by omega)) (sm_uI (by omega)))⟩
    have T3 : RB (uI (uI σ19 c 3 v) c 4 (-1)) (c + 2) T 0 := RB_PJ hT19 fB (by omega) (by omega) (by omega) (by omega)
    have T31 : RB (uI (uI σ19 c 3 v) c 4 (-1)) 1 T 0 := by
      have hc := hcb
      unfold cb at hc
      exact RB_PJ hT1 fB (by omega) (by omega) (by omega) (by omega)
    have W3 := WA_PJ hWA19 fB
    generalize (uI (uI σ19 c 3 v) c 4 (-1)) = σ22 at *
    have J3 : JS σ22 c D := ⟨I3.1, hDl, fun i d hd => IS_of (I3.2.2.2 i d hd)⟩
    obtain ⟨τ, g1, g2, g3, g4⟩ := X2_run_L (K := fun σ31 => x_X2_run_102 U c (some 1) σ31) (v1 := some 1) hU hcb a3 hW hG D.length 0 U σ22 (by omega) (by omega) W3 T3 J3 z3 (JD_0 I3)
    have g1' : x_X2_run_L65 U c (fun σ31 => x_X2_run_102 U c (some 1) σ31) (some 1) U 0 σ22 = x_X2_run_102 U c (some 1) τ := g1
    rw [g1']
    have fT : fC c σ τ := fC_trans fA (fC_trans (fC_PJ fB) (fC_PJ g2))
    have hokA : sI τ c 3 = 0 ↔ okA (lkC T D) T (wl T 701 0) D = true := by
      rw [g3, okA_iff]
      exact ⟨fun h k d hd => h k d (Nat.zero_le _) hd, fun h k d _ hd => h k d hd⟩
    have hcn : ∀ k, k < 5 → sI τ (c + 185) k = nI (cnt D k) := fun k hk => ((g2 (c + 185) k (by unfold PJ; omega)).1).trans (I3.2.2.1 k hk)
    have h4 : sI τ (c + 1) 4 = nI (nmB D) := ((g2 (c + 1) 4 (by unfold PJ; omega)).1).trans I3.2.1
    unfold x_X2_run_102
    by_cases q : sI τ c 3 = 0
    · have hnm := nmB_le (fun i d hd => (hG i d hd).1) hl hDl
      rw [if_pos q, X2_isTooMuch hcn h4 hDl (by omega), b1_eq, ifz]
      cases ql : lim D with
      | true =>
        simp only [Bool.not_true, Bool.false_eq_true, if_false]
        unfold x_X2_run_126
        rw [if_pos q]
        have hs : scm T = some D := by unfold scm; rw [hdc]; simp only; rw [hokA.mp q, ql]; try rfl
        refine ⟨_, τ, rfl, fT, fun z => (by rw [hs] at z; cases z), fun D' hD' => ?_⟩
        rw [hs] at hD'
        cases hD'
        exact ⟨RB_PJ T3 g2 (by omega) (by omega) (by omega) (by omega), JS_PJ J3 g2, g4 q, hcn⟩
      | false =>
        simp only [Bool.not_false, if_true]
        have T31' : RB τ 1 T 0 := by
          have hc := hcb
          unfold cb at hc
          exact RB_PJ T31 g2 (by omega) (by omega) (by omega) (by omega)
        rw [ck_eq (show sh 1 = 0 by decide), X0_size T31', b1_eq]
        unfold x_X2_fail
        rw [sb_eq, sb_eq, b1_eq]
        have h3 : ¬ sI (uI (uI τ c 3 7) c 4 (nI T.length)) c 3 = 0 := by rw [sI_o (Or.inr (by decide)), sI_s]; decide
        obtain ⟨υ, e1, e2, e3⟩ := X2_run_bad hU h3
        have hs : scm T = none := by unfold scm; rw [hdc]; simp only; rw [ql, Bool.and_false]; try rfl
        refine ⟨_, υ, e1, fC_trans fT (fC_trans (fun b hb => sm_trans (sm_uI (by omega)) (sm_uI (by omega))) e2), fun _ => e3, fun D' hD' => by rw [hs] at hD'; cases hD'⟩
    · rw [if_neg q]
      obtain ⟨υ, e1, e2, e3⟩ := X2_run_bad hU q
      have hs : scm T = none := by
        unfold scm; rw [hdc]; simp only
        cases qa : okA (lkC T D) T (wl T 701 0) D with
        | true => exact absurd (hokA.mpr qa) q
        | false => rfl
      refine ⟨_, υ, e1, fC_trans fT e2, fun _ => e3, fun D' hD' => by rw [hs] at hD'; cases hD'⟩
/-! ===== the reference checks names ===== -/
/-- an ordinal's place -/
theorem plc {D : List Dc} {q : Nat} : ∀ (f : Nat), f < cnt D q → ∃ i d, D[i]? = some d ∧ dK d = q ∧ cnt (D.take i) q = f := by
  have : ∀ (n : Nat), n ≤ D.length → ∀ f, f < cnt (D.take n) q → ∃ i d, D[i]? = some d ∧ dK d = q ∧ cnt (D.take i) q = f := by
    intro n
    induction n with
    | zero => intro _ f h; simp [cnt] at h
    | succ n ih =>
      intro hn f h
      have hd := List.getElem?_eq_getElem (show n < D.length by omega)
      rw [List.take_add_one, hd] at h
      have e : (some D[n]).toList = [D[n]] := rfl
      rw [e, cnt_sn] at h
      by_cases z : f < cnt (D.take n) q
      · exact ih (by omega) f z
      · by_cases y : dK D[n] = q
        · rw [if_pos y] at h
          exact ⟨n, D[n], hd, y, by omega⟩
        · rw [if_neg y] at h; omega
  intro f h
  refine this D.length (Nat.le_refl _) f ?_
  rw [List.take_length]; exact h
theorem cnt_mono {D : List Dc} {q i j : Nat} (h : i ≤ j) : cnt (D.take i) q ≤ cnt (D.take j) q := by
  have := cnt_take_le (D.take j) i q
  rw [List.take_take, Nat.min_eq_left h] at this
  exact this
theorem cnt_lt_of {D : List Dc} {q i j : Nat} {d : Dc} (hd : D[i]? = some d) (hq : dK d = q) (h : i < j) : cnt (D.take i) q < cnt (D.take j) q := by
  have h1 : cnt (D.take (i + 1)) q = cnt (D.take i) q + 1 := by
    rw [List.take_add_one, hd]
    have e : (some d).toList = [d] := rfl
    rw [e, cnt_sn, if_pos hq]
  have := cnt_mono (D := D) (q := q) (show i + 1 ≤ j by omega)
  omega
/-- ordinals tell places apart -/
theorem ord_inj {D : List Dc} {q i j : Nat} {d e : Dc} (hd : D[i]? = some d) (hq : dK d = q) (he : D[j]? = some e) (hq' : dK e = q) (h : cnt (D.take i) q = cnt (D.take j) q) : i = j := by
  rcases Nat.lt_trichotomy i j with z | z | z
  · have := cnt_lt_of hd hq z; omega
  · exact z
  · have := cnt_lt_of he hq' z; omega
theorem oq_inj {D : List Dc} {q : Nat} {o o' : Option Nat} (hl : D.length < 180) (h : ∀ m, o = some m → ∃ d, D[m]? = some d ∧ dK d = q) (h' : ∀ m, o' = some m → ∃ d, D[m]? = some d ∧ dK d = q) : oq D q o = oq D q o' ↔ o = o' := by
  refine ⟨fun z => ?_, fun z => by rw [z]⟩
  have hc : ∀ m, cnt (D.take m) q < 2 ^ 31 := fun m => by have := cnt_take_le D m q; have := cnt_le D q; omega
  have hm : ∀ m, ¬ (-1 : Int32) = nI (cnt (D.take m) q) := fun m y => by
    have := nI_neg (hc m)
    rw [← y] at this
    exact this (by decide)
  cases o with
  | none =>
    cases o' with
    | none => rfl
    | some m => exact absurd z (hm m)
  | some m =>
    cases o' with
    | none => exact absurd z.symm (hm m)
    | some m' =>
      obtain ⟨d, a1, a2⟩ := h m rfl
      obtain ⟨e, b1', b2'⟩ := h' m' rfl
      have : cnt (D.take m) q = cnt (D.take m') q := (nI_eq (hc m) (hc m')).mp z
      rw [ord_inj a1 a2 b1' b2' this]
theorem WF.scK {D : List Dc} {i : Nat} {d : Dc} (h : WF D) (hd : D[i]? = some d) : ∀ m, dS d = some m → ∃ x, D[m]? = some x ∧ dK x = 0 := fun m hm => (KM_take ((h i d hd).1 m hm)).1
theorem fq_74 {σ τ : SG} (h : fq [74, 75] σ τ) : fq KF σ τ := fq_mono h (by decide)
theorem N_earlier {σ : SG} {v p : Int32} (hv : ¬ v = 0) : ∃ τ, x_X12_earlier 1101 v p σ = some τ ∧ ¬ sI τ 1101 74 = 0 ∧ fq [74, 75] σ τ := by
  have set : ∃ τ, x_X12_earlier_16 1101 v p σ = some τ ∧ ¬ sI τ 1101 74 = 0 ∧ fq [74, 75] σ τ := by
    unfold x_X12_earlier_16
    rw [sb_eq, sb_eq]
    refine ⟨_, rfl, by rw [sI_o (Or.inr (by decide)), sI_s]; exact hv, fun b hb => sm_trans (sm_uI hb) (sm_uI hb), fun k hk => ?_, fun k _ => rfl, fun k => rfl⟩
    have h1 : k ≠ 74 := fun z => hk (by rw [z]; decide)
    have h2 : k ≠ 75 := fun z => hk (by rw [z]; decide)
    rw [sI_o (Or.inr h2), sI_o (Or.inr h1)]
  unfold x_X12_earlier
  by_cases q : sI σ 1101 74 = 0
  · rw [if_pos q]; exact set
  · rw [if_neg q]
    by_cases q2 : p < sI σ 1101 75
    · rw [if_pos q2]; exact set
    · rw [if_neg q2]; exact ⟨σ, rfl, q, fun b _ => sm_refl σ b, fun k _ => rfl, fun k _ => rfl, fun k => rfl⟩
theorem LR_74 {σ τ : SG} {T : List Nat} (h : LR σ T) (hf : fq [74, 75] σ τ) : LR τ T := ⟨(hf.2.1 73 (by decide)).trans h.1, h.2.1.sm (hf.1 1102 (by decide)), h.2.2⟩
theorem RM_74 {σ τ : SG} {T : List Nat} {Ws : List Wd} {D : List Dc} {p : Nat} (h : RM σ T Ws D p) (hf : fq [74, 75] σ τ) : RM τ T Ws D p := RM_q h (fq_74 hf)
/-- two names clash -/
def clash (T : List Nat) (x y : Dc) : Prop := dS y = dS x ∧ slc T (dA y) (dE y) = slc T (dA x) (dE x)
theorem N_names_L {U a : Nat} {T : List Nat} {Ws : List Wd} {D : List Dc} {p : Nat} {d : Dc} {K : SG → Option SG} (hU : 4000 < U) (hW : WF D) (hN : GNs T D) (hl : D.length < 180) (hd : D[a]? = some d) : ∀ (j b U1 : Nat) (σ : SG), b + j = a → j < U1 → LR σ T → RM σ T Ws D p →
    ∃ τ, x_X12_checkNames_L12 U 1101 K (nI a) U1 (nI b) σ = K τ ∧ fq [74, 75] σ τ ∧ (sI τ 1101 74 = 0 ↔ sI σ 1101 74 = 0 ∧ ∀ i x, b ≤ i → i < a → D[i]? = some x → ¬ clash T d x) := by
  have hal := (List.getElem?_eq_some_iff.mp hd).1
  intro j
  induction j with
  | zero =>
    intro b U1 σ hb hu hL hM
    obtain ⟨V, rfl⟩ : ∃ V, U1 = V + 1 := ⟨U1 - 1, by omega⟩
    rw [x_X12_checkNames_L12, if_neg (fun q => by have := (ltI (by omega) (by omega)).mp q; omega)]
    exact ⟨σ, rfl, fq_refl _ _, ⟨fun z => ⟨z, fun i x h1 h2 => by omega⟩, fun z => z.1⟩⟩
  | succ j ih =>
    intro b U1 σ hb hu hL hM
    obtain ⟨V, rfl⟩ : ∃ V, U1 = V + 1 := ⟨U1 - 1, by omega⟩
    have hbl : b < D.length := by omega
    have hx := List.getElem?_eq_getElem hbl
    obtain ⟨na, _⟩ := hM.2.2.2 a d hd
    obtain ⟨nb, _⟩ := hM.2.2.2 b _ hx
    have ga := hN a d hd
    have gb := hN b _ hx
    have hTl := hL.2.2.1
    rw [x_X12_checkNames_L12, if_pos ((ltI (by omega) (by omega)).mpr (by omega)), ix_in (by omega) (by decide), ix_in (by omega) (by decide), na.1, nb.1, ifd (oq_inj hl (hW.scK hd) (hW.scK hx))]
    unfold x_X12_checkNames_74
    rw [nI_1]
    have step : ¬ clash T d D[b] → ∃ τ, x_X12_checkNames_L12 U 1101 K (nI a) V (nI (b + 1)) σ = K τ ∧ fq [74, 75] σ τ ∧ (sI τ 1101 74 = 0 ↔ sI σ 1101 74 = 0 ∧ ∀ i x, b ≤ i → i < a → D[i]? = some x → ¬ clash T d x) := by
      intro hc
      obtain ⟨τ, e1, e2, e3⟩ := ih (b + 1) V σ (by omega) (by omega) hL hM
      refine ⟨τ, e1, e2, ?_⟩
      rw [e3]
      refine and_congr_right (fun _ => ⟨fun h i x h1 h2 h3 => ?_, fun h i x h1 h2 h3 => h i x (by omega) h2 h3⟩)
      by_cases q : i = b
      · subst q
        rw [hx] at h3
        cases h3
        exact hc
      · exact h i x (by omega) h2 h3
    by_cases q1 : dS d = dS D[b]
    · rw [if_pos q1, ix_in (by omega) (by decide), ix_in (by omega) (by decide), ix_in (by omega) (by decide), ix_in (by omega) (by decide), na.2.1, na.2.2, nb.2.1, nb.2.2, N_sameText hU hL (by have := ga.1; have := ga.2.1; omega) (by have := gb.1; have := gb.2.1; omega), b1_eq, ifz, show dA d + (dE d - dA d) = dE d by have := ga.1; omega, show dA D[b] + (dE D[b] - dA D[b]) = dE D[b] by have := gb.1; omega]
      by_cases q2 : slc T (dA d) (dE d) = slc T (dA D[b]) (dE D[b])
      · rw [decide_eq_true q2, if_pos rfl, ix_in (by omega) (by decide)]
        obtain ⟨υ, f1, f2, f3⟩ := N_earlier (σ := σ) (v := 3) (p := sI σ 1157 a) (by decide)
        rw [f1, b1_eq]
        obtain ⟨τ, e1, e2, e3⟩ := ih (b + 1) V υ (by omega) (by omega) (LR_74 hL f3) (RM_74 hM f3)
        refine ⟨τ, e1, fq_trans f3 e2, ?_⟩
        rw [e3]
        exact ⟨fun z => absurd z.1 f2, fun z => absurd ⟨q1.symm, q2.symm⟩ (z.2 b _ (Nat.le_refl _) (by omega) hx)⟩
      · rw [decide_eq_false q2, if_neg (by decide)]
        exact step (fun z => q2 z.2.symm)
    · rw [if_neg q1]
      exact step (fun z => q1 z.1.symm)
theorem N_names_O {U : Nat} {T : List Nat} {Ws : List Wd} {D : List Dc} {p : Nat} (hU : 4000 < U) (hW : WF D) (hN : GNs T D) (hl : D.length < 180) : ∀ (j a U1 : Nat) (σ : SG), a + j = D.length → j < U1 → LR σ T → RM σ T Ws D p →
    ∃ τ, x_X12_checkNames_L2 U 1101 U1 (nI a) σ = some τ ∧ fq [74, 75] σ τ ∧ (sI τ 1101 74 = 0 ↔ sI σ 1101 74 = 0 ∧ ∀ k d, a ≤ k → D[k]? = some d → ∀ i x, i < k → D[i]? = some x → ¬ clash T d x) := by
  intro j
  induction j with
  | zero =>
    intro a U1 σ ha hu hL hM
    obtain ⟨V, rfl⟩ : ∃ V, U1 = V + 1 := ⟨U1 - 1, by omega⟩
    rw [x_X12_checkNames_L2, hM.2.2.1, if_neg (fun q => by have := (ltI (by omega) (by omega)).mp q; omega)]
    exact ⟨σ, rfl, fq_refl _ _, ⟨fun z => ⟨z, fun k d h1 h2 => by have := (List.getElem?_eq_some_iff.mp h2).1; omega⟩, fun z => z.1⟩⟩
  | succ j ih =>
    intro a U1 σ ha hu hL hM
    obtain ⟨V, rfl⟩ : ∃ V, U1 = V + 1 := ⟨U1 - 1, by omega⟩
    have hal : a < D.length := by omega
    have hd := List.getElem?_eq_getElem hal
    rw [x_X12_checkNames_L2, hM.2.2.1, if_pos ((ltI (by omega) (by omega)).mpr hal)]
    obtain ⟨υ, f1, f2, f3⟩ := N_names_L (K := fun σ37 => x_X12_checkNames_L2 U 1101 V (nI a + 1) σ37) hU hW hN hl hd a 0 U σ (by omega) (by omega) hL hM
    have f1' : x_X12_checkNames_L12 U 1101 (fun σ37 => x_X12_checkNames_L2 U 1101 V (nI a + 1) σ37) (nI a) U 0 σ = x_X12_checkNames_L2 U 1101 V (nI a + 1) υ := f1
    rw [f1', nI_1]
    obtain ⟨τ, e1, e2, e3⟩ := ih (a + 1) V υ (by omega) (by omega) (LR_74 hL f2) (RM_74 hM f2)
    refine ⟨τ, e1, fq_trans f2 e2, ?_⟩
    rw [e3, f3]
    constructor
    · rintro ⟨⟨z1, z2⟩, z3⟩
      refine ⟨z1, fun k d h1 h2 i x h3 h4 => ?_⟩
      by_cases q : k = a
      · subst q
        rw [hd] at h2
        cases h2
        exact z2 i x (Nat.zero_le _) h3 h4
      · exact z3 k d (by omega) h2 i x h3 h4
    · rintro ⟨z1, z2⟩
      exact ⟨⟨z1, fun i x _ h2 h3 => z2 a _ (Nat.le_refl _) hd i x h2 h3⟩, fun k d h1 h2 => z2 k d (by omega) h2⟩
theorem tkn_iff {T : List Nat} {D : List Dc} {k : Nat} {d : Dc} (hk : k ≤ D.length) : tkn T D k d = false ↔ ∀ i x, i < k → D[i]? = some x → ¬ clash T d x := by
  unfold tkn
  cases e : ff (pT9 T d) (D.take k) 0 with
  | none =>
    refine ⟨fun _ i x h1 h2 h3 => ?_, fun _ => rfl⟩
    have hm : x ∈ D.take k := List.mem_of_getElem? (i := i) (by rw [List.getElem?_take_of_lt h1]; exact h2)
    have := ff_none _ _ e x hm
    rw [show pT9 T d x = true from decide_eq_true h3] at this
    cases this
  | some i =>
    refine ⟨fun z => (by cases z), fun h => ?_⟩
    obtain ⟨x, a1, a2, _, _⟩ := ff_some _ _ _ e
    rw [Nat.sub_zero] at a1
    have hi := (List.getElem?_eq_some_iff.mp a1).1
    rw [List.length_take] at hi
    rw [List.getElem?_take_of_lt (by omega)] at a1
    exact absurd (of_decide_eq_true a2) (h i x (by omega) a1)
theorem N_checkNames {U : Nat} {T : List Nat} {Ws : List Wd} {D : List Dc} {p : Nat} {σ : SG} (hU : 4000 < U) (hW : WF D) (hN : GNs T D) (hl : D.length < 180) (hL : LR σ T) (hM : RM σ T Ws D p) :
    ∃ τ, x_X12_checkNames U 1101 σ = some τ ∧ fq [74, 75] σ τ ∧ (sI τ 1101 74 = 0 ↔ sI σ 1101 74 = 0 ∧ ∀ k d, D[k]? = some d → tkn T D k d = false) := by
  obtain ⟨τ, e1, e2, e3⟩ := N_names_O hU hW hN hl D.length 0 U σ (by omega) (by omega) hL hM
  refine ⟨τ, e1, e2, ?_⟩
  rw [e3]
  refine and_congr_right (fun _ => ⟨fun h k d hd => (tkn_iff (Nat.le_of_lt (List.getElem?_eq_some_iff.mp hd).1)).mpr (h k d (Nat.zero_le _) hd), fun h k d _ hd => (tkn_iff (Nat.le_of_lt (List.getElem?_eq_some_iff.mp hd).1)).mp (h k d hd)⟩)
/-! ===== the reference checks numbers ===== -/
/-- a field's number may be one, and no earlier field of its message has it -/
def gdF (D : List Dc) (i : Nat) (d : Dc) : Prop := okN (dN d).2 = true ∧ ∀ (j : Nat) (x : Dc), j < i → D[j]? = some x → dK x = 2 → dS x = dS d → (dN x).2 ≠ (dN d).2
def gdV (D : List Dc) (i : Nat) (d : Dc) : Prop := okV (dN d) = true ∧ ∀ e, dO d = some e → chD D i e = [] → (dN d).2 = 0
theorem NR_of {l : Int64} {v : Bool × Nat} (h : NR l v) (hb : v.1 = false) : ∃ w, w < 2 ^ 54 ∧ NV w v.2 ∧ l = lN w := by
  obtain ⟨w, h1, h2, h3⟩ := h
  refine ⟨w, h1, h2, ?_⟩
  rw [h3]; unfold nL; rw [hb]; try rfl
theorem ord_lt {D : List Dc} {q i j : Nat} {d e : Dc} (hd : D[i]? = some d) (hq : dK d = q) (he : D[j]? = some e) (hq' : dK e = q) : cnt (D.take i) q < cnt (D.take j) q ↔ i < j := by
  refine ⟨fun h => ?_, fun h => cnt_lt_of hd hq h⟩
  rcases Nat.lt_trichotomy i j with z | z | z
  · exact z
  · subst z; omega
  · have := cnt_lt_of he hq' z; omega
theorem N_num_L {U : Nat} {T : List Nat} {Ws : List Wd} {D : List Dc} {p i : Nat} {d : Dc} {K : Int32 → Option SG} {σ : SG} {v2 : Int64} (hW : WF D) (hl : D.length < 180) (hd : D[i]? = some d) (h2 : dK d = 2) (hM : RM σ T Ws D p) : ∀ (j g U1 : Nat) (b : Bool), g + j = cnt (D.take i) 2 → j < U1 →
    ∃ r : Bool, x_X12_checkNumbers_L57 U 1101 K (nI (cnt (D.take i) 2)) v2 σ U1 (zI b) (nI g) = K (zI r) ∧ (r = true ↔ b = true ∧ ∀ (k : Nat) (x : Dc), D[k]? = some x → dK x = 2 → g ≤ cnt (D.take k) 2 → k < i → dS x = dS d → sL σ 1137 (cnt (D.take k) 2) ≠ v2) := by
  have hc := cnt_take_lt hd h2
  have hcl := cnt_le D 2
  intro j
  induction j with
  | zero =>
    intro g U1 b hg hu
    obtain ⟨V, rfl⟩ : ∃ V, U1 = V + 1 := ⟨U1 - 1, by omega⟩
    rw [x_X12_checkNumbers_L57, if_neg (fun q => by have := (ltI (by omega) (by omega)).mp q; omega)]
    refine ⟨b, rfl, ⟨fun z => ⟨z, fun k x h1 h3 h4 h5 => ?_⟩, fun z => z.1⟩⟩
    have := cnt_lt_of h1 h3 h5; omega
  | succ j ih =>
    intro g U1 b hg hu
    obtain ⟨V, rfl⟩ : ∃ V, U1 = V + 1 := ⟨U1 - 1, by omega⟩
    obtain ⟨k, x, hx, hx2, hxg⟩ := plc (D := D) (q := 2) g (by omega)
    have hki : k < i := (ord_lt hx hx2 hd h2).mp (by omega)
    have ra := ((hM.2.2.2 i d hd).2.2.2.1 h2).1
    have rb := ((hM.2.2.2 k x hx).2.2.2.1 hx2).1
    rw [hxg] at rb
    rw [x_X12_checkNumbers_L57, if_pos ((ltI (by omega) (by omega)).mpr (by omega)), ix_in (by omega) (by decide), ix_in (by omega) (by decide), ra.1, rb.1, ifd (oq_inj hl (hW.scK hx) (hW.scK hd)), ix_in (by omega) (by decide)]
    unfold x_X12_checkNumbers_94
    rw [nI_1]
    have only : ∀ (k' : Nat) (y : Dc), D[k']? = some y → dK y = 2 → cnt (D.take k') 2 = g → k' = k := fun k' y h1 h3 h4 => ord_inj h1 h3 hx hx2 (by omega)
    have same : (dS x = dS d → sL σ 1137 g ≠ v2) → ∃ r : Bool, x_X12_checkNumbers_L57 U 1101 K (nI (cnt (D.take i) 2)) v2 σ V (zI b) (nI (g + 1)) = K (zI r) ∧ (r = true ↔ b = true ∧ ∀ (k : Nat) (x : Dc), D[k]? = some x → dK x = 2 → g ≤ cnt (D.take k) 2 → k < i → dS x = dS d → sL σ 1137 (cnt (D.take k) 2) ≠ v2) := by
      intro hn
      obtain ⟨r, e1, e2⟩ := ih (g + 1) V b (by omega) (by omega)
      refine ⟨r, e1, ?_⟩
      rw [e2]
      refine and_congr_right (fun _ => ⟨fun h k' y h1 h3 h4 h5 h6 => ?_, fun h k' y h1 h3 h4 h5 h6 => h k' y h1 h3 (by omega) h5 h6⟩)
      by_cases q : cnt (D.take k') 2 = g
      · have := only k' y h1 h3 q
        subst this
        rw [hx] at h1
        cases h1
        rw [q]
        exact hn h6
      · exact h k' y h1 h3 (by omega) h5 h6
    by_cases q1 : dS x = dS d
    · rw [if_pos q1]
      by_cases q2 : sL σ 1137 g = v2
      · rw [if_pos q2]
        obtain ⟨r, e1, e2⟩ := ih (g + 1) V false (by omega) (by omega)
        refine ⟨r, e1, ?_⟩
        rw [e2]
        refine ⟨fun z => (by cases z.1), fun z => ?_⟩
        exact absurd (by rw [hxg]; exact q2) (z.2 k x hx hx2 (by omega) hki q1)
      · rw [if_neg q2]; exact same (fun _ => q2)
    · rw [if_neg q1]; exact same (fun z => absurd z q1)
/-- what checking leaves -/
def CK (σ τ : SG) (P : Prop) : Prop := fq [74, 75] σ τ ∧ (sI τ 1101 74 = 0 ↔ sI σ 1101 74 = 0 ∧ P)
theorem CK_trans {σ τ υ : SG} {P Q : Prop} (h : CK σ τ P) (h' : CK τ υ Q) : CK σ υ (P ∧ Q) := ⟨fq_trans h.1 h'.1, by rw [h'.2, h.2, and_assoc]⟩
theorem CK_iff {σ τ : SG} {P Q : Prop} (h : CK σ τ P) (hpq : P ↔ Q) : CK σ τ Q := ⟨h.1, by rw [h.2, hpq]⟩
theorem CK_refl {σ : SG} {P : Prop} (h : P) : CK σ σ P := ⟨fq_refl _ _, ⟨fun z => ⟨z, h⟩, fun z => z.1⟩⟩
theorem CK_bad {σ τ : SG} {P : Prop} (hf : fq [74, 75] σ τ) (hz : ¬ sI τ 1101 74 = 0) (h : ¬ P) : CK σ τ P := ⟨hf, ⟨fun z => absurd z hz, fun z => absurd z.2 h⟩⟩
theorem N_num_F {U : Nat} {T : List Nat} {Ws : List Wd} {D : List Dc} {p i : Nat} {d : Dc} {K : Int32 → SG → Option SG} {K2 : SG → Option SG} {σ : SG} (hU : 4000 < U) (hW : WF D) (hG : GD T Ws D) (hl : D.length < 180) (hd : D[i]? = some d) (h2 : dK d = 2) (hM : RM σ T Ws D p) (b : Bool) (hb : b = okN (dN d).2) :
    ∃ τ, x_X12_checkNumbers_52 U 1101 K K2 (nI (cnt (D.take i) 2)) (sL σ 1137 (cnt (D.take i) 2)) (zI b) σ = K (nI (cnt (D.take i) 2 + 1)) τ ∧ CK σ τ (gdF D i d) := by
  have hc := cnt_take_lt hd h2
  have hcl := cnt_le D 2
  obtain ⟨w, w1, w2, w3⟩ := NR_of ((hM.2.2.2 i d hd).2.2.2.1 h2).2.2.2.1 ((hG i d hd).2.1.2.2.1 h2).1
  unfold x_X12_checkNumbers_52
  obtain ⟨r, e1, e2⟩ := N_num_L (U := U) (K := fun w22 => if w22 = 0 then (ix (nI (cnt (D.take i) 2)) 200 fun j24 => b1 (x_X12_earlier 1101 4 (sI σ 1138 j24) σ) fun σ29 => x_X12_checkNumbers_116 U 1101 K K2 (nI (cnt (D.take i) 2)) σ29) else (x_X12_checkNumbers_116 U 1101 K K2 (nI (cnt (D.take i) 2)) σ)) (v2 := sL σ 1137 (cnt (D.take i) 2)) hW hl hd h2 hM (cnt (D.take i) 2) 0 U b (by omega) (by omega)
  have e1' := e1
  rw [show nI 0 = 0 from rfl] at e1'
  rw [e1', ifz]
  have hgd : r = true ↔ gdF D i d := by
    rw [e2, hb]
    unfold gdF
    refine and_congr_right (fun hok => ⟨fun h j x hj hx hx2 hs hn => ?_, fun h k x hx hx2 _ hki hs hn => ?_⟩)
    · obtain ⟨w', w1', w2', w3'⟩ := NR_of ((hM.2.2.2 j x hx).2.2.2.1 hx2).2.2.2.1 ((hG j x hx).2.1.2.2.1 hx2).1
      have hok' := of_decide_eq_true hok
      refine h j x hx hx2 (Nat.zero_le _) hj hs ?_
      rw [w3, w3']
      congr 1
      unfold NV at w2 w2'
      omega
    · obtain ⟨w', w1', w2', w3'⟩ := NR_of ((hM.2.2.2 k x hx).2.2.2.1 hx2).2.2.2.1 ((hG k x hx).2.1.2.2.1 hx2).1
      have hok' := of_decide_eq_true hok
      rw [w3, w3', pk_lEQ (by omega) (by omega)] at hn
      refine h k x hki hx hx2 hs ?_
      unfold NV at w2 w2'
      omega
  unfold x_X12_checkNumbers_116
  rw [nI_1]
  cases hr : r with
  | true =>
    rw [if_pos rfl]
    exact ⟨σ, rfl, CK_refl (hgd.mp hr)⟩
  | false =>
    rw [if_neg (by decide), ix_in (by omega) (by decide)]
    obtain ⟨τ, f1, f2, f3⟩ := N_earlier (σ := σ) (v := 4) (p := sI σ 1138 (cnt (D.take i) 2)) (by decide)
    rw [f1, b1_eq]
    exact ⟨τ, rfl, CK_bad f3 f2 (fun z => by rw [hgd.mpr z] at hr; cases hr)⟩
theorem N_num_1 {U : Nat} {T : List Nat} {Ws : List Wd} {D : List Dc} {p : Nat} {K2 : SG → Option SG} (hU : 4000 < U) (hW : WF D) (hG : GD T Ws D) (hl : D.length < 180) : ∀ (j f U1 : Nat) (σ : SG), f + j = cnt D 2 → j < U1 → RM σ T Ws D p →
    ∃ τ, x_X12_checkNumbers_L2 U 1101 K2 U1 (nI f) σ = K2 τ ∧ CK σ τ (∀ i d, D[i]? = some d → dK d = 2 → f ≤ cnt (D.take i) 2 → gdF D i d) := by
  have hcl := cnt_le D 2
  intro j
  induction j with
  | zero =>
    intro f U1 σ hf hu hM
    obtain ⟨V, rfl⟩ : ∃ V, U1 = V + 1 := ⟨U1 - 1, by omega⟩
    have h34 : sI σ 1101 34 = nI (cnt D 2) := hM.1 2 (by decide)
    rw [x_X12_checkNumbers_L2, h34, if_neg (fun q => by have := (ltI (by omega) (by omega)).mp q; omega)]
    exact ⟨σ, rfl, CK_refl (fun i d h1 h2 h3 => by have := cnt_take_lt h1 h2; omega)⟩
  | succ j ih =>
    intro f U1 σ hf hu hM
    obtain ⟨V, rfl⟩ : ∃ V, U1 = V + 1 := ⟨U1 - 1, by omega⟩
    have h34 : sI σ 1101 34 = nI (cnt D 2) := hM.1 2 (by decide)
    obtain ⟨i, d, hd, h2, hfi⟩ := plc (D := D) (q := 2) f (by omega)
    obtain ⟨w, w1, w2, w3⟩ := NR_of ((hM.2.2.2 i d hd).2.2.2.1 h2).2.2.2.1 ((hG i d hd).2.1.2.2.1 h2).1
    have g := (hG i d hd).2.1.1
    rw [hfi] at w3
    rw [x_X12_checkNumbers_L2, h34, if_pos ((ltI (by omega) (by omega)).mpr (by omega)), ix_in (by omega) (by decide)]
    have go : ∀ (b : Bool), b = okN (dN d).2 → ∃ τ, x_X12_checkNumbers_52 U 1101 (x_X12_checkNumbers_L2 U 1101 K2 V) K2 (nI f) (sL σ 1137 f) (zI b) σ = K2 τ ∧ CK σ τ (∀ i d, D[i]? = some d → dK d = 2 → f ≤ cnt (D.take i) 2 → gdF D i d) := by
      intro b hb
      obtain ⟨υ, e1, e2⟩ := N_num_F (K := x_X12_checkNumbers_L2 U 1101 K2 V) (K2 := K2) hU hW hG hl hd h2 hM b hb
      rw [hfi] at e1
      rw [e1]
      obtain ⟨τ, f1, f2⟩ := ih (f + 1) V υ (by omega) (by omega) (RM_74 hM e2.1)
      refine ⟨τ, f1, CK_iff (CK_trans e2 f2) ⟨fun z i' d' h1 h3 h4 => ?_, fun z => ⟨z i d hd h2 (by omega), fun i' d' h1 h3 h4 => z i' d' h1 h3 (by omega)⟩⟩⟩
      by_cases q : cnt (D.take i') 2 = f
      · have := ord_inj h1 h3 hd h2 (by omega)
        subst this
        rw [hd] at h1
        cases h1
        exact z.1
      · exact z.2 i' d' h1 h3 (by omega)
    have wlt : w < 2 ^ 63 := by omega
    have c1 : sL σ 1137 f < 1 ↔ (dN d).2 < 1 := by rw [w3]; exact (pk_lLT (b := 1) wlt (by decide)).trans (by unfold NV at w2; omega)
    have c2 : (536870911 : Int64) < sL σ 1137 f ↔ 536870911 < (dN d).2 := by rw [w3]; exact (pk_lLT (a := 536870911) (by decide) wlt).trans (by unfold NV at w2; omega)
    have c3 : sL σ 1137 f < 19000 ↔ (dN d).2 < 19000 := by rw [w3]; exact (pk_lLT (b := 19000) wlt (by decide)).trans (by unfold NV at w2; omega)
    have c4 : (19999 : Int64) < sL σ 1137 f ↔ 19999 < (dN d).2 := by rw [w3]; exact (pk_lLT (a := 19999) (by decide) wlt).trans (by unfold NV at w2; omega)
    rw [ifd c1, ifd c2, ifd c3, ifd c4]
    unfold x_X12_checkNumbers_51 x_X12_checkNumbers_47
    by_cases q1 : (dN d).2 < 1
    · rw [if_pos q1]; exact go false (Eq.symm (decide_eq_false (by omega)))
    rw [if_neg q1]
    by_cases q2 : 536870911 < (dN d).2
    · rw [if_pos q2]; exact go false (Eq.symm (decide_eq_false (by omega)))
    rw [if_neg q2]
    by_cases q3 : (dN d).2 < 19000
    · rw [if_pos q3]; exact go true (Eq.symm (decide_eq_true (by omega)))
    rw [if_neg q3]
    by_cases q4 : 19999 < (dN d).2
    · rw [if_pos q4]; exact go true (Eq.symm (decide_eq_true (by omega)))
    rw [if_neg q4]; exact go false (Eq.symm (decide_eq_false (by omega)))
/-- an enum's members are its values -/
theorem chD_nil {D : List Dc} {k e : Nat} (hW : WF D) (he : ∃ y, D[e]? = some y ∧ dK y = 1) : chD D k e = [] ↔ ∀ (j : Nat) (x : Dc), j < k → D[j]? = some x → dK x = 3 → dO x ≠ some e := by
  obtain ⟨y, hy, hy1⟩ := he
  constructor
  · intro h j x hj hx h3 ho
    have : j ∈ chD D k e := (chD_mem k j).mpr ⟨hj, x, hx, Or.inr ⟨h3, ho⟩⟩
    rw [h] at this; cases this
  · intro h
    cases hc : chD D k e with
    | nil => rfl
    | cons a L =>
      exfalso
      have : a ∈ chD D k e := by rw [hc]; exact List.mem_cons_self ..
      obtain ⟨h1, x, h2, h3 | h3⟩ := (chD_mem k a).mp this
      · obtain ⟨z, z1, z2⟩ := hW.scK h2 e h3.2
        rw [hy] at z1
        cases z1
        omega
      · exact h a x h1 h2 h3.1 h3.2
theorem WF.val {D : List Dc} {i : Nat} {d : Dc} (h : WF D) (hd : D[i]? = some d) (h3 : dK d = 3) : ∃ e, dO d = some e ∧ e < i ∧ ∃ y, D[e]? = some y ∧ dK y = 1 := by
  rcases (h i d hd).2 with z | z | z | z | z
  · omega
  · omega
  · omega
  · omega
  · obtain ⟨_, e, he, x, a1, a2, _⟩ := z
    have hl := (List.getElem?_eq_some_iff.mp a1).1
    rw [List.length_take] at hl
    rw [List.getElem?_take_of_lt (by omega)] at a1
    exact ⟨e, he, by omega, x, a1, a2⟩
/-- a value is its enum's first one if the value before it is of another enum -/
theorem first_iff {T : List Nat} {Ws : List Wd} {D : List Dc} {i i' e : Nat} {d d' : Dc} (hW : WF D) (hG : GD T Ws D) (hd : D[i]? = some d) (h3 : dK d = 3) (he : dO d = some e) (hd' : D[i']? = some d') (h3' : dK d' = 3) (hv : cnt (D.take i') 3 + 1 = cnt (D.take i) 3) : dO d' = dO d ↔ ¬ chD D i e = [] := by
  obtain ⟨e2, he2, hei, hey⟩ := hW.val hd h3
  rw [he] at he2
  cases he2
  obtain ⟨e', he', hei', hey'⟩ := hW.val hd' h3'
  have hlt : i' < i := (ord_lt hd' h3' hd h3).mp (by omega)
  rw [chD_nil hW hey]
  constructor
  · intro h hall
    exact hall i' d' hlt hd' h3' (by rw [h, he])
  · intro h
    apply Classical.byContradiction
    intro hne
    apply h
    intro j x hj hx hx3 ho
    -- j is a value of e, at i' or before
    have hji : j ≤ i' := by
      rcases Nat.lt_or_ge i' j with z | z
      · have h1 := cnt_lt_of hd' h3' z
        have h2 := cnt_lt_of hx hx3 hj
        omega
      · exact z
    have hje : e < j := (hW.before hx).2 e ho
    obtain ⟨y, hy, hy1⟩ := hey
    obtain ⟨y', hy', hy1'⟩ := hey'
    rcases Nat.lt_trichotomy e e' with z | z | z
    · exact (hG i d hd).2.2 h3 e he e' y' z (by omega) hy' hy1'
    · exact hne (by rw [he', he, z])
    · exact (hG i' d' hd').2.2 h3' e' he' e y z (by omega) hy hy1
theorem WF.ow {D : List Dc} {i : Nat} {d : Dc} (h : WF D) (hd : D[i]? = some d) (h3 : dK d = 3) : ∀ m, dO d = some m → ∃ x, D[m]? = some x ∧ dK x = 1 := fun m hm => by
  obtain ⟨e, he, _, y⟩ := h.val hd h3
  rw [he] at hm
  cases hm
  exact y
theorem N_num_2 {U : Nat} {T : List Nat} {Ws : List Wd} {D : List Dc} {p : Nat} (hW : WF D) (hG : GD T Ws D) (hl : D.length < 180) : ∀ (j v U1 : Nat) (σ : SG), v + j = cnt D 3 → j < U1 → RM σ T Ws D p →
    ∃ τ, x_X12_checkNumbers_L124 U 1101 U1 (nI v) σ = some τ ∧ CK σ τ (∀ i d, D[i]? = some d → dK d = 3 → v ≤ cnt (D.take i) 3 → gdV D i d) := by
  have hcl := cnt_le D 3
  intro j
  induction j with
  | zero =>
    intro v U1 σ hf hu hM
    obtain ⟨V, rfl⟩ : ∃ V, U1 = V + 1 := ⟨U1 - 1, by omega⟩
    have h35 : sI σ 1101 35 = nI (cnt D 3) := hM.1 3 (by decide)
    rw [x_X12_checkNumbers_L124, h35, if_neg (fun q => by have := (ltI (by omega) (by omega)).mp q; omega)]
    exact ⟨σ, rfl, CK_refl (fun i d h1 h2 h3 => by have := cnt_take_lt h1 h2; omega)⟩
  | succ j ih =>
    intro v U1 σ hf hu hM
    obtain ⟨V, rfl⟩ : ∃ V, U1 = V + 1 := ⟨U1 - 1, by omega⟩
    have h35 : sI σ 1101 35 = nI (cnt D 3) := hM.1 3 (by decide)
    obtain ⟨i, d, hd, h3, hvi⟩ := plc (D := D) (q := 3) v (by omega)
    have row := (hM.2.2.2 i d hd).2.2.2.2 h3
    rw [hvi] at row
    obtain ⟨row1, w, w1, w2, w3⟩ := row
    have g := (hG i d hd).2.1.1
    obtain ⟨e, he, hei, hey⟩ := hW.val hd h3
    have w62 : (((dN d).1, w) : Bool × Nat).2 < 2 ^ 62 := by show w < 2 ^ 62; omega
    -- what follows
    have next : ∀ υ, CK σ υ (gdV D i d) → ∃ τ, x_X12_checkNumbers_212 U 1101 (x_X12_checkNumbers_L124 U 1101 V) (nI v) υ = some τ ∧ CK σ τ (∀ i d, D[i]? = some d → dK d = 3 → v ≤ cnt (D.take i) 3 → gdV D i d) := by
      intro υ hυ
      unfold x_X12_checkNumbers_212
      rw [nI_1]
      obtain ⟨τ, f1, f2⟩ := ih (v + 1) V υ (by omega) (by omega) (RM_74 hM hυ.1)
      refine ⟨τ, f1, CK_iff (CK_trans hυ f2) ⟨fun z i' d' h1 h3' h4 => ?_, fun z => ⟨z i d hd h3 (by omega), fun i' d' h1 h3' h4 => z i' d' h1 h3' (by omega)⟩⟩⟩
      by_cases q : cnt (D.take i') 3 = v
      · have := ord_inj h1 h3' hd h3 (by omega)
        subst this
        rw [hd] at h1
        cases h1
        exact z.1
      · exact z.2 i' d' h1 h3' (by omega)
    have bad : ¬ gdV D i d → ∃ τ, x_X12_checkNumbers_200 U 1101 (x_X12_checkNumbers_L124 U 1101 V) (nI v) σ = some τ ∧ CK σ τ (∀ i d, D[i]? = some d → dK d = 3 → v ≤ cnt (D.take i) 3 → gdV D i d) := by
      intro hb
      unfold x_X12_checkNumbers_200
      rw [ix_in (by omega) (by decide)]
      obtain ⟨τ, f1, f2, f3⟩ := N_earlier (σ := σ) (v := 6) (p := sI σ 1153 v) (by decide)
      rw [f1, b1_eq]
      exact next τ (CK_bad f3 f2 hb)
    -- the number's range
    have rng : (chD D i e = [] → (dN d).2 = 0) → ∃ τ, x_X12_checkNumbers_174 U 1101 (x_X12_checkNumbers_L124 U 1101 V) (nI v) σ = some τ ∧ CK σ τ (∀ i d, D[i]? = some d → dK d = 3 → v ≤ cnt (D.take i) 3 → gdV D i d) := by
      intro h0
      unfold x_X12_checkNumbers_174
      rw [ix_in (by omega) (by decide), w3, ifd (nL_lo w62)]
      by_cases q1 : (dN d).1 = true ∧ 2147483648 < w
      · rw [if_pos q1]
        refine bad (fun z => ?_)
        have := of_decide_eq_true z.1
        unfold NV at w2
        omega
      rw [if_neg q1, ix_in (by omega) (by decide), w3, ifd (nL_hi w62)]
      by_cases q2 : (dN d).1 = false ∧ 2147483647 < w
      · rw [if_pos q2]
        refine bad (fun z => ?_)
        have := of_decide_eq_true z.1
        rw [q2.1] at this
        unfold NV at w2
        rcases this with y | y
        · omega
        · cases y.1
      rw [if_neg q2]
      refine next σ (CK_refl ⟨decide_eq_true ?_, fun e' he' => by rw [he] at he'; cases he'; exact h0⟩)
      unfold NV at w2
      cases hb : (dN d).1 with
      | true =>
        have : ¬ 2147483648 < w := fun z => q1 ⟨hb, z⟩
        by_cases q : (dN d).2 = 2147483648
        · exact Or.inr ⟨rfl, q⟩
        · exact Or.inl (by omega)
      | false =>
        have : ¬ 2147483647 < w := fun z => q2 ⟨hb, z⟩
        exact Or.inl (by omega)
    have fst : chD D i e = [] → ∃ τ, x_X12_checkNumbers_153 U 1101 (x_X12_checkNumbers_L124 U 1101 V) (nI v) σ = some τ ∧ CK σ τ (∀ i d, D[i]? = some d → dK d = 3 → v ≤ cnt (D.take i) 3 → gdV D i d) := by
      intro hn
      unfold x_X12_checkNumbers_153 x_X12_checkNumbers_158
      rw [if_neg (by decide), ix_in (by omega) (by decide), w3, ifd (nL_0 w62)]
      by_cases q : w = 0
      · rw [if_pos q]; exact rng (fun _ => by unfold NV at w2; omega)
      · rw [if_neg q]; exact bad (fun z => q (by have := z.2 e he hn; unfold NV at w2; omega))
    rw [x_X12_checkNumbers_L124, h35, if_pos ((ltI (by omega) (by omega)).mpr (by omega))]
    by_cases q0 : v = 0
    · rw [if_pos (show nI v = 0 by rw [q0]; rfl)]
      refine fst ((chD_nil hW hey).mpr (fun j x hj hx hx3 _ => ?_))
      have := cnt_lt_of hx hx3 hj
      omega
    · rw [if_neg (show ¬ nI v = 0 from fun z => q0 ((nI_eq (b := 0) (by omega) (by decide)).mp z)), show (1 : Int32) = nI 1 from rfl, nI_sub (by omega), ix_in (by omega) (by decide), ix_in (by omega) (by decide)]
      obtain ⟨i', d', hd', h3', hvi'⟩ := plc (D := D) (q := 3) (v - 1) (by omega)
      have row' := ((hM.2.2.2 i' d' hd').2.2.2.2 h3').1
      rw [hvi'] at row'
      have fi := first_iff hW hG hd h3 he hd' h3' (by omega)
      rw [row'.1, row1.1, ifd (oq_inj hl (hW.ow hd' h3') (hW.ow hd h3)), ifd fi]
      by_cases qn : chD D i e = []
      · rw [if_neg (fun z => z qn)]; exact fst qn
      · rw [if_pos qn]
        unfold x_X12_checkNumbers_158
        rw [if_pos rfl]
        exact rng (fun z => absurd z qn)
theorem N_checkNumbers {U : Nat} {T : List Nat} {Ws : List Wd} {D : List Dc} {p : Nat} {σ : SG} (hU : 4000 < U) (hW : WF D) (hG : GD T Ws D) (hl : D.length < 180) (hM : RM σ T Ws D p) :
    ∃ τ, x_X12_checkNumbers U 1101 σ = some τ ∧ CK σ τ ((∀ i d, D[i]? = some d → dK d = 2 → gdF D i d) ∧ ∀ i d, D[i]? = some d → dK d = 3 → gdV D i d) := by
  have hc2 := cnt_le D 2
  have hc3 := cnt_le D 3
  unfold x_X12_checkNumbers
  obtain ⟨υ, e1, e2⟩ := N_num_1 (K2 := fun σ33 => x_X12_checkNumbers_L124 U 1101 U 0 σ33) hU hW hG hl (cnt D 2) 0 U σ (by omega) (by omega) hM
  have e1' : x_X12_checkNumbers_L2 U 1101 (fun σ33 => x_X12_checkNumbers_L124 U 1101 U 0 σ33) U 0 σ = x_X12_checkNumbers_L124 U 1101 U 0 υ := e1
  obtain ⟨τ, f1, f2⟩ := N_num_2 (U := U) hW hG hl (cnt D 3) 0 U υ (by omega) (by omega) (RM_74 hM e2.1)
  have f1' : x_X12_checkNumbers_L124 U 1101 U 0 υ = some τ := f1
  rw [e1', f1']
  exact ⟨τ, rfl, CK_iff (CK_trans e2 f2) ⟨fun z => ⟨fun i d h1 h2 => z.1 i d h1 h2 (Nat.zero_le _), fun i d h1 h2 => z.2 i d h1 h2 (Nat.zero_le _)⟩, fun z => ⟨fun i d h1 h2 _ => z.1 i d h1 h2, fun i d h1 h2 _ => z.2 i d h1 h2⟩⟩⟩
/-! ===== the reference resolves a type's name ===== -/
/-- the cells that the checks may change -/
def PT (b k : Nat) : Prop := (b = 1101 ∧ (k = 74 ∨ k = 75 ∨ k = 77)) ∨ b = 1139 ∨ b = 1141
theorem PT_c {σ τ : SG} (h : fP PT σ τ) {b k : Nat} (h1 : b ≠ 1101) (h2 : b ≠ 1139) (h3 : b ≠ 1141) : sI τ b k = sI σ b k := (h b k (by rintro (z | z | z) <;> omega)).1
theorem PT_o {σ τ : SG} (h : fP PT σ τ) {k : Nat} (h1 : k ≠ 74) (h2 : k ≠ 75) (h3 : k ≠ 77 := by decide) : sI τ 1101 k = sI σ 1101 k := (h 1101 k (by rintro (z | z | z) <;> omega)).1
theorem PT_q {σ τ : SG} (h : fq [74, 75] σ τ) : fP PT σ τ := fun b k hk => by
  by_cases hb : b = 1101
  · subst hb
    have h74 : k ∉ [74, 75] := fun z => hk (Or.inl ⟨rfl, by
      simp only [List.mem_cons, List.not_mem_nil, or_false] at z
      omega⟩)
    exact ⟨h.2.1 k h74, h.2.2.1 k (fun z => hk (Or.inl ⟨rfl, Or.inr (Or.inr z)⟩)), h.2.2.2 k⟩
  · exact h.1 b hb k
theorem LR_PT {σ τ : SG} {T : List Nat} (h : LR σ T) (hf : fP PT σ τ) : LR τ T := ⟨(PT_o hf (by decide) (by decide)).trans h.1, fun i c hi => (PT_c hf (by decide) (by decide) (by decide)).trans (h.2.1 i c hi), h.2.2⟩
def pK (q : Nat) (T : List Nat) (sc : Option Nat) (nm : List Nat) (d : Dc) : Bool := decide (dS d = sc ∧ dK d = q ∧ slc T (dA d) (dE d) = nm)
/-- the first message, else the first enum of a scope that is called so, as the reference looks -/
def lkR (T : List Nat) (D : List Dc) (sc : Option Nat) (nm : List Nat) : Option Nat := match ff (pK 0 T sc nm) D 0 with
  | some i => some i
  | none => ff (pK 1 T sc nm) D 0
def ordR (D : List Dc) (o : Option Nat) : Int32 := match o with
  | none => -1
  | some i => if knd D i = 0 then nI (cnt (D.take i) 0) else nI (1000 + cnt (D.take i) 1)
theorem knd_some {D : List Dc} {i : Nat} {d : Dc} (h : D[i]? = some d) : knd D i = dK d := by unfold knd; rw [h]
theorem lkR_k {T : List Nat} {D : List Dc} {sc : Option Nat} {nm : List Nat} {i : Nat} (h : lkR T D sc nm = some i) : ∃ d, D[i]? = some d ∧ dK d ≤ 1 ∧ dS d = sc ∧ slc T (dA d) (dE d) = nm := by
  unfold lkR at h
  cases e : ff (pK 0 T sc nm) D 0 with
  | some j =>
    rw [e] at h
    cases h
    obtain ⟨d, a1, a2, _, _⟩ := ff_some _ _ _ e
    have := of_decide_eq_true a2
    exact ⟨d, by simpa using a1, by omega, this.1, this.2.2⟩
  | none =>
    rw [e] at h
    obtain ⟨d, a1, a2, _, _⟩ := ff_some _ _ _ h
    have := of_decide_eq_true a2
    exact ⟨d, by simpa using a1, by omega, this.1, this.2.2⟩
/-- nothing is declared in an enum -/
theorem lkR_enum {T : List Nat} {D : List Dc} {e : Nat} {nm : List Nat} (hW : WF D) (he : ∃ y, D[e]? = some y ∧ dK y = 1) : lkR T D (some e) nm = none := by
  cases h : lkR T D (some e) nm with
  | none => rfl
  | some i =>
    exfalso
    obtain ⟨d, a1, a2, a3, _⟩ := lkR_k h
    obtain ⟨x, b1', b2'⟩ := hW.scK a1 e a3
    obtain ⟨y, c1, c2⟩ := he
    rw [c1] at b1'
    cases b1'
    omega
theorem lkR_eq {T : List Nat} {D : List Dc} (h : ∀ (k : Nat) (d : Dc), D[k]? = some d → tkn T D k d = false) : lkR T D = lkC T D := by
  have uni : ∀ (i j : Nat) (x y : Dc), D[i]? = some x → D[j]? = some y → clash T x y → i = j := by
    intro i j x y hx hy hc
    rcases Nat.lt_trichotomy i j with z | z | z
    · exact absurd ⟨hc.1.symm, hc.2.symm⟩ ((tkn_iff (Nat.le_of_lt (List.getElem?_eq_some_iff.mp hy).1)).mp (h j y hy) i x z hx)
    · exact z
    · exact absurd hc ((tkn_iff (Nat.le_of_lt (List.getElem?_eq_some_iff.mp hx).1)).mp (h i x hx) j y z hy)
  funext sc nm
  unfold lkR lkC
  have no : ∀ (i : Nat) (d : Dc), D[i]? = some d → dS d = sc → slc T (dA d) (dE d) = nm → ∀ (q : Nat), dK d ≠ q → ff (pK q T sc nm) D 0 = none := by
    intro i d hd h1 h2 q hq
    refine ff_no _ _ (fun x hx => ?_)
    obtain ⟨j, hj⟩ := List.getElem?_of_mem hx
    refine decide_eq_false (fun z => ?_)
    have := uni i j d x hd hj ⟨by rw [z.1, h1], by rw [z.2.2, h2]⟩
    subst this
    rw [hd] at hj
    cases hj
    exact hq z.2.1
  have yes : ∀ (i : Nat) (d : Dc), D[i]? = some d → dS d = sc → slc T (dA d) (dE d) = nm → ff (pK (dK d) T sc nm) D 0 = some i := by
    intro i d hd h1 h2
    have := ff_here (p := pK (dK d) T sc nm) D 0 i d hd (decide_eq_true ⟨h1, rfl, h2⟩) (fun j x hj hx => decide_eq_false (fun z => by
      have := uni i j d x hd hx ⟨by rw [z.1, h1], by rw [z.2.2, h2]⟩
      omega))
    rw [this, Nat.zero_add]
  cases e : ff (pC T sc nm) D 0 with
  | none =>
    have hn : ∀ q, q ≤ 1 → ff (pK q T sc nm) D 0 = none := fun q hq => ff_no _ _ (fun x hx => by
      have := ff_none _ _ e x hx
      exact decide_eq_false (fun z => by
        have := of_decide_eq_false this
        exact this ⟨z.1, by omega, z.2.2⟩))
    rw [hn 0 (by decide)]
    exact hn 1 (by decide)
  | some i =>
    obtain ⟨d, a1, a2, _, _⟩ := ff_some _ _ _ e
    rw [Nat.sub_zero] at a1
    have hz := of_decide_eq_true a2
    by_cases q : dK d = 0
    · have := yes i d a1 hz.1 hz.2.2
      rw [q] at this
      rw [this]
    · have := yes i d a1 hz.1 hz.2.2
      rw [show dK d = 1 by omega] at this
      rw [no i d a1 hz.1 hz.2.2 0 q, this]
theorem ordR_none {D : List Dc} {o : Option Nat} (hl : D.length < 180) : ordR D o = -1 ↔ o = none := by
  cases o with
  | none => exact ⟨fun _ => rfl, fun _ => rfl⟩
  | some i =>
    refine ⟨fun z => ?_, fun z => by cases z⟩
    exfalso
    have c0 := cnt_take_le D i 0
    have c1 := cnt_take_le D i 1
    have l0 := cnt_le D 0
    have l1 := cnt_le D 1
    have hb : ∀ n, n < 2 ^ 31 → ¬ nI n = -1 := fun n hn y => nI_neg hn (by rw [y]; decide)
    unfold ordR at z
    simp only at z
    split at z
    · exact hb _ (by omega) z
    · exact hb _ (by omega) z
/-- a part of a type's name, as the reference holds it -/
def PA (σ : SG) (T : List Nat) (q : Nat) (nm : List Nat) : Prop := q < 400 ∧ ∃ s n, sI σ 1154 q = nI s ∧ sI σ 1155 q = nI n ∧ s + n ≤ T.length ∧ slc T s (s + n) = nm
theorem N_inS_1 {U q : Nat} {sc : Option Nat} {nm : List Nat} {T : List Nat} {Ws : List Wd} {D : List Dc} {p : Nat} {σ0 σ : SG} (hU : 4000 < U) (hW : WF D) (hN : GNs T D) (hl : D.length < 180) (h1 : cnt D 1 ≤ 100) (hM : RM σ0 T Ws D p) (hf : fP PT σ0 σ) (hL : LR σ T) (hsc : ∀ m, sc = some m → KM D m) (hq : PA σ T q nm) : ∀ (j m U1 : Nat), m + j = cnt D 1 → j < U1 → (∀ i d, D[i]? = some d → dK d = 1 → cnt (D.take i) 1 < m → pK 1 T sc nm d = false) →
    x_X12_inScope_L61 U 1101 (oq D 0 sc) (nI q) σ U1 (nI m) = some (ordR D (ff (pK 1 T sc nm) D 0)) := by
  have h33 : sI σ 1101 33 = nI (cnt D 1) := (PT_o hf (by decide) (by decide)).trans (hM.1 1 (by decide))
  intro j
  induction j with
  | zero =>
    intro m U1 hm hu hall
    obtain ⟨V, rfl⟩ : ∃ V, U1 = V + 1 := ⟨U1 - 1, by omega⟩
    rw [x_X12_inScope_L61, h33, if_neg (fun z => by have := (ltI (by omega) (by omega)).mp z; omega), ff_no]
    · rfl
    · intro x hx
      obtain ⟨i, hi⟩ := List.getElem?_of_mem hx
      by_cases z : dK x = 1
      · exact hall i x hi z (by have := cnt_take_lt hi z; omega)
      · exact decide_eq_false (fun y => z y.2.1)
  | succ j ih =>
    intro m U1 hm hu hall
    obtain ⟨V, rfl⟩ : ∃ V, U1 = V + 1 := ⟨U1 - 1, by omega⟩
    obtain ⟨i, d, hd, hk, hi⟩ := plc (D := D) (q := 1) m (by omega)
    have row := (hM.2.2.2 i d hd).2.2.1 hk
    rw [hi] at row
    have gd := hN i d hd
    obtain ⟨hq4, s, n, s1, s2, s3, s4⟩ := hq
    have hTl := hL.2.2.1
    rw [x_X12_inScope_L61, h33, if_pos ((ltI (by omega) (by omega)).mpr (by omega)), ix_in (by omega) (by decide), PT_c hf (by decide) (by decide) (by decide), row.1, ifd (oq_inj hl (hW.scK hd) hsc)]
    unfold x_X12_inScope_116
    rw [nI_1]
    have go : pK 1 T sc nm d = false → x_X12_inScope_L61 U 1101 (oq D 0 sc) (nI q) σ V (nI (m + 1)) = some (ordR D (ff (pK 1 T sc nm) D 0)) := by
      intro hp
      refine ih (m + 1) V (by omega) (by omega) (fun i' d' h2 h3 h4 => ?_)
      by_cases z : cnt (D.take i') 1 = m
      · have := ord_inj h2 h3 hd hk (by omega)
        subst this
        rw [hd] at h2
        cases h2
        exact hp
      · exact hall i' d' h2 h3 (by omega)
    by_cases q1 : dS d = sc
    · rw [if_pos q1, ix_in hq4 (by decide), ix_in hq4 (by decide), ix_in (by omega) (by decide), ix_in (by omega) (by decide), s1, s2, PT_c hf (by decide) (by decide) (by decide), PT_c hf (by decide) (by decide) (by decide), row.2.1, row.2.2, N_sameText hU hL s3 (by have := gd.1; have := gd.2.1; omega), b1_eq, ifz, show dA d + (dE d - dA d) = dE d by have := gd.1; omega, s4]
      by_cases q2 : nm = slc T (dA d) (dE d)
      · rw [decide_eq_true q2, if_pos rfl]
        have hff := ff_here (p := pK 1 T sc nm) D 0 i d hd (decide_eq_true ⟨q1, hk, q2.symm⟩) (fun j' x hj' hx => by
          by_cases z : dK x = 1
          · exact hall j' x hx z (by have := cnt_lt_of hx z hj'; omega)
          · exact decide_eq_false (fun y => z y.2.1))
        rw [hff, Nat.zero_add]
        unfold ordR
        simp only
        rw [knd_some hd, hk, if_neg (by decide), show (1000 : Int32) = nI 1000 from rfl, nI_add, hi]
      · rw [decide_eq_false q2, if_neg (by decide)]
        exact go (decide_eq_false (fun z => q2 z.2.2.symm))
    · rw [if_neg q1]
      exact go (decide_eq_false (fun z => q1 z.1))
theorem N_inS_0 {U q : Nat} {sc : Option Nat} {nm : List Nat} {T : List Nat} {Ws : List Wd} {D : List Dc} {p : Nat} {σ0 σ : SG} {K : Option Int32} (hU : 4000 < U) (hW : WF D) (hN : GNs T D) (hl : D.length < 180) (h0 : cnt D 0 ≤ 100) (hM : RM σ0 T Ws D p) (hf : fP PT σ0 σ) (hL : LR σ T) (hsc : ∀ m, sc = some m → KM D m) (hq : PA σ T q nm) : ∀ (j m U1 : Nat), m + j = cnt D 0 → j < U1 → (∀ i d, D[i]? = some d → dK d = 0 → cnt (D.take i) 0 < m → pK 0 T sc nm d = false) →
    x_X12_inScope_L2 U 1101 K (oq D 0 sc) (nI q) σ U1 (nI m) = match ff (pK 0 T sc nm) D 0 with | some i => some (ordR D (some i)) | none => K := by
  have h32 : sI σ 1101 32 = nI (cnt D 0) := (PT_o hf (by decide) (by decide)).trans (hM.1 0 (by decide))
  intro j
  induction j with
  | zero =>
    intro m U1 hm hu hall
    obtain ⟨V, rfl⟩ : ∃ V, U1 = V + 1 := ⟨U1 - 1, by omega⟩
    rw [x_X12_inScope_L2, h32, if_neg (fun z => by have := (ltI (by omega) (by omega)).mp z; omega), ff_no]
    intro x hx
    obtain ⟨i, hi⟩ := List.getElem?_of_mem hx
    by_cases z : dK x = 0
    · exact hall i x hi z (by have := cnt_take_lt hi z; omega)
    · exact decide_eq_false (fun y => z y.2.1)
  | succ j ih =>
    intro m U1 hm hu hall
    obtain ⟨V, rfl⟩ : ∃ V, U1 = V + 1 := ⟨U1 - 1, by omega⟩
    obtain ⟨i, d, hd, hk, hi⟩ := plc (D := D) (q := 0) m (by omega)
    have row := (hM.2.2.2 i d hd).2.1 hk
    rw [hi] at row
    have gd := hN i d hd
    obtain ⟨hq4, s, n, s1, s2, s3, s4⟩ := hq
    have hTl := hL.2.2.1
    rw [x_X12_inScope_L2, h32, if_pos ((ltI (by omega) (by omega)).mpr (by omega)), ix_in (by omega) (by decide), PT_c hf (by decide) (by decide) (by decide), row.1, ifd (oq_inj hl (hW.scK hd) hsc)]
    unfold x_X12_inScope_53
    rw [nI_1]
    have go : pK 0 T sc nm d = false → x_X12_inScope_L2 U 1101 K (oq D 0 sc) (nI q) σ V (nI (m + 1)) = match ff (pK 0 T sc nm) D 0 with | some i => some (ordR D (some i)) | none => K := by
      intro hp
      refine ih (m + 1) V (by omega) (by omega) (fun i' d' h2 h3 h4 => ?_)
      by_cases z : cnt (D.take i') 0 = m
      · have := ord_inj h2 h3 hd hk (by omega)
        subst this
        rw [hd] at h2
        cases h2
        exact hp
      · exact hall i' d' h2 h3 (by omega)
    by_cases q1 : dS d = sc
    · rw [if_pos q1, ix_in hq4 (by decide), ix_in hq4 (by decide), ix_in (by omega) (by decide), ix_in (by omega) (by decide), s1, s2, PT_c hf (by decide) (by decide) (by decide), PT_c hf (by decide) (by decide) (by decide), row.2.1, row.2.2, N_sameText hU hL s3 (by have := gd.1; have := gd.2.1; omega), b1_eq, ifz, show dA d + (dE d - dA d) = dE d by have := gd.1; omega, s4]
      by_cases q2 : nm = slc T (dA d) (dE d)
      · rw [decide_eq_true q2, if_pos rfl]
        have hff := ff_here (p := pK 0 T sc nm) D 0 i d hd (decide_eq_true ⟨q1, hk, q2.symm⟩) (fun j' x hj' hx => by
          by_cases z : dK x = 0
          · exact hall j' x hx z (by have := cnt_lt_of hx z hj'; omega)
          · exact decide_eq_false (fun y => z y.2.1))
        rw [hff, Nat.zero_add]
        unfold ordR
        simp only
        rw [knd_some hd, hk, if_pos rfl, hi]
      · rw [decide_eq_false q2, if_neg (by decide)]
        exact go (decide_eq_false (fun z => q2 z.2.2.symm))
    · rw [if_neg q1]
      exact go (decide_eq_false (fun z => q1 z.1))
theorem N_inScope {U q : Nat} {sc : Option Nat} {nm : List Nat} {T : List Nat} {Ws : List Wd} {D : List Dc} {p : Nat} {σ0 σ : SG} (hU : 4000 < U) (hW : WF D) (hN : GNs T D) (hl : D.length < 180) (h0 : cnt D 0 ≤ 100) (h1 : cnt D 1 ≤ 100) (hM : RM σ0 T Ws D p) (hf : fP PT σ0 σ) (hL : LR σ T) (hsc : ∀ m, sc = some m → KM D m) (hq : PA σ T q nm) :
    x_X12_inScope U 1101 (oq D 0 sc) (nI q) σ = some (ordR D (lkR T D sc nm)) := by
  unfold x_X12_inScope
  have e1 := N_inS_1 (U := U) hU hW hN hl h1 hM hf hL hsc hq (cnt D 1) 0 U (by omega) (by omega) (fun i d _ _ z => by omega)
  have e1' : x_X12_inScope_L61 U 1101 (oq D 0 sc) (nI q) σ U 0 = some (ordR D (ff (pK 1 T sc nm) D 0)) := e1
  have e0 := N_inS_0 (U := U) (K := some (ordR D (ff (pK 1 T sc nm) D 0))) hU hW hN hl h0 hM hf hL hsc hq (cnt D 0) 0 U (by omega) (by omega) (fun i d _ _ z => by omega)
  have e0' : x_X12_inScope_L2 U 1101 (some (ordR D (ff (pK 1 T sc nm) D 0))) (oq D 0 sc) (nI q) σ U 0 = _ := e0
  rw [e1', e0']
  unfold lkR
  try (cases ff (pK 0 T sc nm) D 0 <;> rfl)
theorem oq_neg {D : List Dc} {q : Nat} {o : Option Nat} (hl : D.length < 180) : oq D q o = -1 ↔ o = none := by
  cases o with
  | none => exact ⟨fun _ => rfl, fun _ => rfl⟩
  | some i =>
    refine ⟨fun z => ?_, fun z => by cases z⟩
    exfalso
    have c0 := cnt_take_le D i q
    have l0 := cnt_le D q
    exact nI_neg (a := cnt (D.take i) q) (by omega) (by rw [show nI (cnt (D.take i) q) = -1 from z]; decide)
theorem N_res_U {U f q : Nat} {nm : List Nat} {T : List Nat} {Ws : List Wd} {D : List Dc} {p : Nat} {σ0 σ : SG} {K : Int32 → Option SG} (hU : 4000 < U) (hW : WF D) (hN : GNs T D) (hl : D.length < 180) (h0 : cnt D 0 ≤ 100) (h1 : cnt D 1 ≤ 100) (hM : RM σ0 T Ws D p) (hf : fP PT σ0 σ) (hL : LR σ T) (hq : PA σ T q nm) (hfl : f < 200) (h43 : sI σ 1143 f = nI q) : ∀ (n U1 : Nat) (sc : Option Nat), (∀ m, sc = some m → m + 1 < n ∧ KM D m) → 0 < n → n < U1 →
    x_X12_resolve_L32 U 1101 K (nI f) σ U1 (oq D 0 sc) (ordR D (lkR T D sc nm)) = K (ordR D (rsU (lkR T D) D nm n sc)) := by
  intro n
  induction n with
  | zero => intro U1 sc _ h; omega
  | succ n ih =>
    intro U1 sc hsc _ hu
    obtain ⟨V, rfl⟩ : ∃ V, U1 = V + 1 := ⟨U1 - 1, by omega⟩
    rw [x_X12_resolve_L32]
    cases sc with
    | none =>
      rw [rsU, if_pos (show oq D 0 none = -1 from rfl)]
      split <;> rfl
    | some m =>
      rw [rsU]
      cases e : lkR T D (some m) nm with
      | some t => rw [if_neg (fun z => by have := (ordR_none hl).mp z; cases this)]
      | none =>
        obtain ⟨hm1, d, hd, hk⟩ := hsc m rfl
        have row := (hM.2.2.2 m d hd).2.1 hk
        have hc := cnt_take_lt hd hk
        have sd : ∀ j, dS d = some j → j + 1 < n ∧ KM D j := fun j hj => by
          have := hW.sco hd j hj
          exact ⟨by omega, this.2⟩
        rw [if_pos (show ordR D none = -1 from rfl), if_neg (fun z => by have := (oq_neg hl).mp z; cases this), show oq D 0 (some m) = nI (cnt (D.take m) 0) from rfl, ix_in (by omega) (by decide), ix_in hfl (by decide), PT_c hf (by decide) (by decide) (by decide), row.1, h43, N_inScope hU hW hN hl h0 h1 hM hf hL (fun j hj => (sd j hj).2) hq, b1_eq]
        have es : scp D (some m) = dS d := by unfold scp; simp only; rw [hd]
        rw [es]
        exact ih V (dS d) sd (by omega) (by omega)
theorem sTN_gt {T : List Nat} {Ws : List Wd} : ∀ (n k k' : Nat), sTN T Ws n k = some k' → k < k' := by
  intro n
  induction n with
  | zero => intro k k' h; cases h
  | succ n ih =>
    intro k k' h
    rw [sTN] at h
    split at h
    · split at h
      · have := ih _ _ h; omega
      · cases h; omega
    · cases h
theorem N_res_N {U f q0 k m : Nat} {T : List Nat} {Ws : List Wd} {D : List Dc} {p : Nat} {σ0 σ : SG} {K : Int32 → Option SG} (hU : 4000 < U) (hS : WS T Ws) (hW : WF D) (hN : GNs T D) (hl : D.length < 180) (h0 : cnt D 0 ≤ 100) (h1 : cnt D 1 ≤ 100) (hM : RM σ0 T Ws D p) (hf : fP PT σ0 σ) (hL : LR σ T) (hfl : f < 200) (h43 : sI σ 1143 f = nI q0) (h44 : sI σ 1144 f = nI m) (hqm : q0 + m ≤ 350) (hP : PTs σ Ws q0 k m) : ∀ (n t U1 k' : Nat) (o : Option Nat), 1 ≤ t → t ≤ m → sTN T Ws n (k + 2 * (t - 1)) = some k' → k' + 1 = k + 2 * m → n < U1 → (∀ i, o = some i → ∃ d, D[i]? = some d ∧ dK d ≤ 1) →
    x_X12_resolve_L67 U 1101 K (nI f) σ U1 (ordR D o) (nI t) = K (ordR D (rsN (lkR T D) T Ws n (k + 2 * (t - 1)) o)) := by
  intro n
  induction n with
  | zero => intro t U1 k' o _ _ h; cases h
  | succ n ih =>
    intro t U1 k' o ht htm h hk' hu ho
    obtain ⟨V, rfl⟩ : ∃ V, U1 = V + 1 := ⟨U1 - 1, by omega⟩
    obtain ⟨n', x, hn', hx, hx1, hnx⟩ := sTN_1 h
    cases hn'
    rw [x_X12_resolve_L67, ix_in hfl (by decide), h44]
    by_cases q : sS T Ws 46 (k + 2 * (t - 1) + 1) = true
    · have hr := hnx q
      have hgt := sTN_gt _ _ _ hr
      have htm' : t < m := by omega
      rw [if_pos ((ltI (by omega) (by omega)).mpr htm')]
      cases o with
      | none => rw [if_pos (show ordR D none = -1 from rfl), rsN]
      | some i =>
        obtain ⟨d, hd, hdk⟩ := ho i rfl
        rw [rsN, if_pos q, if_neg (fun z => by have := (ordR_none hl).mp z; cases this)]
        have e2 : k + 2 * (t - 1) + 2 = k + 2 * (t + 1 - 1) := by omega
        rw [e2] at hr ⊢
        obtain ⟨y, hy, y1, y2⟩ := hP t htm'
        have hyy : Ws[k + 2 * (t + 1 - 1)]? = some y := by rw [show t + 1 - 1 = t by omega]; exact hy
        obtain ⟨_, y', _, hy', hy1, _⟩ := sTN_1 hr
        rw [hyy] at hy'
        cases hy'
        have gy := (hS.G.2 _ _ hyy).2.2.1 (by rw [hy1]; decide) (by rw [hy1]; decide)
        have hA : PA σ T (q0 + t) (wnm T Ws (k + 2 * (t + 1 - 1))) := by
          refine ⟨by omega, y.2.1, y.2.2.1 - y.2.1, y1, y2, by omega, ?_⟩
          unfold wnm
          rw [hyy]
          simp only
          rw [show y.2.1 + (y.2.2.1 - y.2.1) = y.2.2.1 by omega]
        have lk1 : ∀ j, lkR T D (some i) (wnm T Ws (k + 2 * (t + 1 - 1))) = some j → ∃ d, D[j]? = some d ∧ dK d ≤ 1 := fun j hj => by
          obtain ⟨d', a1, a2, _⟩ := lkR_k hj
          exact ⟨d', a1, a2⟩
        have c0 := cnt_take_le D i 0
        have l0 := cnt_le D 0
        have c1 := cnt_take_le D i 1
        by_cases q0' : dK d = 0
        · have eo : ordR D (some i) = oq D 0 (some i) := by unfold ordR oq; simp only; rw [knd_some hd, if_pos q0']
          rw [if_pos (show ordR D (some i) < 1000 by rw [eo]; exact (ltI (b := 1000) (by omega) (by decide)).mpr (by omega)), ix_in hfl (by decide), h43, nI_add, eo, N_inScope hU hW hN hl h0 h1 hM hf hL (fun j hj => by cases hj; exact ⟨d, hd, q0'⟩) hA, b1_eq]
          unfold x_X12_resolve_108
          rw [nI_1]
          exact ih (t + 1) V k' _ (by omega) (by omega) hr hk' (by omega) lk1
        · have eo : ordR D (some i) = nI (1000 + cnt (D.take i) 1) := by unfold ordR; simp only; rw [knd_some hd, if_neg q0']
          rw [if_neg (show ¬ ordR D (some i) < 1000 from fun z => by rw [eo] at z; have := (ltI (b := 1000) (by omega) (by decide)).mp z; omega), lkR_enum hW ⟨d, hd, by omega⟩]
          unfold x_X12_resolve_108
          rw [nI_1]
          exact ih (t + 1) V k' none (by omega) (by omega) hr hk' (by omega) (fun j hj => by cases hj)
    · have hk1 : k' = k + 2 * (t - 1) + 1 := by
        rw [sTN] at h
        have : sK Ws (k + 2 * (t - 1)) = 1 := by rw [sK_some hx]; exact hx1
        rw [if_pos this, if_neg q] at h
        exact (Option.some.inj h).symm
      rw [if_neg (fun z => by have := (ltI (by omega) (by omega)).mp z; omega)]
      cases o with
      | none => rw [rsN]
      | some i => rw [rsN, if_neg q]
/-! ===== the reference checks types and limits ===== -/
def PF (f b k : Nat) : Prop := (b = 1101 ∧ (k = 74 ∨ k = 75 ∨ k = 77)) ∨ (b = 1139 ∧ k = f) ∨ (b = 1141 ∧ k = f)
theorem PF_T {f : Nat} {σ τ : SG} (h : fP (PF f) σ τ) : fP PT σ τ := fP_mono h (fun b k z => by
  rcases z with z | z | z
  · exact Or.inl z
  · exact Or.inr (Or.inl z.1)
  · exact Or.inr (Or.inr z.1))
theorem PF_q {f : Nat} {σ τ : SG} (h : fq [74, 75] σ τ) : fP (PF f) σ τ := fun b k hk => by
  by_cases hb : b = 1101
  · subst hb
    have h74 : k ∉ [74, 75] := fun z => hk (Or.inl ⟨rfl, by
      simp only [List.mem_cons, List.not_mem_nil, or_false] at z
      omega⟩)
    exact ⟨h.2.1 k h74, h.2.2.1 k (fun z => hk (Or.inl ⟨rfl, Or.inr (Or.inr z)⟩)), h.2.2.2 k⟩
  · exact h.1 b hb k
/-- what a field's type refers to: an ordinal -/
def refI (D : List Dc) (o : Option Nat) : Int32 := match o with
  | none => -1
  | some i => nI (cnt (D.take i) (knd D i))
/-- the type that a place tells -/
def tyO (D : List Dc) (o : Option Nat) : Nat := match o with
  | some t => if knd D t = 0 then 13 else 14
  | none => 13
theorem N_res_end {U f : Nat} {D : List Dc} {σ : SG} {o : Option Nat} (hl : D.length < 180) (hfl : f < 200) (ho : ∀ i, o = some i → ∃ d, D[i]? = some d ∧ dK d ≤ 1) :
    ∃ τ, x_X12_resolve_115 U 1101 (nI f) (ordR D o) σ = some τ ∧ fP (PF f) σ τ ∧ sI τ 1139 f = nI (tyO D o) ∧ sI τ 1141 f = refI D o ∧ (sI τ 1101 74 = 0 ↔ sI σ 1101 74 = 0 ∧ o.isSome = true) := by
  -- the two rows
  have fin : ∀ (υ : SG) (ty : Nat) (rf : Int32), fP (PF f) υ (uI (uI υ 1139 f (nI ty)) 1141 f rf) ∧ sI (uI (uI υ 1139 f (nI ty)) 1141 f rf) 1139 f = nI ty ∧ sI (uI (uI υ 1139 f (nI ty)) 1141 f rf) 1141 f = rf ∧ sI (uI (uI υ 1139 f (nI ty)) 1141 f rf) 1101 74 = sI υ 1101 74 := by
    intro υ ty rf
    refine ⟨fP_trans (fP_u (Or.inr (Or.inl ⟨rfl, rfl⟩))) (fP_u (Or.inr (Or.inr ⟨rfl, rfl⟩))), ?_, sI_s _ _ _ _, ?_⟩
    · rw [sI_o (Or.inl (by decide)), sI_s]
    · rw [sI_o (Or.inl (by decide)), sI_o (Or.inl (by decide))]
  unfold x_X12_resolve_115 x_X12_resolve_131 x_X12_resolve_150 x_X12_resolve_172
  cases o with
  | none =>
    obtain ⟨υ, g1, g2, g3⟩ := N_earlier (σ := σ) (v := 5) (p := sI σ 1140 f) (by decide)
    rw [if_pos (show ordR D none = -1 from rfl), ix_in hfl (by decide), g1, b1_eq, if_pos (show ordR D none < 1000 from (by decide : (-1 : Int32) < 1000)), ix_in hfl (by decide), sb_eq, if_pos (show ordR D none < 1000 from (by decide : (-1 : Int32) < 1000)), ix_in hfl (by decide), sb_eq]
    obtain ⟨a1, a2, a3, a4⟩ := fin υ 13 (ordR D none)
    refine ⟨_, rfl, fP_trans (PF_q g3) a1, a2, a3, ?_⟩
    exact ⟨fun z => absurd (a4.symm.trans z) g2, fun z => by cases z.2⟩
  | some i =>
    obtain ⟨d, hd, hk⟩ := ho i rfl
    rw [if_neg (fun z => by have := (ordR_none hl).mp z; cases this)]
    have c0 := cnt_take_le D i 0
    have c1 := cnt_take_le D i 1
    have l0 := cnt_le D 0
    have l1 := cnt_le D 1
    have hkn := knd_some hd
    unfold tyO
    simp only
    by_cases q : dK d = 0
    · have eo : ordR D (some i) = nI (cnt (D.take i) 0) := by unfold ordR; simp only; rw [hkn, if_pos q]
      have lt : ordR D (some i) < 1000 := by rw [eo]; exact (ltI (b := 1000) (by omega) (by decide)).mpr (by omega)
      rw [if_pos lt, ix_in hfl (by decide), sb_eq, if_pos lt, ix_in hfl (by decide), sb_eq, hkn, if_pos q]
      obtain ⟨a1, a2, a3, a4⟩ := fin σ 13 (ordR D (some i))
      refine ⟨_, rfl, a1, a2, ?_, ?_⟩
      · rw [show sI (uI (uI σ 1139 f 13) 1141 f (ordR D (some i))) 1141 f = ordR D (some i) from a3, eo]
        unfold refI; simp only; rw [hkn, q]
      · exact ⟨fun z => ⟨a4.symm.trans z, rfl⟩, fun z => a4.trans z.1⟩
    · have eo : ordR D (some i) = nI (1000 + cnt (D.take i) 1) := by unfold ordR; simp only; rw [hkn, if_neg q]
      have lt : ¬ ordR D (some i) < 1000 := fun z => by rw [eo] at z; have := (ltI (b := 1000) (by omega) (by decide)).mp z; omega
      rw [if_neg lt, ix_in hfl (by decide), sb_eq, if_neg lt, ix_in hfl (by decide), sb_eq, hkn, if_neg q]
      obtain ⟨a1, a2, a3, a4⟩ := fin σ 14 (ordR D (some i) - 1000)
      refine ⟨_, rfl, a1, a2, ?_, ?_⟩
      · rw [show sI (uI (uI σ 1139 f 14) 1141 f (ordR D (some i) - 1000)) 1141 f = ordR D (some i) - 1000 from a3, eo, show (1000 : Int32) = nI 1000 from rfl, nI_sub (by omega)]
        unfold refI; simp only; rw [hkn, show dK d = 1 by omega, show 1000 + cnt (D.take i) 1 - 1000 = cnt (D.take i) 1 by omega]
      · exact ⟨fun z => ⟨a4.symm.trans z, rfl⟩, fun z => a4.trans z.1⟩
theorem rsN_k {T : List Nat} {Ws : List Wd} {D : List Dc} : ∀ (n k : Nat) (o : Option Nat), (∀ i, o = some i → ∃ d, D[i]? = some d ∧ dK d ≤ 1) → ∀ i, rsN (lkR T D) T Ws n k o = some i → ∃ d, D[i]? = some d ∧ dK d ≤ 1 := by
  intro n
  induction n with
  | zero => intro k o ho i h; exact ho i h
  | succ n ih =>
    intro k o ho i h
    cases o with
    | none => cases h
    | some t =>
      rw [rsN] at h
      split at h
      · exact ih _ _ (fun j hj => by obtain ⟨d, a1, a2, _⟩ := lkR_k hj; exact ⟨d, a1, a2⟩) i h
      · exact ho i h
theorem rsU_k {T : List Nat} {D : List Dc} {nm : List Nat} : ∀ (n : Nat) (sc : Option Nat) (i : Nat), rsU (lkR T D) D nm n sc = some i → ∃ d, D[i]? = some d ∧ dK d ≤ 1 := by
  intro n
  induction n with
  | zero => intro sc i h; cases h
  | succ n ih =>
    intro sc i h
    cases sc with
    | none => obtain ⟨d, a1, a2, _⟩ := lkR_k h; exact ⟨d, a1, a2⟩
    | some m =>
      rw [rsU] at h
      cases e : lkR T D (some m) nm with
      | some t => rw [e] at h; cases h; obtain ⟨d, a1, a2, _⟩ := lkR_k e; exact ⟨d, a1, a2⟩
      | none => rw [e] at h; exact ih _ _ h
theorem N_resolve {U i : Nat} {T : List Nat} {Ws : List Wd} {D : List Dc} {p : Nat} {d : Dc} {σ0 σ : SG} (hU : 4000 < U) (hS : WS T Ws) (hW : WF D) (hN : GNs T D) (hl : D.length < 180) (h0 : cnt D 0 ≤ 100) (h1 : cnt D 1 ≤ 100) (hp : p ≤ 350) (hM : RM σ0 T Ws D p) (hf : fP PT σ0 σ) (hL : LR σ T) (hd : D[i]? = some d) (h2 : dK d = 2) (h13 : dT d = 13) :
    ∃ τ, x_X12_resolve U 1101 (nI (cnt (D.take i) 2)) σ = some τ ∧ fP (PF (cnt (D.take i) 2)) σ τ ∧ sI τ 1139 (cnt (D.take i) 2) = nI (dTy (lkR T D) T Ws D d) ∧ sI τ 1141 (cnt (D.take i) 2) = refI D (dTg (lkR T D) T Ws D d) ∧ (sI τ 1101 74 = 0 ↔ sI σ 1101 74 = 0 ∧ okT (lkR T D) T Ws D d = true) := by
  have hc := cnt_take_lt hd h2
  have hcl := cnt_le D 2
  have hfl : cnt (D.take i) 2 < 200 := by omega
  obtain ⟨rn, fd⟩ := (hM.2.2.2 i d hd).2.2.2.1 h2
  obtain ⟨c0, q, m, k', c1, c2, c3, c4, c5, c6, c7, c8⟩ := fd.2.2.2.2.2.2 h13
  have hnm : nmd d = true := decide_eq_true ⟨h2, h13⟩
  have P' : PTs σ Ws q (w0 T Ws (dW d)) m := fun t ht => by
    obtain ⟨x, e1, e2, e3⟩ := c8 t ht
    exact ⟨x, e1, (PT_c hf (by decide) (by decide) (by decide)).trans e2, (PT_c hf (by decide) (by decide) (by decide)).trans e3⟩
  have h43 : sI σ 1143 (cnt (D.take i) 2) = nI q := (PT_c hf (by decide) (by decide) (by decide)).trans c4
  have h44 : sI σ 1144 (cnt (D.take i) 2) = nI m := (PT_c hf (by decide) (by decide) (by decide)).trans c5
  have h42 : sI σ 1142 (cnt (D.take i) 2) = zI (sS T Ws 46 (dW d)) := (PT_c hf (by decide) (by decide) (by decide)).trans c3
  have h34 : sI σ 1134 (cnt (D.take i) 2) = oq D 0 (dS d) := (PT_c hf (by decide) (by decide) (by decide)).trans rn.1
  -- the parts' chain
  have hTN : sTN T Ws Ws.length (w0 T Ws (dW d)) = some k' := by
    unfold sTy at c1
    unfold w0
    by_cases z : sS T Ws 46 (dW d) = true
    · rw [if_pos z] at c1 ⊢; exact c1
    · rw [if_neg z] at c1 ⊢
      split at c1
      · cases c1
      · exact c1
  obtain ⟨_, x, _, hx, hx1, _⟩ := sTN_1 hTN
  have gx := (hS.G.2 _ _ hx).2.2.1 (by rw [hx1]; decide) (by rw [hx1]; decide)
  have hA : PA σ T q (wnm T Ws (w0 T Ws (dW d))) := by
    obtain ⟨y, y1, y2, y3⟩ := P' 0 (by omega)
    rw [Nat.mul_zero, Nat.add_zero, hx] at y1
    cases y1
    refine ⟨by omega, x.2.1, x.2.2.1 - x.2.1, y2, y3, by omega, ?_⟩
    unfold wnm
    rw [hx]
    simp only
    rw [show x.2.1 + (x.2.2.1 - x.2.1) = x.2.2.1 by omega]
  have hWl : Ws.length ≤ 701 := by
    have hwl : ∀ (k : Nat) (y : Wd), Ws[k]? = some y → k ≤ 700 := fun k y hy => by have := hS.le k y hy; have := hS.2.1; omega
    rcases Nat.lt_or_ge 701 Ws.length with z | z
    · have := hwl 701 _ (List.getElem?_eq_getElem z); omega
    · exact z
  have ends : ∀ (o : Option Nat), (∀ j, o = some j → ∃ d, D[j]? = some d ∧ dK d ≤ 1) → rsl (lkR T D) T Ws D d = rsN (lkR T D) T Ws Ws.length (w0 T Ws (dW d)) o →
      ∃ τ, x_X12_resolve_64 U 1101 (nI (cnt (D.take i) 2)) (ordR D o) σ = some τ ∧ fP (PF (cnt (D.take i) 2)) σ τ ∧ sI τ 1139 (cnt (D.take i) 2) = nI (dTy (lkR T D) T Ws D d) ∧ sI τ 1141 (cnt (D.take i) 2) = refI D (dTg (lkR T D) T Ws D d) ∧ (sI τ 1101 74 = 0 ↔ sI σ 1101 74 = 0 ∧ okT (lkR T D) T Ws D d = true) := by
    intro o ho er
    unfold x_X12_resolve_64
    have key := N_res_N (U := U) (K := fun w42 => x_X12_resolve_115 U 1101 (nI (cnt (D.take i) 2)) w42 σ) hU hS hW hN hl h0 h1 hM hf hL hfl h43 h44 (by omega) P' Ws.length 1 U k' o (Nat.le_refl _) c7 (by rw [Nat.sub_self, Nat.mul_zero, Nat.add_zero]; exact hTN) (by omega) (by omega) ho
    rw [Nat.sub_self, Nat.mul_zero, Nat.add_zero, ← er] at key
    have key' : x_X12_resolve_L67 U 1101 (fun w42 => x_X12_resolve_115 U 1101 (nI (cnt (D.take i) 2)) w42 σ) (nI (cnt (D.take i) 2)) σ U (ordR D o) 1 = x_X12_resolve_115 U 1101 (nI (cnt (D.take i) 2)) (ordR D (rsl (lkR T D) T Ws D d)) σ := key
    rw [key']
    obtain ⟨τ, e1, e2, e3, e4, e5⟩ := N_res_end (U := U) (σ := σ) (o := rsl (lkR T D) T Ws D d) hl hfl (by rw [er]; exact rsN_k _ _ _ ho)
    refine ⟨τ, e1, e2, ?_, ?_, ?_⟩
    · rw [e3]; unfold dTy tyO; rw [hnm, if_pos rfl]; try (cases rsl (lkR T D) T Ws D d <;> rfl)
    · rw [e4]; unfold dTg; rw [hnm, if_pos rfl]
    · rw [e5]; unfold okT; rw [hnm, Bool.not_true, Bool.false_or]
  unfold x_X12_resolve x_X12_resolve_19
  rw [ix_in hfl (by decide), h42, ifz]
  by_cases z : sS T Ws 46 (dW d) = true
  · rw [if_pos z, ix_in hfl (by decide), h43]
    have e0 := N_inScope (sc := none) hU hW hN hl h0 h1 hM hf hL (fun m hm => by cases hm) hA
    have e0' : x_X12_inScope U 1101 (-1) (nI q) σ = some (ordR D (lkR T D none (wnm T Ws (w0 T Ws (dW d))))) := e0
    rw [e0', b1_eq]
    have key := N_res_U (U := U) (f := cnt (D.take i) 2) (K := fun w28 => x_X12_resolve_64 U 1101 (nI (cnt (D.take i) 2)) w28 σ) hU hW hN hl h0 h1 hM hf hL hA hfl h43 1 U none (fun m hm => by cases hm) (by decide) (by omega)
    have key' : x_X12_resolve_L32 U 1101 (fun w28 => x_X12_resolve_64 U 1101 (nI (cnt (D.take i) 2)) w28 σ) (nI (cnt (D.take i) 2)) σ U (-1) (ordR D (lkR T D none (wnm T Ws (w0 T Ws (dW d))))) = x_X12_resolve_64 U 1101 (nI (cnt (D.take i) 2)) (ordR D (lkR T D none (wnm T Ws (w0 T Ws (dW d))))) σ := key
    rw [key']
    refine ends _ (fun j hj => by obtain ⟨d', a1, a2, _⟩ := lkR_k hj; exact ⟨d', a1, a2⟩) ?_
    unfold rsl
    rw [if_pos z]
    unfold w0
    rw [if_pos z]
  · rw [if_neg z, ix_in hfl (by decide), h34, ix_in hfl (by decide), h43]
    have hsc : ∀ m, dS d = some m → KM D m := fun m hm => (KM_take ((hW i d hd).1 m hm)).1
    rw [N_inScope hU hW hN hl h0 h1 hM hf hL hsc hA, b1_eq, N_res_U (U := U) (K := fun w28 => x_X12_resolve_64 U 1101 (nI (cnt (D.take i) 2)) w28 σ) hU hW hN hl h0 h1 hM hf hL hA hfl h43 (D.length + 1) U (dS d) (fun m hm => ⟨by have := (hW.before hd).1 m hm; have := (List.getElem?_eq_some_iff.mp hd).1; omega, hsc m hm⟩) (by omega) (by omega)]
    refine ends _ (fun j hj => rsU_k _ _ _ hj) ?_
    unfold rsl
    rw [if_neg z]
    unfold w0
    rw [if_neg z]
theorem N_isNumbers {t : Nat} (ht : t ≤ 14) : x_X12_isNumbers (nI t) = some (zI (nmr t)) := (by decide +kernel : ∀ t, t < 15 → x_X12_isNumbers (nI t) = some (zI (nmr t))) t (by omega)
theorem N_types_P {U i : Nat} {T : List Nat} {Ws : List Wd} {D : List Dc} {p : Nat} {d : Dc} {K : Int32 → SG → Option SG} {σ0 σ : SG} (hl : D.length < 180) (hM : RM σ0 T Ws D p) (hf : fP PT σ0 σ) (hd : D[i]? = some d) (h2 : dK d = 2) (hP2 : dP d ≤ 2) (hT13 : dT d ≤ 13) (h39 : sI σ 1139 (cnt (D.take i) 2) = nI (dTy (lkR T D) T Ws D d)) :
    ∃ τ, x_X12_checkTypes_32 U 1101 K (nI (cnt (D.take i) 2)) σ = K (nI (cnt (D.take i) 2 + 1)) τ ∧ CK σ τ (okP (lkR T D) T Ws D d = true) := by
  have hc := cnt_take_lt hd h2
  have hcl := cnt_le D 2
  obtain ⟨rn, fd⟩ := (hM.2.2.2 i d hd).2.2.2.1 h2
  have h46 : sI σ 1146 (cnt (D.take i) 2) = nI (dP d) := (PT_c hf (by decide) (by decide) (by decide)).trans fd.2.2.2.1
  have h45 : sI σ 1145 (cnt (D.take i) 2) = zI (dR d) := (PT_c hf (by decide) (by decide) (by decide)).trans fd.2.1
  have ht := dTy_lt (lk := lkR T D) (T := T) (Ws := Ws) (D := D) hT13
  unfold x_X12_checkTypes_32 x_X12_checkTypes_62 x_X12_checkTypes_74
  rw [ix_in (by omega) (by decide), h46, nI_1]
  have bad : okP (lkR T D) T Ws D d = false → ∃ τ, (ix (nI (cnt (D.take i) 2)) 200 fun j24 => b1 (x_X12_earlier 1101 6 (sI σ 1147 j24) σ) fun σ29 => K (nI (cnt (D.take i) 2 + 1)) σ29) = K (nI (cnt (D.take i) 2 + 1)) τ ∧ CK σ τ (okP (lkR T D) T Ws D d = true) := by
    intro z
    rw [ix_in (by omega) (by decide)]
    obtain ⟨τ, f1, f2, f3⟩ := N_earlier (σ := σ) (v := 6) (p := sI σ 1147 (cnt (D.take i) 2)) (by decide)
    rw [f1, b1_eq]
    exact ⟨τ, rfl, CK_bad f3 f2 (by rw [z]; decide)⟩
  by_cases q0 : dP d = 0
  · rw [if_neg (show ¬ (0 : Int32) < nI (dP d) by rw [q0]; decide)]
    exact ⟨σ, rfl, CK_refl (by unfold okP; rw [decide_eq_true q0]; rfl)⟩
  · rw [if_pos (show (0 : Int32) < nI (dP d) from (ltI (a := 0) (by decide) (by omega)).mpr (by omega)), ix_in (by omega) (by decide), h45, ifz]
    cases hR : dR d with
    | false =>
      rw [if_neg (by decide)]
      exact bad (by unfold okP; rw [hR, decide_eq_false q0]; rfl)
    | true =>
      rw [if_pos rfl, ix_in (by omega) (by decide), h39, N_isNumbers ht, b1_eq, ifz]
      cases hn : nmr (dTy (lkR T D) T Ws D d) with
      | false =>
        rw [if_neg (by decide)]
        exact bad (by unfold okP; rw [hR, decide_eq_false q0, hn]; rfl)
      | true =>
        rw [if_pos rfl]
        exact ⟨σ, rfl, CK_refl (by unfold okP; rw [hR, hn]; simp)⟩
/-- a field's type and what it refers to -/
def TYr (σ : SG) (T : List Nat) (Ws : List Wd) (D : List Dc) (j : Nat) (d : Dc) : Prop := sI σ 1139 j = nI (dTy (lkR T D) T Ws D d) ∧ sI σ 1141 j = refI D (dTg (lkR T D) T Ws D d)
theorem N_types_L {U : Nat} {T : List Nat} {Ws : List Wd} {D : List Dc} {p : Nat} {σ0 : SG} (hU : 4000 < U) (hS : WS T Ws) (hW : WF D) (hG : GD T Ws D) (hl : D.length < 180) (h0 : cnt D 0 ≤ 100) (h1 : cnt D 1 ≤ 100) (hp : p ≤ 350) (hM : RM σ0 T Ws D p) (hL0 : LR σ0 T) : ∀ (j f U1 : Nat) (σ : SG), f + j = cnt D 2 → j < U1 → fP PT σ0 σ → (∀ g, f ≤ g → sI σ 1139 g = sI σ0 1139 g) →
    ∃ τ, x_X12_checkTypes_L2 U 1101 U1 (nI f) σ = some τ ∧ fP PT σ τ ∧ (sI τ 1101 74 = 0 ↔ sI σ 1101 74 = 0 ∧ ∀ (i : Nat) (d : Dc), D[i]? = some d → dK d = 2 → f ≤ cnt (D.take i) 2 → okT (lkR T D) T Ws D d = true ∧ okP (lkR T D) T Ws D d = true) ∧ (∀ (i : Nat) (d : Dc), D[i]? = some d → dK d = 2 → f ≤ cnt (D.take i) 2 → TYr τ T Ws D (cnt (D.take i) 2) d) ∧ ∀ g, g < f → sI τ 1139 g = sI σ 1139 g ∧ sI τ 1141 g = sI σ 1141 g := by
  have hcl := cnt_le D 2
  have hN : GNs T D := fun i d hd => (hG i d hd).1
  intro j
  induction j with
  | zero =>
    intro f U1 σ hfj hu hf h39
    obtain ⟨V, rfl⟩ : ∃ V, U1 = V + 1 := ⟨U1 - 1, by omega⟩
    have h34 : sI σ 1101 34 = nI (cnt D 2) := (PT_o hf (by decide) (by decide)).trans (hM.1 2 (by decide))
    rw [x_X12_checkTypes_L2, h34, if_neg (fun q => by have := (ltI (by omega) (by omega)).mp q; omega)]
    exact ⟨σ, rfl, fP_refl _ _, ⟨fun z => ⟨z, fun i d h3 h4 h5 => by have := cnt_take_lt h3 h4; omega⟩, fun z => z.1⟩, fun i d h3 h4 h5 => by have := cnt_take_lt h3 h4; omega, fun g _ => ⟨rfl, rfl⟩⟩
  | succ j ih =>
    intro f U1 σ hfj hu hf h39
    obtain ⟨V, rfl⟩ : ∃ V, U1 = V + 1 := ⟨U1 - 1, by omega⟩
    have h34 : sI σ 1101 34 = nI (cnt D 2) := (PT_o hf (by decide) (by decide)).trans (hM.1 2 (by decide))
    obtain ⟨i, d, hd, h2, hfi⟩ := plc (D := D) (q := 2) f (by omega)
    obtain ⟨gn, gf, _⟩ := hG i d hd
    obtain ⟨n1, n2, n3⟩ := gf.2.2.1 h2
    obtain ⟨rn, fd⟩ := (hM.2.2.2 i d hd).2.2.2.1 h2
    rw [hfi] at fd
    rw [x_X12_checkTypes_L2, h34, if_pos ((ltI (by omega) (by omega)).mpr (by omega)), ix_in (by omega) (by decide), sb_eq, ix_in (by omega) (by decide)]
    have f6 : fP (PF f) σ (uI σ 1141 f (-1)) := fP_u (Or.inr (Or.inr ⟨rfl, rfl⟩))
    have z6 : sI (uI σ 1141 f (-1)) 1101 74 = sI σ 1101 74 := sI_o (Or.inl (by decide))
    have e39 : sI (uI σ 1141 f (-1)) 1139 f = sI σ0 1139 f := by rw [sI_o (Or.inl (by decide))]; exact h39 f (Nat.le_refl _)
    rw [e39]
    -- the rest, once the type is there
    have rest : ∀ (υ : SG), fP (PF f) σ υ → (sI υ 1101 74 = 0 ↔ sI σ 1101 74 = 0 ∧ okT (lkR T D) T Ws D d = true) → TYr υ T Ws D f d → ∃ τ, x_X12_checkTypes_32 U 1101 (x_X12_checkTypes_L2 U 1101 V) (nI f) υ = some τ ∧ fP PT σ τ ∧ (sI τ 1101 74 = 0 ↔ sI σ 1101 74 = 0 ∧ ∀ (i : Nat) (d : Dc), D[i]? = some d → dK d = 2 → f ≤ cnt (D.take i) 2 → okT (lkR T D) T Ws D d = true ∧ okP (lkR T D) T Ws D d = true) ∧ (∀ (i : Nat) (d : Dc), D[i]? = some d → dK d = 2 → f ≤ cnt (D.take i) 2 → TYr τ T Ws D (cnt (D.take i) 2) d) ∧ ∀ g, g < f → sI τ 1139 g = sI σ 1139 g ∧ sI τ 1141 g = sI σ 1141 g := by
      intro υ fυ zυ tυ
      have hfυ := fP_trans hf (PF_T fυ)
      have hty := tυ.1
      rw [← hfi] at hty
      obtain ⟨ω, w1, w2⟩ := N_types_P (U := U) (K := x_X12_checkTypes_L2 U 1101 V) hl hM hfυ hd h2 gf.2.1 n2 hty
      rw [hfi] at w1
      rw [w1]
      have fω : fP (PF f) σ ω := fP_trans fυ (PF_q w2.1)
      obtain ⟨τ, t1, t2, t3, t4, t5⟩ := ih (f + 1) V ω (by omega) (by omega) (fP_trans hf (PF_T fω)) (fun g hg => by
        rw [(fω 1139 g (by rintro (z | z | z) <;> omega)).1]; exact h39 g (by omega))
      have only : ∀ (i' : Nat) (d' : Dc), D[i']? = some d' → dK d' = 2 → cnt (D.take i') 2 = f → i' = i ∧ d' = d := fun i' d' h3 h4 h5 => by
        have := ord_inj h3 h4 hd h2 (by omega)
        subst this
        rw [hd] at h3
        exact ⟨rfl, (Option.some.inj h3).symm⟩
      refine ⟨τ, t1, fP_trans (PF_T fω) t2, ?_, fun i' d' h3 h4 h5 => ?_, fun g hg => ?_⟩
      · rw [t3, w2.2, zυ]
        constructor
        · rintro ⟨⟨⟨a1, a2⟩, a3⟩, a4⟩
          refine ⟨a1, fun i' d' h3 h4 h5 => ?_⟩
          by_cases q : cnt (D.take i') 2 = f
          · obtain ⟨_, e⟩ := only i' d' h3 h4 q
            subst e
            exact ⟨a2, a3⟩
          · exact a4 i' d' h3 h4 (by omega)
        · rintro ⟨a1, a2⟩
          have := a2 i d hd h2 (by omega)
          exact ⟨⟨⟨a1, this.1⟩, this.2⟩, fun i' d' h3 h4 h5 => a2 i' d' h3 h4 (by omega)⟩
      · by_cases q : cnt (D.take i') 2 = f
        · obtain ⟨e1, e⟩ := only i' d' h3 h4 q
          subst e
          rw [q]
          obtain ⟨y1, y2⟩ := t5 f (by omega)
          refine ⟨y1.trans ?_, y2.trans ?_⟩
          · rw [(w2.1.1 1139 (by decide) f).1]; exact tυ.1
          · rw [(w2.1.1 1141 (by decide) f).1]; exact tυ.2
        · exact t4 i' d' h3 h4 (by omega)
      · obtain ⟨y1, y2⟩ := t5 g (by omega)
        exact ⟨y1.trans ((fω 1139 g (by rintro (z | z | z) <;> omega)).1), y2.trans ((fω 1141 g (by rintro (z | z | z) <;> omega)).1)⟩
    by_cases q13 : dT d = 13
    · rw [if_pos (fd.2.2.2.2.2.2 q13).1]
      have hf6 := fP_trans hf (PF_T f6)
      obtain ⟨υ, u1, u2, u3, u4, u5⟩ := N_resolve hU hS hW hN hl h0 h1 hp hM hf6 (LR_PT hL0 hf6) hd h2 q13
      rw [hfi] at u1 u2 u3 u4
      rw [u1, b1_eq]
      exact rest υ (fP_trans f6 u2) (by rw [u5, z6]) ⟨u3, u4⟩
    · have hty := fd.2.2.2.2.2.1 q13
      have hnm : nmd d = false := decide_eq_false (fun z => q13 z.2)
      rw [if_neg (fun z => by rw [hty] at z; exact nI_neg (a := dT d) (by omega) (by rw [z]; decide))]
      refine rest _ f6 ?_ ⟨?_, ?_⟩
      · rw [z6]; unfold okT; rw [hnm]; exact ⟨fun z => ⟨z, rfl⟩, fun z => z.1⟩
      · rw [e39, hty]; unfold dTy; rw [hnm]; try rfl
      · rw [sI_s]; unfold dTg; rw [hnm]; try rfl
theorem N_checkTypes {U : Nat} {T : List Nat} {Ws : List Wd} {D : List Dc} {p : Nat} {σ : SG} (hU : 4000 < U) (hS : WS T Ws) (hW : WF D) (hG : GD T Ws D) (hl : D.length < 180) (h0 : cnt D 0 ≤ 100) (h1 : cnt D 1 ≤ 100) (hp : p ≤ 350) (hM : RM σ T Ws D p) (hL : LR σ T) :
    ∃ τ, x_X12_checkTypes U 1101 σ = some τ ∧ fP PT σ τ ∧ (sI τ 1101 74 = 0 ↔ sI σ 1101 74 = 0 ∧ ∀ (i : Nat) (d : Dc), D[i]? = some d → dK d = 2 → okT (lkR T D) T Ws D d = true ∧ okP (lkR T D) T Ws D d = true) ∧ (∀ (i : Nat) (d : Dc), D[i]? = some d → dK d = 2 → TYr τ T Ws D (cnt (D.take i) 2) d) := by
  have hcl := cnt_le D 2
  obtain ⟨τ, e1, e2, e3, e4, _⟩ := N_types_L hU hS hW hG hl h0 h1 hp hM hL (cnt D 2) 0 U σ (by omega) (by omega) (fP_refl _ _) (fun _ _ => rfl)
  refine ⟨τ, e1, e2, ?_, fun i d h3 h4 => e4 i d h3 h4 (Nat.zero_le _)⟩
  rw [e3]
  exact and_congr_right (fun _ => ⟨fun z i d h3 h4 => z i d h3 h4 (Nat.zero_le _), fun z i d h3 h4 _ => z i d h3 h4⟩)
/-! ===== the reference keeps a schema ===== -/
theorem N_limits_L {U : Nat} {T : List Nat} {Ws : List Wd} {D : List Dc} {p : Nat} {σ0 σ : SG} {K : Int32 → Option SG} (hl : D.length < 180) (hM : RM σ0 T Ws D p) (hf : fP PT σ0 σ) : ∀ (j k U1 n : Nat), k + j = D.length → j < U1 → n = nmB (D.take k) →
    x_X12_checkLimits_L4 U 1101 K σ U1 (nI n) (nI k) = K (nI (nmB D)) := by
  have h38 : sI σ 1101 38 = nI D.length := (PT_o hf (by decide) (by decide)).trans hM.2.2.1
  intro j
  induction j with
  | zero =>
    intro k U1 n hk hu hn
    obtain ⟨V, rfl⟩ : ∃ V, U1 = V + 1 := ⟨U1 - 1, by omega⟩
    rw [x_X12_checkLimits_L4, h38, if_neg (fun q => by have := (ltI (by omega) (by omega)).mp q; omega), hn, List.take_of_length_le (by omega)]
  | succ j ih =>
    intro k U1 n hk hu hn
    obtain ⟨V, rfl⟩ : ∃ V, U1 = V + 1 := ⟨U1 - 1, by omega⟩
    have hd := List.getElem?_eq_getElem (show k < D.length by omega)
    rw [x_X12_checkLimits_L4, h38, if_pos ((ltI (by omega) (by omega)).mpr (by omega)), ix_in (by omega) (by decide), PT_c hf (by decide) (by decide) (by decide), (hM.2.2.2 k _ hd).1.2.2, nI_add, nI_1]
    refine ih (k + 1) V _ (by omega) (by omega) ?_
    rw [List.take_add_one, hd, hn]
    exact (nmB_snoc _ _).symm
theorem N_checkLimits {U : Nat} {T : List Nat} {Ws : List Wd} {D : List Dc} {p : Nat} {σ0 σ : SG} (hU : 4000 < U) (hl : D.length < 180) (hn : nmB D < 2 ^ 31) (hM : RM σ0 T Ws D p) (hf : fP PT σ0 σ) (h0 : sI σ 1101 74 = 0) :
    ∃ τ, x_X12_checkLimits U 1101 σ = some τ ∧ CK σ τ (lim D = true) := by
  have hc : ∀ q, q < 5 → sI σ 1101 (32 + q) = nI (cnt D q) := fun q hq => (PT_o hf (by omega) (by omega) (by omega)).trans (hM.1 q hq)
  have hcc : ∀ k, cnt D k < 2 ^ 31 := fun k => by have := cnt_le D k; omega
  unfold x_X12_checkLimits
  have e := N_limits_L (U := U) (K := fun w6 => 
    if 16 < sI σ 1101 32 then (x_X12_checkLimits_79 U 1101 σ) else (
    if 8 < sI σ 1101 33 then (x_X12_checkLimits_79 U 1101 σ) else (
    if 60 < sI σ 1101 34 then (x_X12_checkLimits_79 U 1101 σ) else (
    if 40 < sI σ 1101 35 then (x_X12_checkLimits_79 U 1101 σ) else (
    if 16 < sI σ 1101 36 then (x_X12_checkLimits_79 U 1101 σ) else (
    if 600 < w6 then (x_X12_checkLimits_79 U 1101 σ) else (some σ))))))) hl hM hf D.length 0 U 0 (by omega) (by omega) rfl
  have e' := e
  rw [show nI 0 = 0 from rfl] at e'
  rw [e']
  have bad : lim D = false → ∃ τ, x_X12_checkLimits_79 U 1101 σ = some τ ∧ CK σ τ (lim D = true) := by
    intro z
    unfold x_X12_checkLimits_79
    obtain ⟨τ, a1, a2, a3⟩ := N_fail (σ := σ) (v := 7) (w := sI σ 1101 73) (by decide)
    rw [a1, b1_eq]
    exact ⟨τ, rfl, CK_bad (fq_mono a3 (by decide)) a2 (by rw [z]; decide)⟩
  have c0 : (16 : Int32) < sI σ 1101 32 ↔ 16 < cnt D 0 := by rw [hc 0 (by decide)]; exact ltI (a := 16) (by decide) (hcc 0)
  have c1 : (8 : Int32) < sI σ 1101 33 ↔ 8 < cnt D 1 := by rw [hc 1 (by decide)]; exact ltI (a := 8) (by decide) (hcc 1)
  have c2 : (60 : Int32) < sI σ 1101 34 ↔ 60 < cnt D 2 := by rw [hc 2 (by decide)]; exact ltI (a := 60) (by decide) (hcc 2)
  have c3 : (40 : Int32) < sI σ 1101 35 ↔ 40 < cnt D 3 := by rw [hc 3 (by decide)]; exact ltI (a := 40) (by decide) (hcc 3)
  have c4 : (16 : Int32) < sI σ 1101 36 ↔ 16 < cnt D 4 := by rw [hc 4 (by decide)]; exact ltI (a := 16) (by decide) (hcc 4)
  have c5 : (600 : Int32) < nI (nmB D) ↔ 600 < nmB D := ltI (a := 600) (by decide) hn
  rw [ifd c0, ifd c1, ifd c2, ifd c3, ifd c4, ifd c5]
  unfold lim at bad ⊢
  by_cases q0 : 16 < cnt D 0
  · rw [if_pos q0]; exact bad (decide_eq_false (by omega))
  rw [if_neg q0]
  by_cases q1 : 8 < cnt D 1
  · rw [if_pos q1]; exact bad (decide_eq_false (by omega))
  rw [if_neg q1]
  by_cases q2 : 60 < cnt D 2
  · rw [if_pos q2]; exact bad (decide_eq_false (by omega))
  rw [if_neg q2]
  by_cases q3 : 40 < cnt D 3
  · rw [if_pos q3]; exact bad (decide_eq_false (by omega))
  rw [if_neg q3]
  by_cases q4 : 16 < cnt D 4
  · rw [if_pos q4]; exact bad (decide_eq_false (by omega))
  rw [if_neg q4]
  by_cases q5 : 600 < nmB D
  · rw [if_pos q5]; exact bad (decide_eq_false (by omega))
  rw [if_neg q5]
  exact ⟨σ, rfl, CK_refl (decide_eq_true (by omega))⟩
/-- those of a kind -/
def FQ (D : List Dc) (q : Nat) : List Dc := D.filter (fun d => d.1 == q)
theorem FQ_len (D : List Dc) (q : Nat) : (FQ D q).length = cnt D q := rfl
theorem FQ_get {D : List Dc} {q i : Nat} {d : Dc} (hd : D[i]? = some d) (hq : dK d = q) : (FQ D q)[cnt (D.take i) q]? = some d := by
  obtain ⟨hi, he⟩ := List.getElem?_eq_some_iff.mp hd
  have e : FQ D q = FQ (D.take i) q ++ d :: FQ (D.drop (i + 1)) q := by
    conv => lhs; rw [← List.take_append_drop i D, List.drop_eq_getElem_cons hi, he]
    unfold FQ
    rw [List.filter_append, List.filter_cons, if_pos (by have : d.1 = q := hq; rw [this]; exact beq_self_eq_true q)]
  rw [e, List.getElem?_append_right (by rw [FQ_len]; exact Nat.le_refl _), FQ_len, Nat.sub_self]
  try rfl
theorem FQ_sum (D : List Dc) : nmB (FQ D 0) + nmB (FQ D 1) + nmB (FQ D 2) + nmB (FQ D 3) ≤ nmB D := by
  induction D with
  | nil => exact Nat.le_refl _
  | cons d D ih =>
    have e : ∀ q, nmB (FQ (d :: D) q) = nmB (FQ D q) + (if d.1 = q then dE d - dA d else 0) := by
      intro q
      unfold FQ
      rw [List.filter_cons]
      by_cases z : d.1 = q
      · rw [if_pos (by rw [z]; exact beq_self_eq_true q), if_pos z]
        unfold nmB; rw [List.map_cons, List.sum_cons]; omega
      · rw [if_neg (by intro y; exact z (eq_of_beq y)), if_neg z]; try rfl
    have e2 : nmB (d :: D) = nmB D + (dE d - dA d) := by unfold nmB; rw [List.map_cons, List.sum_cons]; omega
    rw [e, e, e, e, e2]
    by_cases z0 : d.1 = 0
    · simp [z0]; omega
    by_cases z1 : d.1 = 1
    · simp [z1]; omega
    by_cases z2 : d.1 = 2
    · simp [z2]; omega
    by_cases z3 : d.1 = 3
    · simp [z3]; omega
    simp [z0, z1, z2, z3]; omega
/-- the bytes of the names from an ordinal on -/
def rmQ (D : List Dc) (q f : Nat) : Nat := nmB ((FQ D q).drop f)
theorem rmQ_step {D : List Dc} {q i : Nat} {d : Dc} (hd : D[i]? = some d) (hq : dK d = q) : rmQ D q (cnt (D.take i) q) = (dE d - dA d) + rmQ D q (cnt (D.take i) q + 1) := by
  obtain ⟨hi, he⟩ := List.getElem?_eq_some_iff.mp (FQ_get hd hq)
  unfold rmQ
  rw [List.drop_eq_getElem_cons hi, he]
  unfold nmB
  rw [List.map_cons, List.sum_cons]
/-- the cells of a loop that keeps: rows lo to hi, from a to b; names from n to m -/
def QL (lo hi a b n m x k : Nat) : Prop := (x = 1101 ∧ k = 31) ∨ (lo ≤ x ∧ x ≤ hi ∧ a ≤ k ∧ k < b) ∨ (x = 1127 ∧ n ≤ k ∧ k < m)
theorem QL_mono {lo hi a b n m a' n' : Nat} {σ τ : SG} (h : fP (QL lo hi a' b n' m) σ τ) (ha : a ≤ a') (hn : n ≤ n') : fP (QL lo hi a b n m) σ τ := fP_mono h (fun x k z => by
  rcases z with z | z | z
  · exact Or.inl z
  · exact Or.inr (Or.inl (by omega))
  · exact Or.inr (Or.inr (by omega)))
def NMs (σ : SG) (q : Nat) (N : List Nat) : Prop := ∀ i c, N[i]? = some c → sI σ 1127 (q + i) = nI c
/-- a name as the reference keeps it -/
def NMb (σ : SG) (lo hi b j : Nat) (N : List Nat) : Prop := ∃ q, sI σ b j = nI q ∧ sI σ (b + 1) j = nI N.length ∧ lo ≤ q ∧ q + N.length ≤ hi ∧ NMs σ q N
def NM (σ : SG) (s b j : Nat) (N : List Nat) : Prop := NMb σ (600 * s) (600 * s + 600) b j N
theorem N_keepName_L {U a n q : Nat} {T : List Nat} {K : SG → Option (Int32 × SG)} (hTl : T.length ≤ 700) (ha : a + n ≤ T.length) (hq : q + n ≤ 1200) : ∀ (j k U1 : Nat) (σ : SG), k + j = n → j < U1 → RI σ 1102 T → (∀ i, i < k → ∃ c, T[a + i]? = some c ∧ sI σ 1127 (q + i) = nI c) →
    ∃ τ, x_X12_keepName_L8 U 1101 K (nI a) (nI n) (nI q) U1 (nI k) σ = K τ ∧ fP (fun b x => b = 1127 ∧ q ≤ x ∧ x < q + n) σ τ ∧ ∀ i, i < n → ∃ c, T[a + i]? = some c ∧ sI τ 1127 (q + i) = nI c := by
  intro j
  induction j with
  | zero =>
    intro k U1 σ hk hu hT hi
    obtain ⟨V, rfl⟩ : ∃ V, U1 = V + 1 := ⟨U1 - 1, by omega⟩
    rw [x_X12_keepName_L8, if_neg (fun q => by have := (ltI (by omega) (by omega)).mp q; omega)]
    exact ⟨σ, rfl, fP_refl _ _, fun i h => hi i (by omega)⟩
  | succ j ih =>
    intro k U1 σ hk hu hT hi
    obtain ⟨V, rfl⟩ : ∃ V, U1 = V + 1 := ⟨U1 - 1, by omega⟩
    have hc := List.getElem?_eq_getElem (show a + k < T.length by omega)
    rw [x_X12_keepName_L8, if_pos ((ltI (by omega) (by omega)).mpr (by omega)), nI_add, ix_in (by omega) (by decide), nI_add, ix_in (by omega) (by decide), sb_eq, nI_1, hT _ _ hc]
    have f1 : fP (fun b x => b = 1127 ∧ q ≤ x ∧ x < q + n) σ (uI σ 1127 (q + k) (nI T[a + k])) := fP_u ⟨rfl, by omega, by omega⟩
    obtain ⟨τ, e1, e2, e3⟩ := ih (k + 1) V (uI σ 1127 (q + k) (nI T[a + k])) (by omega) (by omega) (hT.sm (sm_uI (by decide))) (fun i h => by
      by_cases z : i = k
      · subst z; exact ⟨_, hc, sI_s _ _ _ _⟩
      · obtain ⟨c, g1, g2⟩ := hi i (by omega)
        exact ⟨c, g1, by rw [sI_o (Or.inr (by omega))]; exact g2⟩)
    exact ⟨τ, e1, fP_trans f1 e2, e3⟩
theorem N_keepName {U a e q : Nat} {T : List Nat} {σ : SG} (hU : 4000 < U) (hTl : T.length ≤ 700) (hae : a ≤ e) (he : e ≤ T.length) (hq : q + (e - a) ≤ 1200) (hT : RI σ 1102 T) (h31 : sI σ 1101 31 = nI q) :
    ∃ τ, x_X12_keepName U 1101 (nI a) (nI (e - a)) σ = some (nI q, τ) ∧ fP (fun b x => (b = 1101 ∧ x = 31) ∨ (b = 1127 ∧ q ≤ x ∧ x < q + (e - a))) σ τ ∧ sI τ 1101 31 = nI (q + (e - a)) ∧ NMs τ q (slc T a e) := by
  unfold x_X12_keepName
  obtain ⟨υ, e1, e2, e3⟩ := N_keepName_L (U := U) (K := fun σ11 => sb (uI σ11 1101 31 ((sI σ11 1101 31) + nI (e - a))) fun σ12 => some (sI σ 1101 31, σ12)) hTl (show a + (e - a) ≤ T.length by omega) hq (e - a) 0 U σ (by omega) (by omega) hT (fun i h => by omega)
  have u31 : sI υ 1101 31 = nI q := ((e2 1101 31 (by omega)).1).trans h31
  rw [h31]
  rw [h31] at e1
  have e1' := e1
  rw [show nI 0 = 0 from rfl] at e1'
  rw [e1', sb_eq, u31, nI_add]
  refine ⟨_, rfl, fP_trans (fP_mono e2 (fun b x z => Or.inr z)) (fP_u (Or.inl ⟨rfl, rfl⟩)), sI_s _ _ _ _, fun i c hi => ?_⟩
  rw [sI_o (Or.inl (by decide))]
  have hil : i < e - a := by
    have := (List.getElem?_eq_some_iff.mp hi).1
    rw [slc_len hae he] at this; exact this
  obtain ⟨c', g1, g2⟩ := e3 i hil
  rw [slc_get hil] at hi
  rw [hi] at g1
  cases g1
  exact g2
theorem NMs_keep {σ τ : SG} {q : Nat} {N : List Nat} (h : NMs σ q N) (hf : ∀ i, i < N.length → sI τ 1127 (q + i) = sI σ 1127 (q + i)) : NMs τ q N := fun i c hi => (hf i (List.getElem?_eq_some_iff.mp hi).1).trans (h i c hi)
/-! ===== the reference keeps a schema: the rows ===== -/
/-- what is read while a schema is kept -/
def KB (σ0 σ : SG) (T : List Nat) : Prop := (∀ b, 1128 ≤ b → b ≤ 1158 → sm σ0 σ b) ∧ (∀ k, 32 ≤ k → k ≤ 38 → sI σ 1101 k = sI σ0 1101 k) ∧ RI σ 1102 T
theorem KB_u {σ0 σ : SG} {T : List Nat} {a j : Nat} {v : Int32} (h : KB σ0 σ T) (ha : 1103 ≤ a) (ha' : a ≤ 1127) : KB σ0 (uI σ a j v) T :=
  ⟨fun b h1 h2 => sm_trans (h.1 b h1 h2) (sm_uI (by omega)), fun k h1 h2 => by
    by_cases q : a = 1101
    · omega
    · rw [sI_o (Or.inl (by omega))]; exact h.2.1 k h1 h2, h.2.2.sm (sm_uI (by omega))⟩
theorem KB_f {σ0 σ τ : SG} {T : List Nat} {P : Nat → Nat → Prop} (h : KB σ0 σ T) (hf : fP P σ τ) (hP : ∀ b k, P b k → (b = 1101 ∧ k = 31) ∨ (1103 ≤ b ∧ b ≤ 1127 ∧ b ≠ 1101)) : KB σ0 τ T := by
  have no : ∀ b k, (1128 ≤ b ∨ b = 1102 ∨ (b = 1101 ∧ k ≠ 31)) → ¬ P b k := fun b k hb z => by have := hP b k z; omega
  exact ⟨fun b h1 h2 => sm_trans (h.1 b h1 h2) (fun k => hf b k (no b k (Or.inl h1))), fun k h1 h2 => ((hf 1101 k (no _ _ (Or.inr (Or.inr ⟨rfl, by omega⟩)))).1).trans (h.2.1 k h1 h2), fun i c hi => ((hf 1102 i (no _ _ (Or.inr (Or.inl rfl)))).1).trans (h.2.2 i c hi)⟩
/-- the rows of a schema once it is checked -/
def FDk (σ : SG) (T : List Nat) (Ws : List Wd) (D : List Dc) (j : Nat) (d : Dc) : Prop := sI σ 1148 j = oq D 4 (dO d) ∧ sI σ 1145 j = zI (dR d) ∧ NR (sL σ 1137 j) (dN d) ∧ sI σ 1146 j = nI (dP d) ∧ TYr σ T Ws D j d
def RK (σ : SG) (T : List Nat) (Ws : List Wd) (D : List Dc) : Prop := (∀ q, q < 5 → sI σ 1101 (32 + q) = nI (cnt D q)) ∧ ∀ (i : Nat) (d : Dc), D[i]? = some d → (dK d = 0 → NMr σ 1128 (cnt (D.take i) 0) (oq D 0 (dS d)) d) ∧ (dK d = 1 → NMr σ 1131 (cnt (D.take i) 1) (oq D 0 (dS d)) d) ∧ (dK d = 2 → NMr σ 1134 (cnt (D.take i) 2) (oq D 0 (dS d)) d ∧ FDk σ T Ws D (cnt (D.take i) 2) d) ∧ (dK d = 3 → NMr σ 1149 (cnt (D.take i) 3) (oq D 1 (dO d)) d ∧ NR (sL σ 1152 (cnt (D.take i) 3)) (dN d))
theorem NMr_PT {σ τ : SG} {b i : Nat} {v : Int32} {d : Dc} (h : NMr σ b i v d) (hf : fP PT σ τ) (hb : 1102 ≤ b) (hb' : b + 2 < 1139 ∨ 1141 < b) : NMr τ b i v d :=
  ⟨(PT_c hf (by omega) (by omega) (by omega)).trans h.1, (PT_c hf (by omega) (by omega) (by omega)).trans h.2.1, (PT_c hf (by omega) (by omega) (by omega)).trans h.2.2⟩
theorem RK_of {σ0 σ : SG} {T : List Nat} {Ws : List Wd} {D : List Dc} {p : Nat} (hM : RM σ0 T Ws D p) (hf : fP PT σ0 σ) (hT : ∀ (i : Nat) (d : Dc), D[i]? = some d → dK d = 2 → TYr σ T Ws D (cnt (D.take i) 2) d) : RK σ T Ws D := by
  refine ⟨fun q hq => (PT_o hf (by omega) (by omega) (by omega)).trans (hM.1 q hq), fun i d hd => ?_⟩
  obtain ⟨_, a0, a1, a2, a3⟩ := hM.2.2.2 i d hd
  refine ⟨fun z => NMr_PT (a0 z) hf (by decide) (by decide), fun z => NMr_PT (a1 z) hf (by decide) (by decide), fun z => ⟨NMr_PT (a2 z).1 hf (by decide) (by decide), ?_⟩, fun z => ⟨NMr_PT (a3 z).1 hf (by decide) (by decide), ?_⟩⟩
  · obtain ⟨b1', b2', b3, b4, _⟩ := (a2 z).2
    refine ⟨(PT_c hf (by decide) (by decide) (by decide)).trans b1', (PT_c hf (by decide) (by decide) (by decide)).trans b2', ?_, (PT_c hf (by decide) (by decide) (by decide)).trans b4, hT i d hd z⟩
    rw [(hf 1137 _ (by rintro (z | z | z) <;> omega)).2.1]; exact b3
  · rw [(hf 1152 _ (by rintro (z | z | z) <;> omega)).2.1]; exact (a3 z).2
theorem nar01 (b : Bool) : vp_nar .boolean (zI b) = zI b := by cases b <;> decide
theorem N_keep0 {U s : Nat} {T : List Nat} {Ws : List Wd} {D : List Dc} {σ0 : SG} {K : SG → Option SG} (hU : 4000 < U) (hs : s < 2) (hTl : T.length ≤ 700) (hN : GNs T D) (hl : D.length < 180) (hlim : cnt D 0 ≤ 16) (hM : RK σ0 T Ws D) : ∀ (j f U1 n : Nat) (σ : SG), f + j = cnt D 0 → j < U1 → KB σ0 σ T → sI σ 1101 31 = nI (600 * s + n) → n + rmQ D 0 f ≤ 600 →
    ∃ τ, x_X12_keep_L51 U 1101 K (nI s) U1 (nI f) σ = K τ ∧ fP (QL 1108 1110 (16 * s + f) (16 * s + 16) (600 * s + n) (600 * s + 600)) σ τ ∧ sI τ 1101 31 = nI (600 * s + n + rmQ D 0 f) ∧ ∀ (i : Nat) (d : Dc), D[i]? = some d → dK d = 0 → f ≤ cnt (D.take i) 0 → sI τ 1108 (16 * s + cnt (D.take i) 0) = oq D 0 (dS d) ∧ NMb τ (600 * s) (600 * s + n + rmQ D 0 f) 1109 (16 * s + cnt (D.take i) 0) (slc T (dA d) (dE d)) := by
  have hcl := cnt_le D 0
  intro j
  induction j with
  | zero =>
    intro f U1 n σ hf hu hB h31 hn
    obtain ⟨V, rfl⟩ : ∃ V, U1 = V + 1 := ⟨U1 - 1, by omega⟩
    have h32 : sI σ 1101 32 = nI (cnt D 0) := (hB.2.1 32 (by decide) (by decide)).trans (hM.1 0 (by decide))
    rw [x_X12_keep_L51, h32, if_neg (fun q => by have := (ltI (by omega) (by omega)).mp q; omega)]
    have h0 : rmQ D 0 f = 0 := by unfold rmQ; rw [List.drop_eq_nil_of_le (by rw [FQ_len]; omega)]; try rfl
    exact ⟨σ, rfl, fP_refl _ _, by rw [h0]; exact h31, fun i d h1 h2 h3 => by have := cnt_take_lt h1 h2; omega⟩
  | succ j ih =>
    intro f U1 n σ hf hu hB h31 hn
    obtain ⟨V, rfl⟩ : ∃ V, U1 = V + 1 := ⟨U1 - 1, by omega⟩
    have h32 : sI σ 1101 32 = nI (cnt D 0) := (hB.2.1 32 (by decide) (by decide)).trans (hM.1 0 (by decide))
    obtain ⟨i, d, hd, hk, hi⟩ := plc (D := D) (q := 0) f (by omega)
    have row := (hM.2 i d hd).1 hk
    have gd := hN i d hd
    have hrm := rmQ_step hd hk
    rw [hi] at row hrm
    have e0 : sI σ 1128 f = oq D 0 (dS d) := ((hB.1 1128 (by decide) (by decide) f).1).trans row.1
    have B1 : KB σ0 (uI σ 1108 (16 * s + f) (oq D 0 (dS d))) T := KB_u hB (by decide) (by decide)
    have e1 : sI (uI σ 1108 (16 * s + f) (oq D 0 (dS d))) 1129 f = nI (dA d) := ((B1.1 1129 (by decide) (by decide) f).1).trans row.2.1
    have e2 : sI (uI σ 1108 (16 * s + f) (oq D 0 (dS d))) 1130 f = nI (dE d - dA d) := ((B1.1 1130 (by decide) (by decide) f).1).trans row.2.2
    have e31 : sI (uI σ 1108 (16 * s + f) (oq D 0 (dS d))) 1101 31 = nI (600 * s + n) := by rw [sI_o (Or.inl (by decide))]; exact h31
    obtain ⟨υ, u1, u2, u3, u4⟩ := N_keepName (U := U) (a := dA d) (e := dE d) hU hTl (Nat.le_of_lt gd.1) gd.2.1 (by omega) B1.2.2 e31
    have B2 : KB σ0 υ T := KB_f B1 u2 (fun b k z => by omega)
    have e3 : sI (uI υ 1109 (16 * s + f) (nI (600 * s + n))) 1130 f = nI (dE d - dA d) := ((KB_u (j := 16 * s + f) (v := nI (600 * s + n)) B2 (show 1103 ≤ 1109 by decide) (by decide)).1 1130 (by decide) (by decide) f).1.trans row.2.2
    rw [x_X12_keep_L51, h32, if_pos ((ltI (by omega) (by omega)).mpr (by omega)), ix_in (by omega) (by decide), show (16 : Int32) = nI 16 from rfl, pk_mul, nI_add, ix_in (by omega) (by decide), sb_eq, e0, ix_in (by omega) (by decide), ix_in (by omega) (by decide), e1, e2, u1, b2_eq, ix_in (by omega) (by decide), sb_eq, ix_in (by omega) (by decide), ix_in (by omega) (by decide), sb_eq, e3, nI_1]
    have FF : fP (fun b k => (b = 1101 ∧ k = 31) ∨ (1108 ≤ b ∧ b ≤ 1110 ∧ k = 16 * s + f) ∨ (b = 1127 ∧ 600 * s + n ≤ k ∧ k < 600 * s + n + (dE d - dA d))) σ (uI (uI υ 1109 (16 * s + f) (nI (600 * s + n))) 1110 (16 * s + f) (nI (dE d - dA d))) := by
      exact fP_trans (fP_u (Or.inr (Or.inl ⟨by decide, by decide, rfl⟩))) (fP_trans (fP_mono u2 (fun b k z => by omega)) (fP_trans (fP_u (Or.inr (Or.inl ⟨by decide, by decide, rfl⟩))) (fP_u (Or.inr (Or.inl ⟨by decide, by decide, rfl⟩)))))
    have B4 : KB σ0 (uI (uI υ 1109 (16 * s + f) (nI (600 * s + n))) 1110 (16 * s + f) (nI (dE d - dA d))) T := KB_f hB FF (fun b k z => by omega)
    have f31 : sI (uI (uI υ 1109 (16 * s + f) (nI (600 * s + n))) 1110 (16 * s + f) (nI (dE d - dA d))) 1101 31 = nI (600 * s + (n + (dE d - dA d))) := by
      rw [sI_o (Or.inl (by decide)), sI_o (Or.inl (by decide))]
      rw [u3]; congr 1; omega
    have own0 : sI (uI (uI υ 1109 (16 * s + f) (nI (600 * s + n))) 1110 (16 * s + f) (nI (dE d - dA d))) 1108 (16 * s + f) = oq D 0 (dS d) := by
      rw [sI_o (Or.inl (by decide)), sI_o (Or.inl (by decide))]
      rw [(u2 1108 (16 * s + f) (by omega)).1, sI_s]
    have own1 : sI (uI (uI υ 1109 (16 * s + f) (nI (600 * s + n))) 1110 (16 * s + f) (nI (dE d - dA d))) 1109 (16 * s + f) = nI (600 * s + n) := by
      rw [sI_o (Or.inl (by decide))]
      rw [sI_s]
    have own2 : sI (uI (uI υ 1109 (16 * s + f) (nI (600 * s + n))) 1110 (16 * s + f) (nI (dE d - dA d))) 1110 (16 * s + f) = nI (dE d - dA d) := by
      skip
      rw [sI_s]
    have ownN : NMs (uI (uI υ 1109 (16 * s + f) (nI (600 * s + n))) 1110 (16 * s + f) (nI (dE d - dA d))) (600 * s + n) (slc T (dA d) (dE d)) := NMs_keep u4 (fun i' _ => by
      rw [sI_o (Or.inl (by decide)), sI_o (Or.inl (by decide))])
    generalize (uI (uI υ 1109 (16 * s + f) (nI (600 * s + n))) 1110 (16 * s + f) (nI (dE d - dA d))) = ω at *
    obtain ⟨τ, t1, t2, t3, t4⟩ := ih (f + 1) V (n + (dE d - dA d)) ω (by omega) (by omega) B4 f31 (by omega)
    have nn : ∀ b k, b ≠ 1101 → b ≠ 1127 → k = 16 * s + f → sI τ b k = sI ω b k := fun b k h1 h2 h3 => (t2 b k (by rintro (z | z | z) <;> omega)).1
    refine ⟨τ, t1, fP_trans (fP_mono FF (fun b k z => ?_)) (QL_mono t2 (by omega) (by omega)), ?_, fun i' d' h1 h2 h3 => ?_⟩
    · rcases z with z | z | z
      · exact Or.inl z
      · exact Or.inr (Or.inl (by omega))
      · exact Or.inr (Or.inr (by omega))
    · rw [t3, hrm]; congr 1; omega
    · by_cases q : cnt (D.take i') 0 = f
      · have := ord_inj h1 h2 hd hk (by omega)
        subst this
        rw [hd] at h1
        cases h1
        rw [hi]
        have hsl : (slc T (dA d) (dE d)).length = dE d - dA d := slc_len (Nat.le_of_lt gd.1) gd.2.1
        refine ⟨(nn 1108 _ (by decide) (by decide) rfl).trans own0, ⟨600 * s + n, (nn 1109 _ (by decide) (by decide) rfl).trans own1, by rw [hsl]; exact (nn 1110 _ (by decide) (by decide) rfl).trans own2, by omega, by rw [hsl]; omega, NMs_keep ownN (fun i2 hi2 => ?_)⟩⟩
        rw [hsl] at hi2
        exact (t2 1127 _ (by rintro (z | z | z) <;> omega)).1
      · have hh : 600 * s + (n + (dE d - dA d)) + rmQ D 0 (f + 1) = 600 * s + n + rmQ D 0 f := by omega
        rw [← hh]
        exact t4 i' d' h1 h2 (by omega)
theorem N_keep1 {U s : Nat} {T : List Nat} {Ws : List Wd} {D : List Dc} {σ0 : SG} {K : SG → Option SG} (hU : 4000 < U) (hs : s < 2) (hTl : T.length ≤ 700) (hN : GNs T D) (hl : D.length < 180) (hlim : cnt D 1 ≤ 8) (hM : RK σ0 T Ws D) : ∀ (j f U1 n : Nat) (σ : SG), f + j = cnt D 1 → j < U1 → KB σ0 σ T → sI σ 1101 31 = nI (600 * s + n) → n + rmQ D 1 f ≤ 600 →
    ∃ τ, x_X12_keep_L128 U 1101 K (nI s) U1 (nI f) σ = K τ ∧ fP (QL 1111 1113 (8 * s + f) (8 * s + 8) (600 * s + n) (600 * s + 600)) σ τ ∧ sI τ 1101 31 = nI (600 * s + n + rmQ D 1 f) ∧ ∀ (i : Nat) (d : Dc), D[i]? = some d → dK d = 1 → f ≤ cnt (D.take i) 1 → sI τ 1111 (8 * s + cnt (D.take i) 1) = oq D 0 (dS d) ∧ NMb τ (600 * s) (600 * s + n + rmQ D 1 f) 1112 (8 * s + cnt (D.take i) 1) (slc T (dA d) (dE d)) := by
  have hcl := cnt_le D 1
  intro j
  induction j with
  | zero =>
    intro f U1 n σ hf hu hB h31 hn
    obtain ⟨V, rfl⟩ : ∃ V, U1 = V + 1 := ⟨U1 - 1, by omega⟩
    have h32 : sI σ 1101 33 = nI (cnt D 1) := (hB.2.1 33 (by decide) (by decide)).trans (hM.1 1 (by decide))
    rw [x_X12_keep_L128, h32, if_neg (fun q => by have := (ltI (by omega) (by omega)).mp q; omega)]
    have h0 : rmQ D 1 f = 0 := by unfold rmQ; rw [List.drop_eq_nil_of_le (by rw [FQ_len]; omega)]; try rfl
    exact ⟨σ, rfl, fP_refl _ _, by rw [h0]; exact h31, fun i d h1 h2 h3 => by have := cnt_take_lt h1 h2; omega⟩
  | succ j ih =>
    intro f U1 n σ hf hu hB h31 hn
    obtain ⟨V, rfl⟩ : ∃ V, U1 = V + 1 := ⟨U1 - 1, by omega⟩
    have h32 : sI σ 1101 33 = nI (cnt D 1) := (hB.2.1 33 (by decide) (by decide)).trans (hM.1 1 (by decide))
    obtain ⟨i, d, hd, hk, hi⟩ := plc (D := D) (q := 1) f (by omega)
    have row := (hM.2 i d hd).2.1 hk
    have gd := hN i d hd
    have hrm := rmQ_step hd hk
    rw [hi] at row hrm
    have e0 : sI σ 1131 f = oq D 0 (dS d) := ((hB.1 1131 (by decide) (by decide) f).1).trans row.1
    have B1 : KB σ0 (uI σ 1111 (8 * s + f) (oq D 0 (dS d))) T := KB_u hB (by decide) (by decide)
    have e1 : sI (uI σ 1111 (8 * s + f) (oq D 0 (dS d))) 1132 f = nI (dA d) := ((B1.1 1132 (by decide) (by decide) f).1).trans row.2.1
    have e2 : sI (uI σ 1111 (8 * s + f) (oq D 0 (dS d))) 1133 f = nI (dE d - dA d) := ((B1.1 1133 (by decide) (by decide) f).1).trans row.2.2
    have e31 : sI (uI σ 1111 (8 * s + f) (oq D 0 (dS d))) 1101 31 = nI (600 * s + n) := by rw [sI_o (Or.inl (by decide))]; exact h31
    obtain ⟨υ, u1, u2, u3, u4⟩ := N_keepName (U := U) (a := dA d) (e := dE d) hU hTl (Nat.le_of_lt gd.1) gd.2.1 (by omega) B1.2.2 e31
    have B2 : KB σ0 υ T := KB_f B1 u2 (fun b k z => by omega)
    have e3 : sI (uI υ 1112 (8 * s + f) (nI (600 * s + n))) 1133 f = nI (dE d - dA d) := ((KB_u (j := 8 * s + f) (v := nI (600 * s + n)) B2 (show 1103 ≤ 1112 by decide) (by decide)).1 1133 (by decide) (by decide) f).1.trans row.2.2
    rw [x_X12_keep_L128, h32, if_pos ((ltI (by omega) (by omega)).mpr (by omega)), ix_in (by omega) (by decide), show (8 : Int32) = nI 8 from rfl, pk_mul, nI_add, ix_in (by omega) (by decide), sb_eq, e0, ix_in (by omega) (by decide), ix_in (by omega) (by decide), e1, e2, u1, b2_eq, ix_in (by omega) (by decide), sb_eq, ix_in (by omega) (by decide), ix_in (by omega) (by decide), sb_eq, e3, nI_1]
    have FF : fP (fun b k => (b = 1101 ∧ k = 31) ∨ (1111 ≤ b ∧ b ≤ 1113 ∧ k = 8 * s + f) ∨ (b = 1127 ∧ 600 * s + n ≤ k ∧ k < 600 * s + n + (dE d - dA d))) σ (uI (uI υ 1112 (8 * s + f) (nI (600 * s + n))) 1113 (8 * s + f) (nI (dE d - dA d))) := by
      exact fP_trans (fP_u (Or.inr (Or.inl ⟨by decide, by decide, rfl⟩))) (fP_trans (fP_mono u2 (fun b k z => by omega)) (fP_trans (fP_u (Or.inr (Or.inl ⟨by decide, by decide, rfl⟩))) (fP_u (Or.inr (Or.inl ⟨by decide, by decide, rfl⟩)))))
    have B4 : KB σ0 (uI (uI υ 1112 (8 * s + f) (nI (600 * s + n))) 1113 (8 * s + f) (nI (dE d - dA d))) T := KB_f hB FF (fun b k z => by omega)
    have f31 : sI (uI (uI υ 1112 (8 * s + f) (nI (600 * s + n))) 1113 (8 * s + f) (nI (dE d - dA d))) 1101 31 = nI (600 * s + (n + (dE d - dA d))) := by
      rw [sI_o (Or.inl (by decide)), sI_o (Or.inl (by decide))]
      rw [u3]; congr 1; omega
    have own0 : sI (uI (uI υ 1112 (8 * s + f) (nI (600 * s + n))) 1113 (8 * s + f) (nI (dE d - dA d))) 1111 (8 * s + f) = oq D 0 (dS d) := by
      rw [sI_o (Or.inl (by decide)), sI_o (Or.inl (by decide))]
      rw [(u2 1111 (8 * s + f) (by omega)).1, sI_s]
    have own1 : sI (uI (uI υ 1112 (8 * s + f) (nI (600 * s + n))) 1113 (8 * s + f) (nI (dE d - dA d))) 1112 (8 * s + f) = nI (600 * s + n) := by
      rw [sI_o (Or.inl (by decide))]
      rw [sI_s]
    have own2 : sI (uI (uI υ 1112 (8 * s + f) (nI (600 * s + n))) 1113 (8 * s + f) (nI (dE d - dA d))) 1113 (8 * s + f) = nI (dE d - dA d) := by
      skip
      rw [sI_s]
    have ownN : NMs (uI (uI υ 1112 (8 * s + f) (nI (600 * s + n))) 1113 (8 * s + f) (nI (dE d - dA d))) (600 * s + n) (slc T (dA d) (dE d)) := NMs_keep u4 (fun i' _ => by
      rw [sI_o (Or.inl (by decide)), sI_o (Or.inl (by decide))])
    generalize (uI (uI υ 1112 (8 * s + f) (nI (600 * s + n))) 1113 (8 * s + f) (nI (dE d - dA d))) = ω at *
    obtain ⟨τ, t1, t2, t3, t4⟩ := ih (f + 1) V (n + (dE d - dA d)) ω (by omega) (by omega) B4 f31 (by omega)
    have nn : ∀ b k, b ≠ 1101 → b ≠ 1127 → k = 8 * s + f → sI τ b k = sI ω b k := fun b k h1 h2 h3 => (t2 b k (by rintro (z | z | z) <;> omega)).1
    refine ⟨τ, t1, fP_trans (fP_mono FF (fun b k z => ?_)) (QL_mono t2 (by omega) (by omega)), ?_, fun i' d' h1 h2 h3 => ?_⟩
    · rcases z with z | z | z
      · exact Or.inl z
      · exact Or.inr (Or.inl (by omega))
      · exact Or.inr (Or.inr (by omega))
    · rw [t3, hrm]; congr 1; omega
    · by_cases q : cnt (D.take i') 1 = f
      · have := ord_inj h1 h2 hd hk (by omega)
        subst this
        rw [hd] at h1
        cases h1
        rw [hi]
        have hsl : (slc T (dA d) (dE d)).length = dE d - dA d := slc_len (Nat.le_of_lt gd.1) gd.2.1
        refine ⟨(nn 1111 _ (by decide) (by decide) rfl).trans own0, ⟨600 * s + n, (nn 1112 _ (by decide) (by decide) rfl).trans own1, by rw [hsl]; exact (nn 1113 _ (by decide) (by decide) rfl).trans own2, by omega, by rw [hsl]; omega, NMs_keep ownN (fun i2 hi2 => ?_)⟩⟩
        rw [hsl] at hi2
        exact (t2 1127 _ (by rintro (z | z | z) <;> omega)).1
      · have hh : 600 * s + (n + (dE d - dA d)) + rmQ D 1 (f + 1) = 600 * s + n + rmQ D 1 f := by omega
        rw [← hh]
        exact t4 i' d' h1 h2 (by omega)
theorem N_keep3 {U s : Nat} {T : List Nat} {Ws : List Wd} {D : List Dc} {σ0 : SG} {K : SG → Option SG} (hU : 4000 < U) (hs : s < 2) (hTl : T.length ≤ 700) (hN : GNs T D) (hl : D.length < 180) (hlim : cnt D 3 ≤ 40) (hM : RK σ0 T Ws D) (hV : ∀ (i : Nat) (d : Dc), D[i]? = some d → dK d = 3 → okV (dN d) = true) : ∀ (j f U1 n : Nat) (σ : SG), f + j = cnt D 3 → j < U1 → KB σ0 σ T → sI σ 1101 31 = nI (600 * s + n) → n + rmQ D 3 f ≤ 600 →
    ∃ τ, x_X12_keep_L377 U 1101 (nI s) U1 (nI f) σ = some τ ∧ fP (QL 1123 1126 (40 * s + f) (40 * s + 40) (600 * s + n) (600 * s + 600)) σ τ ∧ sI τ 1101 31 = nI (600 * s + n + rmQ D 3 f) ∧ ∀ (i : Nat) (d : Dc), D[i]? = some d → dK d = 3 → f ≤ cnt (D.take i) 3 → sI τ 1123 (40 * s + cnt (D.take i) 3) = oq D 1 (dO d) ∧ NMb τ (600 * s) (600 * s + n + rmQ D 3 f) 1124 (40 * s + cnt (D.take i) 3) (slc T (dA d) (dE d)) ∧ sI τ 1126 (40 * s + cnt (D.take i) 3) = Int64.toInt32 (nL (dN d)) := by
  have hcl := cnt_le D 3
  intro j
  induction j with
  | zero =>
    intro f U1 n σ hf hu hB h31 hn
    obtain ⟨V, rfl⟩ : ∃ V, U1 = V + 1 := ⟨U1 - 1, by omega⟩
    have h32 : sI σ 1101 35 = nI (cnt D 3) := (hB.2.1 35 (by decide) (by decide)).trans (hM.1 3 (by decide))
    rw [x_X12_keep_L377, h32, if_neg (fun q => by have := (ltI (by omega) (by omega)).mp q; omega)]
    have h0 : rmQ D 3 f = 0 := by unfold rmQ; rw [List.drop_eq_nil_of_le (by rw [FQ_len]; omega)]; try rfl
    exact ⟨σ, rfl, fP_refl _ _, by rw [h0]; exact h31, fun i d h1 h2 h3 => by have := cnt_take_lt h1 h2; omega⟩
  | succ j ih =>
    intro f U1 n σ hf hu hB h31 hn
    obtain ⟨V, rfl⟩ : ∃ V, U1 = V + 1 := ⟨U1 - 1, by omega⟩
    have h32 : sI σ 1101 35 = nI (cnt D 3) := (hB.2.1 35 (by decide) (by decide)).trans (hM.1 3 (by decide))
    obtain ⟨i, d, hd, hk, hi⟩ := plc (D := D) (q := 3) f (by omega)
    have row := (hM.2 i d hd).2.2.2 hk
    have gd := hN i d hd
    have hrm := rmQ_step hd hk
    rw [hi] at row hrm
    have eN : sL σ0 1152 f = nL (dN d) := by
      obtain ⟨w, w1, w2, w3⟩ := row.2
      have := of_decide_eq_true (hV i d hd hk)
      rw [w3]
      have ew : w = (dN d).2 := by unfold NV at w2; omega
      rw [ew]
    have e0 : sI σ 1149 f = oq D 1 (dO d) := ((hB.1 1149 (by decide) (by decide) f).1).trans row.1.1
    have B1 : KB σ0 (uI σ 1123 (40 * s + f) (oq D 1 (dO d))) T := KB_u hB (by decide) (by decide)
    have e1 : sI (uI σ 1123 (40 * s + f) (oq D 1 (dO d))) 1150 f = nI (dA d) := ((B1.1 1150 (by decide) (by decide) f).1).trans row.1.2.1
    have e2 : sI (uI σ 1123 (40 * s + f) (oq D 1 (dO d))) 1151 f = nI (dE d - dA d) := ((B1.1 1151 (by decide) (by decide) f).1).trans row.1.2.2
    have e31 : sI (uI σ 1123 (40 * s + f) (oq D 1 (dO d))) 1101 31 = nI (600 * s + n) := by rw [sI_o (Or.inl (by decide))]; exact h31
    obtain ⟨υ, u1, u2, u3, u4⟩ := N_keepName (U := U) (a := dA d) (e := dE d) hU hTl (Nat.le_of_lt gd.1) gd.2.1 (by omega) B1.2.2 e31
    have B2 : KB σ0 υ T := KB_f B1 u2 (fun b k z => by omega)
    have e3 : sI (uI υ 1124 (40 * s + f) (nI (600 * s + n))) 1151 f = nI (dE d - dA d) := ((KB_u (j := 40 * s + f) (v := nI (600 * s + n)) B2 (show 1103 ≤ 1124 by decide) (by decide)).1 1151 (by decide) (by decide) f).1.trans row.1.2.2
    rw [x_X12_keep_L377, h32, if_pos ((ltI (by omega) (by omega)).mpr (by omega)), ix_in (by omega) (by decide), show (40 : Int32) = nI 40 from rfl, pk_mul, nI_add, ix_in (by omega) (by decide), sb_eq, e0, ix_in (by omega) (by decide), ix_in (by omega) (by decide), e1, e2, u1, b2_eq, ix_in (by omega) (by decide), sb_eq, ix_in (by omega) (by decide), ix_in (by omega) (by decide), sb_eq, e3, ix_in (by omega) (by decide), ix_in (by omega) (by decide), sb_eq, sL_uI, sL_uI, ((B2.1 1152 (by decide) (by decide) f).2.1).trans eN, nI_1]
    have FF : fP (fun b k => (b = 1101 ∧ k = 31) ∨ (1123 ≤ b ∧ b ≤ 1126 ∧ k = 40 * s + f) ∨ (b = 1127 ∧ 600 * s + n ≤ k ∧ k < 600 * s + n + (dE d - dA d))) σ (uI (uI (uI υ 1124 (40 * s + f) (nI (600 * s + n))) 1125 (40 * s + f) (nI (dE d - dA d))) 1126 (40 * s + f) (Int64.toInt32 (nL (dN d)))) := by
      exact fP_trans (fP_u (Or.inr (Or.inl ⟨by decide, by decide, rfl⟩))) (fP_trans (fP_mono u2 (fun b k z => by omega)) (fP_trans (fP_trans (fP_u (Or.inr (Or.inl ⟨by decide, by decide, rfl⟩))) (fP_u (Or.inr (Or.inl ⟨by decide, by decide, rfl⟩)))) (fP_u (Or.inr (Or.inl ⟨by decide, by decide, rfl⟩)))))
    have B4 : KB σ0 (uI (uI (uI υ 1124 (40 * s + f) (nI (600 * s + n))) 1125 (40 * s + f) (nI (dE d - dA d))) 1126 (40 * s + f) (Int64.toInt32 (nL (dN d)))) T := KB_f hB FF (fun b k z => by omega)
    have f31 : sI (uI (uI (uI υ 1124 (40 * s + f) (nI (600 * s + n))) 1125 (40 * s + f) (nI (dE d - dA d))) 1126 (40 * s + f) (Int64.toInt32 (nL (dN d)))) 1101 31 = nI (600 * s + (n + (dE d - dA d))) := by
      rw [sI_o (Or.inl (by decide)), sI_o (Or.inl (by decide)), sI_o (Or.inl (by decide))]
      rw [u3]; congr 1; omega
    have own0 : sI (uI (uI (uI υ 1124 (40 * s + f) (nI (600 * s + n))) 1125 (40 * s + f) (nI (dE d - dA d))) 1126 (40 * s + f) (Int64.toInt32 (nL (dN d)))) 1123 (40 * s + f) = oq D 1 (dO d) := by
      rw [sI_o (Or.inl (by decide)), sI_o (Or.inl (by decide)), sI_o (Or.inl (by decide))]
      rw [(u2 1123 (40 * s + f) (by omega)).1, sI_s]
    have own1 : sI (uI (uI (uI υ 1124 (40 * s + f) (nI (600 * s + n))) 1125 (40 * s + f) (nI (dE d - dA d))) 1126 (40 * s + f) (Int64.toInt32 (nL (dN d)))) 1124 (40 * s + f) = nI (600 * s + n) := by
      rw [sI_o (Or.inl (by decide)), sI_o (Or.inl (by decide))]
      rw [sI_s]
    have own2 : sI (uI (uI (uI υ 1124 (40 * s + f) (nI (600 * s + n))) 1125 (40 * s + f) (nI (dE d - dA d))) 1126 (40 * s + f) (Int64.toInt32 (nL (dN d)))) 1125 (40 * s + f) = nI (dE d - dA d) := by
      rw [sI_o (Or.inl (by decide))]
      rw [sI_s]
    have ownN : NMs (uI (uI (uI υ 1124 (40 * s + f) (nI (600 * s + n))) 1125 (40 * s + f) (nI (dE d - dA d))) 1126 (40 * s + f) (Int64.toInt32 (nL (dN d)))) (600 * s + n) (slc T (dA d) (dE d)) := NMs_keep u4 (fun i' _ => by
      rw [sI_o (Or.inl (by decide)), sI_o (Or.inl (by decide)), sI_o (Or.inl (by decide))])
    have own3 : sI (uI (uI (uI υ 1124 (40 * s + f) (nI (600 * s + n))) 1125 (40 * s + f) (nI (dE d - dA d))) 1126 (40 * s + f) (Int64.toInt32 (nL (dN d)))) 1126 (40 * s + f) = Int64.toInt32 (nL (dN d)) := sI_s _ _ _ _
    generalize (uI (uI (uI υ 1124 (40 * s + f) (nI (600 * s + n))) 1125 (40 * s + f) (nI (dE d - dA d))) 1126 (40 * s + f) (Int64.toInt32 (nL (dN d)))) = ω at *
    obtain ⟨τ, t1, t2, t3, t4⟩ := ih (f + 1) V (n + (dE d - dA d)) ω (by omega) (by omega) B4 f31 (by omega)
    have nn : ∀ b k, b ≠ 1101 → b ≠ 1127 → k = 40 * s + f → sI τ b k = sI ω b k := fun b k h1 h2 h3 => (t2 b k (by rintro (z | z | z) <;> omega)).1
    refine ⟨τ, t1, fP_trans (fP_mono FF (fun b k z => ?_)) (QL_mono t2 (by omega) (by omega)), ?_, fun i' d' h1 h2 h3 => ?_⟩
    · rcases z with z | z | z
      · exact Or.inl z
      · exact Or.inr (Or.inl (by omega))
      · exact Or.inr (Or.inr (by omega))
    · rw [t3, hrm]; congr 1; omega
    · by_cases q : cnt (D.take i') 3 = f
      · have := ord_inj h1 h2 hd hk (by omega)
        subst this
        rw [hd] at h1
        cases h1
        rw [hi]
        have hsl : (slc T (dA d) (dE d)).length = dE d - dA d := slc_len (Nat.le_of_lt gd.1) gd.2.1
        refine ⟨(nn 1123 _ (by decide) (by decide) rfl).trans own0, ⟨600 * s + n, (nn 1124 _ (by decide) (by decide) rfl).trans own1, by rw [hsl]; exact (nn 1125 _ (by decide) (by decide) rfl).trans own2, by omega, by rw [hsl]; omega, NMs_keep ownN (fun i2 hi2 => ?_)⟩, (nn 1126 _ (by decide) (by decide) rfl).trans own3⟩
        rw [hsl] at hi2
        exact (t2 1127 _ (by rintro (z | z | z) <;> omega)).1
      · have hh : 600 * s + (n + (dE d - dA d)) + rmQ D 3 (f + 1) = 600 * s + n + rmQ D 3 f := by omega
        rw [← hh]
        exact t4 i' d' h1 h2 (by omega)
theorem N_keep2 {U s : Nat} {T : List Nat} {Ws : List Wd} {D : List Dc} {σ0 : SG} {K : SG → Option SG} (hU : 4000 < U) (hs : s < 2) (hTl : T.length ≤ 700) (hN : GNs T D) (hl : D.length < 180) (hlim : cnt D 2 ≤ 60) (hM : RK σ0 T Ws D) (hF : ∀ (i : Nat) (d : Dc), D[i]? = some d → dK d = 2 → okN (dN d).2 = true ∧ (dN d).1 = false ∧ dP d ≤ 2 ∧ dT d ≤ 13) : ∀ (j f U1 n : Nat) (σ : SG), f + j = cnt D 2 → j < U1 → KB σ0 σ T → sI σ 1101 31 = nI (600 * s + n) → n + rmQ D 2 f ≤ 600 →
    ∃ τ, x_X12_keep_L205 U 1101 K (nI s) U1 (nI f) σ = K τ ∧ fP (QL 1114 1122 (60 * s + f) (60 * s + 60) (600 * s + n) (600 * s + 600)) σ τ ∧ sI τ 1101 31 = nI (600 * s + n + rmQ D 2 f) ∧ ∀ (i : Nat) (d : Dc), D[i]? = some d → dK d = 2 → f ≤ cnt (D.take i) 2 → sI τ 1114 (60 * s + cnt (D.take i) 2) = oq D 0 (dS d) ∧ NMb τ (600 * s) (600 * s + n + rmQ D 2 f) 1115 (60 * s + cnt (D.take i) 2) (slc T (dA d) (dE d)) ∧ sI τ 1117 (60 * s + cnt (D.take i) 2) = nI (dN d).2 ∧ sI τ 1118 (60 * s + cnt (D.take i) 2) = nI (dTy (lkR T D) T Ws D d) ∧ sI τ 1119 (60 * s + cnt (D.take i) 2) = refI D (dTg (lkR T D) T Ws D d) ∧ sI τ 1120 (60 * s + cnt (D.take i) 2) = zI (dR d) ∧ sI τ 1121 (60 * s + cnt (D.take i) 2) = zI (dPa (lkR T D) T Ws D d) ∧ sI τ 1122 (60 * s + cnt (D.take i) 2) = oq D 4 (dO d) := by
  have hcl := cnt_le D 2
  intro j
  induction j with
  | zero =>
    intro f U1 n σ hf hu hB h31 hn
    obtain ⟨V, rfl⟩ : ∃ V, U1 = V + 1 := ⟨U1 - 1, by omega⟩
    have h32 : sI σ 1101 34 = nI (cnt D 2) := (hB.2.1 34 (by decide) (by decide)).trans (hM.1 2 (by decide))
    rw [x_X12_keep_L205, h32, if_neg (fun q => by have := (ltI (by omega) (by omega)).mp q; omega)]
    have h0 : rmQ D 2 f = 0 := by unfold rmQ; rw [List.drop_eq_nil_of_le (by rw [FQ_len]; omega)]; try rfl
    exact ⟨σ, rfl, fP_refl _ _, by rw [h0]; exact h31, fun i d h1 h2 h3 => by have := cnt_take_lt h1 h2; omega⟩
  | succ j ih =>
    intro f U1 n σ hf hu hB h31 hn
    obtain ⟨V, rfl⟩ : ∃ V, U1 = V + 1 := ⟨U1 - 1, by omega⟩
    have h32 : sI σ 1101 34 = nI (cnt D 2) := (hB.2.1 34 (by decide) (by decide)).trans (hM.1 2 (by decide))
    obtain ⟨i, d, hd, hk, hi⟩ := plc (D := D) (q := 2) f (by omega)
    have row := (hM.2 i d hd).2.2.1 hk
    have gd := hN i d hd
    have hrm := rmQ_step hd hk
    rw [hi] at row hrm
    obtain ⟨fN1, fN2, fN3, fN4⟩ := hF i d hd hk
    have eN : sL σ0 1137 f = lN (dN d).2 := by
      obtain ⟨w, w1, w2, w3⟩ := NR_of row.2.2.2.1 fN2
      have := of_decide_eq_true fN1
      rw [w3]
      have ew : w = (dN d).2 := by unfold NV at w2; omega
      rw [ew]
    have e0 : sI σ 1134 f = oq D 0 (dS d) := ((hB.1 1134 (by decide) (by decide) f).1).trans row.1.1
    have B1 : KB σ0 (uI σ 1114 (60 * s + f) (oq D 0 (dS d))) T := KB_u hB (by decide) (by decide)
    have e1 : sI (uI σ 1114 (60 * s + f) (oq D 0 (dS d))) 1135 f = nI (dA d) := ((B1.1 1135 (by decide) (by decide) f).1).trans row.1.2.1
    have e2 : sI (uI σ 1114 (60 * s + f) (oq D 0 (dS d))) 1136 f = nI (dE d - dA d) := ((B1.1 1136 (by decide) (by decide) f).1).trans row.1.2.2
    have e31 : sI (uI σ 1114 (60 * s + f) (oq D 0 (dS d))) 1101 31 = nI (600 * s + n) := by rw [sI_o (Or.inl (by decide))]; exact h31
    obtain ⟨υ, u1, u2, u3, u4⟩ := N_keepName (U := U) (a := dA d) (e := dE d) hU hTl (Nat.le_of_lt gd.1) gd.2.1 (by omega) B1.2.2 e31
    have B2 : KB σ0 υ T := KB_f B1 u2 (fun b k z => by omega)
    have e3 : sI (uI υ 1115 (60 * s + f) (nI (600 * s + n))) 1136 f = nI (dE d - dA d) := ((KB_u (j := 60 * s + f) (v := nI (600 * s + n)) B2 (show 1103 ≤ 1115 by decide) (by decide)).1 1136 (by decide) (by decide) f).1.trans row.1.2.2
    have g39 : sI (uI (uI (uI υ 1115 (60 * s + f) (nI (600 * s + n))) 1116 (60 * s + f) (nI (dE d - dA d))) 1117 (60 * s + f) (nI (dN d).2)) 1139 f = nI (dTy (lkR T D) T Ws D d) := by
      rw [sI_o (Or.inl (by decide)), sI_o (Or.inl (by decide)), sI_o (Or.inl (by decide))]
      exact ((B2.1 1139 (by decide) (by decide) f).1).trans row.2.2.2.2.2.1
    have g41 : sI (uI (uI (uI (uI υ 1115 (60 * s + f) (nI (600 * s + n))) 1116 (60 * s + f) (nI (dE d - dA d))) 1117 (60 * s + f) (nI (dN d).2)) 1118 (60 * s + f) (nI (dTy (lkR T D) T Ws D d))) 1141 f = refI D (dTg (lkR T D) T Ws D d) := by
      rw [sI_o (Or.inl (by decide)), sI_o (Or.inl (by decide)), sI_o (Or.inl (by decide)), sI_o (Or.inl (by decide))]
      exact ((B2.1 1141 (by decide) (by decide) f).1).trans row.2.2.2.2.2.2
    have g45 : sI (uI (uI (uI (uI (uI υ 1115 (60 * s + f) (nI (600 * s + n))) 1116 (60 * s + f) (nI (dE d - dA d))) 1117 (60 * s + f) (nI (dN d).2)) 1118 (60 * s + f) (nI (dTy (lkR T D) T Ws D d))) 1119 (60 * s + f) (refI D (dTg (lkR T D) T Ws D d))) 1145 f = zI (dR d) := by
      rw [sI_o (Or.inl (by decide)), sI_o (Or.inl (by decide)), sI_o (Or.inl (by decide)), sI_o (Or.inl (by decide)), sI_o (Or.inl (by decide))]
      exact ((B2.1 1145 (by decide) (by decide) f).1).trans row.2.2.1
    have h45 : sI (uI (uI (uI (uI (uI (uI υ 1115 (60 * s + f) (nI (600 * s + n))) 1116 (60 * s + f) (nI (dE d - dA d))) 1117 (60 * s + f) (nI (dN d).2)) 1118 (60 * s + f) (nI (dTy (lkR T D) T Ws D d))) 1119 (60 * s + f) (refI D (dTg (lkR T D) T Ws D d))) 1120 (60 * s + f) (zI (dR d))) 1145 f = zI (dR d) := by
      rw [sI_o (Or.inl (by decide)), sI_o (Or.inl (by decide)), sI_o (Or.inl (by decide)), sI_o (Or.inl (by decide)), sI_o (Or.inl (by decide)), sI_o (Or.inl (by decide))]
      exact ((B2.1 1145 (by decide) (by decide) f).1).trans row.2.2.1
    have h39 : sI (uI (uI (uI (uI (uI (uI υ 1115 (60 * s + f) (nI (600 * s + n))) 1116 (60 * s + f) (nI (dE d - dA d))) 1117 (60 * s + f) (nI (dN d).2)) 1118 (60 * s + f) (nI (dTy (lkR T D) T Ws D d))) 1119 (60 * s + f) (refI D (dTg (lkR T D) T Ws D d))) 1120 (60 * s + f) (zI (dR d))) 1139 f = nI (dTy (lkR T D) T Ws D d) := by
      rw [sI_o (Or.inl (by decide)), sI_o (Or.inl (by decide)), sI_o (Or.inl (by decide)), sI_o (Or.inl (by decide)), sI_o (Or.inl (by decide)), sI_o (Or.inl (by decide))]
      exact ((B2.1 1139 (by decide) (by decide) f).1).trans row.2.2.2.2.2.1
    have h46 : sI (uI (uI (uI (uI (uI (uI υ 1115 (60 * s + f) (nI (600 * s + n))) 1116 (60 * s + f) (nI (dE d - dA d))) 1117 (60 * s + f) (nI (dN d).2)) 1118 (60 * s + f) (nI (dTy (lkR T D) T Ws D d))) 1119 (60 * s + f) (refI D (dTg (lkR T D) T Ws D d))) 1120 (60 * s + f) (zI (dR d))) 1146 f = nI (dP d) := by
      rw [sI_o (Or.inl (by decide)), sI_o (Or.inl (by decide)), sI_o (Or.inl (by decide)), sI_o (Or.inl (by decide)), sI_o (Or.inl (by decide)), sI_o (Or.inl (by decide))]
      exact ((B2.1 1146 (by decide) (by decide) f).1).trans row.2.2.2.2.1
    have h48 : sI (uI (uI (uI (uI (uI (uI (uI υ 1115 (60 * s + f) (nI (600 * s + n))) 1116 (60 * s + f) (nI (dE d - dA d))) 1117 (60 * s + f) (nI (dN d).2)) 1118 (60 * s + f) (nI (dTy (lkR T D) T Ws D d))) 1119 (60 * s + f) (refI D (dTg (lkR T D) T Ws D d))) 1120 (60 * s + f) (zI (dR d))) 1121 (60 * s + f) (zI (dPa (lkR T D) T Ws D d))) 1148 f = oq D 4 (dO d) := by
      rw [sI_o (Or.inl (by decide)), sI_o (Or.inl (by decide)), sI_o (Or.inl (by decide)), sI_o (Or.inl (by decide)), sI_o (Or.inl (by decide)), sI_o (Or.inl (by decide)), sI_o (Or.inl (by decide))]
      exact ((B2.1 1148 (by decide) (by decide) f).1).trans row.2.1
    have eL : Int64.toInt32 (sL (uI (uI υ 1115 (60 * s + f) (nI (600 * s + n))) 1116 (60 * s + f) (nI (dE d - dA d))) 1137 f) = nI (dN d).2 := by
      rw [sL_uI, sL_uI, ((B2.1 1137 (by decide) (by decide) f).2.1).trans eN, lN_i]
    rw [x_X12_keep_L205, h32, if_pos ((ltI (by omega) (by omega)).mpr (by omega)), ix_in (by omega) (by decide), show (60 : Int32) = nI 60 from rfl, pk_mul, nI_add, ix_in (by omega) (by decide), sb_eq, e0, ix_in (by omega) (by decide), ix_in (by omega) (by decide), e1, e2, u1, b2_eq, ix_in (by omega) (by decide), sb_eq, ix_in (by omega) (by decide), ix_in (by omega) (by decide), sb_eq, e3, ix_in (by omega) (by decide), ix_in (by omega) (by decide), sb_eq, eL, ix_in (by omega) (by decide), ix_in (by omega) (by decide), sb_eq, g39, ix_in (by omega) (by decide), ix_in (by omega) (by decide), sb_eq, g41, ix_in (by omega) (by decide), ix_in (by omega) (by decide), sb_eq, g45, nar01, ix_in (by omega) (by decide), h45, ifz, ix_in (by omega) (by decide), h39, N_isNumbers (dTy_lt fN4), b1_eq, ifz, ix_in (by omega) (by decide), h46]
    have fin9 : ∀ (b : Bool), b = dPa (lkR T D) T Ws D d → x_X12_keep_356 U 1101 (x_X12_keep_L205 U 1101 K (nI s) V) K (nI s) (nI f) (nI (60 * s + f)) (zI b) (nI (60 * s + f)) (uI (uI (uI (uI (uI (uI υ 1115 (60 * s + f) (nI (600 * s + n))) 1116 (60 * s + f) (nI (dE d - dA d))) 1117 (60 * s + f) (nI (dN d).2)) 1118 (60 * s + f) (nI (dTy (lkR T D) T Ws D d))) 1119 (60 * s + f) (refI D (dTg (lkR T D) T Ws D d))) 1120 (60 * s + f) (zI (dR d))) = x_X12_keep_L205 U 1101 K (nI s) V (nI (f + 1)) (uI (uI (uI (uI (uI (uI (uI (uI υ 1115 (60 * s + f) (nI (600 * s + n))) 1116 (60 * s + f) (nI (dE d - dA d))) 1117 (60 * s + f) (nI (dN d).2)) 1118 (60 * s + f) (nI (dTy (lkR T D) T Ws D d))) 1119 (60 * s + f) (refI D (dTg (lkR T D) T Ws D d))) 1120 (60 * s + f) (zI (dR d))) 1121 (60 * s + f) (zI (dPa (lkR T D) T Ws D d))) 1122 (60 * s + f) (oq D 4 (dO d))) := by
      intro b hb
      unfold x_X12_keep_356
      rw [ix_in (by omega) (by decide), nar01, hb, sb_eq, ix_in (by omega) (by decide), ix_in (by omega) (by decide), sb_eq, h48, nI_1]
    have br : (if dR d then (if nmr (dTy (lkR T D) T Ws D d) then (if nI (dP d) = 2 then x_X12_keep_355 U 1101 (x_X12_keep_L205 U 1101 K (nI s) V) K (nI s) (nI f) (nI (60 * s + f)) (nI (60 * s + f)) (uI (uI (uI (uI (uI (uI υ 1115 (60 * s + f) (nI (600 * s + n))) 1116 (60 * s + f) (nI (dE d - dA d))) 1117 (60 * s + f) (nI (dN d).2)) 1118 (60 * s + f) (nI (dTy (lkR T D) T Ws D d))) 1119 (60 * s + f) (refI D (dTg (lkR T D) T Ws D d))) 1120 (60 * s + f) (zI (dR d))) else x_X12_keep_356 U 1101 (x_X12_keep_L205 U 1101 K (nI s) V) K (nI s) (nI f) (nI (60 * s + f)) 1 (nI (60 * s + f)) (uI (uI (uI (uI (uI (uI υ 1115 (60 * s + f) (nI (600 * s + n))) 1116 (60 * s + f) (nI (dE d - dA d))) 1117 (60 * s + f) (nI (dN d).2)) 1118 (60 * s + f) (nI (dTy (lkR T D) T Ws D d))) 1119 (60 * s + f) (refI D (dTg (lkR T D) T Ws D d))) 1120 (60 * s + f) (zI (dR d)))) else x_X12_keep_355 U 1101 (x_X12_keep_L205 U 1101 K (nI s) V) K (nI s) (nI f) (nI (60 * s + f)) (nI (60 * s + f)) (uI (uI (uI (uI (uI (uI υ 1115 (60 * s + f) (nI (600 * s + n))) 1116 (60 * s + f) (nI (dE d - dA d))) 1117 (60 * s + f) (nI (dN d).2)) 1118 (60 * s + f) (nI (dTy (lkR T D) T Ws D d))) 1119 (60 * s + f) (refI D (dTg (lkR T D) T Ws D d))) 1120 (60 * s + f) (zI (dR d)))) else x_X12_keep_355 U 1101 (x_X12_keep_L205 U 1101 K (nI s) V) K (nI s) (nI f) (nI (60 * s + f)) (nI (60 * s + f)) (uI (uI (uI (uI (uI (uI υ 1115 (60 * s + f) (nI (600 * s + n))) 1116 (60 * s + f) (nI (dE d - dA d))) 1117 (60 * s + f) (nI (dN d).2)) 1118 (60 * s + f) (nI (dTy (lkR T D) T Ws D d))) 1119 (60 * s + f) (refI D (dTg (lkR T D) T Ws D d))) 1120 (60 * s + f) (zI (dR d)))) = x_X12_keep_L205 U 1101 K (nI s) V (nI (f + 1)) (uI (uI (uI (uI (uI (uI (uI (uI υ 1115 (60 * s + f) (nI (600 * s + n))) 1116 (60 * s + f) (nI (dE d - dA d))) 1117 (60 * s + f) (nI (dN d).2)) 1118 (60 * s + f) (nI (dTy (lkR T D) T Ws D d))) 1119 (60 * s + f) (refI D (dTg (lkR T D) T Ws D d))) 1120 (60 * s + f) (zI (dR d))) 1121 (60 * s + f) (zI (dPa (lkR T D) T Ws D d))) 1122 (60 * s + f) (oq D 4 (dO d))) := by
      unfold x_X12_keep_355
      by_cases hR : dR d = true
      · rw [if_pos hR]
        by_cases hn : nmr (dTy (lkR T D) T Ws D d) = true
        · rw [if_pos hn]
          by_cases q2 : dP d = 2
          · rw [if_pos (show nI (dP d) = 2 by rw [q2]; rfl)]; exact fin9 false (by unfold dPa; rw [hR, hn, decide_eq_false (fun z => z q2)]; rfl)
          · rw [if_neg (show ¬ nI (dP d) = 2 from fun z => q2 ((nI_eq (b := 2) (by omega) (by decide)).mp z))]; exact fin9 true (by unfold dPa; rw [hR, hn, decide_eq_true q2, decide_eq_true hk]; rfl)
        · rw [if_neg hn]; exact fin9 false (by unfold dPa; rw [Bool.eq_false_iff.mpr hn, Bool.and_false]; rfl)
      · rw [if_neg hR]; exact fin9 false (by unfold dPa; rw [Bool.eq_false_iff.mpr hR]; rfl)
    rw [br]
    have FF : fP (fun b k => (b = 1101 ∧ k = 31) ∨ (1114 ≤ b ∧ b ≤ 1122 ∧ k = 60 * s + f) ∨ (b = 1127 ∧ 600 * s + n ≤ k ∧ k < 600 * s + n + (dE d - dA d))) σ (uI (uI (uI (uI (uI (uI (uI (uI υ 1115 (60 * s + f) (nI (600 * s + n))) 1116 (60 * s + f) (nI (dE d - dA d))) 1117 (60 * s + f) (nI (dN d).2)) 1118 (60 * s + f) (nI (dTy (lkR T D) T Ws D d))) 1119 (60 * s + f) (refI D (dTg (lkR T D) T Ws D d))) 1120 (60 * s + f) (zI (dR d))) 1121 (60 * s + f) (zI (dPa (lkR T D) T Ws D d))) 1122 (60 * s + f) (oq D 4 (dO d))) := by
      exact fP_trans (fP_u (Or.inr (Or.inl ⟨by decide, by decide, rfl⟩))) (fP_trans (fP_mono u2 (fun b k z => by omega)) (fP_trans (fP_trans (fP_trans (fP_trans (fP_trans (fP_trans (fP_trans (fP_u (Or.inr (Or.inl ⟨by decide, by decide, rfl⟩))) (fP_u (Or.inr (Or.inl ⟨by decide, by decide, rfl⟩)))) (fP_u (Or.inr (Or.inl ⟨by decide, by decide, rfl⟩)))) (fP_u (Or.inr (Or.inl ⟨by decide, by decide, rfl⟩)))) (fP_u (Or.inr (Or.inl ⟨by decide, by decide, rfl⟩)))) (fP_u (Or.inr (Or.inl ⟨by decide, by decide, rfl⟩)))) (fP_u (Or.inr (Or.inl ⟨by decide, by decide, rfl⟩)))) (fP_u (Or.inr (Or.inl ⟨by decide, by decide, rfl⟩)))))
    have B4 : KB σ0 (uI (uI (uI (uI (uI (uI (uI (uI υ 1115 (60 * s + f) (nI (600 * s + n))) 1116 (60 * s + f) (nI (dE d - dA d))) 1117 (60 * s + f) (nI (dN d).2)) 1118 (60 * s + f) (nI (dTy (lkR T D) T Ws D d))) 1119 (60 * s + f) (refI D (dTg (lkR T D) T Ws D d))) 1120 (60 * s + f) (zI (dR d))) 1121 (60 * s + f) (zI (dPa (lkR T D) T Ws D d))) 1122 (60 * s + f) (oq D 4 (dO d))) T := KB_f hB FF (fun b k z => by omega)
    have f31 : sI (uI (uI (uI (uI (uI (uI (uI (uI υ 1115 (60 * s + f) (nI (600 * s + n))) 1116 (60 * s + f) (nI (dE d - dA d))) 1117 (60 * s + f) (nI (dN d).2)) 1118 (60 * s + f) (nI (dTy (lkR T D) T Ws D d))) 1119 (60 * s + f) (refI D (dTg (lkR T D) T Ws D d))) 1120 (60 * s + f) (zI (dR d))) 1121 (60 * s + f) (zI (dPa (lkR T D) T Ws D d))) 1122 (60 * s + f) (oq D 4 (dO d))) 1101 31 = nI (600 * s + (n + (dE d - dA d))) := by
      rw [sI_o (Or.inl (by decide)), sI_o (Or.inl (by decide)), sI_o (Or.inl (by decide)), sI_o (Or.inl (by decide)), sI_o (Or.inl (by decide)), sI_o (Or.inl (by decide)), sI_o (Or.inl (by decide)), sI_o (Or.inl (by decide))]
      rw [u3]; congr 1; omega
    have own0 : sI (uI (uI (uI (uI (uI (uI (uI (uI υ 1115 (60 * s + f) (nI (600 * s + n))) 1116 (60 * s + f) (nI (dE d - dA d))) 1117 (60 * s + f) (nI (dN d).2)) 1118 (60 * s + f) (nI (dTy (lkR T D) T Ws D d))) 1119 (60 * s + f) (refI D (dTg (lkR T D) T Ws D d))) 1120 (60 * s + f) (zI (dR d))) 1121 (60 * s + f) (zI (dPa (lkR T D) T Ws D d))) 1122 (60 * s + f) (oq D 4 (dO d))) 1114 (60 * s + f) = oq D 0 (dS d) := by
      rw [sI_o (Or.inl (by decide)), sI_o (Or.inl (by decide)), sI_o (Or.inl (by decide)), sI_o (Or.inl (by decide)), sI_o (Or.inl (by decide)), sI_o (Or.inl (by decide)), sI_o (Or.inl (by decide)), sI_o (Or.inl (by decide))]
      rw [(u2 1114 (60 * s + f) (by omega)).1, sI_s]
    have own1 : sI (uI (uI (uI (uI (uI (uI (uI (uI υ 1115 (60 * s + f) (nI (600 * s + n))) 1116 (60 * s + f) (nI (dE d - dA d))) 1117 (60 * s + f) (nI (dN d).2)) 1118 (60 * s + f) (nI (dTy (lkR T D) T Ws D d))) 1119 (60 * s + f) (refI D (dTg (lkR T D) T Ws D d))) 1120 (60 * s + f) (zI (dR d))) 1121 (60 * s + f) (zI (dPa (lkR T D) T Ws D d))) 1122 (60 * s + f) (oq D 4 (dO d))) 1115 (60 * s + f) = nI (600 * s + n) := by
      rw [sI_o (Or.inl (by decide)), sI_o (Or.inl (by decide)), sI_o (Or.inl (by decide)), sI_o (Or.inl (by decide)), sI_o (Or.inl (by decide)), sI_o (Or.inl (by decide)), sI_o (Or.inl (by decide))]
      rw [sI_s]
    have own2 : sI (uI (uI (uI (uI (uI (uI (uI (uI υ 1115 (60 * s + f) (nI (600 * s + n))) 1116 (60 * s + f) (nI (dE d - dA d))) 1117 (60 * s + f) (nI (dN d).2)) 1118 (60 * s + f) (nI (dTy (lkR T D) T Ws D d))) 1119 (60 * s + f) (refI D (dTg (lkR T D) T Ws D d))) 1120 (60 * s + f) (zI (dR d))) 1121 (60 * s + f) (zI (dPa (lkR T D) T Ws D d))) 1122 (60 * s + f) (oq D 4 (dO d))) 1116 (60 * s + f) = nI (dE d - dA d) := by
      rw [sI_o (Or.inl (by decide)), sI_o (Or.inl (by decide)), sI_o (Or.inl (by decide)), sI_o (Or.inl (by decide)), sI_o (Or.inl (by decide)), sI_o (Or.inl (by decide))]
      rw [sI_s]
    have ownN : NMs (uI (uI (uI (uI (uI (uI (uI (uI υ 1115 (60 * s + f) (nI (600 * s + n))) 1116 (60 * s + f) (nI (dE d - dA d))) 1117 (60 * s + f) (nI (dN d).2)) 1118 (60 * s + f) (nI (dTy (lkR T D) T Ws D d))) 1119 (60 * s + f) (refI D (dTg (lkR T D) T Ws D d))) 1120 (60 * s + f) (zI (dR d))) 1121 (60 * s + f) (zI (dPa (lkR T D) T Ws D d))) 1122 (60 * s + f) (oq D 4 (dO d))) (600 * s + n) (slc T (dA d) (dE d)) := NMs_keep u4 (fun i' _ => by
      rw [sI_o (Or.inl (by decide)), sI_o (Or.inl (by decide)), sI_o (Or.inl (by decide)), sI_o (Or.inl (by decide)), sI_o (Or.inl (by decide)), sI_o (Or.inl (by decide)), sI_o (Or.inl (by decide)), sI_o (Or.inl (by decide))])
    have own1117 : sI (uI (uI (uI (uI (uI (uI (uI (uI υ 1115 (60 * s + f) (nI (600 * s + n))) 1116 (60 * s + f) (nI (dE d - dA d))) 1117 (60 * s + f) (nI (dN d).2)) 1118 (60 * s + f) (nI (dTy (lkR T D) T Ws D d))) 1119 (60 * s + f) (refI D (dTg (lkR T D) T Ws D d))) 1120 (60 * s + f) (zI (dR d))) 1121 (60 * s + f) (zI (dPa (lkR T D) T Ws D d))) 1122 (60 * s + f) (oq D 4 (dO d))) 1117 (60 * s + f) = nI (dN d).2 := by
      rw [sI_o (Or.inl (by decide)), sI_o (Or.inl (by decide)), sI_o (Or.inl (by decide)), sI_o (Or.inl (by decide)), sI_o (Or.inl (by decide))]
      rw [sI_s]
    have own1118 : sI (uI (uI (uI (uI (uI (uI (uI (uI υ 1115 (60 * s + f) (nI (600 * s + n))) 1116 (60 * s + f) (nI (dE d - dA d))) 1117 (60 * s + f) (nI (dN d).2)) 1118 (60 * s + f) (nI (dTy (lkR T D) T Ws D d))) 1119 (60 * s + f) (refI D (dTg (lkR T D) T Ws D d))) 1120 (60 * s + f) (zI (dR d))) 1121 (60 * s + f) (zI (dPa (lkR T D) T Ws D d))) 1122 (60 * s + f) (oq D 4 (dO d))) 1118 (60 * s + f) = nI (dTy (lkR T D) T Ws D d) := by
      rw [sI_o (Or.inl (by decide)), sI_o (Or.inl (by decide)), sI_o (Or.inl (by decide)), sI_o (Or.inl (by decide))]
      rw [sI_s]
    have own1119 : sI (uI (uI (uI (uI (uI (uI (uI (uI υ 1115 (60 * s + f) (nI (600 * s + n))) 1116 (60 * s + f) (nI (dE d - dA d))) 1117 (60 * s + f) (nI (dN d).2)) 1118 (60 * s + f) (nI (dTy (lkR T D) T Ws D d))) 1119 (60 * s + f) (refI D (dTg (lkR T D) T Ws D d))) 1120 (60 * s + f) (zI (dR d))) 1121 (60 * s + f) (zI (dPa (lkR T D) T Ws D d))) 1122 (60 * s + f) (oq D 4 (dO d))) 1119 (60 * s + f) = refI D (dTg (lkR T D) T Ws D d) := by
      rw [sI_o (Or.inl (by decide)), sI_o (Or.inl (by decide)), sI_o (Or.inl (by decide))]
      rw [sI_s]
    have own1120 : sI (uI (uI (uI (uI (uI (uI (uI (uI υ 1115 (60 * s + f) (nI (600 * s + n))) 1116 (60 * s + f) (nI (dE d - dA d))) 1117 (60 * s + f) (nI (dN d).2)) 1118 (60 * s + f) (nI (dTy (lkR T D) T Ws D d))) 1119 (60 * s + f) (refI D (dTg (lkR T D) T Ws D d))) 1120 (60 * s + f) (zI (dR d))) 1121 (60 * s + f) (zI (dPa (lkR T D) T Ws D d))) 1122 (60 * s + f) (oq D 4 (dO d))) 1120 (60 * s + f) = zI (dR d) := by
      rw [sI_o (Or.inl (by decide)), sI_o (Or.inl (by decide))]
      rw [sI_s]
    have own1121 : sI (uI (uI (uI (uI (uI (uI (uI (uI υ 1115 (60 * s + f) (nI (600 * s + n))) 1116 (60 * s + f) (nI (dE d - dA d))) 1117 (60 * s + f) (nI (dN d).2)) 1118 (60 * s + f) (nI (dTy (lkR T D) T Ws D d))) 1119 (60 * s + f) (refI D (dTg (lkR T D) T Ws D d))) 1120 (60 * s + f) (zI (dR d))) 1121 (60 * s + f) (zI (dPa (lkR T D) T Ws D d))) 1122 (60 * s + f) (oq D 4 (dO d))) 1121 (60 * s + f) = zI (dPa (lkR T D) T Ws D d) := by
      rw [sI_o (Or.inl (by decide))]
      rw [sI_s]
    have own1122 : sI (uI (uI (uI (uI (uI (uI (uI (uI υ 1115 (60 * s + f) (nI (600 * s + n))) 1116 (60 * s + f) (nI (dE d - dA d))) 1117 (60 * s + f) (nI (dN d).2)) 1118 (60 * s + f) (nI (dTy (lkR T D) T Ws D d))) 1119 (60 * s + f) (refI D (dTg (lkR T D) T Ws D d))) 1120 (60 * s + f) (zI (dR d))) 1121 (60 * s + f) (zI (dPa (lkR T D) T Ws D d))) 1122 (60 * s + f) (oq D 4 (dO d))) 1122 (60 * s + f) = oq D 4 (dO d) := by
      skip
      rw [sI_s]
    generalize (uI (uI (uI (uI (uI (uI (uI (uI υ 1115 (60 * s + f) (nI (600 * s + n))) 1116 (60 * s + f) (nI (dE d - dA d))) 1117 (60 * s + f) (nI (dN d).2)) 1118 (60 * s + f) (nI (dTy (lkR T D) T Ws D d))) 1119 (60 * s + f) (refI D (dTg (lkR T D) T Ws D d))) 1120 (60 * s + f) (zI (dR d))) 1121 (60 * s + f) (zI (dPa (lkR T D) T Ws D d))) 1122 (60 * s + f) (oq D 4 (dO d))) = ω at *
    obtain ⟨τ, t1, t2, t3, t4⟩ := ih (f + 1) V (n + (dE d - dA d)) ω (by omega) (by omega) B4 f31 (by omega)
    have nn : ∀ b k, b ≠ 1101 → b ≠ 1127 → k = 60 * s + f → sI τ b k = sI ω b k := fun b k h1 h2 h3 => (t2 b k (by rintro (z | z | z) <;> omega)).1
    refine ⟨τ, t1, fP_trans (fP_mono FF (fun b k z => ?_)) (QL_mono t2 (by omega) (by omega)), ?_, fun i' d' h1 h2 h3 => ?_⟩
    · rcases z with z | z | z
      · exact Or.inl z
      · exact Or.inr (Or.inl (by omega))
      · exact Or.inr (Or.inr (by omega))
    · rw [t3, hrm]; congr 1; omega
    · by_cases q : cnt (D.take i') 2 = f
      · have := ord_inj h1 h2 hd hk (by omega)
        subst this
        rw [hd] at h1
        cases h1
        rw [hi]
        have hsl : (slc T (dA d) (dE d)).length = dE d - dA d := slc_len (Nat.le_of_lt gd.1) gd.2.1
        refine ⟨(nn 1114 _ (by decide) (by decide) rfl).trans own0, ⟨600 * s + n, (nn 1115 _ (by decide) (by decide) rfl).trans own1, by rw [hsl]; exact (nn 1116 _ (by decide) (by decide) rfl).trans own2, by omega, by rw [hsl]; omega, NMs_keep ownN (fun i2 hi2 => ?_)⟩, (nn 1117 _ (by decide) (by decide) rfl).trans own1117, (nn 1118 _ (by decide) (by decide) rfl).trans own1118, (nn 1119 _ (by decide) (by decide) rfl).trans own1119, (nn 1120 _ (by decide) (by decide) rfl).trans own1120, (nn 1121 _ (by decide) (by decide) rfl).trans own1121, (nn 1122 _ (by decide) (by decide) rfl).trans own1122⟩
        rw [hsl] at hi2
        exact (t2 1127 _ (by rintro (z | z | z) <;> omega)).1
      · have hh : 600 * s + (n + (dE d - dA d)) + rmQ D 2 (f + 1) = 600 * s + n + rmQ D 2 f := by omega
        rw [← hh]
        exact t4 i' d' h1 h2 (by omega)
