/-! ===== chains of the class's items ===== -/
/-- a chain of items, from a pointer on -/
def LK (σ : SG) (c : Nat) : List Nat → Option Nat → Prop
  | [], p => p = none
  | i :: L, p => p = some (c + 5 + i) ∧ LK σ c L (sP σ (c + 5 + i) 16)
theorem LK_keep {σ τ : SG} {c : Nat} : ∀ (L : List Nat) (p : Option Nat), LK σ c L p → (∀ i ∈ L, sP τ (c + 5 + i) 16 = sP σ (c + 5 + i) 16) → LK τ c L p := by
  intro L
  induction L with
  | nil => intro p h _; exact h
  | cons i L ih =>
    intro p h hk
    refine ⟨h.1, ?_⟩
    rw [hk i (List.mem_cons_self ..)]
    exact ih _ h.2 (fun j hj => hk j (List.mem_cons_of_mem _ hj))
/-- what stands behind the last of a first piece -/
theorem LK_mid {σ : SG} {c b : Nat} {B : List Nat} : ∀ (A : List Nat) (p : Option Nat), LK σ c (A ++ b :: B) p → LK σ c B (sP σ (c + 5 + b) 16) := by
  intro A
  induction A with
  | nil => intro p h; exact h.2
  | cons a A ih => intro p h; exact ih _ h.2
theorem LK_put {σ τ : SG} {c b k : Nat} {B : List Nat} (hb : sP τ (c + 5 + b) 16 = some (c + 5 + k)) (hk : LK τ c B (sP τ (c + 5 + k) 16)) : ∀ (A : List Nat) (p : Option Nat), LK σ c (A ++ b :: B) p → (∀ i ∈ A, sP τ (c + 5 + i) 16 = sP σ (c + 5 + i) 16) → LK τ c (A ++ b :: k :: B) p := by
  intro A
  induction A with
  | nil => intro p h _; exact ⟨h.1, hb, hk⟩
  | cons a A ih =>
    intro p h ha
    refine ⟨h.1, ?_⟩
    rw [ha a (List.mem_cons_self ..)]
    exact ih _ h.2 (fun i hi => ha i (List.mem_cons_of_mem _ hi))
theorem ne2 {b a j k : Nat} (h : ¬ (b = a ∧ j = k)) : b ≠ a ∨ j ≠ k := by omega
/-- a declaration's number -/
def nLi (D : List Dc) (i : Nat) : Int64 := match D[i]? with
  | some d => nL (dN d)
  | none => 0
theorem nLi_some {D : List Dc} {i : Nat} {d : Dc} (h : D[i]? = some d) : nLi D i = nL (dN d) := by unfold nLi; rw [h]
theorem JS.num {σ : SG} {c i : Nat} {D : List Dc} (h : JS σ c D) (hi : i < D.length) : sL σ (c + 5 + i) 6 = nLi D i := by
  have hd := List.getElem?_eq_getElem hi
  rw [nLi_some hd]
  exact (h.2.2 i _ hd).2.2.2.2.2.2.1
theorem X3_memberNumbered_L {U c a : Nat} {σ : SG} {D : List Dc} {v : Int64} (hcb : cb c) (hJ : JS σ c D) : ∀ (L : List Nat) (p : Option Nat) (U1 : Nat), LK σ c L p → (∀ i ∈ L, i < D.length) → L.length < U1 →
    x_X3_memberNumbered_L5 U a v σ U1 p = some (ad c (L.find? (fun i => decide (nLi D i = v)))) := by
  have hl := hJ.2.1
  intro L
  induction L with
  | nil =>
    intro p U1 h _ hu
    obtain ⟨V, rfl⟩ : ∃ V, U1 = V + 1 := ⟨U1 - 1, by simp at hu; omega⟩
    rw [x_X3_memberNumbered_L5, show p = none from h, if_pos rfl]; rfl
  | cons i L ih =>
    intro p U1 h hb hu
    rw [List.length_cons] at hu
    obtain ⟨V, rfl⟩ : ∃ V, U1 = V + 1 := ⟨U1 - 1, by omega⟩
    have hi := hb i (List.mem_cons_self ..)
    obtain ⟨h1, h2⟩ := h
    rw [x_X3_memberNumbered_L5, h1, if_neg (by intro z; cases z), ck_eq (it_sh hcb (by omega)), hJ.num hi, List.find?_cons]
    by_cases q : nLi D i = v
    · rw [if_pos q, decide_eq_true q]; rfl
    · rw [if_neg q, decide_eq_false q]
      exact ih _ V h2 (fun j hj => hb j (List.mem_cons_of_mem _ hj)) (by omega)
theorem X3_memberNumbered {U c a : Nat} {σ : SG} {D : List Dc} {v : Int64} {L : List Nat} (hU : 4000 < U) (hcb : cb c) (hJ : JS σ c D) (h : LK σ c L (sP σ a 15)) (hb : ∀ i ∈ L, i < D.length) (hL : L.length ≤ 200) :
    x_X3_memberNumbered U a v σ = some (ad c (L.find? (fun i => decide (nLi D i = v)))) := by
  unfold x_X3_memberNumbered
  exact X3_memberNumbered_L hcb hJ L _ U h hb (by omega)
/-- the last one before, or what was told -/
def prv (c : Nat) (o : Option Nat) (L : List Nat) : Option Nat := match L.getLast? with
  | none => o
  | some i => some (c + 5 + i)
theorem prv_cons (c : Nat) (o : Option Nat) (i : Nat) (L : List Nat) : prv c o (i :: L) = prv c (some (c + 5 + i)) L := by
  unfold prv
  cases L with
  | nil => rfl
  | cons j L => rw [List.getLast?_cons_cons]; cases e : (j :: L).getLast? with
    | none => simp at e
    | some x => rfl
theorem X3_insert_L {U c a k : Nat} {σ : SG} {D : List Dc} {K : Option Nat → Option SG} (hcb : cb c) (hJ : JS σ c D) (hk : k < D.length) : ∀ (L : List Nat) (o p : Option Nat) (U1 : Nat), LK σ c L p → (∀ i ∈ L, i < D.length) → L.length < U1 →
    x_X3_insert_L7 U a K (some (c + 5 + k)) σ U1 o p = K (prv c o (L.takeWhile (fun i => decide (nLi D i < nLi D k)))) := by
  have hl := hJ.2.1
  intro L
  induction L with
  | nil =>
    intro o p U1 h _ hu
    obtain ⟨V, rfl⟩ : ∃ V, U1 = V + 1 := ⟨U1 - 1, by simp at hu; omega⟩
    rw [x_X3_insert_L7, show p = none from h, if_pos rfl]; rfl
  | cons i L ih =>
    intro o p U1 h hb hu
    rw [List.length_cons] at hu
    obtain ⟨V, rfl⟩ : ∃ V, U1 = V + 1 := ⟨U1 - 1, by omega⟩
    have hi := hb i (List.mem_cons_self ..)
    obtain ⟨h1, h2⟩ := h
    rw [x_X3_insert_L7, h1, if_neg (by intro z; cases z), ck_eq (it_sh hcb (by omega)), ck_eq (it_sh hcb (by omega)), hJ.num hi, hJ.num hk, List.takeWhile_cons]
    by_cases q : nLi D i < nLi D k
    · rw [if_pos q, decide_eq_true q, if_pos rfl, prv_cons]
      exact ih _ _ V h2 (fun j hj => hb j (List.mem_cons_of_mem _ hj)) (by omega)
    · rw [if_neg q, decide_eq_false q, if_neg (by decide)]; rfl
/-- a chain with one more in it, at its number's place -/
def insN (D : List Dc) (k : Nat) (L : List Nat) : List Nat := L.takeWhile (fun i => decide (nLi D i < nLi D k)) ++ k :: L.dropWhile (fun i => decide (nLi D i < nLi D k))
theorem mem_insN {D : List Dc} {k i : Nat} {L : List Nat} : i ∈ insN D k L ↔ i = k ∨ i ∈ L := by
  unfold insN
  have h : i ∈ L ↔ i ∈ L.takeWhile (fun i => decide (nLi D i < nLi D k)) ∨ i ∈ L.dropWhile (fun i => decide (nLi D i < nLi D k)) := by
    conv => lhs; rw [← List.takeWhile_append_dropWhile (p := fun i => decide (nLi D i < nLi D k)) (l := L)]
    exact List.mem_append
  rw [List.mem_append, List.mem_cons, h]
  constructor
  · rintro (z | z | z)
    · exact Or.inr (Or.inl z)
    · exact Or.inl z
    · exact Or.inr (Or.inr z)
  · rintro (z | z | z)
    · exact Or.inr (Or.inl z)
    · exact Or.inl z
    · exact Or.inr (Or.inr z)
theorem len_insN {D : List Dc} {k : Nat} {L : List Nat} : (insN D k L).length = L.length + 1 := by
  unfold insN
  have h := congrArg List.length (List.takeWhile_append_dropWhile (p := fun i => decide (nLi D i < nLi D k)) (l := L))
  rw [List.length_append] at h
  rw [List.length_append, List.length_cons]
  omega
theorem list_last {L : List Nat} : L = [] ∨ ∃ A b, L = A ++ [b] := by
  cases h : L.getLast? with
  | none => exact Or.inl (by simpa using h)
  | some b => exact Or.inr ⟨L.dropLast, b, by
      rcases List.getLast?_eq_some_iff.mp h with ⟨A, e⟩
      rw [e, List.dropLast_concat]⟩
/-- what an insertion touches: a chain's pointers -/
theorem X3_insert {U c m k : Nat} {σ : SG} {D : List Dc} {L : List Nat} (hU : 4000 < U) (hcb : cb c) (hJ : JS σ c D) (hk : k < D.length) (hm : m < D.length) (h : LK σ c L (sP σ (c + 5 + m) 15)) (hb : ∀ i ∈ L, i < D.length) (hL : L.length ≤ 200) (hn : k ∉ L) (hnd : L.Nodup) :
    ∃ τ, x_X3_insert U (c + 5 + m) (some (c + 5 + k)) σ = some τ ∧ LK τ c (insN D k L) (sP τ (c + 5 + m) 15) ∧ fP (fun b j => (b = c + 5 + k ∧ j = 16) ∨ (b = c + 5 + m ∧ j = 15) ∨ (j = 16 ∧ ∃ i ∈ L, b = c + 5 + i)) σ τ := by
  have hl := hJ.2.1
  unfold x_X3_insert
  rw [X3_insert_L hcb hJ hk L none _ U h hb (by omega)]
  unfold insN
  have hspl := List.takeWhile_append_dropWhile (p := fun i => decide (nLi D i < nLi D k)) (l := L)
  generalize L.takeWhile (fun i => decide (nLi D i < nLi D k)) = A at *
  generalize L.dropWhile (fun i => decide (nLi D i < nLi D k)) = B at *
  subst hspl
  unfold x_X3_insert_33
  rcases list_last (L := A) with hA | ⟨A', b, hA⟩
  · subst hA
    rw [if_pos (show prv c none [] = none from rfl), ck_eq (it_sh hcb (by omega)), sb_eq, sb_eq]
    refine ⟨_, rfl, ?_, ?_⟩
    · refine ⟨sP_s _ _ _ _, ?_⟩
      rw [sP_o (Or.inr (by decide)), sP_s]
      refine LK_keep _ _ h (fun i hi => ?_)
      have hik : i ≠ k := fun z => hn (z ▸ hi)
      rw [sP_o (Or.inr (by decide)), sP_o (Or.inl (by omega))]
    · intro b' j hj
      refine ⟨rfl, rfl, ?_⟩
      rw [sP_o (ne2 (fun zy => hj (Or.inr (Or.inl zy)))), sP_o (ne2 (fun zy => hj (Or.inl zy)))]
  · subst hA
    have hp : prv c none (A' ++ [b]) = some (c + 5 + b) := by unfold prv; rw [List.getLast?_append]; rfl
    have hbm : b ∈ A' ++ [b] ++ B := by simp
    have hbl := hb b hbm
    have hbk : b ≠ k := fun z => hn (z ▸ hbm)
    rw [hp, if_neg (by intro z; cases z), ck_eq (it_sh hcb (by omega)), ck_eq (it_sh hcb (by omega)), sb_eq, sb_eq]
    have h' : LK σ c (A' ++ b :: B) (sP σ (c + 5 + m) 15) := by rw [List.append_assoc] at h; exact h
    have hnd' : (A' ++ b :: B).Nodup := by rw [List.append_assoc] at hnd; exact hnd
    obtain ⟨n1, n2, n3⟩ := List.nodup_append.mp hnd'
    refine ⟨_, rfl, ?_, ?_⟩
    · rw [sP_o (Or.inr (by decide)), sP_o (Or.inr (by decide)), List.append_assoc]
      show LK _ c (A' ++ b :: k :: B) _
      refine LK_put (σ := σ) (sP_s _ _ _ _) ?_ A' _ h' (fun i hi => ?_)
      · rw [sP_o (Or.inl (by omega)), sP_s]
        refine LK_keep _ _ (LK_mid A' _ h') (fun i hi => ?_)
        have hik : i ≠ k := fun z => hn (by rw [← z]; simp [hi])
        have hib : i ≠ b := fun z => (List.nodup_cons.mp n2).1 (z ▸ hi)
        rw [sP_o (Or.inl (by omega)), sP_o (Or.inl (by omega))]
      · have hik : i ≠ k := fun z => hn (by rw [← z]; simp [hi])
        have hib : i ≠ b := fun z => n3 i hi b (List.mem_cons_self ..) z
        rw [sP_o (Or.inl (by omega)), sP_o (Or.inl (by omega))]
    · intro b' j hj
      refine ⟨rfl, rfl, ?_⟩
      rw [sP_o (ne2 (fun zy => hj (Or.inr (Or.inr ⟨zy.2, b, hbm, zy.1⟩)))), sP_o (ne2 (fun zy => hj (Or.inl zy)))]
theorem X3_append_L {U c a k : Nat} {σ : SG} {D : List Dc} {K : Option Nat → Option SG} (hcb : cb c) (hl : D.length < 180) : ∀ (L : List Nat) (p : Option Nat) (U1 : Nat), LK σ c L p → (∀ i ∈ L, i < D.length) → L.length < U1 →
    x_X3_append_L5 U a K (some (c + 5 + k)) σ U1 p = K (prv c none L) := by
  intro L
  induction L with
  | nil =>
    intro p U1 h _ hu
    obtain ⟨V, rfl⟩ : ∃ V, U1 = V + 1 := ⟨U1 - 1, by simp at hu; omega⟩
    rw [x_X3_append_L5, show p = none from h, if_pos rfl]; rfl
  | cons i L ih =>
    intro p U1 h hb hu
    rw [List.length_cons] at hu
    obtain ⟨V, rfl⟩ : ∃ V, U1 = V + 1 := ⟨U1 - 1, by omega⟩
    have hi := hb i (List.mem_cons_self ..)
    obtain ⟨h1, h2⟩ := h
    rw [x_X3_append_L5, h1, if_neg (by intro z; cases z), ck_eq (it_sh hcb (by omega))]
    cases L with
    | nil => rw [if_pos (show sP σ (c + 5 + i) 16 = none from h2)]; rfl
    | cons j L =>
      rw [if_neg (by rw [h2.1]; intro z; cases z), ih _ V h2 (fun j hj => hb j (List.mem_cons_of_mem _ hj)) (by omega), prv_cons, prv_cons, prv_cons]
theorem X3_append {U c m k : Nat} {σ : SG} {D : List Dc} {L : List Nat} (hU : 4000 < U) (hcb : cb c) (hl : D.length < 180) (hk : k < D.length) (hm : m < D.length) (h : LK σ c L (sP σ (c + 5 + m) 15)) (hb : ∀ i ∈ L, i < D.length) (hL : L.length ≤ 200) (hn : k ∉ L) (hnd : L.Nodup) (hk0 : sP σ (c + 5 + k) 16 = none) :
    ∃ τ, x_X3_append U (c + 5 + m) (some (c + 5 + k)) σ = some τ ∧ LK τ c (L ++ [k]) (sP τ (c + 5 + m) 15) ∧ fP (fun b j => (b = c + 5 + m ∧ j = 15) ∨ (j = 16 ∧ ∃ i ∈ L, b = c + 5 + i)) σ τ := by
  unfold x_X3_append
  rw [X3_append_L hcb hl L _ U h hb (by omega)]
  unfold x_X3_append_24
  rcases list_last (L := L) with hA | ⟨A, b, hA⟩
  · subst hA
    rw [if_pos (show prv c none [] = none from rfl), sb_eq]
    refine ⟨_, rfl, ⟨sP_s _ _ _ _, ?_⟩, ?_⟩
    · rw [sP_o (Or.inr (by decide))]; exact hk0
    · intro b' j hj
      refine ⟨rfl, rfl, ?_⟩
      rw [sP_o (ne2 (fun zy => hj (Or.inl zy)))]
  · subst hA
    have hp : prv c none (A ++ [b]) = some (c + 5 + b) := by unfold prv; rw [List.getLast?_append]; rfl
    have hbm : b ∈ A ++ [b] := by simp
    have hbl := hb b hbm
    have hbk : b ≠ k := fun z => hn (z ▸ hbm)
    obtain ⟨n1, n2, n3⟩ := List.nodup_append.mp hnd
    rw [hp, if_neg (by intro z; cases z), ck_eq (it_sh hcb (by omega)), sb_eq]
    refine ⟨_, rfl, ?_, ?_⟩
    · rw [sP_o (Or.inr (by decide)), List.append_assoc]
      refine LK_put (σ := σ) (B := []) (sP_s _ _ _ _) ?_ A _ h (fun i hi => ?_)
      · rw [sP_o (Or.inl (by omega))]; exact hk0
      · have hib : i ≠ b := fun z => n3 i hi b (List.mem_cons_self ..) z
        rw [sP_o (Or.inl (by omega))]
    · intro b' j hj
      refine ⟨rfl, rfl, ?_⟩
      rw [sP_o (ne2 (fun zy => hj (Or.inr ⟨zy.2, b, hbm, zy.1⟩)))]
/-- the members of a message or an enum among the first k declarations -/
def chD (D : List Dc) : Nat → Nat → List Nat
  | 0, _ => []
  | k + 1, a => match D[k]? with
    | none => chD D k a
    | some d => if dK d = 2 ∧ dS d = some a then insN D k (chD D k a) else if dK d = 3 ∧ dO d = some a then chD D k a ++ [k] else chD D k a
theorem chD_mem {D : List Dc} {a : Nat} : ∀ (k i : Nat), i ∈ chD D k a ↔ i < k ∧ ∃ d, D[i]? = some d ∧ ((dK d = 2 ∧ dS d = some a) ∨ (dK d = 3 ∧ dO d = some a)) := by
  intro k
  induction k with
  | zero => intro i; rw [chD]; exact ⟨fun h => (by cases h), fun h => by omega⟩
  | succ k ih =>
    intro i
    rw [chD]
    have ext : ∀ (P : Prop), (P ↔ (i = k ∧ ∃ d, D[i]? = some d ∧ ((dK d = 2 ∧ dS d = some a) ∨ (dK d = 3 ∧ dO d = some a))) ∨ i ∈ chD D k a) → (P ↔ i < k + 1 ∧ ∃ d, D[i]? = some d ∧ ((dK d = 2 ∧ dS d = some a) ∨ (dK d = 3 ∧ dO d = some a))) := by
      intro P hP
      rw [hP, ih i]
      constructor
      · rintro (⟨z, y⟩ | ⟨z, y⟩)
        · exact ⟨by omega, y⟩
        · exact ⟨by omega, y⟩
      · rintro ⟨z, y⟩
        by_cases q : i = k
        · exact Or.inl ⟨q, y⟩
        · exact Or.inr ⟨by omega, y⟩
    cases e : D[k]? with
    | none =>
      refine ext _ ⟨fun z => Or.inr z, ?_⟩
      rintro (⟨z, d, y, _⟩ | z)
      · rw [z, e] at y; cases y
      · exact z
    | some d =>
      simp only
      by_cases q1 : dK d = 2 ∧ dS d = some a
      · rw [if_pos q1]
        refine ext _ ?_
        rw [mem_insN]
        constructor
        · rintro (z | z)
          · exact Or.inl ⟨z, d, by rw [z]; exact e, Or.inl q1⟩
          · exact Or.inr z
        · rintro (⟨z, _⟩ | z)
          · exact Or.inl z
          · exact Or.inr z
      rw [if_neg q1]
      by_cases q2 : dK d = 3 ∧ dO d = some a
      · rw [if_pos q2]
        refine ext _ ?_
        rw [List.mem_append, List.mem_singleton]
        constructor
        · rintro (z | z)
          · exact Or.inr z
          · exact Or.inl ⟨z, d, by rw [z]; exact e, Or.inr q2⟩
        · rintro (⟨z, _⟩ | z)
          · exact Or.inr z
          · exact Or.inl z
      rw [if_neg q2]
      refine ext _ ⟨fun z => Or.inr z, ?_⟩
      rintro (⟨z, x, y, w⟩ | z)
      · rw [z, e] at y
        cases y
        rcases w with w | w
        · exact absurd w q1
        · exact absurd w q2
      · exact z
theorem chD_lt {D : List Dc} {a k i : Nat} (h : i ∈ chD D k a) : i < k ∧ i < D.length := by
  obtain ⟨h1, d, h2, _⟩ := (chD_mem k i).mp h
  exact ⟨h1, (List.getElem?_eq_some_iff.mp h2).1⟩
theorem insN_nodup {D : List Dc} {k : Nat} {L : List Nat} (h : L.Nodup) (hk : k ∉ L) : (insN D k L).Nodup := by
  unfold insN
  have hs := List.takeWhile_append_dropWhile (p := fun i => decide (nLi D i < nLi D k)) (l := L)
  generalize L.takeWhile (fun i => decide (nLi D i < nLi D k)) = A at *
  generalize L.dropWhile (fun i => decide (nLi D i < nLi D k)) = B at *
  subst hs
  obtain ⟨n1, n2, n3⟩ := List.nodup_append.mp h
  refine List.nodup_append.mpr ⟨n1, List.nodup_cons.mpr ⟨fun z => hk (by simp [z]), n2⟩, fun a ha b hb => ?_⟩
  rcases List.mem_cons.mp hb with z | z
  · subst z; exact fun y => hk (by rw [← y]; simp [ha])
  · exact n3 a ha b z
theorem chD_nodup {D : List Dc} {a : Nat} : ∀ k, (chD D k a).Nodup := by
  intro k
  induction k with
  | zero => rw [chD]; exact List.nodup_nil
  | succ k ih =>
    have hk : k ∉ chD D k a := fun z => by have := (chD_lt z).1; omega
    rw [chD]
    cases e : D[k]? with
    | none => exact ih
    | some d =>
      simp only
      split
      · exact insN_nodup ih hk
      · split
        · exact List.nodup_append.mpr ⟨ih, by simp, fun x hx y hy => by rw [List.mem_singleton.mp hy]; exact fun z => hk (z ▸ hx)⟩
        · exact ih
theorem chD_len {D : List Dc} {a : Nat} : ∀ k, (chD D k a).length ≤ k := by
  intro k
  induction k with
  | zero => rw [chD]; exact Nat.le_refl _
  | succ k ih =>
    rw [chD]
    cases e : D[k]? with
    | none => simp only; omega
    | some d =>
      simp only
      split
      · rw [len_insN]; omega
      · split
        · rw [List.length_append, List.length_singleton]; omega
        · omega
