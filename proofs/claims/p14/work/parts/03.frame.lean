/-! ===== the abstract machine: states with addresses counted from the law's first cell, one judgement mm_V (a body from a pc on), one contract mm_Ct ===== -/
/-- a cell: an array (its type's number, its length, its contents) or an object (its class's number in vwCl, its fields) -/
abbrev mm_C : Type := (Nat × Nat × ((Nat → Int32) ⊕ (Nat → Int64) ⊕ (Nat → Option Nat))) ⊕ (Nat × List Value)
/-- the memory: cells by number, how many, whether an exception has been made since (then nothing new is made) -/
abbrev mm_S : Type := (Nat → mm_C) × Nat × Bool
/-- how a method ended: with a value or none, or by a throw of a class -/
abbrev mm_R : Type := Option Value ⊕ String
/-- the fixed world: class numbers and slots, array classes, the first new cell, the script, the texts' addresses -/
abbrev mm_G : Type := va_G × (Nat → ClassId) × Nat × (Nat × Nat × (Nat → Int32)) × (Nat → Nat)
abbrev mm_D (g : mm_G) : va_G := g.1
abbrev mm_cA (g : mm_G) : Nat → ClassId := g.2.1
abbrev mm_b (g : mm_G) : Nat := g.2.2.1
abbrev mm_X (g : mm_G) : Nat × Nat × (Nat → Int32) := g.2.2.2.1
abbrev mm_sA (g : mm_G) : Nat → Nat := g.2.2.2.2
abbrev mm_A (g : mm_G) : Nat → Prop := fun q => mm_b g ≤ q
/-- a value as the machine has it: .ref i is the i-th new cell, .retAddr 0 the script, .retAddr (k + 1) the k-th text -/
def mm_cv (g : mm_G) (v : Value) : Value := match v with
  | .ref i => .ref (mm_b g + i)
  | .retAddr 0 => .ref (mm_X g).1
  | .retAddr (k + 1) => .ref (mm_sA g k)
  | .int x => .int x
  | .long x => .long x
  | .float x => .float x
  | .double x => .double x
  | .null => .null
theorem mm_cv_cat (g : mm_G) (v : Value) : (mm_cv g v).category = v.category := by
  cases v with
  | retAddr k => cases k <;> rfl
  | _ => rfl
def mm_cc (g : mm_G) (c : mm_C) : va_E := match c with
  | .inl (t, n, .inl f) => .inl (mm_cA g t, n, .inl f)
  | .inl (t, n, .inr (.inl f)) => .inl (mm_cA g t, n, .inr (.inl f))
  | .inl (t, n, .inr (.inr f)) => .inl (mm_cA g t, n, .inr (.inr (.inr (.inr (fun j => (f j).map (fun i => mm_b g + i))))))
  | .inr (c, fs) => .inr (c, fs.map (mm_cv g))
def mm_tys (g : mm_G) : List (ClassId × FieldType) := [(mm_cA g 0, .int), (mm_cA g 1, .long), (mm_cA g 2, .byte), (mm_cA g 3, .boolean), (mm_cA g 4, .object "ProtoDesk$Item"), (mm_cA g 5, .object "ProtoDesk$Node")]
def mm_wl (g : mm_G) (M : Nat → mm_C) (n : Nat) : va_W := (List.range n).map (fun i => (mm_b g + i, mm_cc g (M i)))
def mm_up (M : Nat → mm_C) (i : Nat) (c : mm_C) : Nat → mm_C := fun j => if j = i then c else M j
theorem mm_up_s {M : Nat → mm_C} {i : Nat} {c : mm_C} : mm_up M i c i = c := if_pos rfl
theorem mm_up_n {M : Nat → mm_C} {i j : Nat} {c : mm_C} (h : j ≠ i) : mm_up M i c j = M j := if_neg h
theorem mm_wl_at {g : mm_G} {M : Nat → mm_C} {n i : Nat} (h : i < n) : (mm_wl g M n)[i]? = some (mm_b g + i, mm_cc g (M i)) := by
  simp [mm_wl, h]
theorem mm_wl_inv {g : mm_G} {M : Nat → mm_C} {n i : Nat} {q : Nat × va_E} (h : (mm_wl g M n)[i]? = some q) : i < n ∧ q = (mm_b g + i, mm_cc g (M i)) := by
  have hl : i < (mm_wl g M n).length := (List.getElem?_eq_some_iff.mp h).1
  have hi : i < n := by simpa [mm_wl] using hl
  rw [mm_wl_at hi] at h
  exact ⟨hi, (Option.some.inj h).symm⟩
theorem mm_wl_set {g : mm_G} {M : Nat → mm_C} {n i : Nat} {c : mm_C} {e : va_E} (he : e = mm_cc g c) (h : i < n) : (mm_wl g M n).set i (mm_b g + i, e) = mm_wl g (mm_up M i c) n := by
  subst he
  apply List.ext_getElem?
  intro j
  by_cases hj : j < n
  · rw [mm_wl_at hj]
    by_cases hji : j = i
    · subst hji
      rw [mm_up_s, List.getElem?_set_self (by simpa [mm_wl] using h)]
    · rw [mm_up_n hji, List.getElem?_set_ne (Ne.symm hji), mm_wl_at hj]
  · rw [List.getElem?_eq_none (by simpa [mm_wl] using hj), List.getElem?_eq_none (by simpa [mm_wl] using hj)]
theorem mm_wl_push {g : mm_G} {M : Nat → mm_C} {n : Nat} {c : mm_C} {e : va_E} (he : e = mm_cc g c) : mm_wl g M n ++ [(mm_b g + n, e)] = mm_wl g (mm_up M n c) (n + 1) := by
  subst he
  unfold mm_wl
  rw [List.range_succ, List.map_append]
  congr 1
  · apply List.map_congr_left
    intro i hi
    rw [mm_up_n (Nat.ne_of_lt (List.mem_range.mp hi))]
  · simp [mm_up_s]
theorem mm_wl_D (g : mm_G) (M : Nat → mm_C) (n : Nat) : va_D (mm_A g) (mm_wl g M n) := by
  refine ⟨fun i j p q h1 h2 h => ?_, fun k q h => ?_⟩
  · obtain ⟨-, rfl⟩ := mm_wl_inv h1
    obtain ⟨-, rfl⟩ := mm_wl_inv h2
    exact Nat.add_left_cancel h
  · obtain ⟨-, rfl⟩ := mm_wl_inv h
    exact Nat.le_add_right _ _
/-- the memory in the heap -/
def mm_Rp (g : mm_G) (S : mm_S) (H : Heap) : Prop := va_P (mm_D g) vwCl (mm_wl g S.1 S.2.1) H ∧ mm_b g ≤ H.size
/-- the words of the tables that stay, and those that go along by rows of their own -/
def mm_ws : List Cond := lw_tbl.filter goodWord
def mm_isN (w : Cond) : Bool := match w with
  | .fieldLinkNest _ _ _ _ _ _ => true
  | .methodLinkNest _ _ _ _ => true
  | .castable _ _ => true
  | .declares _ => true
  | _ => false
def mm_nest : List Cond := lw_tbl.filter mm_isN
theorem mm_in {w : Cond} (i : Nat) (h : lw_tbl[i]? = some w) (hg : goodWord w = true) : w ∈ mm_ws := List.mem_filter.mpr ⟨List.mem_of_getElem? h, hg⟩
theorem mm_inN {w : Cond} (i : Nat) (h : lw_tbl[i]? = some w) (hg : mm_isN w = true) : w ∈ mm_nest := List.mem_filter.mpr ⟨List.mem_of_getElem? h, hg⟩
def mm_Zs (g : mm_G) (U : State) (H : Heap) : Prop := vx_Zq Bundle.tN "UNASSIGNED_STACK" Bundle.steD (mm_A g) U H ∧ vx_Zq Bundle.tN "SUPPRESSED_SENTINEL" Bundle.listD (mm_A g) U H
def mm_pcn : String := "jdk/internal/util/Preconditions"
def mm_stn : String := "java/lang/String"
/-- the constant texts: String objects, their bytes at mm_sA g (1000 + k); what String's methods read -/
def mm_Tx (g : mm_G) (U : State) (H : Heap) : Prop :=
  (∀ k : Nat, k < 24 → va_O mm_stn (mm_sA g k) (mm_A g) U H ∧ va_OF mm_stn "coder" "B" (.int 0) (mm_sA g k) (mm_A g) U H ∧ va_OF mm_stn "value" "[B" (.ref (mm_sA g (1000 + k))) (mm_sA g k) (mm_A g) U H ∧ va_T .byte (mm_sA g (1000 + k)) (tlen k) (fun j => .int (tchr k j)) (mm_A g) U H) ∧
  va_Z mm_stn "COMPACT_STRINGS" "Z" (.int 1) (mm_A g) U H ∧ (va_Z mm_pcn "SIOOBE_FORMATTER" "Ljava/util/function/BiFunction;" .null (mm_A g) U H ∨ va_Z mm_pcn "SIOOBE_FORMATTER" "Ljava/util/function/BiFunction;" (.ref (mm_sA g 2000)) (mm_A g) U H)
theorem mm_Tx.moved {g : mm_G} {s U : State} {H : Heap} (hv : s.vm.Alike U.vm) (h : mm_Tx g s H) : mm_Tx g U H :=
  ⟨fun k hk => ⟨va_O.moved hv (h.1 k hk).1, va_OF.moved hv (h.1 k hk).2.1, va_OF.moved hv (h.1 k hk).2.2.1, va_T.moved hv (h.1 k hk).2.2.2⟩, va_Z.moved hv h.2.1, h.2.2.elim (fun z => Or.inl (va_Z.moved hv z)) (fun z => Or.inr (va_Z.moved hv z))⟩
theorem mm_Tx.kept {g : mm_G} {U : State} {H H1 : Heap} (h : mm_Tx g U H) (hq : ∀ a : Nat, a < H.size → ¬ mm_A g a → H1[a]? = H[a]?) : mm_Tx g U H1 :=
  ⟨fun k hk => ⟨va_O.kept (h.1 k hk).1 hq, va_OF.kept (h.1 k hk).2.1 hq, va_OF.kept (h.1 k hk).2.2.1 hq, va_T.kept (h.1 k hk).2.2.2 hq⟩, va_Z.kept h.2.1 hq, h.2.2.elim (fun z => Or.inl (va_Z.kept z hq)) (fun z => Or.inr (va_Z.kept z hq))⟩
/-- what holds of the tables and of the old cells all along -/
def mm_St (g : mm_G) (U : State) (H : Heap) : Prop :=
  va_K (mm_D g) vwCl (mm_tys g) U ∧ (∀ w ∈ mm_nest, va_Nw w U) ∧ (∀ (k : Nat) (q : String × Nat × String), mm_strs[k]? = some q → vk_R q.1 q.2.1 q.2.2 (mm_sA g k) U) ∧ (va_AO "ProtoDesk$Item" U ∧ va_AO "ProtoDesk$Node" U) ∧
  ((∀ q ∈ mm_ncs, va_Nc q.1 q.2 U) ∧ mm_Tx g U H) ∧ mm_Zs g U H ∧ va_X (mm_X g).1 (mm_X g).2.1 (mm_X g).2.2 U H ∧ (mm_X g).1 < mm_b g ∧ mm_b g ≤ H.size
theorem mm_cast_warm {C T : String} {s U : State} (hW : s.WarmedH U.vm) (h : va_Nw (.castable C T) s) : va_Nw (.castable C T) U := by
  obtain ⟨c3, c4, h1, h2, h3⟩ := Cond.castable_spec (args := #[]) h
  have g1 : U.vm.findClass C = some c3 := by rw [hW.alike.findClass]; exact h1
  have g2 : U.vm.findClass T = some c4 := by rw [hW.alike.findClass]; exact h2
  have g3 : U.vm.assignable c3 c4 = true := by rw [hW.alike.assignable]; exact h3
  simp [va_Nw, Cond.before, Cond.holds, Cond.value, g1, g2, g3]
theorem mm_isN_on {w : Cond} (hw : mm_isN w = true) : w.onTables = true := by
  cases w <;> first | (cases hw; done) | rfl
theorem mm_nest_warm {w : Cond} {s U : State} (hW : s.WarmedH U.vm) (hw : mm_isN w = true) (h : va_Nw w s) : va_Nw w U := by
  cases w <;> first | (cases hw; done) | exact va_Nw.warmF hW h | exact va_Nw.warmM hW h | exact mm_cast_warm hW h | exact va_Nw.warmD hW h
theorem mm_St.warm {g : mm_G} {s U : State} {H : Heap} (hW : s.WarmedH U.vm) (h : mm_St g s H) : mm_St g U H := by
  obtain ⟨h1, h2, h3, h4, h5, h6, h7, h8⟩ := h
  exact ⟨va_K.moved hW.alike h1, fun w hw => mm_nest_warm hW (List.mem_filter.mp hw).2 (h2 w hw), fun k q hq => vk_R.warm hW (h3 k q hq), ⟨va_AO.moved hW.alike h4.1, va_AO.moved hW.alike h4.2⟩,
    ⟨fun q hq => va_Nc.moved hW.alike (h5.1 q hq), h5.2.moved hW.alike⟩, ⟨vx_Zq.moved hW.alike h6.1, vx_Zq.moved hW.alike h6.2⟩, va_X.moved hW.alike h7, h8⟩
theorem mm_St.same {g : mm_G} {s U : State} {H : Heap} (hv : U.vm = s.vm) (h : mm_St g s H) : mm_St g U H := h.warm (by rw [hv]; exact State.WarmedH.refl s)
theorem mm_St.kept {g : mm_G} {s : State} {H H1 : Heap} (hz : H.size ≤ H1.size) (hq : ∀ q : Nat, q < mm_b g → H1[q]? = H[q]?) (h : mm_St g s H) : mm_St g s H1 := by
  obtain ⟨h1, h2, h3, h4, h5, h6, h7, h8, h9⟩ := h
  have hq' : ∀ a : Nat, a < H.size → ¬ mm_A g a → H1[a]? = H[a]? := fun a _ ha => hq a (Nat.not_le.mp ha)
  exact ⟨h1, h2, h3, h4, ⟨h5.1, h5.2.kept hq'⟩, ⟨vx_Zq.kept h6.1 hq', vx_Zq.kept h6.2 hq'⟩, va_X.kept h7 (hq _ h8), h8, Nat.le_trans h9 hz⟩
/-- the locals -/
def mm_al (g : mm_G) (ls : List (Option Value)) : List (Nat × Value) := (List.range ls.length).filterMap (fun i => match ls[i]? with
  | some (some v) => some (i, mm_cv g v)
  | _ => none)
theorem mm_al_mem {g : mm_G} {ls : List (Option Value)} {i : Nat} {v : Value} (h : ls[i]? = some (some v)) : (i, mm_cv g v) ∈ mm_al g ls := by
  refine List.mem_filterMap.mpr ⟨i, List.mem_range.mpr (List.getElem?_eq_some_iff.mp h).1, ?_⟩
  rw [h]
theorem mm_al_inv {g : mm_G} {ls : List (Option Value)} {q : Nat × Value} (h : q ∈ mm_al g ls) : ∃ v, ls[q.1]? = some (some v) ∧ q.2 = mm_cv g v := by
  obtain ⟨i, -, hi⟩ := List.mem_filterMap.mp h
  cases hv : ls[i]? with
  | none => rw [hv] at hi; cases hi
  | some o =>
    cases o with
    | none => rw [hv] at hi; cases hi
    | some v =>
      rw [hv] at hi
      cases hi
      exact ⟨v, hv, rfl⟩
def mm_ls (g : mm_G) (la : Array Slot) (nL : Nat) (ls : List (Option Value)) : Prop := lv_has la nL (mm_al g ls)
theorem mm_ls_at {g : mm_G} {la : Array Slot} {nL i : Nat} {ls : List (Option Value)} {v : Value} (h : mm_ls g la nL ls) (hv : ls[i]? = some (some v)) : la[i]? = some (.val (mm_cv g v)) := h.2.2 _ (mm_al_mem hv)
theorem mm_lv_sub {la : Array Slot} {nL : Nat} {l l' : List (Nat × Value)} (h : lv_has la nL l) (hs : ∀ q ∈ l', q ∈ l) : lv_has la nL l' := ⟨h.1, h.2.1, fun q hq => h.2.2 q (hs q hq)⟩
theorem mm_ls_sub {g : mm_G} {la : Array Slot} {nL : Nat} {ls ls' : List (Option Value)} (h : mm_ls g la nL ls) (hs : ∀ (i : Nat) (v : Value), ls'[i]? = some (some v) → ls[i]? = some (some v)) : mm_ls g la nL ls' :=
  mm_lv_sub h (fun q hq => by
    obtain ⟨v, h1, h2⟩ := mm_al_inv hq
    have := mm_al_mem (g := g) (hs _ _ h1)
    rw [← h2] at this
    exact this)
/-- does the place before hold a value of two places -/
def mm_c2 (ls : List (Option Value)) (i : Nat) : Bool := match i with
  | 0 => false
  | j + 1 => match ls[j]? with
    | some (some v) => v.category == 2
    | _ => false
def mm_clr (ls : List (Option Value)) (i : Nat) : List (Option Value) := if mm_c2 ls i then ls.set (i - 1) none else ls
def mm_st1 (ls : List (Option Value)) (i : Nat) (v : Value) : List (Option Value) := (mm_clr ls i).set i (some v)
def mm_st2 (ls : List (Option Value)) (i : Nat) (v : Value) : List (Option Value) := ((mm_clr ls i).set (i + 1) none).set i (some v)
theorem mm_clr_at {ls : List (Option Value)} {i j : Nat} {v : Value} (hj : j ≠ i) (h : (mm_clr ls i)[j]? = some (some v)) : ls[j]? = some (some v) ∧ ¬ (j + 1 = i ∧ v.category = 2) := by
  unfold mm_clr at h
  split at h
  · next hc =>
    by_cases e : j = i - 1
    · exfalso
      subst e
      rw [List.getElem?_set] at h
      split at h
      · split at h <;> cases h
      · next hn => exact hn rfl
    · rw [List.getElem?_set_ne (Ne.symm e)] at h
      exact ⟨h, fun q => e (by omega)⟩
  · next hc =>
    refine ⟨h, fun q => hc ?_⟩
    obtain ⟨rfl, q2⟩ := q
    simp [mm_c2, h, q2]
theorem mm_ls_st1 {g : mm_G} {la : Array Slot} {nL i : Nat} {ls : List (Option Value)} {v : Value} (h : lv_has la nL ((i, mm_cv g v) :: (mm_al g ls).filter (fun q => !(q.1 == i) && !(q.1 + 1 == i && q.2.category == 2)))) : mm_ls g la nL (mm_st1 ls i v) := by
  refine mm_lv_sub h (fun q hq => ?_)
  obtain ⟨w, h1, h2⟩ := mm_al_inv hq
  obtain ⟨j, x⟩ := q
  dsimp only at h1 h2
  subst h2
  unfold mm_st1 at h1
  by_cases hj : j = i
  · subst hj
    rw [List.getElem?_set] at h1
    simp only [if_true] at h1
    split at h1
    · cases h1
      exact List.mem_cons_self
    · cases h1
  · rw [List.getElem?_set_ne (Ne.symm hj)] at h1
    obtain ⟨h3, h4⟩ := mm_clr_at hj h1
    refine List.mem_cons_of_mem _ (List.mem_filter.mpr ⟨mm_al_mem h3, ?_⟩)
    simp only [mm_cv_cat, Bool.and_eq_true, Bool.not_eq_true', beq_eq_false_iff_ne, Bool.and_eq_false_iff]
    refine ⟨by simpa using hj, ?_⟩
    by_cases hc : w.category = 2
    · exact Or.inl (by simpa using fun q => h4 ⟨q, hc⟩)
    · exact Or.inr (by simpa using hc)
theorem mm_ls_st2 {g : mm_G} {la : Array Slot} {nL i : Nat} {ls : List (Option Value)} {v : Value} (h : lv_has la nL ((i, mm_cv g v) :: (mm_al g ls).filter (fun q => !(q.1 == i) && (!(q.1 == i + 1) && !(q.1 + 1 == i && q.2.category == 2))))) : mm_ls g la nL (mm_st2 ls i v) := by
  refine mm_lv_sub h (fun q hq => ?_)
  obtain ⟨w, h1, h2⟩ := mm_al_inv hq
  obtain ⟨j, x⟩ := q
  dsimp only at h1 h2
  subst h2
  unfold mm_st2 at h1
  by_cases hj : j = i
  · subst hj
    rw [List.getElem?_set] at h1
    simp only [if_true] at h1
    split at h1
    · cases h1
      exact List.mem_cons_self
    · cases h1
  · rw [List.getElem?_set_ne (Ne.symm hj)] at h1
    by_cases hj1 : j = i + 1
    · exfalso
      subst hj1
      rw [List.getElem?_set] at h1
      simp only [if_true] at h1
      split at h1 <;> cases h1
    · rw [List.getElem?_set_ne (Ne.symm hj1)] at h1
      obtain ⟨h3, h4⟩ := mm_clr_at hj h1
      refine List.mem_cons_of_mem _ (List.mem_filter.mpr ⟨mm_al_mem h3, ?_⟩)
      simp only [mm_cv_cat, Bool.and_eq_true, Bool.not_eq_true', beq_eq_false_iff_ne, Bool.and_eq_false_iff]
      refine ⟨by simpa using hj, by simpa using hj1, ?_⟩
      by_cases hc : w.category = 2
      · exact Or.inl (by simpa using fun q => h4 ⟨q, hc⟩)
      · exact Or.inr (by simpa using hc)
/-- the room of a call d deep -/
def mm_rm (d dc ds : Nat) : Room := { frames := d + 8, cells := dc, slots := ds, locals := 60 * d + 120 }
/-- what stands while a body runs -/
def mm_Cx (g : mm_G) (l : Launch) (p : Program) (R : Room) (s : State) (m : MethodId) (args : Array Value) (meth : Method) (c : Code) (own nm : String) (cc : ByteArray) (nL : Nat) (ret : Option FieldType) (hh : List ExceptionTableEntry) (d dc ds : Nat) : Prop :=
  p.tables.exec = Jvm.exec ∧ c.code = cc ∧ c.maxLocals = nL ∧ meth.sig.returnType = ret ∧ meth.locks = false ∧ s.vm.findClass own = some m.cls ∧ c.exceptionTable.toList = hh ∧ (∀ w ∈ mm_ws, w.before args s = true) ∧ l.stackTraces = false ∧
  d + 8 ≤ R.frames ∧ 60 * d + 120 ≤ R.locals ∧ R.cells = dc ∧ R.slots = ds ∧ meth.name = nm ∧ mm_b g ≤ s.heap.size
/-- a return that fits the method's type -/
def mm_ok (ret : Option FieldType) (i : Instr) (v : Option Value) : Prop :=
  (∃ (x : Int32) (ty : FieldType), i = .ireturn ∧ v = some (.int x) ∧ ret = some ty ∧ narrow ty (.int x) = .int x) ∨ (∃ x : Int64, i = .lreturn ∧ v = some (.long x) ∧ ret = some .long) ∨
  (i = .return_ ∧ v = none ∧ ret = none) ∨ (∃ (a : Option Nat) (C : String), i = .areturn ∧ v = some (va_rf a) ∧ ret = some (.object C))
/-- what the end asks -/
def mm_En (g : mm_G) (l : Launch) (p : Program) (e : Env) (R : Room) (s : State) (m : MethodId) (args : Array Value) (below : List Frame) (meth : Method) (c : Code) (cc : ByteArray) (ret : Option FieldType) (dc ds : Nat) (Q : mm_R → mm_S → Prop) (QQ : State → Prop) : Prop :=
  (∀ (i : Instr) (v : Option Value) (S : mm_S) (H : Heap) (locs : List Loc) (uc us pc : Nat) (la : Array Slot), mm_ok ret i v → decode cc pc = .ok (i, 1) → Q (.inl v) S → mm_Rp g S H → va_S (mm_A g) s.heap H locs → uc ≤ dc → us ≤ ds →
    W p l e R s m args below meth c H locs uc us QQ (F0 m pc la (v.toList.map (mm_cv g)))) ∧
  ((∃ (Qc : Array Value → State → Outcome → State → Prop) (XC : String → State → State → Prop), QQ = vx_MQ below Qc XC args s dc ds (mm_A g) ∧ ∀ (E : String) (S : mm_S) (t : State), Q (.inr E) S → mm_Rp g S t.heap → va_F (mm_A g) s t → XC E s t) ∨ ∀ (E : String) (S : mm_S), ¬ Q (.inr E) S)
def mm_V (g : mm_G) (l : Launch) (own nm : String) (cc : ByteArray) (nL : Nat) (ret : Option FieldType) (hh : List ExceptionTableEntry) (d dc ds : Nat) (Q : mm_R → mm_S → Prop) (pc : Nat) (ls : List (Option Value)) (st : List Value) (S : mm_S) (uc us : Nat) : Prop :=
  ∀ (p : Program) (e : Env) (R : Room) (s : State) (m : MethodId) (args : Array Value) (below : List Frame) (meth : Method) (c : Code) (QQ : State → Prop),
    mm_Cx g l p R s m args meth c own nm cc nL ret hh d dc ds → mm_En g l p e R s m args below meth c cc ret dc ds Q QQ →
    ∀ (H : Heap) (locs : List Loc) (la : Array Slot), mm_Rp g S H → mm_St g s H → va_S (mm_A g) s.heap H locs → (S.2.2 = false → s.heap.size + uc = mm_b g + S.2.1) → mm_ls g la nL ls →
      W p l e R s m args below meth c H locs uc us QQ (F0 m pc la (st.map (mm_cv g)))
/-- a method's end, and its throw, as contracts have them -/
def mm_Qc (g : mm_G) (Q : mm_R → mm_S → Prop) : Array Value → State → Outcome → State → Prop := fun _ st o t => ∃ (v : Option Value) (S : mm_S), o = .returned (v.map (mm_cv g)) ∧ Q (.inl v) S ∧ mm_Rp g S t.heap ∧ va_F (mm_A g) st t
def mm_XC (g : mm_G) (Q : mm_R → mm_S → Prop) : String → State → State → Prop := fun E st t => ∃ S : mm_S, Q (.inr E) S ∧ mm_Rp g S t.heap ∧ va_F (mm_A g) st t
def mm_Pc (g : mm_G) (as : List Value) (S : mm_S) : Array Value → State → Prop := fun a U => a = (as.map (mm_cv g)).toArray ∧ mm_Rp g S U.heap ∧ (S.2.2 = false → U.heap.size = mm_b g + S.2.1) ∧ mm_St g U U.heap
def mm_Ct (g : mm_G) (l : Launch) (y : MethodName) (cw : Cond) (d dc ds : Nat) (as : List Value) (S : mm_S) (Q : mm_R → mm_S → Prop) : Prop :=
  vx_Met l y (cw :: mm_ws) (mm_rm d dc ds) (mm_Pc g as S) (mm_Qc g Q) (mm_XC g Q) dc ds (mm_A g)
theorem mm_Pc_blind (g : mm_G) (as : List Value) (S : mm_S) : FrameBlind (mm_Pc g as S) := fun a U f mk h => ⟨h.1, h.2.1, h.2.2.1, (show mm_St g (U.calling f mk a) U.heap from mm_St.same (s := U) rfl h.2.2.2)⟩
section MMV
variable {g : mm_G} {l : Launch} {own nm : String} {cc : ByteArray} {nL : Nat} {ret : Option FieldType} {hh : List ExceptionTableEntry} {d dc ds : Nat} {Q : mm_R → mm_S → Prop} {pc : Nat} {ls : List (Option Value)} {st : List Value} {S : mm_S} {uc us : Nat}
theorem mm_iconst {n : Int} {v : Int32} (hd : decode cc pc = .ok (.iconst n, 1)) (hv : Int32.ofInt n = v) (k : mm_V g l own nm cc nL ret hh d dc ds Q (pc + 1) ls (.int v :: st) S uc us) : mm_V g l own nm cc nL ret hh d dc ds Q pc ls st S uc us := by
  intro p e R s m args below meth c QQ hc he H locs la hR hS hF hZ hl
  exact lv_iconst hc.1 hc.2.1 hd hv (k p e R s m args below meth c QQ hc he H locs la hR hS hF hZ hl)
theorem mm_bipush {n : Int} {v : Int32} (hd : decode cc pc = .ok (.bipush n, 2)) (hv : (Int8.ofInt n).toInt32 = v) (k : mm_V g l own nm cc nL ret hh d dc ds Q (pc + 2) ls (.int v :: st) S uc us) : mm_V g l own nm cc nL ret hh d dc ds Q pc ls st S uc us := by
  intro p e R s m args below meth c QQ hc he H locs la hR hS hF hZ hl
  exact lv_bipush hc.1 hc.2.1 hd hv (k p e R s m args below meth c QQ hc he H locs la hR hS hF hZ hl)
theorem mm_sipush {n : Int} {v : Int32} (hd : decode cc pc = .ok (.sipush n, 3)) (hv : (Int16.ofInt n).toInt32 = v) (k : mm_V g l own nm cc nL ret hh d dc ds Q (pc + 3) ls (.int v :: st) S uc us) : mm_V g l own nm cc nL ret hh d dc ds Q pc ls st S uc us := by
  intro p e R s m args below meth c QQ hc he H locs la hR hS hF hZ hl
  exact lv_sipush hc.1 hc.2.1 hd hv (k p e R s m args below meth c QQ hc he H locs la hR hS hF hZ hl)
theorem mm_lconst {n : Fin 2} {v : Int64} (hd : decode cc pc = .ok (.lconst n, 1)) (hv : Int64.ofNat (n : Nat) = v) (k : mm_V g l own nm cc nL ret hh d dc ds Q (pc + 1) ls (.long v :: st) S uc us) : mm_V g l own nm cc nL ret hh d dc ds Q pc ls st S uc us := by
  intro p e R s m args below meth c QQ hc he H locs la hR hS hF hZ hl
  exact lv_lconst hc.1 hc.2.1 hd hv (k p e R s m args below meth c QQ hc he H locs la hR hS hF hZ hl)
theorem mm_null (hd : decode cc pc = .ok (.aconst_null, 1)) (k : mm_V g l own nm cc nL ret hh d dc ds Q (pc + 1) ls (.null :: st) S uc us) : mm_V g l own nm cc nL ret hh d dc ds Q pc ls st S uc us := by
  intro p e R s m args below meth c QQ hc he H locs la hR hS hF hZ hl
  exact lv_null hc.1 hc.2.1 hd (k p e R s m args below meth c QQ hc he H locs la hR hS hF hZ hl)
theorem mm_ldc {i : Nat} {v : Int32} (hw : Cond.constant own i v ∈ mm_ws) (hd : decode cc pc = .ok (.ldc i, 2)) (k : mm_V g l own nm cc nL ret hh d dc ds Q (pc + 2) ls (.int v :: st) S uc us) : mm_V g l own nm cc nL ret hh d dc ds Q pc ls st S uc us := by
  intro p e R s m args below meth c QQ hc he H locs la hR hS hF hZ hl
  exact lv_ldc hc.1 hc.2.1 hc.2.2.2.2.2.1 (hc.2.2.2.2.2.2.2.1 _ hw) hd (k p e R s m args below meth c QQ hc he H locs la hR hS hF hZ hl)
theorem mm_ldcw {i : Nat} {v : Int32} (hw : Cond.constant own i v ∈ mm_ws) (hd : decode cc pc = .ok (.ldc_w i, 3)) (k : mm_V g l own nm cc nL ret hh d dc ds Q (pc + 3) ls (.int v :: st) S uc us) : mm_V g l own nm cc nL ret hh d dc ds Q pc ls st S uc us := by
  intro p e R s m args below meth c QQ hc he H locs la hR hS hF hZ hl
  exact lv_ldcw hc.1 hc.2.1 hc.2.2.2.2.2.1 (hc.2.2.2.2.2.2.2.1 _ hw) hd (k p e R s m args below meth c QQ hc he H locs la hR hS hF hZ hl)
theorem mm_ldc2 {i : Nat} {v : Int64} (hw : Cond.constantLong own i v ∈ mm_ws) (hd : decode cc pc = .ok (.ldc2_w i, 3)) (k : mm_V g l own nm cc nL ret hh d dc ds Q (pc + 3) ls (.long v :: st) S uc us) : mm_V g l own nm cc nL ret hh d dc ds Q pc ls st S uc us := by
  intro p e R s m args below meth c QQ hc he H locs la hR hS hF hZ hl
  exact lv_ldc2 hc.1 hc.2.1 hc.2.2.2.2.2.1 (hc.2.2.2.2.2.2.2.1 _ hw) hd (k p e R s m args below meth c QQ hc he H locs la hR hS hF hZ hl)
theorem mm_iload {i : Nat} {x : Int32} (hd : decode cc pc = .ok (.iload i, 2)) (hv : ls[i]? = some (some (.int x))) (k : mm_V g l own nm cc nL ret hh d dc ds Q (pc + 2) ls (.int x :: st) S uc us) : mm_V g l own nm cc nL ret hh d dc ds Q pc ls st S uc us := by
  intro p e R s m args below meth c QQ hc he H locs la hR hS hF hZ hl
  exact lv_iload hc.1 hc.2.1 hd (mm_ls_at hl hv) (k p e R s m args below meth c QQ hc he H locs la hR hS hF hZ hl)
theorem mm_iload_n {i : Fin 4} {x : Int32} (hd : decode cc pc = .ok (.iload_n i, 1)) (hv : ls[(i : Nat)]? = some (some (.int x))) (k : mm_V g l own nm cc nL ret hh d dc ds Q (pc + 1) ls (.int x :: st) S uc us) : mm_V g l own nm cc nL ret hh d dc ds Q pc ls st S uc us := by
  intro p e R s m args below meth c QQ hc he H locs la hR hS hF hZ hl
  exact lv_iload_n hc.1 hc.2.1 hd rfl (mm_ls_at hl hv) (k p e R s m args below meth c QQ hc he H locs la hR hS hF hZ hl)
theorem mm_lload {i : Nat} {x : Int64} (hd : decode cc pc = .ok (.lload i, 2)) (hv : ls[i]? = some (some (.long x))) (k : mm_V g l own nm cc nL ret hh d dc ds Q (pc + 2) ls (.long x :: st) S uc us) : mm_V g l own nm cc nL ret hh d dc ds Q pc ls st S uc us := by
  intro p e R s m args below meth c QQ hc he H locs la hR hS hF hZ hl
  exact lv_lload hc.1 hc.2.1 hd (mm_ls_at hl hv) (k p e R s m args below meth c QQ hc he H locs la hR hS hF hZ hl)
theorem mm_lload_n {i : Fin 4} {x : Int64} (hd : decode cc pc = .ok (.lload_n i, 1)) (hv : ls[(i : Nat)]? = some (some (.long x))) (k : mm_V g l own nm cc nL ret hh d dc ds Q (pc + 1) ls (.long x :: st) S uc us) : mm_V g l own nm cc nL ret hh d dc ds Q pc ls st S uc us := by
  intro p e R s m args below meth c QQ hc he H locs la hR hS hF hZ hl
  exact lv_lload_n hc.1 hc.2.1 hd rfl (mm_ls_at hl hv) (k p e R s m args below meth c QQ hc he H locs la hR hS hF hZ hl)
/-- a reference value -/
def mm_isr (v : Value) : Bool := match v with
  | .ref _ => true
  | .null => true
  | .retAddr _ => true
  | _ => false
theorem mm_aload {i : Nat} {v : Value} (hd : decode cc pc = .ok (.aload i, 2)) (hv : ls[i]? = some (some v)) (hr : mm_isr v = true) (k : mm_V g l own nm cc nL ret hh d dc ds Q (pc + 2) ls (v :: st) S uc us) : mm_V g l own nm cc nL ret hh d dc ds Q pc ls st S uc us := by
  intro p e R s m args below meth c QQ hc he H locs la hR hS hF hZ hl
  have hk := k p e R s m args below meth c QQ hc he H locs la hR hS hF hZ hl
  have ha := mm_ls_at hl hv
  cases v with
  | ref a => exact lv_aload hc.1 hc.2.1 hd ha hk
  | null => exact lv_aloadN hc.1 hc.2.1 hd ha hk
  | retAddr a => cases a <;> exact lv_aload hc.1 hc.2.1 hd ha hk
  | _ => cases hr
theorem mm_aload_n {i : Fin 4} {v : Value} (hd : decode cc pc = .ok (.aload_n i, 1)) (hv : ls[(i : Nat)]? = some (some v)) (hr : mm_isr v = true) (k : mm_V g l own nm cc nL ret hh d dc ds Q (pc + 1) ls (v :: st) S uc us) : mm_V g l own nm cc nL ret hh d dc ds Q pc ls st S uc us := by
  intro p e R s m args below meth c QQ hc he H locs la hR hS hF hZ hl
  have hk := k p e R s m args below meth c QQ hc he H locs la hR hS hF hZ hl
  have ha := mm_ls_at hl hv
  cases v with
  | ref a => exact lv_aload_n hc.1 hc.2.1 hd rfl ha hk
  | null => exact lv_aload_nN hc.1 hc.2.1 hd rfl ha hk
  | retAddr a => cases a <;> exact lv_aload_n hc.1 hc.2.1 hd rfl ha hk
  | _ => cases hr
theorem mm_istore {i : Nat} {x : Int32} (ls1 : List (Option Value)) (hd : decode cc pc = .ok (.istore i, 2)) (hi : i < nL) (he1 : mm_st1 ls i (.int x) = ls1) (k : mm_V g l own nm cc nL ret hh d dc ds Q (pc + 2) ls1 st S uc us) : mm_V g l own nm cc nL ret hh d dc ds Q pc ls (.int x :: st) S uc us := by
  intro p e R s m args below meth c QQ hc he H locs la hR hS hF hZ hl
  subst he1
  exact lv_istore hc.1 hc.2.1 hd hl hi rfl (fun la hl => k p e R s m args below meth c QQ hc he H locs la hR hS hF hZ (mm_ls_st1 (v := .int x) hl))
theorem mm_istore_n {i : Fin 4} {x : Int32} (ls1 : List (Option Value)) (hd : decode cc pc = .ok (.istore_n i, 1)) (hi : (i : Nat) < nL) (he1 : mm_st1 ls (i : Nat) (.int x) = ls1) (k : mm_V g l own nm cc nL ret hh d dc ds Q (pc + 1) ls1 st S uc us) : mm_V g l own nm cc nL ret hh d dc ds Q pc ls (.int x :: st) S uc us := by
  intro p e R s m args below meth c QQ hc he H locs la hR hS hF hZ hl
  subst he1
  exact lv_istore_n hc.1 hc.2.1 hd rfl hl hi rfl (fun la hl => k p e R s m args below meth c QQ hc he H locs la hR hS hF hZ (mm_ls_st1 (v := .int x) hl))
theorem mm_lstore {i : Nat} {x : Int64} (ls1 : List (Option Value)) (hd : decode cc pc = .ok (.lstore i, 2)) (hi : i + 1 < nL) (he1 : mm_st2 ls i (.long x) = ls1) (k : mm_V g l own nm cc nL ret hh d dc ds Q (pc + 2) ls1 st S uc us) : mm_V g l own nm cc nL ret hh d dc ds Q pc ls (.long x :: st) S uc us := by
  intro p e R s m args below meth c QQ hc he H locs la hR hS hF hZ hl
  subst he1
  exact lv_lstore hc.1 hc.2.1 hd hl hi rfl (fun la hl => k p e R s m args below meth c QQ hc he H locs la hR hS hF hZ (mm_ls_st2 (v := .long x) hl))
theorem mm_lstore_n {i : Fin 4} {x : Int64} (ls1 : List (Option Value)) (hd : decode cc pc = .ok (.lstore_n i, 1)) (hi : (i : Nat) + 1 < nL) (he1 : mm_st2 ls (i : Nat) (.long x) = ls1) (k : mm_V g l own nm cc nL ret hh d dc ds Q (pc + 1) ls1 st S uc us) : mm_V g l own nm cc nL ret hh d dc ds Q pc ls (.long x :: st) S uc us := by
  intro p e R s m args below meth c QQ hc he H locs la hR hS hF hZ hl
  subst he1
  exact lv_lstore_n hc.1 hc.2.1 hd rfl hl hi rfl (fun la hl => k p e R s m args below meth c QQ hc he H locs la hR hS hF hZ (mm_ls_st2 (v := .long x) hl))
theorem mm_astore {i : Nat} {v : Value} (ls1 : List (Option Value)) (hd : decode cc pc = .ok (.astore i, 2)) (hi : i < nL) (hr : mm_isr v = true) (he1 : mm_st1 ls i v = ls1) (k : mm_V g l own nm cc nL ret hh d dc ds Q (pc + 2) ls1 st S uc us) : mm_V g l own nm cc nL ret hh d dc ds Q pc ls (v :: st) S uc us := by
  intro p e R s m args below meth c QQ hc he H locs la hR hS hF hZ hl
  subst he1
  cases v with
  | ref a => exact lv_astore hc.1 hc.2.1 hd hl hi rfl (fun la hl => k p e R s m args below meth c QQ hc he H locs la hR hS hF hZ (mm_ls_st1 (v := .ref a) hl))
  | null => exact lv_astoreN hc.1 hc.2.1 hd hl hi rfl (fun la hl => k p e R s m args below meth c QQ hc he H locs la hR hS hF hZ (mm_ls_st1 (v := .null) hl))
  | retAddr a =>
    cases a with
    | zero => exact lv_astore hc.1 hc.2.1 hd hl hi rfl (fun la hl => k p e R s m args below meth c QQ hc he H locs la hR hS hF hZ (mm_ls_st1 (v := .retAddr 0) hl))
    | succ a => exact lv_astore hc.1 hc.2.1 hd hl hi rfl (fun la hl => k p e R s m args below meth c QQ hc he H locs la hR hS hF hZ (mm_ls_st1 (v := .retAddr (a + 1)) hl))
  | _ => cases hr
theorem mm_astore_n {i : Fin 4} {v : Value} (ls1 : List (Option Value)) (hd : decode cc pc = .ok (.astore_n i, 1)) (hi : (i : Nat) < nL) (hr : mm_isr v = true) (he1 : mm_st1 ls (i : Nat) v = ls1) (k : mm_V g l own nm cc nL ret hh d dc ds Q (pc + 1) ls1 st S uc us) : mm_V g l own nm cc nL ret hh d dc ds Q pc ls (v :: st) S uc us := by
  intro p e R s m args below meth c QQ hc he H locs la hR hS hF hZ hl
  subst he1
  cases v with
  | ref a => exact lv_astore_n hc.1 hc.2.1 hd rfl hl hi rfl (fun la hl => k p e R s m args below meth c QQ hc he H locs la hR hS hF hZ (mm_ls_st1 (v := .ref a) hl))
  | null => exact lv_astore_nN hc.1 hc.2.1 hd rfl hl hi rfl (fun la hl => k p e R s m args below meth c QQ hc he H locs la hR hS hF hZ (mm_ls_st1 (v := .null) hl))
  | retAddr a =>
    cases a with
    | zero => exact lv_astore_n hc.1 hc.2.1 hd rfl hl hi rfl (fun la hl => k p e R s m args below meth c QQ hc he H locs la hR hS hF hZ (mm_ls_st1 (v := .retAddr 0) hl))
    | succ a => exact lv_astore_n hc.1 hc.2.1 hd rfl hl hi rfl (fun la hl => k p e R s m args below meth c QQ hc he H locs la hR hS hF hZ (mm_ls_st1 (v := .retAddr (a + 1)) hl))
  | _ => cases hr
theorem mm_iinc {i : Nat} {n : Int} {x v : Int32} (ls1 : List (Option Value)) (hd : decode cc pc = .ok (.iinc i n, 3)) (hx : ls[i]? = some (some (.int x))) (hv : x + Int32.ofInt n = v) (hi : i < nL) (he1 : mm_st1 ls i (.int v) = ls1) (k : mm_V g l own nm cc nL ret hh d dc ds Q (pc + 3) ls1 st S uc us) : mm_V g l own nm cc nL ret hh d dc ds Q pc ls st S uc us := by
  intro p e R s m args below meth c QQ hc he H locs la hR hS hF hZ hl
  subst he1
  obtain ⟨j, hj⟩ := List.getElem?_of_mem (mm_al_mem (g := g) hx)
  exact lv_iinc hc.1 hc.2.1 hd hl hj hv hi rfl (fun la hl => k p e R s m args below meth c QQ hc he H locs la hR hS hF hZ (mm_ls_st1 (v := .int v) hl))
theorem mm_iadd {x y : Int32} (hd : decode cc pc = .ok (.iadd, 1)) (k : mm_V g l own nm cc nL ret hh d dc ds Q (pc + 1) ls (.int (x + y) :: st) S uc us) : mm_V g l own nm cc nL ret hh d dc ds Q pc ls (.int y :: .int x :: st) S uc us := by
  intro p e R s m args below meth c QQ hc he H locs la hR hS hF hZ hl
  exact lv_iadd hc.1 hc.2.1 hd (k p e R s m args below meth c QQ hc he H locs la hR hS hF hZ hl)
theorem mm_isub {x y : Int32} (hd : decode cc pc = .ok (.isub, 1)) (k : mm_V g l own nm cc nL ret hh d dc ds Q (pc + 1) ls (.int (x - y) :: st) S uc us) : mm_V g l own nm cc nL ret hh d dc ds Q pc ls (.int y :: .int x :: st) S uc us := by
  intro p e R s m args below meth c QQ hc he H locs la hR hS hF hZ hl
  exact lv_isub hc.1 hc.2.1 hd (k p e R s m args below meth c QQ hc he H locs la hR hS hF hZ hl)
theorem mm_imul {x y : Int32} (hd : decode cc pc = .ok (.imul, 1)) (k : mm_V g l own nm cc nL ret hh d dc ds Q (pc + 1) ls (.int (x * y) :: st) S uc us) : mm_V g l own nm cc nL ret hh d dc ds Q pc ls (.int y :: .int x :: st) S uc us := by
  intro p e R s m args below meth c QQ hc he H locs la hR hS hF hZ hl
  exact lv_imul hc.1 hc.2.1 hd (k p e R s m args below meth c QQ hc he H locs la hR hS hF hZ hl)
theorem mm_iand {x y : Int32} (hd : decode cc pc = .ok (.iand, 1)) (k : mm_V g l own nm cc nL ret hh d dc ds Q (pc + 1) ls (.int (x &&& y) :: st) S uc us) : mm_V g l own nm cc nL ret hh d dc ds Q pc ls (.int y :: .int x :: st) S uc us := by
  intro p e R s m args below meth c QQ hc he H locs la hR hS hF hZ hl
  exact lv_iand hc.1 hc.2.1 hd (k p e R s m args below meth c QQ hc he H locs la hR hS hF hZ hl)
theorem mm_ior {x y : Int32} (hd : decode cc pc = .ok (.ior, 1)) (k : mm_V g l own nm cc nL ret hh d dc ds Q (pc + 1) ls (.int (x ||| y) :: st) S uc us) : mm_V g l own nm cc nL ret hh d dc ds Q pc ls (.int y :: .int x :: st) S uc us := by
  intro p e R s m args below meth c QQ hc he H locs la hR hS hF hZ hl
  exact lv_ior hc.1 hc.2.1 hd (k p e R s m args below meth c QQ hc he H locs la hR hS hF hZ hl)
theorem mm_ixor {x y : Int32} (hd : decode cc pc = .ok (.ixor, 1)) (k : mm_V g l own nm cc nL ret hh d dc ds Q (pc + 1) ls (.int (x ^^^ y) :: st) S uc us) : mm_V g l own nm cc nL ret hh d dc ds Q pc ls (.int y :: .int x :: st) S uc us := by
  intro p e R s m args below meth c QQ hc he H locs la hR hS hF hZ hl
  exact lv_ixor hc.1 hc.2.1 hd (k p e R s m args below meth c QQ hc he H locs la hR hS hF hZ hl)
theorem mm_ladd {x y : Int64} (hd : decode cc pc = .ok (.ladd, 1)) (k : mm_V g l own nm cc nL ret hh d dc ds Q (pc + 1) ls (.long (x + y) :: st) S uc us) : mm_V g l own nm cc nL ret hh d dc ds Q pc ls (.long y :: .long x :: st) S uc us := by
  intro p e R s m args below meth c QQ hc he H locs la hR hS hF hZ hl
  exact lv_ladd hc.1 hc.2.1 hd (k p e R s m args below meth c QQ hc he H locs la hR hS hF hZ hl)
theorem mm_lsub {x y : Int64} (hd : decode cc pc = .ok (.lsub, 1)) (k : mm_V g l own nm cc nL ret hh d dc ds Q (pc + 1) ls (.long (x - y) :: st) S uc us) : mm_V g l own nm cc nL ret hh d dc ds Q pc ls (.long y :: .long x :: st) S uc us := by
  intro p e R s m args below meth c QQ hc he H locs la hR hS hF hZ hl
  exact lv_lsub hc.1 hc.2.1 hd (k p e R s m args below meth c QQ hc he H locs la hR hS hF hZ hl)
theorem mm_lmul {x y : Int64} (hd : decode cc pc = .ok (.lmul, 1)) (k : mm_V g l own nm cc nL ret hh d dc ds Q (pc + 1) ls (.long (x * y) :: st) S uc us) : mm_V g l own nm cc nL ret hh d dc ds Q pc ls (.long y :: .long x :: st) S uc us := by
  intro p e R s m args below meth c QQ hc he H locs la hR hS hF hZ hl
  exact lv_lmul hc.1 hc.2.1 hd (k p e R s m args below meth c QQ hc he H locs la hR hS hF hZ hl)
theorem mm_land {x y : Int64} (hd : decode cc pc = .ok (.land, 1)) (k : mm_V g l own nm cc nL ret hh d dc ds Q (pc + 1) ls (.long (x &&& y) :: st) S uc us) : mm_V g l own nm cc nL ret hh d dc ds Q pc ls (.long y :: .long x :: st) S uc us := by
  intro p e R s m args below meth c QQ hc he H locs la hR hS hF hZ hl
  exact lv_land hc.1 hc.2.1 hd (k p e R s m args below meth c QQ hc he H locs la hR hS hF hZ hl)
theorem mm_lor {x y : Int64} (hd : decode cc pc = .ok (.lor, 1)) (k : mm_V g l own nm cc nL ret hh d dc ds Q (pc + 1) ls (.long (x ||| y) :: st) S uc us) : mm_V g l own nm cc nL ret hh d dc ds Q pc ls (.long y :: .long x :: st) S uc us := by
  intro p e R s m args below meth c QQ hc he H locs la hR hS hF hZ hl
  exact lv_lor hc.1 hc.2.1 hd (k p e R s m args below meth c QQ hc he H locs la hR hS hF hZ hl)
theorem mm_lxor {x y : Int64} (hd : decode cc pc = .ok (.lxor, 1)) (k : mm_V g l own nm cc nL ret hh d dc ds Q (pc + 1) ls (.long (x ^^^ y) :: st) S uc us) : mm_V g l own nm cc nL ret hh d dc ds Q pc ls (.long y :: .long x :: st) S uc us := by
  intro p e R s m args below meth c QQ hc he H locs la hR hS hF hZ hl
  exact lv_lxor hc.1 hc.2.1 hd (k p e R s m args below meth c QQ hc he H locs la hR hS hF hZ hl)
theorem mm_idiv {x y : Int32} (hd : decode cc pc = .ok (.idiv, 1)) (hne : ¬ y = 0) (k : mm_V g l own nm cc nL ret hh d dc ds Q (pc + 1) ls (.int (x / y) :: st) S uc us) : mm_V g l own nm cc nL ret hh d dc ds Q pc ls (.int y :: .int x :: st) S uc us := by
  intro p e R s m args below meth c QQ hc he H locs la hR hS hF hZ hl
  exact lv_idiv hc.1 hc.2.1 hd hne (k p e R s m args below meth c QQ hc he H locs la hR hS hF hZ hl)
theorem mm_irem {x y : Int32} (hd : decode cc pc = .ok (.irem, 1)) (hne : ¬ y = 0) (k : mm_V g l own nm cc nL ret hh d dc ds Q (pc + 1) ls (.int (x - x / y * y) :: st) S uc us) : mm_V g l own nm cc nL ret hh d dc ds Q pc ls (.int y :: .int x :: st) S uc us := by
  intro p e R s m args below meth c QQ hc he H locs la hR hS hF hZ hl
  exact lv_irem hc.1 hc.2.1 hd hne (k p e R s m args below meth c QQ hc he H locs la hR hS hF hZ hl)
theorem mm_ldiv {x y : Int64} (hd : decode cc pc = .ok (.ldiv, 1)) (hne : ¬ y = 0) (k : mm_V g l own nm cc nL ret hh d dc ds Q (pc + 1) ls (.long (x / y) :: st) S uc us) : mm_V g l own nm cc nL ret hh d dc ds Q pc ls (.long y :: .long x :: st) S uc us := by
  intro p e R s m args below meth c QQ hc he H locs la hR hS hF hZ hl
  exact lv_ldiv hc.1 hc.2.1 hd hne (k p e R s m args below meth c QQ hc he H locs la hR hS hF hZ hl)
theorem mm_ineg {x : Int32} (hd : decode cc pc = .ok (.ineg, 1)) (k : mm_V g l own nm cc nL ret hh d dc ds Q (pc + 1) ls (.int (-x) :: st) S uc us) : mm_V g l own nm cc nL ret hh d dc ds Q pc ls (.int x :: st) S uc us := by
  intro p e R s m args below meth c QQ hc he H locs la hR hS hF hZ hl
  exact lv_ineg hc.1 hc.2.1 hd (k p e R s m args below meth c QQ hc he H locs la hR hS hF hZ hl)
theorem mm_lneg {x : Int64} (hd : decode cc pc = .ok (.lneg, 1)) (k : mm_V g l own nm cc nL ret hh d dc ds Q (pc + 1) ls (.long (-x) :: st) S uc us) : mm_V g l own nm cc nL ret hh d dc ds Q pc ls (.long x :: st) S uc us := by
  intro p e R s m args below meth c QQ hc he H locs la hR hS hF hZ hl
  exact lv_lneg hc.1 hc.2.1 hd (k p e R s m args below meth c QQ hc he H locs la hR hS hF hZ hl)
theorem mm_ishl {x y : Int32} (hd : decode cc pc = .ok (.ishl, 1)) (k : mm_V g l own nm cc nL ret hh d dc ds Q (pc + 1) ls (.int (x <<< (y &&& 31)) :: st) S uc us) : mm_V g l own nm cc nL ret hh d dc ds Q pc ls (.int y :: .int x :: st) S uc us := by
  intro p e R s m args below meth c QQ hc he H locs la hR hS hF hZ hl
  exact lv_ishl hc.1 hc.2.1 hd (k p e R s m args below meth c QQ hc he H locs la hR hS hF hZ hl)
theorem mm_ishr {x y : Int32} (hd : decode cc pc = .ok (.ishr, 1)) (k : mm_V g l own nm cc nL ret hh d dc ds Q (pc + 1) ls (.int (x >>> (y &&& 31)) :: st) S uc us) : mm_V g l own nm cc nL ret hh d dc ds Q pc ls (.int y :: .int x :: st) S uc us := by
  intro p e R s m args below meth c QQ hc he H locs la hR hS hF hZ hl
  exact lv_ishr hc.1 hc.2.1 hd (k p e R s m args below meth c QQ hc he H locs la hR hS hF hZ hl)
theorem mm_iushr {x y : Int32} (hd : decode cc pc = .ok (.iushr, 1)) (k : mm_V g l own nm cc nL ret hh d dc ds Q (pc + 1) ls (.int (x.toUInt32 >>> (y.toUInt32 &&& Int32.toUInt32 31)).toInt32 :: st) S uc us) : mm_V g l own nm cc nL ret hh d dc ds Q pc ls (.int y :: .int x :: st) S uc us := by
  intro p e R s m args below meth c QQ hc he H locs la hR hS hF hZ hl
  exact lv_iushr hc.1 hc.2.1 hd rfl (k p e R s m args below meth c QQ hc he H locs la hR hS hF hZ hl)
theorem mm_lushr {x : Int64} {y : Int32} (hd : decode cc pc = .ok (.lushr, 1)) (k : mm_V g l own nm cc nL ret hh d dc ds Q (pc + 1) ls (.long (x.toUInt64 >>> (y.toInt64.toUInt64 &&& Int64.toUInt64 63)).toInt64 :: st) S uc us) : mm_V g l own nm cc nL ret hh d dc ds Q pc ls (.int y :: .long x :: st) S uc us := by
  intro p e R s m args below meth c QQ hc he H locs la hR hS hF hZ hl
  exact lv_lushr hc.1 hc.2.1 hd rfl (k p e R s m args below meth c QQ hc he H locs la hR hS hF hZ hl)
theorem mm_lshl {x : Int64} {y : Int32} (hd : decode cc pc = .ok (.lshl, 1)) (k : mm_V g l own nm cc nL ret hh d dc ds Q (pc + 1) ls (.long (x <<< (y.toInt64 &&& 63)) :: st) S uc us) : mm_V g l own nm cc nL ret hh d dc ds Q pc ls (.int y :: .long x :: st) S uc us := by
  intro p e R s m args below meth c QQ hc he H locs la hR hS hF hZ hl
  exact lv_lshl hc.1 hc.2.1 hd rfl (k p e R s m args below meth c QQ hc he H locs la hR hS hF hZ hl)
theorem mm_lshr {x : Int64} {y : Int32} (hd : decode cc pc = .ok (.lshr, 1)) (k : mm_V g l own nm cc nL ret hh d dc ds Q (pc + 1) ls (.long (x >>> (y.toInt64 &&& 63)) :: st) S uc us) : mm_V g l own nm cc nL ret hh d dc ds Q pc ls (.int y :: .long x :: st) S uc us := by
  intro p e R s m args below meth c QQ hc he H locs la hR hS hF hZ hl
  exact lv_lshr hc.1 hc.2.1 hd rfl (k p e R s m args below meth c QQ hc he H locs la hR hS hF hZ hl)
theorem mm_i2l {x : Int32} (hd : decode cc pc = .ok (.i2l, 1)) (k : mm_V g l own nm cc nL ret hh d dc ds Q (pc + 1) ls (.long x.toInt64 :: st) S uc us) : mm_V g l own nm cc nL ret hh d dc ds Q pc ls (.int x :: st) S uc us := by
  intro p e R s m args below meth c QQ hc he H locs la hR hS hF hZ hl
  exact lv_i2l hc.1 hc.2.1 hd rfl (k p e R s m args below meth c QQ hc he H locs la hR hS hF hZ hl)
theorem mm_l2i {x : Int64} (hd : decode cc pc = .ok (.l2i, 1)) (k : mm_V g l own nm cc nL ret hh d dc ds Q (pc + 1) ls (.int x.toInt32 :: st) S uc us) : mm_V g l own nm cc nL ret hh d dc ds Q pc ls (.long x :: st) S uc us := by
  intro p e R s m args below meth c QQ hc he H locs la hR hS hF hZ hl
  exact lv_l2i hc.1 hc.2.1 hd rfl (k p e R s m args below meth c QQ hc he H locs la hR hS hF hZ hl)
theorem mm_i2b {x : Int32} (hd : decode cc pc = .ok (.i2b, 1)) (k : mm_V g l own nm cc nL ret hh d dc ds Q (pc + 1) ls (.int x.toInt8.toInt32 :: st) S uc us) : mm_V g l own nm cc nL ret hh d dc ds Q pc ls (.int x :: st) S uc us := by
  intro p e R s m args below meth c QQ hc he H locs la hR hS hF hZ hl
  exact lv_i2b hc.1 hc.2.1 hd rfl (k p e R s m args below meth c QQ hc he H locs la hR hS hF hZ hl)
theorem mm_lcmp {x y : Int64} (hd : decode cc pc = .ok (.lcmp, 1)) (k : mm_V g l own nm cc nL ret hh d dc ds Q (pc + 1) ls (.int (lg_cmp x y) :: st) S uc us) : mm_V g l own nm cc nL ret hh d dc ds Q pc ls (.long y :: .long x :: st) S uc us := by
  intro p e R s m args below meth c QQ hc he H locs la hR hS hF hZ hl
  exact W.lcmp hc.1 hc.2.1 hd (k p e R s m args below meth c QQ hc he H locs la hR hS hF hZ hl)
theorem mm_dup {v : Value} (hd : decode cc pc = .ok (.dup, 1)) (hv : v.category = 1) (k : mm_V g l own nm cc nL ret hh d dc ds Q (pc + 1) ls (v :: v :: st) S uc us) : mm_V g l own nm cc nL ret hh d dc ds Q pc ls (v :: st) S uc us := by
  intro p e R s m args below meth c QQ hc he H locs la hR hS hF hZ hl
  exact lv_dup hc.1 hc.2.1 hd ((mm_cv_cat g v).trans hv) (k p e R s m args below meth c QQ hc he H locs la hR hS hF hZ hl)
theorem mm_pop {v : Value} (hd : decode cc pc = .ok (.pop, 1)) (hv : v.category = 1) (k : mm_V g l own nm cc nL ret hh d dc ds Q (pc + 1) ls st S uc us) : mm_V g l own nm cc nL ret hh d dc ds Q pc ls (v :: st) S uc us := by
  intro p e R s m args below meth c QQ hc he H locs la hR hS hF hZ hl
  exact lv_pop hc.1 hc.2.1 hd ((mm_cv_cat g v).trans hv) (k p e R s m args below meth c QQ hc he H locs la hR hS hF hZ hl)
theorem mm_dup2 {v w : Value} (hd : decode cc pc = .ok (.dup2, 1)) (hv : v.category = 1) (hw : w.category = 1) (k : mm_V g l own nm cc nL ret hh d dc ds Q (pc + 1) ls (v :: w :: v :: w :: st) S uc us) : mm_V g l own nm cc nL ret hh d dc ds Q pc ls (v :: w :: st) S uc us := by
  intro p e R s m args below meth c QQ hc he H locs la hR hS hF hZ hl
  exact lv_dup2_11 hc.1 hc.2.1 hd ((mm_cv_cat g v).trans hv) ((mm_cv_cat g w).trans hw) (k p e R s m args below meth c QQ hc he H locs la hR hS hF hZ hl)
theorem mm_if_eq {x : Int32} {off : Int} (tgt : Nat) (hd : decode cc pc = .ok (.ifCond .eq off, 3)) (ht : (pc : Int) + off = (tgt : Int)) (kt : x = 0 → mm_V g l own nm cc nL ret hh d dc ds Q tgt ls st S uc us) (kf : ¬ (x = 0) → mm_V g l own nm cc nL ret hh d dc ds Q (pc + 3) ls st S uc us) : mm_V g l own nm cc nL ret hh d dc ds Q pc ls (.int x :: st) S uc us := by
  intro p e R s m args below meth c QQ hc he H locs la hR hS hF hZ hl
  exact lv_if_eq hc.1 hc.2.1 hd ht (fun q => kt q p e R s m args below meth c QQ hc he H locs la hR hS hF hZ hl) (fun q => kf q p e R s m args below meth c QQ hc he H locs la hR hS hF hZ hl)
theorem mm_icmp_eq {x y : Int32} {off : Int} (tgt : Nat) (hd : decode cc pc = .ok (.if_icmp .eq off, 3)) (ht : (pc : Int) + off = (tgt : Int)) (kt : x = y → mm_V g l own nm cc nL ret hh d dc ds Q tgt ls st S uc us) (kf : ¬ (x = y) → mm_V g l own nm cc nL ret hh d dc ds Q (pc + 3) ls st S uc us) : mm_V g l own nm cc nL ret hh d dc ds Q pc ls (.int y :: .int x :: st) S uc us := by
  intro p e R s m args below meth c QQ hc he H locs la hR hS hF hZ hl
  exact lv_icmp_eq hc.1 hc.2.1 hd ht (fun q => kt q p e R s m args below meth c QQ hc he H locs la hR hS hF hZ hl) (fun q => kf q p e R s m args below meth c QQ hc he H locs la hR hS hF hZ hl)
theorem mm_if_ne {x : Int32} {off : Int} (tgt : Nat) (hd : decode cc pc = .ok (.ifCond .ne off, 3)) (ht : (pc : Int) + off = (tgt : Int)) (kt : ¬ x = 0 → mm_V g l own nm cc nL ret hh d dc ds Q tgt ls st S uc us) (kf : x = 0 → mm_V g l own nm cc nL ret hh d dc ds Q (pc + 3) ls st S uc us) : mm_V g l own nm cc nL ret hh d dc ds Q pc ls (.int x :: st) S uc us := by
  intro p e R s m args below meth c QQ hc he H locs la hR hS hF hZ hl
  exact lv_if_ne hc.1 hc.2.1 hd ht (fun q => kt q p e R s m args below meth c QQ hc he H locs la hR hS hF hZ hl) (fun q => kf q p e R s m args below meth c QQ hc he H locs la hR hS hF hZ hl)
theorem mm_icmp_ne {x y : Int32} {off : Int} (tgt : Nat) (hd : decode cc pc = .ok (.if_icmp .ne off, 3)) (ht : (pc : Int) + off = (tgt : Int)) (kt : ¬ x = y → mm_V g l own nm cc nL ret hh d dc ds Q tgt ls st S uc us) (kf : x = y → mm_V g l own nm cc nL ret hh d dc ds Q (pc + 3) ls st S uc us) : mm_V g l own nm cc nL ret hh d dc ds Q pc ls (.int y :: .int x :: st) S uc us := by
  intro p e R s m args below meth c QQ hc he H locs la hR hS hF hZ hl
  exact lv_icmp_ne hc.1 hc.2.1 hd ht (fun q => kt q p e R s m args below meth c QQ hc he H locs la hR hS hF hZ hl) (fun q => kf q p e R s m args below meth c QQ hc he H locs la hR hS hF hZ hl)
theorem mm_if_lt {x : Int32} {off : Int} (tgt : Nat) (hd : decode cc pc = .ok (.ifCond .lt off, 3)) (ht : (pc : Int) + off = (tgt : Int)) (kt : x < 0 → mm_V g l own nm cc nL ret hh d dc ds Q tgt ls st S uc us) (kf : ¬ (x < 0) → mm_V g l own nm cc nL ret hh d dc ds Q (pc + 3) ls st S uc us) : mm_V g l own nm cc nL ret hh d dc ds Q pc ls (.int x :: st) S uc us := by
  intro p e R s m args below meth c QQ hc he H locs la hR hS hF hZ hl
  exact lv_if_lt hc.1 hc.2.1 hd ht (fun q => kt q p e R s m args below meth c QQ hc he H locs la hR hS hF hZ hl) (fun q => kf q p e R s m args below meth c QQ hc he H locs la hR hS hF hZ hl)
theorem mm_icmp_lt {x y : Int32} {off : Int} (tgt : Nat) (hd : decode cc pc = .ok (.if_icmp .lt off, 3)) (ht : (pc : Int) + off = (tgt : Int)) (kt : x < y → mm_V g l own nm cc nL ret hh d dc ds Q tgt ls st S uc us) (kf : ¬ (x < y) → mm_V g l own nm cc nL ret hh d dc ds Q (pc + 3) ls st S uc us) : mm_V g l own nm cc nL ret hh d dc ds Q pc ls (.int y :: .int x :: st) S uc us := by
  intro p e R s m args below meth c QQ hc he H locs la hR hS hF hZ hl
  exact lv_icmp_lt hc.1 hc.2.1 hd ht (fun q => kt q p e R s m args below meth c QQ hc he H locs la hR hS hF hZ hl) (fun q => kf q p e R s m args below meth c QQ hc he H locs la hR hS hF hZ hl)
theorem mm_if_ge {x : Int32} {off : Int} (tgt : Nat) (hd : decode cc pc = .ok (.ifCond .ge off, 3)) (ht : (pc : Int) + off = (tgt : Int)) (kt : 0 ≤ x → mm_V g l own nm cc nL ret hh d dc ds Q tgt ls st S uc us) (kf : ¬ (0 ≤ x) → mm_V g l own nm cc nL ret hh d dc ds Q (pc + 3) ls st S uc us) : mm_V g l own nm cc nL ret hh d dc ds Q pc ls (.int x :: st) S uc us := by
  intro p e R s m args below meth c QQ hc he H locs la hR hS hF hZ hl
  exact lv_if_ge hc.1 hc.2.1 hd ht (fun q => kt q p e R s m args below meth c QQ hc he H locs la hR hS hF hZ hl) (fun q => kf q p e R s m args below meth c QQ hc he H locs la hR hS hF hZ hl)
theorem mm_icmp_ge {x y : Int32} {off : Int} (tgt : Nat) (hd : decode cc pc = .ok (.if_icmp .ge off, 3)) (ht : (pc : Int) + off = (tgt : Int)) (kt : y ≤ x → mm_V g l own nm cc nL ret hh d dc ds Q tgt ls st S uc us) (kf : ¬ (y ≤ x) → mm_V g l own nm cc nL ret hh d dc ds Q (pc + 3) ls st S uc us) : mm_V g l own nm cc nL ret hh d dc ds Q pc ls (.int y :: .int x :: st) S uc us := by
  intro p e R s m args below meth c QQ hc he H locs la hR hS hF hZ hl
  exact lv_icmp_ge hc.1 hc.2.1 hd ht (fun q => kt q p e R s m args below meth c QQ hc he H locs la hR hS hF hZ hl) (fun q => kf q p e R s m args below meth c QQ hc he H locs la hR hS hF hZ hl)
theorem mm_if_gt {x : Int32} {off : Int} (tgt : Nat) (hd : decode cc pc = .ok (.ifCond .gt off, 3)) (ht : (pc : Int) + off = (tgt : Int)) (kt : 0 < x → mm_V g l own nm cc nL ret hh d dc ds Q tgt ls st S uc us) (kf : ¬ (0 < x) → mm_V g l own nm cc nL ret hh d dc ds Q (pc + 3) ls st S uc us) : mm_V g l own nm cc nL ret hh d dc ds Q pc ls (.int x :: st) S uc us := by
  intro p e R s m args below meth c QQ hc he H locs la hR hS hF hZ hl
  exact lv_if_gt hc.1 hc.2.1 hd ht (fun q => kt q p e R s m args below meth c QQ hc he H locs la hR hS hF hZ hl) (fun q => kf q p e R s m args below meth c QQ hc he H locs la hR hS hF hZ hl)
theorem mm_icmp_gt {x y : Int32} {off : Int} (tgt : Nat) (hd : decode cc pc = .ok (.if_icmp .gt off, 3)) (ht : (pc : Int) + off = (tgt : Int)) (kt : y < x → mm_V g l own nm cc nL ret hh d dc ds Q tgt ls st S uc us) (kf : ¬ (y < x) → mm_V g l own nm cc nL ret hh d dc ds Q (pc + 3) ls st S uc us) : mm_V g l own nm cc nL ret hh d dc ds Q pc ls (.int y :: .int x :: st) S uc us := by
  intro p e R s m args below meth c QQ hc he H locs la hR hS hF hZ hl
  exact lv_icmp_gt hc.1 hc.2.1 hd ht (fun q => kt q p e R s m args below meth c QQ hc he H locs la hR hS hF hZ hl) (fun q => kf q p e R s m args below meth c QQ hc he H locs la hR hS hF hZ hl)
theorem mm_if_le {x : Int32} {off : Int} (tgt : Nat) (hd : decode cc pc = .ok (.ifCond .le off, 3)) (ht : (pc : Int) + off = (tgt : Int)) (kt : x ≤ 0 → mm_V g l own nm cc nL ret hh d dc ds Q tgt ls st S uc us) (kf : ¬ (x ≤ 0) → mm_V g l own nm cc nL ret hh d dc ds Q (pc + 3) ls st S uc us) : mm_V g l own nm cc nL ret hh d dc ds Q pc ls (.int x :: st) S uc us := by
  intro p e R s m args below meth c QQ hc he H locs la hR hS hF hZ hl
  exact lv_if_le hc.1 hc.2.1 hd ht (fun q => kt q p e R s m args below meth c QQ hc he H locs la hR hS hF hZ hl) (fun q => kf q p e R s m args below meth c QQ hc he H locs la hR hS hF hZ hl)
theorem mm_icmp_le {x y : Int32} {off : Int} (tgt : Nat) (hd : decode cc pc = .ok (.if_icmp .le off, 3)) (ht : (pc : Int) + off = (tgt : Int)) (kt : x ≤ y → mm_V g l own nm cc nL ret hh d dc ds Q tgt ls st S uc us) (kf : ¬ (x ≤ y) → mm_V g l own nm cc nL ret hh d dc ds Q (pc + 3) ls st S uc us) : mm_V g l own nm cc nL ret hh d dc ds Q pc ls (.int y :: .int x :: st) S uc us := by
  intro p e R s m args below meth c QQ hc he H locs la hR hS hF hZ hl
  exact lv_icmp_le hc.1 hc.2.1 hd ht (fun q => kt q p e R s m args below meth c QQ hc he H locs la hR hS hF hZ hl) (fun q => kf q p e R s m args below meth c QQ hc he H locs la hR hS hF hZ hl)
theorem mm_goto {off : Int} (tgt : Nat) (hd : decode cc pc = .ok (.goto off, 3)) (ht : (pc : Int) + off = (tgt : Int)) (k : mm_V g l own nm cc nL ret hh d dc ds Q tgt ls st S uc us) : mm_V g l own nm cc nL ret hh d dc ds Q pc ls st S uc us := by
  intro p e R s m args below meth c QQ hc he H locs la hR hS hF hZ hl
  exact lv_goto hc.1 hc.2.1 hd ht (k p e R s m args below meth c QQ hc he H locs la hR hS hF hZ hl)
theorem mm_ifnull {r : Option Nat} {off : Int} (tgt : Nat) (hd : decode cc pc = .ok (.ifnull off, 3)) (ht : (pc : Int) + off = (tgt : Int)) (kt : r = none → mm_V g l own nm cc nL ret hh d dc ds Q tgt ls st S uc us) (kf : ¬ r = none → mm_V g l own nm cc nL ret hh d dc ds Q (pc + 3) ls st S uc us) : mm_V g l own nm cc nL ret hh d dc ds Q pc ls (va_rf r :: st) S uc us := by
  intro p e R s m args below meth c QQ hc he H locs la hR hS hF hZ hl
  cases r with
  | none => exact lv_ifnullN hc.1 hc.2.1 hd ht (kt rfl p e R s m args below meth c QQ hc he H locs la hR hS hF hZ hl)
  | some a => exact lv_ifnull hc.1 hc.2.1 hd (kf (fun q => by cases q) p e R s m args below meth c QQ hc he H locs la hR hS hF hZ hl)
theorem mm_ifnonnull {r : Option Nat} {off : Int} (tgt : Nat) (hd : decode cc pc = .ok (.ifnonnull off, 3)) (ht : (pc : Int) + off = (tgt : Int)) (kt : ¬ r = none → mm_V g l own nm cc nL ret hh d dc ds Q tgt ls st S uc us) (kf : r = none → mm_V g l own nm cc nL ret hh d dc ds Q (pc + 3) ls st S uc us) : mm_V g l own nm cc nL ret hh d dc ds Q pc ls (va_rf r :: st) S uc us := by
  intro p e R s m args below meth c QQ hc he H locs la hR hS hF hZ hl
  cases r with
  | none => exact lv_ifnonnullN hc.1 hc.2.1 hd (kf rfl p e R s m args below meth c QQ hc he H locs la hR hS hF hZ hl)
  | some a => exact lv_ifnonnull hc.1 hc.2.1 hd ht (kt (fun q => by cases q) p e R s m args below meth c QQ hc he H locs la hR hS hF hZ hl)
theorem mm_acmp_eq {rx ry : Option Nat} {off : Int} (tgt : Nat) (hd : decode cc pc = .ok (.if_acmp .eq off, 3)) (ht : (pc : Int) + off = (tgt : Int)) (kt : rx = ry → mm_V g l own nm cc nL ret hh d dc ds Q tgt ls st S uc us) (kf : ¬ rx = ry → mm_V g l own nm cc nL ret hh d dc ds Q (pc + 3) ls st S uc us) : mm_V g l own nm cc nL ret hh d dc ds Q pc ls (va_rf ry :: va_rf rx :: st) S uc us := by
  intro p e R s m args below meth c QQ hc he H locs la hR hS hF hZ hl
  have e1 : ∀ r : Option Nat, mm_cv g (va_rf r) = va_rf (r.map (fun i => mm_b g + i)) := fun r => by cases r <;> rfl
  have e2 : rx.map (fun i => mm_b g + i) = ry.map (fun i => mm_b g + i) → rx = ry := fun q => by cases rx <;> cases ry <;> simp at q ⊢ <;> exact q
  show W p l e R s m args below meth c H locs uc us QQ (F0 m pc la (mm_cv g (va_rf ry) :: mm_cv g (va_rf rx) :: st.map (mm_cv g)))
  rw [e1, e1]
  exact lv_acmp_eq hc.1 hc.2.1 hd ht (fun q => kt (e2 q) p e R s m args below meth c QQ hc he H locs la hR hS hF hZ hl) (fun q => kf (fun z => q (by rw [z])) p e R s m args below meth c QQ hc he H locs la hR hS hF hZ hl)
theorem mm_acmp_ne {rx ry : Option Nat} {off : Int} (tgt : Nat) (hd : decode cc pc = .ok (.if_acmp .ne off, 3)) (ht : (pc : Int) + off = (tgt : Int)) (kt : ¬ rx = ry → mm_V g l own nm cc nL ret hh d dc ds Q tgt ls st S uc us) (kf : rx = ry → mm_V g l own nm cc nL ret hh d dc ds Q (pc + 3) ls st S uc us) : mm_V g l own nm cc nL ret hh d dc ds Q pc ls (va_rf ry :: va_rf rx :: st) S uc us := by
  intro p e R s m args below meth c QQ hc he H locs la hR hS hF hZ hl
  have e1 : ∀ r : Option Nat, mm_cv g (va_rf r) = va_rf (r.map (fun i => mm_b g + i)) := fun r => by cases r <;> rfl
  have e2 : rx.map (fun i => mm_b g + i) = ry.map (fun i => mm_b g + i) → rx = ry := fun q => by cases rx <;> cases ry <;> simp at q ⊢ <;> exact q
  show W p l e R s m args below meth c H locs uc us QQ (F0 m pc la (mm_cv g (va_rf ry) :: mm_cv g (va_rf rx) :: st.map (mm_cv g)))
  rw [e1, e1]
  exact lv_acmp_ne hc.1 hc.2.1 hd ht (fun q => kt (fun z => q (by rw [z])) p e R s m args below meth c QQ hc he H locs la hR hS hF hZ hl) (fun q => kf (e2 q) p e R s m args below meth c QQ hc he H locs la hR hS hF hZ hl)
-- returns
theorem mm_iret {x : Int32} {ty : FieldType} (hd : decode cc pc = .ok (.ireturn, 1)) (hr : ret = some ty) (hn : narrow ty (.int x) = .int x) (hq : Q (.inl (some (.int x))) S) (h1 : uc ≤ dc) (h2 : us ≤ ds) : mm_V g l own nm cc nL ret hh d dc ds Q pc ls [.int x] S uc us := by
  intro p e R s m args below meth c QQ hc he H locs la hR hS hF hZ hl
  exact he.1 .ireturn (some (.int x)) S H locs uc us pc la (Or.inl ⟨x, ty, rfl, rfl, hr, hn⟩) hd hq hR hF h1 h2
theorem mm_lret {x : Int64} (hd : decode cc pc = .ok (.lreturn, 1)) (hr : ret = some .long) (hq : Q (.inl (some (.long x))) S) (h1 : uc ≤ dc) (h2 : us ≤ ds) : mm_V g l own nm cc nL ret hh d dc ds Q pc ls [.long x] S uc us := by
  intro p e R s m args below meth c QQ hc he H locs la hR hS hF hZ hl
  exact he.1 .lreturn (some (.long x)) S H locs uc us pc la (Or.inr (Or.inl ⟨x, rfl, rfl, hr⟩)) hd hq hR hF h1 h2
theorem mm_vret (hd : decode cc pc = .ok (.return_, 1)) (hr : ret = none) (hq : Q (.inl none) S) (h1 : uc ≤ dc) (h2 : us ≤ ds) : mm_V g l own nm cc nL ret hh d dc ds Q pc ls [] S uc us := by
  intro p e R s m args below meth c QQ hc he H locs la hR hS hF hZ hl
  exact he.1 .return_ none S H locs uc us pc la (Or.inr (Or.inr (Or.inl ⟨rfl, rfl, hr⟩))) hd hq hR hF h1 h2
theorem mm_aret {a : Option Nat} {C : String} (hd : decode cc pc = .ok (.areturn, 1)) (hr : ret = some (.object C)) (hq : Q (.inl (some (va_rf a))) S) (h1 : uc ≤ dc) (h2 : us ≤ ds) : mm_V g l own nm cc nL ret hh d dc ds Q pc ls [va_rf a] S uc us := by
  intro p e R s m args below meth c QQ hc he H locs la hR hS hF hZ hl
  exact he.1 .areturn (some (va_rf a)) S H locs uc us pc la (Or.inr (Or.inr (Or.inr ⟨a, C, rfl, rfl, hr⟩))) hd hq hR hF h1 h2
/-- fewer locals known -/
theorem mm_fewer (ls' : List (Option Value)) (h : ∀ (i : Nat) (v : Value), ls'[i]? = some (some v) → ls[i]? = some (some v)) (k : mm_V g l own nm cc nL ret hh d dc ds Q pc ls' st S uc us) : mm_V g l own nm cc nL ret hh d dc ds Q pc ls st S uc us := by
  intro p e R s m args below meth c QQ hc he H locs la hR hS hF hZ hl
  exact k p e R s m args below meth c QQ hc he H locs la hR hS hF hZ (mm_ls_sub hl h)
/-- how large the heap is, while no exception has been made -/
theorem mm_sz {p : Program} {e : Env} {R : Room} {s : State} {m : MethodId} {args : Array Value} {below : List Frame} {meth : Method} {c : Code} {T : State} {locs : List Loc} (X : Stand p l e R s m args below meth c T locs uc us) (hR : mm_Rp g S T.heap) (hZ : S.2.2 = false → s.heap.size + uc = mm_b g + S.2.1) : S.2.2 = false → T.heap.size = mm_b g + S.2.1 := by
  intro h
  have h1 := X.heapSize
  have h2 := hZ h
  have h3 : mm_b g + S.2.1 ≤ T.heap.size := by
    rcases Nat.eq_zero_or_pos S.2.1 with h0 | h0
    · rw [h0]; exact hR.2
    · have h4 := (hR.1 (S.2.1 - 1) _ (mm_wl_at (g := g) (M := S.1) (n := S.2.1) (by omega))).lt
      dsimp only at h4
      omega
  omega
-- fields
theorem mm_get {C : String} {T : u_T} {N ci index a k : Nat} {v : Value} {fs : List Value} (hin : ∀ w ∈ u_ws C T N, w ∈ mm_ws) (hc0 : vwCl[ci]? = some (C, T, N)) (hk : k < N) (ho : (T k).1 = C) (hlk : Cond.fieldLink own index C (T k).2.1 (T k).2.2.1 ∈ mm_ws) (hd : decode cc pc = .ok (.getfield index, 3))
    (hm : S.1 a = .inr (ci, fs)) (ha : a < S.2.1) (hv : fs[k]? = some v) (kk : mm_V g l own nm cc nL ret hh d dc ds Q (pc + 3) ls (v :: st) S uc us) : mm_V g l own nm cc nL ret hh d dc ds Q pc ls (.ref a :: st) S uc us := by
  intro p e R s m args below meth c QQ hc he H locs la hR hS hF hZ hl
  obtain ⟨hx, hb, hml, hr, hlk2, hown, htb, hws, hrest⟩ := id hc
  refine va_get (D := mm_D g) (v := mm_cv g v) (fs := fs.map (mm_cv g)) hx hb hws hin hown hS.1 hR.1 a (by rw [mm_wl_at ha, hm]; rfl) hc0 k hk (hws _ hlk) (fun x h => by rw [ho] at h; exact h) (by rw [List.getElem?_map, hv]; rfl) hd ?_
  exact kk p e R s m args below meth c QQ hc he H locs la hR hS hF hZ hl
theorem mm_getN {C host : String} {T : u_T} {N ci index a k : Nat} {v : Value} {fs : List Value} (hin : ∀ w ∈ u_ws C T N, w ∈ mm_ws) (hc0 : vwCl[ci]? = some (C, T, N)) (hk : k < N) (ho : (T k).1 = C) (hlk : Cond.fieldLinkNest own index C (T k).2.1 (T k).2.2.1 host ∈ mm_nest) (hd : decode cc pc = .ok (.getfield index, 3))
    (hm : S.1 a = .inr (ci, fs)) (ha : a < S.2.1) (hv : fs[k]? = some v) (kk : mm_V g l own nm cc nL ret hh d dc ds Q (pc + 3) ls (v :: st) S uc us) : mm_V g l own nm cc nL ret hh d dc ds Q pc ls (.ref a :: st) S uc us := by
  intro p e R s m args below meth c QQ hc he H locs la hR hS hF hZ hl
  obtain ⟨hx, hb, hml, hr, hlk2, hown, htb, hws, hrest⟩ := id hc
  refine va_getN (D := mm_D g) (v := mm_cv g v) (fs := fs.map (mm_cv g)) hx hb hws hin hown hS.1 hR.1 a (by rw [mm_wl_at ha, hm]; rfl) hc0 k hk (va_Nw.use rfl (hS.2.1 _ hlk)) (fun x h => by rw [ho] at h; exact h) (by rw [List.getElem?_map, hv]; rfl) hd ?_
  exact kk p e R s m args below meth c QQ hc he H locs la hR hS hF hZ hl
/-- a value that a field of this type may hold -/
def mm_fit (ty : FieldType) (v : Value) : Prop := (∀ g : mm_G, narrow ty (mm_cv g v) = mm_cv g v) ∧ ∀ g : mm_G, fits ty (mm_cv g v) = true
theorem mm_set_map (g : mm_G) (fs : List Value) (k : Nat) (v : Value) : (fs.map (mm_cv g)).set k (mm_cv g v) = (fs.set k v).map (mm_cv g) := by rw [List.map_set]
theorem mm_kept_of {g : mm_G} {s : State} {H H1 : Heap} {locs locs1 : List Loc} (hb : mm_b g ≤ s.heap.size) (hS : mm_St g s H) (hF : va_S (mm_A g) s.heap H locs) (hF1 : va_S (mm_A g) s.heap H1 locs1) (hz : mm_b g ≤ H1.size) : mm_St g s H1 := by
  obtain ⟨h1, h2, h3, h4, h5, h6, h7, h8, h9⟩ := hS
  have hq : ∀ q : Nat, q < mm_b g → H1[q]? = H[q]? := fun q hq => (hF1.2.1 q (Nat.lt_of_lt_of_le hq hb) (Nat.not_le.mpr hq)).trans (hF.2.1 q (Nat.lt_of_lt_of_le hq hb) (Nat.not_le.mpr hq)).symm
  have hq' : ∀ a : Nat, a < H.size → ¬ mm_A g a → H1[a]? = H[a]? := fun a _ ha => hq a (Nat.not_le.mp ha)
  exact ⟨h1, h2, h3, h4, ⟨h5.1, h5.2.kept hq'⟩, ⟨vx_Zq.kept h6.1 hq', vx_Zq.kept h6.2 hq'⟩, va_X.kept h7 (hq _ h8), h8, hz⟩
theorem mm_put {C : String} {T : u_T} {ty0 : Nat → FieldType} {N ci index a k : Nat} {v : Value} {fs : List Value} (hin : ∀ w ∈ u_ws C T N, w ∈ mm_ws) (hty : ∀ k, k < N → parseFieldDescriptor (T k).2.2.1 = some (ty0 k)) (hnm : ∀ a, a < N → ∀ b, b < N → a ≠ b → (T a).2.1 ≠ (T b).2.1) (hc0 : vwCl[ci]? = some (C, T, N)) (hk : k < N) (ho : (T k).1 = C) (hfin : (T k).2.2.2 = false) (hlk : Cond.fieldLink own index C (T k).2.1 (T k).2.2.1 ∈ mm_ws) (hd : decode cc pc = .ok (.putfield index, 3))
    (hf : mm_fit (ty0 k) v) (hm : S.1 a = .inr (ci, fs)) (ha : a < S.2.1) (hl9 : k < fs.length) (kk : mm_V g l own nm cc nL ret hh d dc ds Q (pc + 3) ls st (mm_up S.1 a (.inr (ci, fs.set k v)), S.2) uc us) : mm_V g l own nm cc nL ret hh d dc ds Q pc ls (v :: .ref a :: st) S uc us := by
  intro p e R s m args below meth c QQ hc he H locs la hR hS hF hZ hl
  obtain ⟨hx, hb, hml, hr, hlk2, hown, htb, hws, -, -, -, -, -, -, hbs⟩ := id hc
  refine va_put (D := mm_D g) (v := mm_cv g v) (fs := fs.map (mm_cv g)) hx hb hws hin ty0 hty hnm hown hS.1 hR.1 (mm_wl_D g S.1 S.2.1) hF a (by rw [mm_wl_at ha, hm]; rfl) hc0 k hk (hws _ hlk) (fun x h => by rw [ho] at h; exact h) hfin (hty k hk) (hf.1 g) (hf.2 g) (by simpa using hl9) hd (fun H1 locs1 hP1 hD1 hF1 => ?_)
  rw [mm_wl_set (c := .inr (ci, fs.set k v)) (by rw [mm_set_map]; rfl) ha] at hP1
  have hz : mm_b g ≤ H1.size := Nat.le_trans hbs hF1.1
  exact kk p e R s m args below meth c QQ hc he H1 locs1 la ⟨hP1, hz⟩ (mm_kept_of hbs hS hF hF1 hz) hF1 hZ hl
theorem mm_putN {C host : String} {T : u_T} {ty0 : Nat → FieldType} {N ci index a k : Nat} {v : Value} {fs : List Value} (hin : ∀ w ∈ u_ws C T N, w ∈ mm_ws) (hty : ∀ k, k < N → parseFieldDescriptor (T k).2.2.1 = some (ty0 k)) (hnm : ∀ a, a < N → ∀ b, b < N → a ≠ b → (T a).2.1 ≠ (T b).2.1) (hc0 : vwCl[ci]? = some (C, T, N)) (hk : k < N) (ho : (T k).1 = C) (hfin : (T k).2.2.2 = false) (hlk : Cond.fieldLinkNest own index C (T k).2.1 (T k).2.2.1 host ∈ mm_nest) (hd : decode cc pc = .ok (.putfield index, 3))
    (hf : mm_fit (ty0 k) v) (hm : S.1 a = .inr (ci, fs)) (ha : a < S.2.1) (hl9 : k < fs.length) (kk : mm_V g l own nm cc nL ret hh d dc ds Q (pc + 3) ls st (mm_up S.1 a (.inr (ci, fs.set k v)), S.2) uc us) : mm_V g l own nm cc nL ret hh d dc ds Q pc ls (v :: .ref a :: st) S uc us := by
  intro p e R s m args below meth c QQ hc he H locs la hR hS hF hZ hl
  obtain ⟨hx, hb, hml, hr, hlk2, hown, htb, hws, -, -, -, -, -, -, hbs⟩ := id hc
  refine va_putN (D := mm_D g) (v := mm_cv g v) (fs := fs.map (mm_cv g)) hx hb hws hin ty0 hty hnm hown hS.1 hR.1 (mm_wl_D g S.1 S.2.1) hF a (by rw [mm_wl_at ha, hm]; rfl) hc0 k hk (va_Nw.use rfl (hS.2.1 _ hlk)) (fun x h => by rw [ho] at h; exact h) hfin (hty k hk) (hf.1 g) (hf.2 g) (by simpa using hl9) hd (fun H1 locs1 hP1 hD1 hF1 => ?_)
  rw [mm_wl_set (c := .inr (ci, fs.set k v)) (by rw [mm_set_map]; rfl) ha] at hP1
  have hz : mm_b g ≤ H1.size := Nat.le_trans hbs hF1.1
  exact kk p e R s m args below meth c QQ hc he H1 locs1 la ⟨hP1, hz⟩ (mm_kept_of hbs hS hF hF1 hz) hF1 hZ hl
theorem mm_putF {C : String} {T : u_T} {ty0 : Nat → FieldType} {N ci index a k : Nat} {v : Value} {fs : List Value} (hin : ∀ w ∈ u_ws C T N, w ∈ mm_ws) (hty : ∀ k, k < N → parseFieldDescriptor (T k).2.2.1 = some (ty0 k)) (hnm : ∀ a, a < N → ∀ b, b < N → a ≠ b → (T a).2.1 ≠ (T b).2.1) (hc0 : vwCl[ci]? = some (C, T, N)) (hk : k < N) (ho : (T k).1 = C) (ho2 : (T k).1 = own) (hin2 : nm = "<init>") (hfin : (T k).2.2.2 = true) (hlk : Cond.fieldLink own index C (T k).2.1 (T k).2.2.1 ∈ mm_ws) (hd : decode cc pc = .ok (.putfield index, 3))
    (hf : mm_fit (ty0 k) v) (hm : S.1 a = .inr (ci, fs)) (ha : a < S.2.1) (hl9 : k < fs.length) (kk : mm_V g l own nm cc nL ret hh d dc ds Q (pc + 3) ls st (mm_up S.1 a (.inr (ci, fs.set k v)), S.2) uc us) : mm_V g l own nm cc nL ret hh d dc ds Q pc ls (v :: .ref a :: st) S uc us := by
  intro p e R s m args below meth c QQ hc he H locs la hR hS hF hZ hl
  obtain ⟨hx, hb, hml, hr, hlk2, hown, htb, hws, -, -, -, -, -, hnm9, hbs⟩ := id hc
  refine va_putF (D := mm_D g) (v := mm_cv g v) (fs := fs.map (mm_cv g)) hx hb hws hin ty0 hty hnm hown hS.1 hR.1 (mm_wl_D g S.1 S.2.1) hF a (by rw [mm_wl_at ha, hm]; rfl) hc0 k hk (hws _ hlk) (fun x h => by rw [ho] at h; exact h) hfin (hnm9.trans hin2) ho2 (hty k hk) (hf.1 g) (hf.2 g) (by simpa using hl9) hd (fun H1 locs1 hP1 hD1 hF1 => ?_)
  rw [mm_wl_set (c := .inr (ci, fs.set k v)) (by rw [mm_set_map]; rfl) ha] at hP1
  have hz : mm_b g ≤ H1.size := Nat.le_trans hbs hF1.1
  exact kk p e R s m args below meth c QQ hc he H1 locs1 la ⟨hP1, hz⟩ (mm_kept_of hbs hS hF hF1 hz) hF1 hZ hl
end MMV
