section MMX
variable {g : mm_G} {l : Launch} {own nm : String} {cc : ByteArray} {nL : Nat} {ret : Option FieldType} {hh : List ExceptionTableEntry} {d dc ds : Nat} {Q : mm_R → mm_S → Prop} {pc : Nat} {ls : List (Option Value)} {st : List Value} {S : mm_S} {uc us : Nat}
/-- a method that doesn't throw -/
def mm_nt (Q : Option Value → mm_S → Prop) : mm_R → mm_S → Prop := fun r S => match r with
  | .inl v => Q v S
  | .inr _ => False
def mm_Qm (g : mm_G) (Q : Option Value → mm_S → Prop) : Array Value → State → Outcome → State → Prop := mm_Qc g (mm_nt Q)
/-- the contract of a method that doesn't throw -/
def mm_Cm (g : mm_G) (l : Launch) (y : MethodName) (cw : Cond) (d dc ds : Nat) (as : List Value) (S : mm_S) (Q : Option Value → mm_S → Prop) : Prop :=
  Met l y (cw :: mm_ws) (mm_rm d dc ds) (mm_Pc g as S) (mm_Qm g Q) dc ds (mm_A g)
theorem mm_pay {args : Array Value} {s : State} (h : ∀ w ∈ mm_ws, w.before args s = true) {cw : Cond} (hcw : cw ∈ mm_ws) : ∀ w ∈ cw :: mm_ws, ∀ (a' : Array Value) (U : State), s.WarmedH U.vm → w.before a' U = true := by
  intro w hw a' U hW
  have hm : w ∈ mm_ws := by
    rcases List.mem_cons.mp hw with rfl | h1
    · exact hcw
    · exact h1
  exact word_at hW (good_of_word (List.mem_filter.mp hm).2) (h w hm)
theorem mm_sum (g : mm_G) (st : List Value) : ((st.map (mm_cv g)).map fun v => v.category).sum = (st.map fun v => v.category).sum := by
  rw [List.map_map, show ((fun v : Value => v.category) ∘ mm_cv g) = fun v : Value => v.category from funext (mm_cv_cat g)]
theorem mm_rest (g : mm_G) (v : Option Value) (st : List Value) : (v.map (mm_cv g)).toList ++ st.map (mm_cv g) = (v.toList ++ st).map (mm_cv g) := by cases v <;> rfl
/-- the common facts of a call's words -/
def mm_W (y : MethodName) (bytes : ByteArray) (maxL : Nat) (rt : Option FieldType) (n : Nat) : Prop :=
  Cond.code y bytes maxL rt ∈ mm_ws ∧ Cond.initialized y.cls ∈ mm_ws ∧ (y.cls ≠ "java/lang/invoke/MethodHandle" ∧ y.cls ≠ "java/lang/invoke/VarHandle") ∧ (parseMethodDescriptor y.desc).map (fun d => d.parameters.length) = some n ∧ maxL ≤ 41
theorem mm_callB {y : MethodName} {bytes : ByteArray} {maxL n index dc' ds' : Nat} {rt : Option FieldType} {p : Program} {R : Room} {s : State} {m : MethodId} {args : Array Value} {meth : Method} {c : Code} (hc : mm_Cx g l p R s m args meth c own nm cc nL ret hh (d + 1) dc ds) (hw : mm_W y bytes maxL rt n) (hml : Cond.methodLink own index y ∈ mm_ws) :
    CallB R s args own index y bytes maxL rt (Cond.code y bytes maxL rt :: mm_ws) (mm_rm d dc' ds') dc' ds' n := by
  obtain ⟨hx, hb, hml9, hr, hlk2, hown, htb, hws, hst, hfr, hlo, hcel, hsl, hnm9, hbs⟩ := hc
  obtain ⟨h1, h2, h3, h4, h5⟩ := hw
  refine ⟨rfl, rfl, ?_, ?_, mm_pay hws h1, List.mem_cons_self, hws _ h1, hws _ h2, h3, fun sig h => ?_, hws _ hml⟩
  · show d + 8 + 1 ≤ R.frames; omega
  · show 8 + (maxL + 11) + (60 * d + 120) ≤ R.locals; omega
  · rw [h] at h4; exact (Option.some.inj h4).symm
theorem mm_preP {as : List Value} {p : Program} {e : Env} {R : Room} {s : State} {m : MethodId} {args : Array Value} {below : List Frame} {meth : Method} {c : Code} {T : State} {locs : List Loc} (X : Stand p l e R s m args below meth c T locs uc us) (hR : mm_Rp g S T.heap) (hS : mm_St g s T.heap) (hZ : S.2.2 = false → s.heap.size + uc = mm_b g + S.2.1) : ∀ U : State, U.heap = T.heap → s.WarmedH U.vm → mm_Pc g as S (as.map (mm_cv g)).toArray U := by
  intro U hU hW
  exact ⟨rfl, by rw [hU]; exact hR, fun h => by rw [hU]; exact mm_sz X hR hZ h, by rw [hU]; exact hS.warm hW⟩
theorem mm_recv {s : State} {H : Heap} {a ci : Nat} {fs : List Value} {C : String} (hR : mm_Rp g S H) (hS : mm_St g s H) (hm : S.1 a = .inr (ci, fs)) (ha : a < S.2.1) (hcl : (vwCl[ci]?).map (fun r => r.1) = some C) : ∃ cell : Cell, H[mm_b g + a]? = some cell ∧ cell.vm.isStatics = false ∧ s.vm.findClass C = some cell.cls := by
  cases hr : vwCl[ci]? with
  | none => rw [hr] at hcl; cases hcl
  | some r =>
    rw [hr] at hcl
    cases hcl
    exact va_recv hS.1 hR.1 hr (fs := fs.map (mm_cv g)) (q0 := a) (by rw [mm_wl_at ha, hm]; rfl)
/-- behind a call that came back -/
theorem mm_back {dc' ds' : Nat} {Qc : mm_R → mm_S → Prop} {p : Program} {e : Env} {R : Room} {s : State} {m : MethodId} {args a9 : Array Value} {below : List Frame} {meth : Method} {c : Code} {QQ : State → Prop} {T st₀ t T' : State} {locs L : List Loc} {v : Option Value} {la : Array Slot} {stk : List Value}
    (hc : mm_Cx g l p R s m args meth c own nm cc nL ret hh d dc ds) (he : mm_En g l p e R s m args below meth c cc ret dc ds Q QQ) (hS : mm_St g s T.heap) (hF : va_S (mm_A g) s.heap T.heap locs) (hl : mm_ls g la nL ls)
    (h0 : st₀.heap = T.heap) (X' : Stand p l e R s m args below meth c T' (locs ++ L) (uc + dc') (us + ds')) (hL : ∀ q ∈ L, mm_A g q.base) (e1 : T'.heap = t.heap) (hq : mm_Qc g Qc a9 st₀ (.returned v) t)
    (st1 : Goes p e below T (F0 m pc la stk) T' { F0 m pc la stk with pc := pc + 3, stack := v.toList ++ st.map (mm_cv g) }) (hZ : S.2.2 = false → s.heap.size + uc = mm_b g + S.2.1)
    (kk : ∀ (v : Option Value) (S' : mm_S), Qc (.inl v) S' → (S'.2.2 = false → S.2.2 = false ∧ S'.2.1 = S.2.1 + dc') ∧ mm_V g l own nm cc nL ret hh d dc ds Q (pc + 3) ls (v.toList ++ st) S' (uc + dc') (us + ds')) :
    ∃ t, Steps p.tables e below (T.setTop (F0 m pc la stk)) t ∧ QQ t := by
  obtain ⟨w, S', ho, hqq, hRp, hFr⟩ := hq
  have hv : v = w.map (mm_cv g) := by cases ho; rfl
  subst hv
  obtain ⟨kz, kV⟩ := kk w S' hqq
  have hbs := hc.2.2.2.2.2.2.2.2.2.2.2.2.2.2
  obtain ⟨k1, k2, k3⟩ := vx_keep (A1 := mm_A g) (free := mm_A g) h0 e1 hF (fun _ _ h => h) (fun _ h => h) hL hFr
  have hz : mm_b g ≤ T'.heap.size := by rw [e1]; exact hRp.2
  rw [mm_rest] at st1
  obtain ⟨t2, a1, b1⟩ := kV p e R s m args below meth c QQ hc he T'.heap (locs ++ L) la (by rw [e1]; exact hRp) (mm_kept_of hbs hS hF k3 hz) k3 (fun h => by obtain ⟨i1, i2⟩ := kz h; have := hZ i1; omega) hl T' rfl X'
  exact ⟨t2, st1 t2 a1, b1⟩
theorem mm_callV {y : MethodName} {bytes : ByteArray} {maxL n index dc' ds' a ci : Nat} {rt : Option FieldType} {fs as stk : List Value} {Qc : Option Value → mm_S → Prop} (hw : mm_W y bytes maxL rt n) (hml : Cond.methodLink own index y ∈ mm_ws) (him : Cond.instanceMethod y ∈ mm_ws) (hse : Cond.selects y.cls y y ∈ mm_ws) (hd : decode cc pc = .ok (.invokevirtual index, 3))
    (hM : mm_Cm g l y (.code y bytes maxL rt) d dc' ds' (.ref a :: as) S Qc) (hm : S.1 a = .inr (ci, fs)) (ha : a < S.2.1) (hcl : (vwCl[ci]?).map (fun r => r.1) = some y.cls) (hn : as.length = n) (hstk : stk = as.reverse ++ .ref a :: st) (hsum : (st.map fun v => v.category).sum ≤ 8) (hu1 : uc + dc' ≤ dc) (hu2 : us + ds' ≤ ds)
    (kk : ∀ (v : Option Value) (S' : mm_S), Qc v S' → (S'.2.2 = false → S.2.2 = false ∧ S'.2.1 = S.2.1 + dc') ∧ mm_V g l own nm cc nL ret hh (d + 1) dc ds Q (pc + 3) ls (v.toList ++ st) S' (uc + dc') (us + ds')) : mm_V g l own nm cc nL ret hh (d + 1) dc ds Q pc ls stk S uc us := by
  intro p e R s m args below meth c QQ hc he H locs la hR hS hF hZ hl T hT X
  subst hT
  subst hstk
  obtain ⟨hx, hb, hml9, hr, hlk2, hown, htb, hws, hst, hfr, hlo, hcel, hsl, hnm9, hbs⟩ := id hc
  obtain ⟨v, st₀, t, T', L, h0, X', hL, e1, e2, hq, st1⟩ := va_runV (As := as.map (mm_cv g)) (rest := st.map (mm_cv g)) (b := mm_b g + a) (g := F0 m pc la ((as.reverse ++ .ref a :: st).map (mm_cv g))) (nL := nL) ⟨hx, hb, hml9, hown, hws⟩ hM
    ⟨mm_callB hc hw hml, hws _ him, hws _ hse⟩ ⟨mm_Pc_blind g _ S, mm_recv hR hS hm ha hcl, mm_preP (as := .ref a :: as) X hR hS hZ⟩ rfl (by rw [List.length_map]; exact hn) hl.1 (by show (as.reverse ++ .ref a :: st).map (mm_cv g) = _; rw [List.map_append, List.map_reverse]; rfl) (lv_room (by rw [mm_sum]; exact hsum)) hd (by rw [hcel, hsl]; exact ⟨hu1, hu2⟩) T rfl X
  exact mm_back (Qc := mm_nt Qc) hc he hS hF hl h0 X' hL e1 hq st1 hZ (fun v S' h => kk v S' h)
theorem mm_callS {y : MethodName} {bytes : ByteArray} {maxL n index dc' ds' : Nat} {rt : Option FieldType} {as stk : List Value} {Qc : Option Value → mm_S → Prop} (hw : mm_W y bytes maxL rt n) (hml : Cond.methodLink own index y ∈ mm_ws) (hsta : Cond.static y ∈ mm_ws) (hd : decode cc pc = .ok (.invokestatic index, 3))
    (hM : mm_Cm g l y (.code y bytes maxL rt) d dc' ds' as S Qc) (hn : as.length = n) (hstk : stk = as.reverse ++ st) (hsum : (st.map fun v => v.category).sum ≤ 8) (hu1 : uc + dc' ≤ dc) (hu2 : us + ds' ≤ ds)
    (kk : ∀ (v : Option Value) (S' : mm_S), Qc v S' → (S'.2.2 = false → S.2.2 = false ∧ S'.2.1 = S.2.1 + dc') ∧ mm_V g l own nm cc nL ret hh (d + 1) dc ds Q (pc + 3) ls (v.toList ++ st) S' (uc + dc') (us + ds')) : mm_V g l own nm cc nL ret hh (d + 1) dc ds Q pc ls stk S uc us := by
  intro p e R s m args below meth c QQ hc he H locs la hR hS hF hZ hl T hT X
  subst hT
  subst hstk
  obtain ⟨hx, hb, hml9, hr, hlk2, hown, htb, hws, hst, hfr, hlo, hcel, hsl, hnm9, hbs⟩ := id hc
  obtain ⟨v, st₀, t, T', L, h0, X', hL, e1, e2, hq, st1⟩ := va_runS (As := as.map (mm_cv g)) (rest := st.map (mm_cv g)) (g := F0 m pc la ((as.reverse ++ st).map (mm_cv g))) (nL := nL) ⟨hx, hb, hml9, hown, hws⟩ hM
    ⟨mm_callB hc hw hml, hws _ hsta⟩ ⟨mm_Pc_blind g _ S, mm_preP (as := as) X hR hS hZ⟩ rfl (by rw [List.length_map]; exact hn) hl.1 (by show (as.reverse ++ st).map (mm_cv g) = _; rw [List.map_append, List.map_reverse]) (lv_room (by rw [mm_sum]; exact hsum)) hd (by rw [hcel, hsl]; exact ⟨hu1, hu2⟩) T rfl X
  exact mm_back (Qc := mm_nt Qc) hc he hS hF hl h0 X' hL e1 hq st1 hZ (fun v S' h => kk v S' h)
theorem mm_callSN {y : MethodName} {host : String} {bytes : ByteArray} {maxL n index dc' ds' : Nat} {rt : Option FieldType} {as stk : List Value} {Qc : Option Value → mm_S → Prop} (hw : mm_W y bytes maxL rt n) (hml : Cond.methodLinkNest own index y host ∈ mm_nest) (hsta : Cond.static y ∈ mm_ws) (hd : decode cc pc = .ok (.invokestatic index, 3))
    (hM : mm_Cm g l y (.code y bytes maxL rt) d dc' ds' as S Qc) (hn : as.length = n) (hstk : stk = as.reverse ++ st) (hsum : (st.map fun v => v.category).sum ≤ 8) (hu1 : uc + dc' ≤ dc) (hu2 : us + ds' ≤ ds)
    (kk : ∀ (v : Option Value) (S' : mm_S), Qc v S' → (S'.2.2 = false → S.2.2 = false ∧ S'.2.1 = S.2.1 + dc') ∧ mm_V g l own nm cc nL ret hh (d + 1) dc ds Q (pc + 3) ls (v.toList ++ st) S' (uc + dc') (us + ds')) : mm_V g l own nm cc nL ret hh (d + 1) dc ds Q pc ls stk S uc us := by
  intro p e R s m args below meth c QQ hc he H locs la hR hS hF hZ hl T hT X
  subst hT
  subst hstk
  obtain ⟨hx, hb, hml9, hr, hlk2, hown, htb, hws, hst, hfr, hlo, hcel, hsl, hnm9, hbs⟩ := id hc
  obtain ⟨w1, w2, w3, w4, w5⟩ := hw
  have hcn : va_CN R s args own index y host bytes maxL rt (Cond.code y bytes maxL rt :: mm_ws) (mm_rm d dc' ds') dc' ds' n :=
    ⟨⟨rfl, rfl, (show d + 8 + 1 ≤ R.frames by omega), (show 8 + (maxL + 11) + (60 * d + 120) ≤ R.locals by omega), mm_pay hws w1, List.mem_cons_self⟩, hws _ w1, hws _ w2, w3, fun sig h => by rw [h] at w4; exact (Option.some.inj w4).symm, va_Nw.use rfl (hS.2.1 _ hml)⟩
  obtain ⟨v, st₀, t, T', L, h0, X', hL, e1, e2, hq, st1⟩ := va_runSN (As := as.map (mm_cv g)) (rest := st.map (mm_cv g)) (g := F0 m pc la ((as.reverse ++ st).map (mm_cv g))) (nL := nL) ⟨hx, hb, hml9, hown, hws⟩ hM
    ⟨hcn, hws _ hsta, trivial⟩ ⟨mm_Pc_blind g _ S, mm_preP (as := as) X hR hS hZ⟩ rfl (by rw [List.length_map]; exact hn) hl.1 (by show (as.reverse ++ st).map (mm_cv g) = _; rw [List.map_append, List.map_reverse]) (lv_room (by rw [mm_sum]; exact hsum)) hd (by rw [hcel, hsl]; exact ⟨hu1, hu2⟩) T rfl X
  exact mm_back (Qc := mm_nt Qc) hc he hS hF hl h0 X' hL e1 hq st1 hZ (fun v S' h => kk v S' h)
theorem mm_callI {y : MethodName} {bytes : ByteArray} {maxL n index dc' ds' a : Nat} {as stk : List Value} {Qc : Option Value → mm_S → Prop} (hw : mm_W y bytes maxL none n) (hyn : y.name = "<init>") (hml : Cond.methodLink own index y ∈ mm_ws) (him : Cond.instanceMethod y ∈ mm_ws) (hd : decode cc pc = .ok (.invokespecial index, 3))
    (hM : mm_Cm g l y (.code y bytes maxL none) d dc' ds' (.ref a :: as) S Qc) (hn : as.length = n) (hstk : stk = as.reverse ++ .ref a :: st) (hsum : (st.map fun v => v.category).sum ≤ 8) (hu1 : uc + dc' ≤ dc) (hu2 : us + ds' ≤ ds)
    (kk : ∀ (v : Option Value) (S' : mm_S), Qc v S' → (S'.2.2 = false → S.2.2 = false ∧ S'.2.1 = S.2.1 + dc') ∧ mm_V g l own nm cc nL ret hh (d + 1) dc ds Q (pc + 3) ls (v.toList ++ st) S' (uc + dc') (us + ds')) : mm_V g l own nm cc nL ret hh (d + 1) dc ds Q pc ls stk S uc us := by
  intro p e R s m args below meth c QQ hc he H locs la hR hS hF hZ hl T hT X
  subst hT
  subst hstk
  obtain ⟨hx, hb, hml9, hr, hlk2, hown, htb, hws, hst, hfr, hlo, hcel, hsl, hnm9, hbs⟩ := id hc
  obtain ⟨v, st₀, t, T', L, h0, X', hL, e1, e2, hq, st1⟩ := va_runI (As := as.map (mm_cv g)) (rest := st.map (mm_cv g)) (b := mm_b g + a) (g := F0 m pc la ((as.reverse ++ .ref a :: st).map (mm_cv g))) (nL := nL) ⟨hx, hb, hml9, hown, hws⟩ hM
    ⟨mm_callB hc hw hml, hyn, hws _ him⟩ ⟨mm_Pc_blind g _ S, mm_preP (as := .ref a :: as) X hR hS hZ⟩ rfl (by rw [List.length_map]; exact hn) hl.1 (by show (as.reverse ++ .ref a :: st).map (mm_cv g) = _; rw [List.map_append, List.map_reverse]; rfl) (lv_room (by rw [mm_sum]; exact hsum)) hd (by rw [hcel, hsl]; exact ⟨hu1, hu2⟩) T rfl X
  exact mm_back (Qc := mm_nt Qc) hc he hS hF hl h0 X' hL e1 hq st1 hZ (fun v S' h => kk v S' h)
/-- a call of a method that may throw; what it throws goes on -/
theorem mm_callX {y : MethodName} {bytes : ByteArray} {maxL n index dc' ds' a ci : Nat} {rt : Option FieldType} {fs as stk : List Value} {Qc : mm_R → mm_S → Prop} (hw : mm_W y bytes maxL rt n) (hml : Cond.methodLink own index y ∈ mm_ws) (him : Cond.instanceMethod y ∈ mm_ws) (hse : Cond.selects y.cls y y ∈ mm_ws) (hd : decode cc pc = .ok (.invokevirtual index, 3))
    (hM : mm_Ct g l y (.code y bytes maxL rt) d dc' ds' (.ref a :: as) S Qc) (hm : S.1 a = .inr (ci, fs)) (ha : a < S.2.1) (hcl : (vwCl[ci]?).map (fun r => r.1) = some y.cls) (hn : as.length = n) (hstk : stk = as.reverse ++ .ref a :: st) (hsum : (st.map fun v => v.category).sum ≤ 8) (hu1 : uc + dc' ≤ dc) (hu2 : us + ds' ≤ ds)
    (kk : ∀ (v : Option Value) (S' : mm_S), Qc (.inl v) S' → (S'.2.2 = false → S.2.2 = false ∧ S'.2.1 = S.2.1 + dc') ∧ mm_V g l own nm cc nL ret hh (d + 1) dc ds Q (pc + 3) ls (v.toList ++ st) S' (uc + dc') (us + ds'))
    (hnh : hh = []) (kx : ∀ (E : String) (S' : mm_S), Qc (.inr E) S' → Q (.inr E) S') : mm_V g l own nm cc nL ret hh (d + 1) dc ds Q pc ls stk S uc us := by
  intro p e R s m args below meth c QQ hc he H locs la hR hS hF hZ hl T hT X
  subst hT
  subst hstk
  obtain ⟨hx, hb, hml9, hr, hlk2, hown, htb, hws, hst, hfr, hlo, hcel, hsl, hnm9, hbs⟩ := id hc
  rcases vx_runV (As := as.map (mm_cv g)) (rest := st.map (mm_cv g)) (b := mm_b g + a) (g := F0 m pc la ((as.reverse ++ .ref a :: st).map (mm_cv g))) (nL := nL) ⟨hx, hb, hml9, hown, hws⟩ hM
    ⟨mm_callB hc hw hml, hws _ him, hws _ hse⟩ ⟨mm_Pc_blind g _ S, mm_recv hR hS hm ha hcl, mm_preP (as := .ref a :: as) X hR hS hZ⟩ rfl (by rw [List.length_map]; exact hn) hl.1 (by show (as.reverse ++ .ref a :: st).map (mm_cv g) = _; rw [List.map_append, List.map_reverse]; rfl) (lv_room (by rw [mm_sum]; exact hsum)) hd (by rw [hcel, hsl]; exact ⟨hu1, hu2⟩) T rfl X
    with ⟨v, st₀, t, T', L, h0, X', hL, e1, e2, hq, st1⟩ | ⟨q, st₀, t, T', L, E, ce, h0, X', hL, e1, e2, ⟨S', hq, hRp, hFr⟩, hce, hcv, hcl9, st1⟩
  · exact mm_back hc he hS hF hl h0 X' hL e1 hq st1 hZ kk
  · obtain ⟨k1, k2, k3⟩ := vx_keep (A1 := mm_A g) (free := mm_A g) h0 e1 hF (fun _ _ h => h) (fun _ h => h) hL hFr
    rcases he.2 with ⟨Qd, XC, hQ, hXC⟩ | hno
    · subst hQ
      obtain ⟨t2, a1, b1⟩ := vx_out (mc := dc) (ms := ds) (free := mm_A g) (Qc := Qd) (XC := XC) (p := p) (l := l) (e := e) (R := R) (s := s) (m := m) (args := args) (below := below) (meth := meth) (c := c) (H := T'.heap) (locs := locs ++ L) (cells := uc + dc') (slots := us + ds') (ls := la) (rest := st.map (mm_cv g)) (pc := pc) (E := E) (ce := ce) (q := q)
        (by rw [htb, hnh]; intro x hx9; cases hx9) hlk2 (by rw [e1]; exact hce) hcv hcl9 (fun t9 ht9 _ => hXC E S' t9 (kx E S' hq) (by rw [ht9, e1]; exact hRp) ⟨by rw [ht9]; exact k3.1, fun q9 h1 h2 => by rw [ht9]; exact k3.2.1 q9 h1 h2⟩) k3.2.2 hu1 hu2 T' rfl X'
      exact ⟨t2, st1.trans a1, b1⟩
    · exact absurd (kx E S' hq) (hno E S')
/-- 'throw new E("text")' -/
theorem mm_throw {E text : String} {ik is ic k : Nat} (hcls : Bundle.fit E = true) (hk : Cond.classLink own ik E ∈ mm_ws) (hini : Cond.initialized E ∈ mm_ws) (hstr : mm_strs[k]? = some (own, is, text)) (hat : ∀ w ∈ vx_atS own ic E ["java/lang/RuntimeException", "java/lang/Exception"], w ∈ mm_ws ∨ w ∈ mm_nest) (hnh : hh = [])
    (d0 : decode cc pc = .ok (.new ik, 3)) (d3 : decode cc (pc + 3) = .ok (.dup, 1)) (d4 : decode cc (pc + 4) = .ok (.ldc is, 2)) (d6 : decode cc (pc + 6) = .ok (.invokespecial ic, 3)) (d9 : decode cc (pc + 9) = .ok (.athrow, 1))
    (hsum : (st.map fun v => v.category).sum ≤ 8) (hu1 : uc + 1 ≤ dc) (hu2 : us + 6 ≤ ds) (hq : Q (.inr E) (S.1, S.2.1, true)) : mm_V g l own nm cc nL ret hh d dc ds Q pc ls st S uc us := by
  intro p e R s m args below meth c QQ hc he H locs la hR hS hF hZ hl
  obtain ⟨hx, hb, hml9, hr, hlk2, hown, htb, hws, hst, hfr, hlo, hcel, hsl, hnm9, hbs⟩ := id hc
  rcases he.2 with ⟨Qd, XC, hQ, hXC⟩ | hno
  · subst hQ
    have hU : vx_Zq Bundle.tN "UNASSIGNED_STACK" Bundle.steD (mm_A g) s s.heap := vx_Zq.kept (H := H) hS.2.2.2.2.2.1.1 (fun a h1 h2 => ?_)
    have hN : vx_Zq Bundle.tN "SUPPRESSED_SENTINEL" Bundle.listD (mm_A g) s s.heap := vx_Zq.kept (H := H) hS.2.2.2.2.2.1.2 (fun a h1 h2 => ?_)
    refine vx_throwS (text := text) (names := ["java/lang/RuntimeException", "java/lang/Exception"]) hx hb hst hown hcls (by decide) (hws _ hk) (hws _ hini) (hS.2.2.1 k _ hstr) (fun w hw => (hat w hw).elim (fun h => hws _ h) (fun h => va_Nw.use (mm_isN_on (List.mem_filter.mp h).2) (hS.2.1 _ h))) (fun w hw => ?_) hU hN hF (by rw [hml9]; exact hl.1) d0 d3 d4 d6 d9 (by rw [htb, hnh]; intro x hx9; cases hx9) (by simp only [List.length_cons, List.length_nil]; omega) (by rw [mm_sum]; simp only [List.length_cons, List.length_nil]; omega) (by rw [hcel]; exact hu1) (by rw [hsl]; exact hu2) hlk2 (fun t hA h1 h2 => ?_) hF.2.2 hu1 hu2
    · have hm : w ∈ mm_ws ∨ w ∈ mm_nest := by
        rcases List.mem_cons.mp hw with rfl | hw
        · exact Or.inl hk
        · rcases List.mem_cons.mp hw with rfl | hw
          · exact Or.inl hini
          · exact hat w hw
      rcases hm with hm | hm
      · have := (List.mem_filter.mp hm).2
        simp only [vx_ot, this, Bool.or_true]
      · have := mm_isN_on (List.mem_filter.mp hm).2
        simp only [vx_ot, this, Bool.true_or]
    · refine hXC E _ t hq ⟨hR.1.kept (fun k9 q9 h9 => h2 _ (hR.1 k9 q9 h9).lt), Nat.le_trans hR.2 h1⟩ ⟨Nat.le_trans hF.1 h1, fun q9 h3 h4 => (h2 q9 (Nat.lt_of_lt_of_le h3 hF.1)).trans (hF.2.1 q9 h3 h4)⟩
    all_goals exact (hF.2.1 a (Nat.lt_of_lt_of_le (Nat.not_le.mp h2) hbs) h2).symm
  · exact absurd hq (hno E _)
end MMX
