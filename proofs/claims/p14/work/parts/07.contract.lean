/-! ===== contracts out of a body ===== -/
/-- the locals with which a method begins -/
def mm_ent (as : List Value) (nL : Nat) : List (Option Value) := (List.range nL).map (fun i => ((lv_args 0 as).find? (fun q => q.1 == i)).map (fun q => q.2))
theorem mm_args_cv (g : mm_G) : ∀ (as : List Value) (i : Nat), lv_args i (as.map (mm_cv g)) = (lv_args i as).map (fun q => (q.1, mm_cv g q.2))
  | [], _ => rfl
  | v :: vs, i => by
    simp only [List.map_cons, lv_args, mm_cv_cat]
    rw [mm_args_cv g vs]
theorem mm_sl_len (g : mm_G) : ∀ as : List Value, (lg_sl (as.map (mm_cv g))).length = (lg_sl as).length
  | [] => rfl
  | v :: vs => by
    have ih := mm_sl_len g vs
    unfold lg_sl at ih ⊢
    simp only [List.map_cons, List.flatMap_cons, List.length_append, mm_cv_cat, ih]
    congr 1
    split <;> rfl
theorem mm_ls_ent (g : mm_G) (as : List Value) (nL : Nat) (h : (lg_sl as).length ≤ nL) : mm_ls g ((lg_sl (as.map (mm_cv g)) ++ List.replicate (nL - (lg_sl (as.map (mm_cv g))).length) Slot.unset).toArray) nL (mm_ent as nL) := by
  refine mm_lv_sub (lv_entry (as.map (mm_cv g)) (n := nL) (by rw [mm_sl_len]; exact h)) (fun q hq => ?_)
  obtain ⟨v, h1, h2⟩ := mm_al_inv hq
  obtain ⟨i, w⟩ := q
  dsimp only at h1 h2
  subst h2
  rw [mm_args_cv]
  unfold mm_ent at h1
  rw [List.getElem?_map] at h1
  cases hr : (List.range nL)[i]? with
  | none => rw [hr] at h1; cases h1
  | some j =>
    have hj : j = i := by
      have := List.getElem?_eq_some_iff.mp hr
      obtain ⟨hlt, he⟩ := this
      simpa using he.symm
    subst hj
    rw [hr] at h1
    simp only [Option.map_some, Option.some.injEq, Option.map_eq_some_iff] at h1
    obtain ⟨z, hz, hz2⟩ := h1
    have hm := List.mem_of_find?_eq_some hz
    have hp := List.find?_some hz
    simp only [beq_iff_eq] at hp
    refine List.mem_map.mpr ⟨z, hm, ?_⟩
    rw [hz2, hp]
section MMC
variable {g : mm_G} {l : Launch} {y : MethodName} {cc : ByteArray} {nL : Nat} {ret : Option FieldType} {d dc ds : Nat} {as : List Value} {S : mm_S}
theorem mm_ret {p : Program} {e : Env} {R : Room} {s : State} {m : MethodId} {args : Array Value} {below : List Frame} {meth : Method} {c : Code} {Q : mm_R → mm_S → Prop} (hx : p.tables.exec = Jvm.exec) (hb : c.code = cc) (hr : meth.sig.returnType = ret) (hlocks : meth.locks = false)
    {i : Instr} {v : Option Value} {S' : mm_S} {H : Heap} {locs : List Loc} {uc us pc : Nat} {la : Array Slot} (hok : mm_ok ret i v) (hd : decode cc pc = .ok (i, 1)) (hq : Q (.inl v) S') (hR : mm_Rp g S' H) (hF : va_S (mm_A g) s.heap H locs) (h1 : uc ≤ dc) (h2 : us ≤ ds) :
    W p l e R s m args below meth c H locs uc us (MQ below (mm_Qc g Q) args s dc ds (mm_A g)) (F0 m pc la (v.toList.map (mm_cv g))) := by
  have hqc : ∀ t : State, t.heap = H → mm_Qc g Q args s (.returned (v.map (mm_cv g))) t := fun t ht => ⟨v, S', rfl, hq, by rw [ht]; exact hR, ⟨by rw [ht]; exact hF.1, fun q h1 h2 => by rw [ht]; exact hF.2.1 q h1 h2⟩⟩
  refine W.widen h1 h2 ?_
  rcases hok with ⟨x, ty, rfl, rfl, h4, h5⟩ | ⟨x, rfl, rfl, h4⟩ | ⟨rfl, rfl, h4⟩ | ⟨a, C, rfl, rfl, h4⟩
  · exact W.zret hx hb (hr.trans h4) h5 (fun t ht _ => hqc t ht) hF.2.2 hd
  · exact W.lret hx hb (hr.trans h4) (fun t ht _ => hqc t ht) hF.2.2 hd
  · exact W.vret hx hb (hr.trans h4) (fun t ht _ => hqc t ht) hF.2.2 hd
  · refine W.aret (v := mm_cv g (va_rf a)) hx hb (hr.trans h4) (Or.inl ⟨C, rfl⟩) ?_ (fun t ht _ => hqc t ht) hF.2.2 hd
    cases a with
    | none => exact Or.inl rfl
    | some a => exact Or.inr ⟨_, rfl⟩
theorem mm_body {p : Program} {e : Env} {s : State} {m : MethodId} {args : Array Value} {below : List Frame} {meth : Method} {c : Code} {s₁ : State} {cw : Cond} {hh : List ExceptionTableEntry} {Q : mm_R → mm_S → Prop} {QQ : State → Prop} (hst : l.stackTraces = false) (B : BodyLoose p l y (headSpec (cw :: mm_ws) (mm_rm d dc ds)) cc nL ret e s m args below meth c s₁) (hml : c.maxLocals = nL) (htb : c.exceptionTable.toList = hh) (hv : mm_Pc g as S args s) (hlen : (lg_sl as).length ≤ nL)
    (he : mm_En g l p e (headSpec (cw :: mm_ws) (mm_rm d dc ds)).room s m args below meth c cc ret dc ds Q QQ) (hV : mm_V g l y.cls y.name cc nL ret hh d dc ds Q 0 (mm_ent as nL) [] S 0 0) :
    W p l e (headSpec (cw :: mm_ws) (mm_rm d dc ds)).room s m args below meth c s.heap [] 0 0 QQ (entryFrame m args nL) := by
  obtain ⟨rfl, hRp, hz, hSt⟩ := hv
  have hts := atoms_spec (ws := cw :: mm_ws) B.pre
  rw [lg_entry_eq]
  exact hV p e _ s m _ below meth c QQ ⟨B.exec, B.bytes, hml, B.returns, B.notSynchronized, findClass_of_methodNamed B.named, htb, fun w hw => hts w (List.mem_cons_of_mem _ hw), hst, Nat.le_refl _, Nat.le_refl _, rfl, rfl, (name_of_methodNamed B.named B.method).1, hRp.2⟩ he s.heap [] _ hRp hSt va_S.rf (fun h => by rw [Nat.add_zero]; exact hz h) (mm_ls_ent g as nL hlen)
theorem mm_noT {p : Program} {e : Env} {s : State} {m : MethodId} {args : Array Value} {below : List Frame} {meth : Method} {c : Code} {s₁ : State} {S0 : Spec} {ws : List Cond} (B : BodyLoose p l y S0 cc nL ret e s m args below meth c s₁) (hts : ∀ w ∈ ws, w.before args s = true) (hw : Cond.code y cc nL ret ∈ ws) : c.exceptionTable.toList = [] := by
  obtain ⟨meth9, c9, h1, h2, -, -, -, -, h7, -⟩ := Cond.code_spec B.named (hts _ hw)
  cases Option.some.inj (h1.symm.trans B.method)
  cases Option.some.inj (h2.symm.trans (Stand.of_body B).code)
  rw [Array.isEmpty_iff.mp h7]
/-- a method that doesn't throw -/
theorem mm_Cm_of {Q : Option Value → mm_S → Prop} (hst : l.stackTraces = false) (hy : plainName y.cls = true) (hlen : (lg_sl as).length ≤ nL) (hV : mm_V g l y.cls y.name cc nL ret [] d dc ds (mm_nt Q) 0 (mm_ent as nL) [] S 0 0) : mm_Cm g l y (.code y cc nL ret) d dc ds as S Q := by
  refine Met.ofW (cc := cc) (maxL := nL) (ret := ret) hy rfl ?_
  intro p e s m args below meth c s₁ B hml hv
  exact mm_body hst B hml (mm_noT B (atoms_spec (ws := Cond.code y cc nL ret :: mm_ws) B.pre) List.mem_cons_self) hv hlen ⟨fun i v S' H locs uc us pc la hok hd hq hR hF h1 h2 => mm_ret B.exec B.bytes B.returns B.notSynchronized hok hd hq hR hF h1 h2, Or.inr (fun E S' h => h)⟩ hV
/-- a method that may throw -/
theorem mm_Ct_of {Q : mm_R → mm_S → Prop} (hst : l.stackTraces = false) (hy : plainName y.cls = true) (hlen : (lg_sl as).length ≤ nL) (hV : mm_V g l y.cls y.name cc nL ret [] d dc ds Q 0 (mm_ent as nL) [] S 0 0) : mm_Ct g l y (.code y cc nL ret) d dc ds as S Q := by
  refine vx_ofW (cc := cc) (maxL := nL) (ret := ret) hy rfl ?_
  intro p e s m args below meth c s₁ B hml _ hv
  exact mm_body hst B hml (mm_noT B (atoms_spec (ws := Cond.code y cc nL ret :: mm_ws) B.pre) List.mem_cons_self) hv hlen ⟨fun i v S' H locs uc us pc la hok hd hq hR hF h1 h2 => vx_ret (mm_ret B.exec B.bytes B.returns B.notSynchronized hok hd hq hR hF h1 h2), Or.inl ⟨_, _, rfl, fun E S' t h1 h2 h3 => ⟨S', h1, h2, h3⟩⟩⟩ hV
/-- a method with a table of its own that doesn't throw -/
theorem mm_Cw_of {hh : List (Nat × Nat × Nat × Nat)} {Q : Option Value → mm_S → Prop} (hst : l.stackTraces = false) (hy : plainName y.cls = true) (hlen : (lg_sl as).length ≤ nL) (hV : mm_V g l y.cls y.name cc nL ret (tableOf hh) d dc ds (mm_nt Q) 0 (mm_ent as nL) [] S 0 0) : mm_Ct g l y (.codeWith y cc nL ret hh) d dc ds as S (mm_nt Q) := by
  refine vx_ofWH (cc := cc) (maxL := nL) (ret := ret) (hh := hh) hy rfl ?_
  intro p e s m args below meth c s₁ B hml hv
  exact mm_body hst B hml (vx_table (x := y) B (atoms_spec (ws := Cond.codeWith y cc nL ret hh :: mm_ws) B.pre _ List.mem_cons_self)) hv hlen ⟨fun i v S' H locs uc us pc la hok hd hq hR hF h1 h2 => vx_ret (mm_ret B.exec B.bytes B.returns B.notSynchronized hok hd hq hR hF h1 h2), Or.inr (fun E S' h => h)⟩ hV
end MMC
section MMH
variable {g : mm_G} {l : Launch} {own nm : String} {cc : ByteArray} {nL : Nat} {ret : Option FieldType} {hh : List ExceptionTableEntry} {d dc ds : Nat} {Q : mm_R → mm_S → Prop} {pc : Nat} {ls : List (Option Value)} {st : List Value} {S : mm_S} {uc us : Nat}
/-- the search through a table by words -/
def mm_sw (own : String) (E : String) (pc hp : Nat) : List ExceptionTableEntry → Prop
  | [] => False
  | x :: r => (covers x pc = false ∧ mm_sw own E pc hp r) ∨ (covers x pc = true ∧ x.catchType ≠ 0 ∧ ∃ n : String, Cond.classLink own x.catchType n ∈ mm_ws ∧ (((E, n) ∈ mm_ncs ∧ mm_sw own E pc hp r) ∨ (Cond.castable E n ∈ mm_nest ∧ x.handlerPc = hp)))
theorem mm_sr_of {pl : Platform} (hpl : pl.magicAccessors = ({} : Platform).magicAccessors) {s : State} {args : Array Value} {dcl th : ClassId} {E : String} {hp : Nat} (hown : s.vm.findClass own = some dcl) (hws : ∀ w ∈ mm_ws, w.before args s = true) (hnc : ∀ q ∈ mm_ncs, va_Nc q.1 q.2 s) (hne : ∀ w ∈ mm_nest, va_Nw w s) (hth : s.vm.findClass E = some th) : ∀ rows : List ExceptionTableEntry, mm_sw own E pc hp rows → mm_sr pl s dcl pc th hp rows
  | [], h => h
  | x :: r, h => by
    rcases h with ⟨h1, h2⟩ | ⟨h1, h2, n, h3, h4⟩
    · exact Or.inl ⟨h1, mm_sr_of hpl hown hws hnc hne hth r h2⟩
    · obtain ⟨c', hc', hcl⟩ := Cond.classLink_spec hown (hws _ h3) pl hpl
      refine Or.inr ⟨h1, h2, c', hcl, ?_⟩
      rcases h4 with ⟨h5, h6⟩ | ⟨h5, h6⟩
      · obtain ⟨a, b, i1, i2, i3⟩ := hnc _ h5
        cases Option.some.inj (i1.symm.trans hth)
        cases Option.some.inj (i2.symm.trans hc')
        exact Or.inl ⟨i3, mm_sr_of hpl hown hws hnc hne hth r h6⟩
      · obtain ⟨c3, c4, i1, i2, i3⟩ := Cond.castable_spec (args := #[]) (hne _ h5)
        cases Option.some.inj (i1.symm.trans hth)
        cases Option.some.inj (i2.symm.trans hc')
        exact Or.inr ⟨i3, h6⟩
/-- a place of the locals forgotten -/
def mm_er (ls : List (Option Value)) (i : Nat) : List (Option Value) := (mm_clr ls i).set i none
theorem mm_ls_er {la : Array Slot} {i : Nat} {w : Value} (h : lv_has la nL ((i, w) :: (mm_al g ls).filter (fun q => !(q.1 == i) && !(q.1 + 1 == i && q.2.category == 2)))) : mm_ls g la nL (mm_er ls i) := by
  refine mm_lv_sub h (fun q hq => ?_)
  obtain ⟨v, h1, h2⟩ := mm_al_inv hq
  obtain ⟨j, x⟩ := q
  dsimp only at h1 h2
  subst h2
  unfold mm_er at h1
  by_cases hj : j = i
  · exfalso
    subst hj
    rw [List.getElem?_set] at h1
    simp only [if_true] at h1
    split at h1 <;> cases h1
  · rw [List.getElem?_set_ne (Ne.symm hj)] at h1
    obtain ⟨h3, h4⟩ := mm_clr_at hj h1
    refine List.mem_cons_of_mem _ (List.mem_filter.mpr ⟨mm_al_mem h3, ?_⟩)
    simp only [mm_cv_cat, Bool.and_eq_true, Bool.not_eq_true', beq_eq_false_iff_ne, Bool.and_eq_false_iff]
    refine ⟨by simpa using hj, ?_⟩
    by_cases hc : v.category = 2
    · exact Or.inl (by simpa using fun q => h4 ⟨q, hc⟩)
    · exact Or.inr (by simpa using hc)
/-- a call of a method that may throw; what it throws is caught here, and stored away -/
theorem mm_callH {y : MethodName} {bytes : ByteArray} {maxL n index dc' ds' a ci : Nat} {rt : Option FieldType} {fs as stk : List Value} {Qc : mm_R → mm_S → Prop} (hw : mm_W y bytes maxL rt n) (hml : Cond.methodLink own index y ∈ mm_ws) (him : Cond.instanceMethod y ∈ mm_ws) (hse : Cond.selects y.cls y y ∈ mm_ws) (hd : decode cc pc = .ok (.invokevirtual index, 3))
    (hM : mm_Ct g l y (.code y bytes maxL rt) d dc' ds' (.ref a :: as) S Qc) (hm : S.1 a = .inr (ci, fs)) (ha : a < S.2.1) (hcl : (vwCl[ci]?).map (fun r => r.1) = some y.cls) (hn : as.length = n) (hstk : stk = as.reverse ++ .ref a :: st) (hsum : (st.map fun v => v.category).sum ≤ 8) (hu1 : uc + dc' ≤ dc) (hu2 : us + ds' ≤ ds)
    (kk : ∀ (v : Option Value) (S' : mm_S), Qc (.inl v) S' → (S'.2.2 = false → S.2.2 = false ∧ S'.2.1 = S.2.1 + dc') ∧ mm_V g l own nm cc nL ret hh (d + 1) dc ds Q (pc + 3) ls (v.toList ++ st) S' (uc + dc') (us + ds'))
    (kx : ∀ (E : String) (S' : mm_S), Qc (.inr E) S' → S'.2.2 = true ∧ ∃ hp i : Nat, mm_sw own E pc hp hh ∧ i < nL ∧ ((∃ k : Fin 4, (k : Nat) = i ∧ decode cc hp = .ok (.astore_n k, 1) ∧ mm_V g l own nm cc nL ret hh (d + 1) dc ds Q (hp + 1) (mm_er ls i) [] S' (uc + dc') (us + ds')) ∨ (decode cc hp = .ok (.astore i, 2) ∧ mm_V g l own nm cc nL ret hh (d + 1) dc ds Q (hp + 2) (mm_er ls i) [] S' (uc + dc') (us + ds')))) : mm_V g l own nm cc nL ret hh (d + 1) dc ds Q pc ls stk S uc us := by
  intro p e R s m args below meth c QQ hc he H locs la hR hS hF hZ hl T hT X
  subst hT
  subst hstk
  obtain ⟨hx, hb, hml9, hr, hlk2, hown, htb, hws, hst, hfr, hlo, hcel, hsl, hnm9, hbs⟩ := id hc
  rcases vx_runV (As := as.map (mm_cv g)) (rest := st.map (mm_cv g)) (b := mm_b g + a) (g := F0 m pc la ((as.reverse ++ .ref a :: st).map (mm_cv g))) (nL := nL) ⟨hx, hb, hml9, hown, hws⟩ hM
    ⟨mm_callB hc hw hml, hws _ him, hws _ hse⟩ ⟨mm_Pc_blind g _ S, mm_recv hR hS hm ha hcl, mm_preP (as := .ref a :: as) X hR hS hZ⟩ rfl (by rw [List.length_map]; exact hn) hl.1 (by show (as.reverse ++ .ref a :: st).map (mm_cv g) = _; rw [List.map_append, List.map_reverse]; rfl) (lv_room (by rw [mm_sum]; exact hsum)) hd (by rw [hcel, hsl]; exact ⟨hu1, hu2⟩) T rfl X
    with ⟨v, st₀, t, T', L, h0, X', hL, e1, e2, hq, st1⟩ | ⟨q, st₀, t, T', L, E, ce, h0, X', hL, e1, e2, ⟨S', hq, hRp, hFr⟩, hce, hcv, hcl9, st1⟩
  · exact mm_back hc he hS hF hl h0 X' hL e1 hq st1 hZ kk
  · obtain ⟨k1, k2, k3⟩ := vx_keep (A1 := mm_A g) (free := mm_A g) h0 e1 hF (fun _ _ h => h) (fun _ h => h) hL hFr
    obtain ⟨hfz, hp, i, hsw, hi, hV⟩ := kx E S' hq
    have hpl : e.platform.magicAccessors = ({} : Platform).magicAccessors := by rw [X'.admits.platform]
    obtain ⟨k9, hk9, -⟩ := Vm.findClass_spec hcl9
    obtain ⟨vm', X'', st2⟩ := mm_caught X' q (g := F0 m pc la (st.map (mm_cv g))) rfl (cell := ce) (by rw [e1]; exact hce) (by rw [hcv]; rfl) ⟨k9, hk9⟩ (hp := hp) (by rw [htb]; exact mm_sr_of hpl hown hws hS.2.2.2.2.1.1 hS.2.1 hcl9 _ hsw)
    have hz : mm_b g ≤ T'.heap.size := by rw [e1]; exact hRp.2
    have hRp' : mm_Rp g S' T'.heap := by rw [e1]; exact hRp
    have hSt' := mm_kept_of hbs hS hF k3 hz
    have hW : W p l e R s m args below meth c T'.heap (locs ++ L) (uc + dc') (us + ds') QQ (F0 m hp la [.ref q]) := by
      rcases hV with ⟨k, hk, hdk, hV⟩ | ⟨hdk, hV⟩
      · exact lv_astore_n hx hb hdk hk hl hi rfl (fun la' hl' => hV p e R s m args below meth c QQ hc he T'.heap (locs ++ L) la' hRp' hSt' k3 (fun h => by rw [hfz] at h; cases h) (mm_ls_er hl'))
      · exact lv_astore hx hb hdk hl hi rfl (fun la' hl' => hV p e R s m args below meth c QQ hc he T'.heap (locs ++ L) la' hRp' hSt' k3 (fun h => by rw [hfz] at h; cases h) (mm_ls_er hl'))
    obtain ⟨t2, a1, b1⟩ := hW (T'.setVm vm') rfl X''
    exact ⟨t2, st1.trans (st2 t2 a1), b1⟩
/-- a static call of a method with a table of its own that doesn't throw -/
theorem mm_callC {y : MethodName} {bytes : ByteArray} {maxL n index dc' ds' : Nat} {rt : Option FieldType} {h9 : List (Nat × Nat × Nat × Nat)} {as stk : List Value} {Qc : Option Value → mm_S → Prop} (hcw : Cond.codeWith y bytes maxL rt h9 ∈ mm_ws) (hini : Cond.initialized y.cls ∈ mm_ws) (hy : y.cls ≠ "java/lang/invoke/MethodHandle" ∧ y.cls ≠ "java/lang/invoke/VarHandle") (hpd : (parseMethodDescriptor y.desc).map (fun d => d.parameters.length) = some n) (hmx : maxL ≤ 41) (hml : Cond.methodLink own index y ∈ mm_ws) (hsta : Cond.static y ∈ mm_ws) (hd : decode cc pc = .ok (.invokestatic index, 3))
    (hM : mm_Ct g l y (.codeWith y bytes maxL rt h9) d dc' ds' as S (mm_nt Qc)) (hn : as.length = n) (hstk : stk = as.reverse ++ st) (hsum : (st.map fun v => v.category).sum ≤ 8) (hu1 : uc + dc' ≤ dc) (hu2 : us + ds' ≤ ds)
    (kk : ∀ (v : Option Value) (S' : mm_S), Qc v S' → (S'.2.2 = false → S.2.2 = false ∧ S'.2.1 = S.2.1 + dc') ∧ mm_V g l own nm cc nL ret hh (d + 1) dc ds Q (pc + 3) ls (v.toList ++ st) S' (uc + dc') (us + ds')) : mm_V g l own nm cc nL ret hh (d + 1) dc ds Q pc ls stk S uc us := by
  intro p e R s m args below meth c QQ hc he H locs la hR hS hF hZ hl T hT X
  subst hT
  subst hstk
  obtain ⟨hx, hb, hml9, hr, hlk2, hown, htb, hws, hst, hfr, hlo, hcel, hsl, hnm9, hbs⟩ := id hc
  have hcs : vx_CSW R s args own index y bytes maxL rt h9 (Cond.codeWith y bytes maxL rt h9 :: mm_ws) (mm_rm d dc' ds') dc' ds' n :=
    ⟨⟨rfl, rfl, (show d + 8 + 1 ≤ R.frames by omega), (show 8 + (maxL + 11) + (60 * d + 120) ≤ R.locals by omega), mm_pay hws hcw, List.mem_cons_self⟩, hws _ hcw, hws _ hini, hy, fun sig h => by rw [h] at hpd; exact (Option.some.inj hpd).symm, hws _ hml, hws _ hsta⟩
  rcases vx_runSX (As := as.map (mm_cv g)) (rest := st.map (mm_cv g)) (g := F0 m pc la ((as.reverse ++ st).map (mm_cv g))) (nL := nL) ⟨hx, hb, hml9, hown, hws⟩ hM
    hcs ⟨mm_Pc_blind g _ S, mm_preP (as := as) X hR hS hZ⟩ rfl (by rw [List.length_map]; exact hn) hl.1 (by show (as.reverse ++ st).map (mm_cv g) = _; rw [List.map_append, List.map_reverse]) (lv_room (by rw [mm_sum]; exact hsum)) hd (by rw [hcel, hsl]; exact ⟨hu1, hu2⟩) T rfl X
    with ⟨v, st₀, t, T', L, h0, X', hL, e1, e2, hq, st1⟩ | ⟨q, st₀, t, T', L, E, ce, h0, X', hL, e1, e2, ⟨S', hq, hRp, hFr⟩, hce, hcv, hcl9, st1⟩
  · exact mm_back (Qc := mm_nt Qc) hc he hS hF hl h0 X' hL e1 hq st1 hZ (fun v S' h => kk v S' h)
  · exact absurd hq id
end MMH
section MMS
variable {g : mm_G} {l : Launch} {own nm : String} {cc : ByteArray} {nL : Nat} {ret : Option FieldType} {hh : List ExceptionTableEntry} {d dc ds : Nat} {Q : mm_R → mm_S → Prop} {pc : Nat} {ls : List (Option Value)} {st : List Value} {S : mm_S} {uc us : Nat}
theorem mm_tsIn {dflt lo hi : Int} {offs : Array Int} {len : Nat} {x : Int32} {off : Int} (tgt : Nat) (hd : decode cc pc = .ok (.tableswitch dflt lo hi offs, len)) (h1 : ¬ x.toInt < lo) (h2 : ¬ hi < x.toInt) (ho : offs[(x.toInt - lo).toNat]? = some off) (ht : (pc : Int) + off = (tgt : Int)) (k : mm_V g l own nm cc nL ret hh d dc ds Q tgt ls st S uc us) : mm_V g l own nm cc nL ret hh d dc ds Q pc ls (.int x :: st) S uc us := by
  intro p e R s m args below meth c QQ hc he H locs la hR hS hF hZ hl
  exact lv_tableIn hc.1 hc.2.1 hd h1 h2 ho ht (k p e R s m args below meth c QQ hc he H locs la hR hS hF hZ hl)
theorem mm_tsOut {dflt lo hi : Int} {offs : Array Int} {len : Nat} {x : Int32} (tgt : Nat) (hd : decode cc pc = .ok (.tableswitch dflt lo hi offs, len)) (h1 : x.toInt < lo ∨ hi < x.toInt) (ht : (pc : Int) + dflt = (tgt : Int)) (k : mm_V g l own nm cc nL ret hh d dc ds Q tgt ls st S uc us) : mm_V g l own nm cc nL ret hh d dc ds Q pc ls (.int x :: st) S uc us := by
  intro p e R s m args below meth c QQ hc he H locs la hR hS hF hZ hl
  exact lv_tableOut hc.1 hc.2.1 hd h1 ht (k p e R s m args below meth c QQ hc he H locs la hR hS hF hZ hl)
theorem mm_inL (ws : List Cond) (ps : List Nat) (hp : ws = ps.filterMap (fun i => lw_tbl[i]?)) (hg : ws.all goodWord = true) : ∀ w ∈ ws, w ∈ mm_ws := by
  intro w hw
  have hg1 := List.all_eq_true.mp hg w hw
  rw [hp] at hw
  obtain ⟨i, -, hi⟩ := List.mem_filterMap.mp hw
  exact mm_in i hi hg1
theorem mm_inL2 (ws : List Cond) (ps : List Nat) (hp : ws = ps.filterMap (fun i => lw_tbl[i]?)) (hg : ws.all (fun w => goodWord w || mm_isN w) = true) : ∀ w ∈ ws, w ∈ mm_ws ∨ w ∈ mm_nest := by
  intro w hw
  have hg1 := List.all_eq_true.mp hg w hw
  rw [hp] at hw
  obtain ⟨i, -, hi⟩ := List.mem_filterMap.mp hw
  rcases Bool.or_eq_true_iff.mp hg1 with h | h
  · exact Or.inl (mm_in i hi h)
  · exact Or.inr (mm_inN i hi h)
theorem mm_fit_r (C : String) (r : Option Nat) : mm_fit (.object C) (va_rf r) := ⟨fun g => by cases r <;> rfl, fun g => by cases r <;> rfl⟩
theorem mm_fit_ref (C : String) (a : Nat) : mm_fit (.object C) (.ref a) := ⟨fun g => rfl, fun g => rfl⟩
theorem mm_fit_arr (t : FieldType) (a : Nat) : mm_fit (.array t) (.ref a) := ⟨fun g => rfl, fun g => rfl⟩
theorem mm_fit_null (C : String) : mm_fit (.object C) .null := ⟨fun g => rfl, fun g => rfl⟩
theorem mm_fit_int (x : Int32) : mm_fit .int (.int x) := ⟨fun g => rfl, fun g => rfl⟩
theorem mm_fit_long (x : Int64) : mm_fit .long (.long x) := ⟨fun g => rfl, fun g => rfl⟩
theorem mm_fit_z0 : mm_fit .boolean (.int 0) := ⟨fun g => rfl, fun g => rfl⟩
theorem mm_fit_z1 : mm_fit .boolean (.int 1) := ⟨fun g => rfl, fun g => rfl⟩
end MMS
