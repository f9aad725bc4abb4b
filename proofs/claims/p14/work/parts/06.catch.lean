/-! ===== a throw that is caught by the method's own table, its rows' classes cold or warm (our own: the round's library has no such law) ===== -/
/-- the table's search for a thrown class th at pc ends at the handler hp -/
def mm_sr (pl : Platform) (s0 : State) (dcl : ClassId) (pc : Nat) (th : ClassId) (hp : Nat) : List ExceptionTableEntry → Prop
  | [] => False
  | x :: r => (covers x pc = false ∧ mm_sr pl s0 dcl pc th hp r) ∨ (covers x pc = true ∧ x.catchType ≠ 0 ∧ ∃ c : ClassId, s0.vm.ClassLinks pl dcl x.catchType c ∧ ((s0.vm.assignable th c = false ∧ mm_sr pl s0 dcl pc th hp r) ∨ (s0.vm.assignable th c = true ∧ x.handlerPc = hp)))
theorem mm_go1 {e : Env} {U : State} {f : JFrame} {a : Addr} {cell : Cell} {x : ExceptionTableEntry} {t : List ExceptionTableEntry} {c : ClassId} {Q : Handler → Pre} {E : CtlPost} {d : Bool} {acts : List Action} (hx : covers x f.pc = true) (h0 : x.catchType ≠ 0) (hl : U.vm.ClassLinks e.platform f.method.cls x.catchType c)
    (hcell : U.heap[a]? = some cell) (hobj : ∀ k, cell.vm ≠ .statics k) (hk : ∃ k, U.vm.classes[cell.cls]? = some k) (hc : ∃ k, U.vm.classes[c]? = some k) :
    wp (findHandler.go f a (x :: t)) Q E e d acts U ↔ if U.vm.assignable cell.cls c = true then Q (.found x.handlerPc) d acts (U.setVm (U.vm.noted f.method.cls x.catchType (.cls c))) else wp (findHandler.go f a t) Q E e d acts (U.setVm (U.vm.noted f.method.cls x.catchType (.cls c))) := by
  have hx' : (decide (x.startPc ≤ f.pc) && decide (f.pc < x.endPc)) = true := hx
  obtain ⟨r1, r2⟩ := (resolveClass_links e.toSetting hl).op (op := VmOp.resolveClass f.method.cls x.catchType) rfl
  have hal : U.vm.Alike (U.vm.noted f.method.cls x.catchType (.cls c)) := (Vm.Alike.refl U.vm).noted _ _ _
  obtain ⟨k1, hk1⟩ := hk
  obtain ⟨k2, hk2⟩ := hc
  obtain ⟨k1', hk1', -⟩ := hal.2.2 _ _ hk1
  obtain ⟨k2', hk2', -⟩ := hal.2.2 _ _ hk2
  have has : (U.vm.noted f.method.cls x.catchType (.cls c)).assignable cell.cls c = U.vm.assignable cell.cls c := hal.assignable _ _
  cases hfit : U.vm.assignable cell.cls c <;> rw [hfit] at has <;> simp [findHandler.go, hx', h0, r1, r2, hcell, hobj, hk1', hk2', has, VmOp.dirties, VmOp.acts]
theorem mm_go {e : Env} {s0 : State} {f : JFrame} {a : Addr} {cell : Cell} {hp : Nat} (hobj : ∀ k, cell.vm ≠ .statics k) (hk0 : ∃ k, s0.vm.classes[cell.cls]? = some k) : ∀ (rows : List ExceptionTableEntry) (U : State), s0.WarmedH U.vm → U.heap[a]? = some cell → mm_sr e.platform s0 f.method.cls f.pc cell.cls hp rows →
    ∃ vm', s0.WarmedH vm' ∧ ∀ (Q : Handler → Pre) (E : CtlPost) (d : Bool) (acts : List Action), wp (findHandler.go f a rows) Q E e d acts U ↔ Q (.found hp) d acts (U.setVm vm') := by
  intro rows
  induction rows with
  | nil => intro U _ _ h; exact absurd h id
  | cons x r ih =>
    intro U hW hcell h
    rcases h with ⟨h1, h2⟩ | ⟨h1, h2, c, h3, h4⟩
    · obtain ⟨vm', i1, i2⟩ := ih U hW hcell h2
      exact ⟨vm', i1, fun Q E d acts => (Jvm.W.findHandler_go_skip h1).trans (i2 Q E d acts)⟩
    · obtain ⟨k0, hk0'⟩ := hk0
      obtain ⟨kU, hkU, -⟩ := hW.alike.2.2 _ _ hk0'
      obtain ⟨dk, _, _, kt, hd9, _, _, _, _, hkt, _, hopen⟩ := h3.here
      obtain ⟨ktU, hktU, -⟩ := hW.alike.2.2 _ _ hkt
      have hW1 : s0.WarmedH (U.vm.noted f.method.cls x.catchType (.cls c)) := hW.noted hd9 hopen (State.rightAt_cls h3)
      have has : U.vm.assignable cell.cls c = s0.vm.assignable cell.cls c := hW.alike.assignable _ _
      rcases h4 with ⟨h5, h6⟩ | ⟨h5, h6⟩
      · obtain ⟨vm', i1, i2⟩ := ih (U.setVm (U.vm.noted f.method.cls x.catchType (.cls c))) hW1 hcell h6
        refine ⟨vm', i1, fun Q E d acts => ?_⟩
        rw [mm_go1 h1 h2 (hW.classLinks h3) hcell hobj ⟨kU, hkU⟩ ⟨ktU, hktU⟩, has, h5, if_neg (by decide)]
        exact i2 Q E d acts
      · refine ⟨_, hW1, fun Q E d acts => ?_⟩
        rw [mm_go1 h1 h2 (hW.classLinks h3) hcell hobj ⟨kU, hkU⟩ ⟨ktU, hktU⟩, has, h5, if_pos rfl, h6]
theorem mm_stepTo {e : Env} {s : State} {a : Addr} {f : JFrame} {r : List Frame} {pc : Nat} {vm' : Vm} (hfind : ∀ (Q : Handler → Pre) (E : CtlPost) (d : Bool) (acts : List Action), wp (findHandler f a) Q E e d acts s ↔ Q (.found pc) d acts (s.setVm vm')) :
    (stepThrowing e s a (.java f :: r)).Is ((s.setVm vm').setFrames (.java { f with pc := pc, stack := [.ref a] } :: r)) [] := by
  simp only [stepThrowing, searchFrame, vmDo]
  generalize hr : Sem.go _ e false [] s = res
  obtain ⟨as, rfl, ha⟩ := Sem.eq_ok_of hr (a := Handler.found pc) (s' := s.setVm vm') (acts' := []) (by simp [hfind _ _ _ _])
  exact ⟨rfl, ha⟩
theorem mm_caught {p : Program} {l : Launch} {e : Env} {R : Room} {s : State} {m : MethodId} {args : Array Value} {below : List Frame} {meth : Method} {c : Code} {T : State} {locs : List Loc} {cells slots : Nat} (X : Stand p l e R s m args below meth c T locs cells slots) (q : Addr) {g : JFrame} (hg : g.method = m) {cell : Cell} (hcell : T.heap[q]? = some cell) (hobj : cell.vm.isStatics = false)
    (hk0 : ∃ k, s.vm.classes[cell.cls]? = some k) {hp : Nat} (hsr : mm_sr e.platform s m.cls g.pc cell.cls hp c.exceptionTable.toList) :
    ∃ vm', Stand p l e R s m args below meth c (T.setVm vm') locs cells slots ∧ ∀ target, Steps p.tables e below ((T.setVm vm').setTop { g with pc := hp, stack := [.ref q] }) target → Steps p.tables e below ((T.setTop g).pushFrame (.throwing q)) target := by
  subst hg
  obtain ⟨vm', hW', hq⟩ := mm_go (e := e) (f := g) (a := q) (VmData.ne_statics_of hobj) hk0 c.exceptionTable.toList ((T.setTop g).pushFrame (.throwing q)) X.warmed hcell hsr
  refine ⟨vm', X.noted hW', fun target hrest => ?_⟩
  obtain ⟨hgo, hw⟩ := X.here.throwing q
  refine Steps.head hgo hw ?_
  have hfind : ∀ (Q : Handler → Pre) (E : CtlPost) (d : Bool) (acts : List Action), wp (findHandler g q) Q E e d acts ((T.setTop g).pushFrame (.throwing q)) ↔ Q (.found hp) d acts (((T.setTop g).pushFrame (.throwing q)).setVm vm') := fun Q E d acts => (Jvm.W.findHandler_eq (s := (T.setTop g).pushFrame (.throwing q)) (meth := meth) (code := c) X.method' X.code).trans (hq Q E d acts)
  rw [stepThread_throwing (frames_entered X.here.top _), (mm_stepTo hfind).1]
  obtain ⟨g₀, hg0⟩ := Option.isSome_iff_exists.mp X.here.top
  obtain ⟨r, hr⟩ := State.topJava?_eq_some.mp hg0
  have hr' : (T.setVm vm').frames = .java g₀ :: r := hr
  rw [State.setTop_of_frames _ hr'] at hrest
  have hsw : ∀ (F G : List Frame) (u : State), ((u.setFrames F).setVm vm').setFrames G = (u.setVm vm').setFrames G := fun F G u => by
    rw [show (u.setFrames F).setVm vm' = (u.setVm vm').setFrames F from rfl, State.setFrames_setFrames]
  rw [hr, List.tail_cons, State.pushFrame, hsw, State.setTop_of_frames _ hr, hsw]
  exact hrest
