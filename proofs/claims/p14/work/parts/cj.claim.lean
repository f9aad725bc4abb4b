theorem mm_inP (ws : List Cond) (ps : List Nat) (hp : ws = ps.filterMap (fun i => lw_tbl[i]?)) : ∀ w ∈ ws, w ∈ lw_tbl := by
  intro w hw
  rw [hp] at hw
  obtain ⟨i, -, hi⟩ := List.mem_filterMap.mp hw
  exact List.mem_of_getElem? hi
set_option maxRecDepth 100000 in
theorem st_strs : ∀ w ∈ mm_strs.map (fun q => Cond.stringRef q.1 q.2.1 q.2.2), w ∈ lw_tbl := mm_inP _ [708, 747, 769, 845, 898, 899, 1119, 1144, 1273, 1274, 1328, 1330, 1338, 1369, 1435, 1441, 1442, 1443, 1449, 1450, 1474, 1488, 1531, 1547] (by decide +kernel)
theorem mm_inF (ws big : List Cond) (ps : List Nat) (hp : ws = ps.filterMap (fun i => big[i]?)) : ∀ w ∈ ws, w ∈ big := by
  intro w hw
  rw [hp] at hw
  obtain ⟨i, -, hi⟩ := List.mem_filterMap.mp hw
  exact List.mem_of_getElem? hi
set_option maxRecDepth 100000 in
theorem st_ncs : ∀ w ∈ mm_ncs.map (fun q => Cond.not (.castable q.1 q.2)), w ∈ flatC (Jvm.Cond.and given_1 narrow_1) := mm_inF _ _ [24, 25, 26, 40, 41, 42, 56, 57, 58, 72, 73, 74] (by decide +kernel)
set_option maxRecDepth 100000 in
theorem st_isr : ∀ w ∈ [Cond.isRef (.static Bundle.tN "UNASSIGNED_STACK" Bundle.steD), Cond.isRef (.static Bundle.tN "SUPPRESSED_SENTINEL" Bundle.listD)], w ∈ flatC (Jvm.Cond.and given_1 narrow_1) := mm_inF _ _ [4, 5] (by decide +kernel)
def tst : List Nat := [75, 95, 126, 146, 244, 311, 408, 453, 517, 583, 626, 646, 667, 693, 727, 747, 769, 791, 814, 840, 868, 912, 952, 1007]
def txT (k : Nat) : Term := .string (mm_strs.getD k ("", 0, "")).1 (mm_strs.getD k ("", 0, "")).2.1
def txV (k : Nat) : Term := .field (txT k) mm_stn "value" "[B"
def txE (k j : Nat) : Cond := .eq (.elem (txV k) (.int (Int32.ofNat j))) (.int (tchr k j))
def txC (k : Nat) : List Cond := [.exactly (txT k) mm_stn, .eq (.field (txT k) mm_stn "coder" "B") (.int 0), .arrayOf (txV k) .byte, .eq (.length (txV k)) (.int (Int32.ofNat (tlen k)))] ++ (List.range (tlen k)).map (txE k)
set_option maxRecDepth 100000 in
theorem tx_blk : ∀ k, k < 24 → ((flatC (Jvm.Cond.and given_1 narrow_1)).drop (tst.getD k 0)).take (4 + tlen k) = txC k := by decide +kernel
theorem tx_in {k : Nat} (hk : k < 24) {w : Cond} (hw : w ∈ txC k) : w ∈ flatC (Jvm.Cond.and given_1 narrow_1) := List.mem_of_mem_drop (List.mem_of_mem_take (by rw [tx_blk k hk]; exact hw))
set_option maxRecDepth 100000 in
theorem st_two : ∀ w ∈ [Cond.eq (.static mm_stn "COMPACT_STRINGS" "Z") (.int 1), Cond.isRef (.static mm_pcn "SIOOBE_FORMATTER" "Ljava/util/function/BiFunction;")], w ∈ flatC (Jvm.Cond.and given_1 narrow_1) := mm_inF _ _ [6, 7] (by decide +kernel)
theorem tl_31 : ∀ k, k < 24 → tlen k < 2 ^ 31 := by decide +kernel
theorem tchr_out {k j : Nat} (h : ¬ j < tlen k) : tchr k j = 0 := by
  unfold tchr
  rw [List.getD_eq_getElem?_getD, List.getElem?_eq_none (by unfold tlen at h; omega)]
  rfl
theorem st_txt {s : State} {args : Array Value} {k : Nat} (hk : k < 24) (hfl : ∀ w ∈ flatC (Jvm.Cond.and given_1 narrow_1), w.before args s = true) : ∃ q : Nat × Nat, (txT k).eval args s none [] s = some (.ref q.1) ∧ va_O mm_stn q.1 (fun a => s.heap.size ≤ a) s s.heap ∧ va_OF mm_stn "coder" "B" (.int 0) q.1 (fun a => s.heap.size ≤ a) s s.heap ∧ va_OF mm_stn "value" "[B" (.ref q.2) q.1 (fun a => s.heap.size ≤ a) s s.heap ∧ va_T .byte q.2 (tlen k) (fun j => .int (tchr k j)) (fun a => s.heap.size ≤ a) s s.heap := by
  have M : ∀ w ∈ txC k, w.before args s = true := fun w hw => hfl w (tx_in hk hw)
  have e0 : ∀ i, i < 1 → i = 0 := fun i hi => by omega
  have eb : ∀ j, ([(List.range (tlen k)).map (tchr k)].getD 0 []).getD j 0 = tchr k j := by
    intro j
    show ((List.range (tlen k)).map (tchr k)).getD j 0 = tchr k j
    rw [List.getD_eq_getElem?_getD, List.getElem?_map]
    by_cases h : j < tlen k
    · rw [List.getElem?_range h]; rfl
    · rw [List.getElem?_eq_none (by rw [List.length_range]; omega), tchr_out h]; rfl
  obtain ⟨adK, adV, hS, hev⟩ := vk_Sof (args := args) (s := s) (N := 1) (tm := fun _ => txT k) (len := [tlen k]) (byt := [(List.range (tlen k)).map (tchr k)]) (A := fun a => s.heap.size ≤ a)
    (fun i hi => by rw [e0 i hi]; exact tl_31 k hk)
    (fun i hi => M _ (List.mem_append_left _ (by simp [mm_stn])))
    (fun i hi => M _ (List.mem_append_left _ (by simp [mm_stn])))
    (fun i hi => M _ (List.mem_append_left _ (by simp [txV, mm_stn])))
    (fun i hi => by rw [e0 i hi]; exact M _ (List.mem_append_left _ (by simp [txV, mm_stn])))
    (fun i hi j hj => by
      rw [e0 i hi] at hj ⊢
      rw [eb j]
      exact M _ (List.mem_append_right _ (List.mem_map.mpr ⟨j, List.mem_range.mpr hj, rfl⟩)))
    (fun i j hi hj hij => absurd ((e0 i hi).trans (e0 j hj).symm) hij)
    (fun a h => Nat.not_le.mpr h)
  obtain ⟨h1, h2, h3, h4⟩ := hS.1 0 (by decide)
  refine ⟨(adK 0, adV 0), hev 0 (by decide), h1, h2, h3, ?_⟩
  have ef : (fun j => Value.int (([(List.range (tlen k)).map (tchr k)].getD 0 []).getD j 0)) = fun j => Value.int (tchr k j) := funext fun j => by rw [eb j]
  rw [← ef]
  exact h4
theorem st_str {s : State} {args : Array Value} {own tx : String} {k : Nat} (h : (Cond.stringRef own k tx).before args s = true) : ∃ a, vk_R own k tx a s := by
  have hcur : ∃ cur, s.vm.findClass own = some cur := by
    have h1 := h
    simp only [Cond.before, Cond.holds, Cond.value] at h1
    cases hc : s.vm.findClass own with
    | none => simp [hc] at h1
    | some cur => exact ⟨cur, rfl⟩
  obtain ⟨cur, hc⟩ := hcur
  obtain ⟨-, -, -, a, -, -, -, -, -, hev⟩ := Cond.stringRef_spec hc h
  exact ⟨a, vk_R.of h hev⟩
set_option maxHeartbeats 4000000 in
set_option maxRecDepth 100000 in
/-- the fixed world at the law's entry -/
theorem st_world {s : State} {b L : Nat} {xs : Nat → Int32} (hts : ∀ w ∈ lw_tbl, w.before #[Value.ref b] s = true) (hX : va_X b L xs s s.heap) (hbl : b < s.heap.size) (hgv : (Jvm.Cond.and given_1 narrow_1).before #[Value.ref b] s = true) : ∃ g : mm_G, mm_b g = s.heap.size ∧ mm_X g = (b, L, xs) ∧ mm_St g s s.heap := by
  have hfl := flat_of_before _ hgv
  obtain ⟨c0, i0, k0⟩ := u_known (C := RX0) (T := TX0) (N := 3) (n := 3) hts (fun w hw => (List.mem_filter.mp (in_X0 w hw)).1) (hts (.instantiable RX0 3) (List.mem_filter.mp wn_X0).1)
  obtain ⟨c1, i1, k1⟩ := u_known (C := RX1) (T := TX1) (N := 5) (n := 5) hts (fun w hw => (List.mem_filter.mp (in_X1 w hw)).1) (hts (.instantiable RX1 5) (List.mem_filter.mp wn_X1).1)
  obtain ⟨c2, i2, k2⟩ := u_known (C := RX2) (T := TX2) (N := 5) (n := 5) hts (fun w hw => (List.mem_filter.mp (in_X2 w hw)).1) (hts (.instantiable RX2 5) (List.mem_filter.mp wn_X2).1)
  obtain ⟨c3, i3, k3⟩ := u_known (C := RX3) (T := TX3) (N := 17) (n := 17) hts (fun w hw => (List.mem_filter.mp (in_X3 w hw)).1) (hts (.instantiable RX3 17) (List.mem_filter.mp wn_X3).1)
  obtain ⟨c4, i4, k4⟩ := u_known (C := RX4) (T := TX4) (N := 7) (n := 7) hts (fun w hw => (List.mem_filter.mp (in_X4 w hw)).1) (hts (.instantiable RX4 7) (List.mem_filter.mp wn_X4).1)
  obtain ⟨c5, i5, k5⟩ := u_known (C := RX5) (T := TX5) (N := 8) (n := 8) hts (fun w hw => (List.mem_filter.mp (in_X5 w hw)).1) (hts (.instantiable RX5 8) (List.mem_filter.mp wn_X5).1)
  obtain ⟨c6, i6, k6⟩ := u_known (C := RX6) (T := TX6) (N := 5) (n := 5) hts (fun w hw => (List.mem_filter.mp (in_X6 w hw)).1) (hts (.instantiable RX6 5) (List.mem_filter.mp wn_X6).1)
  obtain ⟨c7, i7, k7⟩ := u_known (C := RX7) (T := TX7) (N := 7) (n := 7) hts (fun w hw => (List.mem_filter.mp (in_X7 w hw)).1) (hts (.instantiable RX7 7) (List.mem_filter.mp wn_X7).1)
  obtain ⟨c8, i8, k8⟩ := u_known (C := RX8) (T := TX8) (N := 6) (n := 6) hts (fun w hw => (List.mem_filter.mp (in_X8 w hw)).1) (hts (.instantiable RX8 6) (List.mem_filter.mp wn_X8).1)
  obtain ⟨c9, i9, k9⟩ := u_known (C := RX9) (T := TX9) (N := 6) (n := 6) hts (fun w hw => (List.mem_filter.mp (in_X9 w hw)).1) (hts (.instantiable RX9 6) (List.mem_filter.mp wn_X9).1)
  obtain ⟨c10, i10, k10⟩ := u_known (C := RX10) (T := TX10) (N := 8) (n := 8) hts (fun w hw => (List.mem_filter.mp (in_X10 w hw)).1) (hts (.instantiable RX10 8) (List.mem_filter.mp wn_X10).1)
  obtain ⟨c11, i11, k11⟩ := u_known (C := RX11) (T := TX11) (N := 9) (n := 9) hts (fun w hw => (List.mem_filter.mp (in_X11 w hw)).1) (hts (.instantiable RX11 9) (List.mem_filter.mp wn_X11).1)
  obtain ⟨c12, i12, k12⟩ := u_known (C := RX12) (T := TX12) (N := 115) (n := 115) hts (fun w hw => (List.mem_filter.mp (in_X12 w hw)).1) (hts (.instantiable RX12 115) (List.mem_filter.mp wn_X12).1)
  obtain ⟨aI, kaI, coI, fI1, fI2, fI3⟩ := Cond.arrayClass_spec (hts (.arrayClass .int) (List.mem_filter.mp wA_int).1)
  obtain ⟨aJ, kaJ, coJ, fJ1, fJ2, fJ3⟩ := Cond.arrayClass_spec (hts (.arrayClass .long) (List.mem_filter.mp wA_long).1)
  obtain ⟨aB, kaB, coB, fB1, fB2, fB3⟩ := Cond.arrayClass_spec (hts (.arrayClass .byte) (List.mem_filter.mp wA_byte).1)
  obtain ⟨aZ, kaZ, coZ, fZ1, fZ2, fZ3⟩ := Cond.arrayClass_spec (hts (.arrayClass .boolean) (List.mem_filter.mp wA_boolean).1)
  have hoT := hts (.arrayOver (.object "ProtoDesk$Item")) (mm_tt_1 70 rfl)
  obtain ⟨coT, aT, kaT, fT1, fT2, fT3, fT4, fT5⟩ := Cond.arrayOver_spec hoT
  have hoN := hts (.arrayOver (.object "ProtoDesk$Node")) (mm_tt_2 59 rfl)
  obtain ⟨coN, aN, kaN, fN1, fN2, fN3, fN4, fN5⟩ := Cond.arrayOver_spec hoN
  have hsk : ∀ k : Nat, ∃ q : Nat × Nat, k < 24 → (∀ q', mm_strs[k]? = some q' → vk_R q'.1 q'.2.1 q'.2.2 q.1 s) ∧ va_O mm_stn q.1 (fun a => s.heap.size ≤ a) s s.heap ∧ va_OF mm_stn "coder" "B" (.int 0) q.1 (fun a => s.heap.size ≤ a) s s.heap ∧ va_OF mm_stn "value" "[B" (.ref q.2) q.1 (fun a => s.heap.size ≤ a) s s.heap ∧ va_T .byte q.2 (tlen k) (fun j => .int (tchr k j)) (fun a => s.heap.size ≤ a) s s.heap := by
    intro k
    by_cases hk : k < 24
    · obtain ⟨q, h1, h2⟩ := st_txt hk hfl
      refine ⟨q, fun _ => ⟨fun q' hq' => ?_, h2⟩⟩
      refine vk_R.of (hts _ (st_strs _ (List.mem_map.mpr ⟨q', List.mem_of_getElem? hq', rfl⟩))) ?_
      have e : mm_strs.getD k ("", 0, "") = q' := by rw [List.getD_eq_getElem?_getD, hq']; rfl
      unfold txT at h1
      rw [e] at h1
      exact h1
    · exact ⟨(0, 0), fun h => absurd h hk⟩
  obtain ⟨sQ, hsQ⟩ := Classical.skolem.mp hsk
  have hcz : va_Z mm_stn "COMPACT_STRINGS" "Z" (.int 1) (fun a => s.heap.size ≤ a) s s.heap := va_Zof (hts _ (mm_tt_3 202 rfl)) (hts (.initialized mm_stn) (mm_tt_1 20 rfl)) (va_eqt (hfl _ (st_two _ List.mem_cons_self))) (fun a h => Nat.not_le.mpr h)
  have hsz : ∃ t, va_Z mm_pcn "SIOOBE_FORMATTER" "Ljava/util/function/BiFunction;" .null (fun a => s.heap.size ≤ a) s s.heap ∨ va_Z mm_pcn "SIOOBE_FORMATTER" "Ljava/util/function/BiFunction;" (.ref t) (fun a => s.heap.size ≤ a) s s.heap := by
    rcases va_Zqof (A := fun a => s.heap.size ≤ a) (hts _ (mm_tt_3 218 rfl)) (hts (.initialized mm_pcn) (mm_tt_1 22 rfl)) (hfl _ (st_two _ (List.mem_cons_of_mem _ List.mem_cons_self))) (fun a h => Nat.not_le.mpr h) with z | ⟨t, z⟩
    · exact ⟨0, Or.inl z⟩
    · exact ⟨t, Or.inr z⟩
  obtain ⟨tS, hsS⟩ := hsz
  refine ⟨((fun k => [c0, c1, c2, c3, c4, c5, c6, c7, c8, c9, c10, c11, c12].getD k c0, fun k => [i0, i1, i2, i3, i4, i5, i6, i7, i8, i9, i10, i11, i12].getD k i0), (fun k => [aI, aJ, aB, aZ, aT, aN].getD k aI), s.heap.size, (b, L, xs), (fun k => if k < 24 then (sQ k).1 else if k < 2000 then (sQ (k - 1000)).2 else tS)), rfl, rfl, ⟨?_, ?_⟩, ?_, ?_, ⟨va_AO.of hoT, va_AO.of hoN⟩, ⟨?_, ?_, hcz, hsS⟩, ⟨?_, ?_⟩, hX, hbl, Nat.le_refl _⟩
  · intro k q hq
    match k, hq with
    | 0, hq => cases hq; exact k0
    | 1, hq => cases hq; exact k1
    | 2, hq => cases hq; exact k2
    | 3, hq => cases hq; exact k3
    | 4, hq => cases hq; exact k4
    | 5, hq => cases hq; exact k5
    | 6, hq => cases hq; exact k6
    | 7, hq => cases hq; exact k7
    | 8, hq => cases hq; exact k8
    | 9, hq => cases hq; exact k9
    | 10, hq => cases hq; exact k10
    | 11, hq => cases hq; exact k11
    | 12, hq => cases hq; exact k12
    | k + 13, hq => simp [vwCl] at hq
  · intro k q hq
    match k, hq with
    | 0, hq => cases hq; exact ⟨fun n z => ⟨fun k h => (by cases h), kaI, fI2, coI, fI3⟩, fI1⟩
    | 1, hq => cases hq; exact ⟨fun n z => ⟨fun k h => (by cases h), kaJ, fJ2, coJ, fJ3⟩, fJ1⟩
    | 2, hq => cases hq; exact ⟨fun n z => ⟨fun k h => (by cases h), kaB, fB2, coB, fB3⟩, fB1⟩
    | 3, hq => cases hq; exact ⟨fun n z => ⟨fun k h => (by cases h), kaZ, fZ2, coZ, fZ3⟩, fZ1⟩
    | 4, hq => cases hq; exact ⟨fun n z => ⟨fun k h => (by cases h), kaT, fT3, coT, fT4⟩, ⟨kaT, coT, fT3, fT4, fT1, fT5⟩⟩
    | 5, hq => cases hq; exact ⟨fun n z => ⟨fun k h => (by cases h), kaN, fN3, coN, fN4⟩, ⟨kaN, coN, fN3, fN4, fN1, fN5⟩⟩
    | k + 6, hq => simp [mm_tys] at hq
  · intro w hw
    obtain ⟨h1, h2⟩ := List.mem_filter.mp hw
    exact va_Nw.of (mm_isN_on h2) (hts w h1)
  · intro k q hq
    have hk : k < 24 := (List.getElem?_eq_some_iff.mp hq).1
    show vk_R q.1 q.2.1 q.2.2 (if k < 24 then (sQ k).1 else if k < 2000 then (sQ (k - 1000)).2 else tS) s
    rw [if_pos hk]
    exact (hsQ k hk).1 q hq
  · intro q hq
    exact va_Nc.of (hfl _ (st_ncs _ (List.mem_map.mpr ⟨q, hq, rfl⟩)))
  · intro k hk
    have e1 : (if k < 24 then (sQ k).1 else if k < 2000 then (sQ (k - 1000)).2 else tS) = (sQ k).1 := if_pos hk
    have e2 : (if 1000 + k < 24 then (sQ (1000 + k)).1 else if 1000 + k < 2000 then (sQ (1000 + k - 1000)).2 else tS) = (sQ k).2 := by
      rw [if_neg (by omega), if_pos (by omega), show 1000 + k - 1000 = k by omega]
    show va_O mm_stn (if k < 24 then (sQ k).1 else if k < 2000 then (sQ (k - 1000)).2 else tS) (fun a => s.heap.size ≤ a) s s.heap ∧ va_OF mm_stn "coder" "B" (.int 0) (if k < 24 then (sQ k).1 else if k < 2000 then (sQ (k - 1000)).2 else tS) (fun a => s.heap.size ≤ a) s s.heap ∧ va_OF mm_stn "value" "[B" (.ref (if 1000 + k < 24 then (sQ (1000 + k)).1 else if 1000 + k < 2000 then (sQ (1000 + k - 1000)).2 else tS)) (if k < 24 then (sQ k).1 else if k < 2000 then (sQ (k - 1000)).2 else tS) (fun a => s.heap.size ≤ a) s s.heap ∧ va_T .byte (if 1000 + k < 24 then (sQ (1000 + k)).1 else if 1000 + k < 2000 then (sQ (1000 + k - 1000)).2 else tS) (tlen k) (fun j => .int (tchr k j)) (fun a => s.heap.size ≤ a) s s.heap
    rw [e1, e2]
    exact (hsQ k hk).2
  · exact vx_Zqof (hts _ (mm_tt_3 36 rfl)) (hts (.initialized "java/lang/Throwable") (List.mem_filter.mp wj_Throwable).1) (hfl _ (st_isr _ List.mem_cons_self)) (fun a h => Nat.not_le.mpr h)
  · exact vx_Zqof (hts _ (mm_tt_3 38 rfl)) (hts (.initialized "java/lang/Throwable") (List.mem_filter.mp wj_Throwable).1) (hfl _ (st_isr _ (List.mem_cons_of_mem _ List.mem_cons_self))) (fun a h => Nat.not_le.mpr h)
-- ===== end of PART A; then your names; then what follows =====
/-! THE CLAIM OUT OF ONE WALK OF THE LAW'S BODY. Your part is whole_start (and what it stands on); all else here is the same for every law, but numbers. -/
def R_law : String := "ProtoDeskLaw"
def lw_P (b : Addr) (xs : List Int32) (args : Array Value) (s : State) : Prop := args = #[.ref b] ∧ s.IntsAt b xs ∧ xs.length ≤ 2560 ∧ (Jvm.Cond.and given_1 narrow_1).before args s = true
def lw_Q (_ : Array Value) (s : State) (o : Outcome) (t : State) : Prop := o = .returned (some (.int 1)) ∧ Framed s o t [] 601024 7293034
def lw_Z (below : List Frame) (a : Array Value) (s : State) : State → Prop := fun t => ∃ o, t.status = .running ∧ Ended t below o ∧ lw_Q a s o t
/-- the law's own end, with 1 on the stack, nothing written that was there before, its room as the claim has it -/
theorem lw_ret {p : Program} {l : Launch} {e : Env} {s : State} {m : MethodId} {below : List Frame} {meth : Method} {c : Code} {b : Nat} (hx : p.tables.exec = Jvm.exec) (hb : c.code = code) (hr : meth.sig.returnType = ret) (hlocks : meth.locks = false) {pc : Nat} {H : Heap} {ls : Array Slot} (hdg : decode code pc = .ok (.ireturn, 1)) : W p l e room_1 s m #[Value.ref b] below meth c H [] 601024 7293034 (lw_Z below #[Value.ref b] s) (F0 m pc ls [.int 1]) := by
  intro T hT X
  obtain ⟨fs, hret, hrun, hended, hW, hframe⟩ := X.leave (v := some (.int 1)) (hlocks := hlocks) (fun h => by rw [hr] at h; cases h)
  have hmeth' : T.vm.method? m = some meth := X.method'
  refine ⟨T.setFrames fs, ?_, .returned (some (.int 1)), hrun, hended, rfl, ⟨_, rfl⟩, hW, hframe⟩
  jvm_step X.here [X.here.top, hx, hb, hdg, hmeth', hr, ret, narrow_b1]
  (try refine ⟨rfl, ?_⟩); (try refine ⟨rfl, ?_⟩)
  first | (intro acts; rw [hret _ acts rfl rfl rfl]) | rw [hret _ _ rfl rfl rfl]
  exact Steps.refl _
/-- what holds at the law's entry: the machine, the code, the tables' words (any of lw_tbl by 'hts w (by decide +kernel)'), the script of L ints xs at the cell b, what the Statement gives of the start (any of its parts by flat_of_before) -/
def lw_At (p : Program) (s : State) (m : MethodId) (meth : Method) (c : Code) (b L : Nat) (xs : Nat → Int32) : Prop :=
  p.tables.exec = Jvm.exec ∧ c.code = code ∧ meth.sig.returnType = ret ∧ c.maxLocals = 8 ∧ s.vm.findClass R_law = some m.cls ∧ (∀ w ∈ lw_tbl, w.before #[Value.ref b] s = true) ∧ va_X b L xs s s.heap ∧ b < s.heap.size ∧ meth.locks = false ∧ (Jvm.Cond.and given_1 narrow_1).before #[Value.ref b] s = true
set_option maxHeartbeats 4000000 in
set_option maxRecDepth 100000 in
/-- from the entry, for every script of at most 2560 ints, the law comes to its end with true -/
theorem whole_start {p : Program} {e : Env} {s : State} {m : MethodId} {below : List Frame} {meth : Method} {c : Code} (l : Launch) (hst : l.stackTraces = false) {b L : Nat} {xs : Nat → Int32} (hL : L ≤ 2560) (C0 : lw_At p s m meth c b L xs) (htb : c.exceptionTable.toList = []) (hnm : meth.name = "law") : W p l e room_1 s m #[Value.ref b] below meth c s.heap [] 0 0 (lw_Z below #[Value.ref b] s) (entryFrame m ([Value.ref b] : List Value).toArray 8) := by
  obtain ⟨hx, hb, hr, hml, hown, hts, hX, hbl, hlocks, hgv⟩ := id C0
  obtain ⟨g, hg1, hg2, hSt⟩ := st_world hts hX hbl hgv
  have hcb : (mm_X g).1 = b := by rw [hg2]
  have hcv : ([Value.retAddr 0] : List Value).map (mm_cv g) = [Value.ref b] := by
    show [Value.ref (mm_X g).1] = _
    rw [hcb]
  have hle := mm_ls_ent g [.retAddr 0] 8 (by decide)
  rw [hcv] at hle
  rw [lg_entry_eq]
  refine law_start hst 601024 7293034 (by decide) (by decide) (by rw [hg2]; exact hL) p e room_1 s m #[Value.ref b] below meth c (lw_Z below #[Value.ref b] s) ⟨hx, hb, hml, hr, hlocks, hown, htb, fun w hw => hts w (List.mem_filter.mp hw).1, hst, by decide, by decide, rfl, rfl, hnm, by rw [hg1]; exact Nat.le_refl _⟩ ⟨?_, Or.inr (fun E S h => by cases h)⟩ s.heap [] _ ⟨fun k q h => by simp [mm_wl] at h, by rw [hg1]; exact Nat.le_refl _⟩ hSt va_S.rf (fun _ => by rw [hg1]) hle
  intro i v S H locs uc us pc la hok hd hq hR hF h1 h2
  cases hq
  rcases hok with ⟨x, ty, rfl, hv, -, -⟩ | ⟨x, -, hv, -⟩ | ⟨-, hv, -⟩ | ⟨a, C, -, hv, -⟩
  · refine va_forget (fun q hq => by have := hF.2.2 q hq; rw [← hg1]; exact this) ?_
    refine W.widen h1 h2 ?_
    exact lw_ret hx hb hr hlocks hd
  · cases hv
  · cases hv
  · cases a <;> cases hv
-- ===== YOUR PART ENDS =====
set_option maxHeartbeats 4000000 in
theorem lw_walk (l : Launch) (hst : l.stackTraces = false) (b : Addr) (xs : List Int32) : MetFree l x (headSpec (Jvm.Cond.code x code maxLocals ret :: tables_1) room_1) (lw_P b xs) (fun _ _ _ _ _ => True) lw_Q := by
  refine MetFree.of_bodyS (code := code) (maxLocals := maxLocals) (ret := ret) (by decide) ?_ ?_
  · intro args s m h hn
    obtain ⟨meth, c, h1, h2, h3, h4, h5, h6, -, -⟩ := Cond.code_spec hn (atoms_spec (ws := Jvm.Cond.code x code maxLocals ret :: tables_1) h _ List.mem_cons_self)
    exact ⟨meth, c, h1, h2, h3, h4, h5, h6⟩
  · intro p e s m args below meth c s₁ B hml0 hP _
    obtain ⟨rfl, hx, hbd, hgv⟩ := hP
    obtain ⟨scr, harrAt, hlist, hof, hsmall⟩ := hx
    obtain ⟨hcb, hkn, -, -⟩ := State.arrayAt?_spec harrAt
    have hown : s.vm.findClass R_law = some m.cls := findClass_of_methodNamed B.named
    have hts0 : ∀ c ∈ (Jvm.Cond.code x code maxLocals ret :: tables_1), c.before #[Value.ref b] s = true := atoms_spec (ws := Jvm.Cond.code x code maxLocals ret :: tables_1) B.pre
    have hts : ∀ w ∈ lw_tbl, w.before #[Value.ref b] s = true := k2_hts_sels lw_privs (fun w hw => hts0 w (List.mem_cons_of_mem _ hw)) lw_privs_ok
    have hml : c.maxLocals = 8 := B.maxLocals_eq (hts0 _ List.mem_cons_self)
    have X₀ : Stand p l e room_1 s m #[Value.ref b] below meth c s₁ [] 0 0 := Stand.of_body B
    have hh0 : s₁.heap = s.heap := by rw [B.state]; rfl
    have hsz : scr.slots.size = xs.length := by rw [← Array.length_toList, hlist, List.length_map]
    have hval : ∀ j : Nat, j < xs.length → scr.slots[j]? = some (.int (xs.getD j 0)) := fun j hj => by
      rw [← Array.getElem?_toList, hlist]
      simp [hj]
    have hbl : b < s.heap.size := (Array.getElem?_eq_some_iff.mp hcb).1
    have hX : va_X b xs.length (fun j => xs.getD j 0) s s.heap := ⟨scr, hcb, hof, hkn, hsz, hval⟩
    have K : W p l e room_1 s m #[Value.ref b] below meth c s₁.heap [] 0 0 (lw_Z below #[Value.ref b] s) (entryFrame m ([Value.ref b] : List Value).toArray 8) := by
      rw [hh0]
      exact whole_start l hst hbd ⟨B.exec, B.bytes, B.returns, hml, hown, hts, hX, hbl, B.notSynchronized, hgv⟩ (mm_noT B hts0 List.mem_cons_self) (name_of_methodNamed B.named B.method).1
    obtain ⟨t, a1, o, b1, b2, b3⟩ := K s₁ rfl X₀
    exact ⟨t, o, a1, b1, b2, b3⟩
theorem lw_pre_spec {args : Array Value} {s : State} (h : (Jvm.Cond.and given_1 narrow_1).before args s = true) (hr : rest_1_c.before args s = true) : ∃ (b : Addr) (xs : List Int32), lw_P b xs args s := by
  have hs := flat_of_before _ h
  have hq := flat_of_before _ hr
  have hc : (Cond.count 1).before args s = true := hs _ (by decide +kernel)
  have harr : (Cond.arrayOf (.arg 0) .int).before args s = true := hs _ (by decide +kernel)
  have hle : (Cond.le (.length (.arg 0)) (.int 2560)).before args s = true := hs _ (by decide +kernel)
  have hlen : (Cond.isInt (.length (.arg 0))).before args s = true := hq _ (by decide +kernel)
  have hall : (Cond.all (.arg 0) (.isInt (.elem (.arg 0) (.index 0)))).before args s = true := hq _ (by decide +kernel)
  obtain ⟨b, xs, hb, hx⟩ := State.ints_of_pre rfl harr hlen hall
  have hsm : xs.length < 2 ^ 31 := hx.choose_spec.2.2.2
  have hev : (Term.length (.arg 0)).eval args s none [] s = some (.int xs.length.toInt32) := hx.length_eval hb
  have hv := Cond.le_ints hev (show (Term.int 2560).eval args s none [] s = some (.int 2560) from rfl)
  have hd : xs.length.toInt32 ≤ 2560 := by
    simpa [Cond.before, Cond.holds, hv] using hle
  have hN : xs.length ≤ 2560 := (Int32.ofNat_le_ofNat hsm (by decide)).mp (show Int32.ofNat xs.length ≤ Int32.ofNat 2560 from hd)
  exact ⟨b, xs, Cond.one_arg hc (show args[0]? = some (.ref b) from hb), hx, hN, h⟩
theorem lw_comes (l : Launch) (hst : l.stackTraces = false) : Comes l x (Jvm.Cond.code x code maxLocals ret :: tables_1) room_1 (fun tb e args s => Calls_1 tb e args s ∧ rest_1 tb e args s ∧ Pre_1 tb e args s)
    (fun _ _ args s o t => lw_Q args s o t) := by
  intro p e ha hc hk s m args below hf hfit hheap happ hpre
  obtain ⟨b, xs, hP⟩ := lw_pre_spec hpre.2.2 hpre.2.1
  obtain ⟨k, o, h1, h2, h3, hQ⟩ := lw_walk l hst b xs p e ha hc hk s m args below hf ((Spec.applies_iff_loose hf).mp happ).1 hP trivial
  exact ⟨k, o, h1, h2, h3, hQ⟩
theorem lw_frame {s t : State} {o : Outcome} {args : Array Value} (h : Framed s o t [] 601024 7293034) :
    Framed s o t (fieldLocs frame_1_writes args s ++ arrayLocs frame_1_arrays args s ++ staticLocs frame_1_statics s) 601024 7293034 := h
theorem lw_limb (L : Cond) (hL : ∀ (args : Array Value) (s t : State), L.after args s (.returned (some (.int 1))) t = true) :
    ArmFor flags0 classFile x code maxLocals ret World_1 tables_1 room_1 Calls_1 rest_1 Pre_1
      (fun tb e a s o t => postC L tb e a s o t ∧ Framed s o t (fieldLocs frame_1_writes a s ++ arrayLocs frame_1_arrays a s ++ staticLocs frame_1_statics s) 601024 7293034) := by
  intro l hfl _ _ p e ha hc hk s m args below hf hfit hheap happ hpre
  obtain ⟨k, o, h1, h2, h3, rfl, hF⟩   := lw_comes l (by unfold Launch.stackTraces; rw [hfl]; decide) p e ha hc hk s m args below hf hfit hheap happ hpre
  exact ⟨k, _, h1, h2, h3, hL args s _, lw_frame hF⟩
theorem i_vc : Claimed_1_1 ∧ Claimed_1_2 := ⟨lw_limb limb_1_1 (fun args s t => by simp [limb_1_1, Cond.after, Cond.holds, Cond.value]), lw_limb limb_1_2 (fun args s t => Cond.after_iff.mpr (by
  first | (rw [show limb_1_2 = Cond.eq .result (.int 1) from rfl, Cond.eq_ints (x := 1) (y := 1) rfl rfl]; simp; done) | (simp [limb_1_2, Cond.value, Term.eval]; done)))⟩
