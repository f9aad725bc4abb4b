section MMW
variable {g : mm_G} {l : Launch} {own nm : String} {cc : ByteArray} {nL : Nat} {ret : Option FieldType} {hh : List ExceptionTableEntry} {d dc ds : Nat} {Q : mm_R → mm_S → Prop} {pc : Nat} {ls : List (Option Value)} {st : List Value} {S : mm_S} {uc us : Nat}
theorem mm_pushP {g : mm_G} {M : Nat → mm_C} {n : Nat} {e : va_E} {H : Heap} (c : mm_C) (h : va_P (mm_D g) vwCl (mm_wl g M n ++ [(mm_b g + n, e)]) H) (he : e = mm_cc g c) : va_P (mm_D g) vwCl (mm_wl g (mm_up M n c) (n + 1)) H := by
  rw [← mm_wl_push he]; exact h
theorem mm_setP {g : mm_G} {M : Nat → mm_C} {n i : Nat} {e : va_E} {H : Heap} (c : mm_C) (h : va_P (mm_D g) vwCl ((mm_wl g M n).set i (mm_b g + i, e)) H) (hi : i < n) (he : e = mm_cc g c) : va_P (mm_D g) vwCl (mm_wl g (mm_up M i c) n) H := by
  rw [← mm_wl_set he hi]; exact h
/-- a new cell lies right behind the others -/
theorem mm_q {g : mm_G} {M : Nat → mm_C} {n q : Nat} {e : va_E} {H1 : Heap} (hP1 : va_P (mm_D g) vwCl (mm_wl g M n ++ [(q, e)]) H1) (hD1 : va_D (mm_A g) (mm_wl g M n ++ [(q, e)])) (hz : H1.size ≤ mm_b g + n + 1) : q = mm_b g + n := by
  have hl : (mm_wl g M n).length = n := by simp [mm_wl]
  have hat : (mm_wl g M n ++ [(q, e)])[n]? = some (q, e) := by
    rw [List.getElem?_append_right (by omega), hl, Nat.sub_self]; rfl
  have h1 := (hP1 n _ hat).lt
  have h2 : mm_b g ≤ q := hD1.2 n _ hat
  dsimp only at h1
  by_cases h : q < mm_b g + n
  · exfalso
    have hi : q - mm_b g < n := by omega
    have hat2 : (mm_wl g M n ++ [(q, e)])[q - mm_b g]? = some (mm_b g + (q - mm_b g), mm_cc g (M (q - mm_b g))) := by
      rw [List.getElem?_append_left (by omega)]; exact mm_wl_at hi
    have := hD1.1 _ _ _ _ hat2 hat (by show mm_b g + (q - mm_b g) = q; omega)
    omega
  · omega
theorem mm_new {C : String} {T : u_T} {ty0 : Nat → FieldType} {N ci index : Nat} {fs : List Value} (hin : ∀ w ∈ u_ws C T N, w ∈ mm_ws) (hty : ∀ k, k < N → parseFieldDescriptor (T k).2.2.1 = some (ty0 k)) (hc0 : vwCl[ci]? = some (C, T, N)) (hcl : Cond.classLink own index C ∈ mm_ws) (hins : Cond.instantiable C N ∈ mm_ws) (hini : Cond.initialized C ∈ mm_ws)
    (hfs : ∀ j, j < N → defaultValue (ty0 j) = vp_V fs j) (hfm : ∀ g : mm_G, fs.map (mm_cv g) = fs) (hz0 : S.2.2 = false) (hu1 : uc + 1 ≤ dc) (hu2 : us + N ≤ ds) (hd : decode cc pc = .ok (.new index, 3))
    (kk : mm_V g l own nm cc nL ret hh d dc ds Q (pc + 3) ls (.ref S.2.1 :: st) (mm_up S.1 S.2.1 (.inr (ci, fs)), S.2.1 + 1, false) (uc + 1) (us + N)) : mm_V g l own nm cc nL ret hh d dc ds Q pc ls st S uc us := by
  intro p e R s m args below meth c QQ hc he H locs la hR hS hF hZ hl
  obtain ⟨hx, hb, hml, hr, hlk2, hown, htb, hws, hst, hfr, hlo, hcel, hsl, hnm9, hbs⟩ := id hc
  refine va_new (ci := ci) (fs := fs) hx hb hws hin ty0 hty hown (hws _ hcl) (hws _ hins) (hws _ hini) hS.1 hR.1 (mm_wl_D g S.1 S.2.1) hF (fun q hq => Nat.le_trans hbs hq) hc0 hfs (by rw [hcel]; exact hu1) (by rw [hsl]; exact hu2) hd (fun q H1 hP1 hD1 hF1 => ?_)
  intro T1 hT1 X1
  have hz1 := X1.heapSize
  have hz2 := hZ hz0
  have hq := mm_q hP1 hD1 (by rw [← hT1]; omega)
  subst hq
  have hP1 := mm_pushP (.inr (ci, fs)) hP1 (by show _ = Sum.inr (ci, fs.map (mm_cv g)); rw [hfm])
  have hz : mm_b g ≤ H1.size := Nat.le_trans hbs hF1.1
  exact kk p e R s m args below meth c QQ hc he H1 locs la ⟨hP1, hz⟩ (mm_kept_of hbs hS hF hF1 hz) hF1 (fun _ => by show _ = mm_b g + (S.2.1 + 1); omega) hl T1 hT1 X1
theorem mm_RA_one {U : State} {c1 c2 : ClassId} {ty : FieldType} (h1 : va_RA U c1 ty) (h2 : va_RA U c2 ty) : c1 = c2 := by
  cases ty with
  | object C =>
    obtain ⟨_, _, _, _, _, h3⟩ := h1
    obtain ⟨_, _, _, _, _, h4⟩ := h2
    exact Option.some.inj (h3.symm.trans h4)
  | _ => exact Option.some.inj (h1.symm.trans h2)
theorem mm_newa {atype : ArrayType} {t N : Nat} {ty : FieldType} {a0 : vp_A} {cl : mm_C} {n : Int32} (ht : ∀ g : mm_G, (mm_tys g)[t]? = some (mm_cA g t, ty)) (hca : ∀ g : mm_G, mm_cc g cl = .inl (mm_cA g t, a0)) (haw : Cond.arrayClass (newarray.typeOf atype) ∈ mm_ws) (hty : newarray.typeOf atype = ty)
    (ha : ∀ cA : ClassId, vp_cell cA a0 = arrV cA N (fun _ => defaultValue ty)) (hn : ¬ n < 0) (hN : n.toNatClampNeg = N) (hbytes : N * componentBytes ty ≤ 536870912) (hz0 : S.2.2 = false) (hu1 : uc + 1 ≤ dc) (hu2 : us + N ≤ ds) (hd : decode cc pc = .ok (.newarray atype, 2))
    (kk : mm_V g l own nm cc nL ret hh d dc ds Q (pc + 2) ls (.ref S.2.1 :: st) (mm_up S.1 S.2.1 cl, S.2.1 + 1, false) (uc + 1) (us + N)) : mm_V g l own nm cc nL ret hh d dc ds Q pc ls (.int n :: st) S uc us := by
  intro p e R s m args below meth c QQ hc he H locs la hR hS hF hZ hl
  obtain ⟨hx, hb, hml, hr, hlk2, hown, htb, hws, hst, hfr, hlo, hcel, hsl, hnm9, hbs⟩ := id hc
  refine va_newa (a0 := a0) hx hb (hws _ haw) hty hS.1 hR.1 (mm_wl_D g S.1 S.2.1) hF (fun q hq => Nat.le_trans hbs hq) ha hn hN hbytes (by rw [hcel]; exact hu1) (by rw [hsl]; exact hu2) hd (fun q cA H1 hK1 hP1 hD1 hF1 => ?_)
  intro T1 hT1 X1
  have hz1 := X1.heapSize
  have hz2 := hZ hz0
  have hq := mm_q hP1 hD1 (by rw [← hT1]; omega)
  subst hq
  have hcA : cA = mm_cA g t := mm_RA_one ((hK1.2 (mm_tys g).length (cA, ty) (by simp)).2) ((hS.1.2 t _ (ht g)).2)
  subst hcA
  have hP1 := mm_pushP (cl) hP1 (hca g).symm
  have hz : mm_b g ≤ H1.size := Nat.le_trans hbs hF1.1
  exact kk p e R s m args below meth c QQ hc he H1 locs la ⟨hP1, hz⟩ (mm_kept_of hbs hS hF hF1 hz) hF1 (fun _ => by show _ = mm_b g + (S.2.1 + 1); omega) hl T1 hT1 X1
theorem mm_newq {C : String} {index t N : Nat} {n : Int32} (ht : ∀ g : mm_G, (mm_tys g)[t]? = some (mm_cA g t, .object C)) (hC : C = "ProtoDesk$Item" ∨ C = "ProtoDesk$Node") (hcl : Cond.classLink own index C ∈ mm_ws)
    (hn : ¬ n < 0) (hN : n.toNatClampNeg = N) (hbytes : N * 4 ≤ 536870912) (hz0 : S.2.2 = false) (hu1 : uc + 1 ≤ dc) (hu2 : us + N ≤ ds) (hd : decode cc pc = .ok (.anewarray index, 3))
    (kk : mm_V g l own nm cc nL ret hh d dc ds Q (pc + 3) ls (.ref S.2.1 :: st) (mm_up S.1 S.2.1 (.inl (t, N, .inr (.inr (fun _ => none)))), S.2.1 + 1, false) (uc + 1) (us + N)) : mm_V g l own nm cc nL ret hh d dc ds Q pc ls (.int n :: st) S uc us := by
  intro p e R s m args below meth c QQ hc he H locs la hR hS hF hZ hl
  obtain ⟨hx, hb, hml, hr, hlk2, hown, htb, hws, hst, hfr, hlo, hcel, hsl, hnm9, hbs⟩ := id hc
  have hao : va_AO C s := by rcases hC with rfl | rfl; exact hS.2.2.2.1.1; exact hS.2.2.2.1.2
  refine va_newq (C := C) hx hb hown (hws _ hcl) hao hS.1 hR.1 (mm_wl_D g S.1 S.2.1) hF (fun q hq => Nat.le_trans hbs hq) hn hN hbytes (by rw [hcel]; exact hu1) (by rw [hsl]; exact hu2) hd (fun q cA H1 hK1 hP1 hD1 hF1 => ?_)
  intro T1 hT1 X1
  have hz1 := X1.heapSize
  have hz2 := hZ hz0
  have hq := mm_q hP1 hD1 (by rw [← hT1]; omega)
  subst hq
  have hcA : cA = mm_cA g t := mm_RA_one ((hK1.2 (mm_tys g).length (cA, .object C) (by simp)).2) ((hS.1.2 t _ (ht g)).2)
  subst hcA
  have hP1 := mm_pushP (.inl (t, N, .inr (.inr (fun _ => none)))) hP1 rfl
  have hz : mm_b g ≤ H1.size := Nat.le_trans hbs hF1.1
  exact kk p e R s m args below meth c QQ hc he H1 locs la ⟨hP1, hz⟩ (mm_kept_of hbs hS hF hF1 hz) hF1 (fun _ => by show _ = mm_b g + (S.2.1 + 1); omega) hl T1 hT1 X1
-- arrays: loads
theorem mm_iald {a n : Nat} {f : Nat → Int32} {i : Int32} (hm : S.1 a = .inl (0, n, .inl f)) (ha : a < S.2.1) (hi : vp_in i n) (hd : decode cc pc = .ok (.iaload, 1)) (kk : mm_V g l own nm cc nL ret hh d dc ds Q (pc + 1) ls (.int (f i.toNatClampNeg) :: st) S uc us) : mm_V g l own nm cc nL ret hh d dc ds Q pc ls (.int i :: .ref a :: st) S uc us := by
  intro p e R s m args below meth c QQ hc he H locs la hR hS hF hZ hl
  exact va_iald hc.1 hc.2.1 hS.1 hR.1 a 0 (by rw [mm_wl_at ha, hm]; rfl) rfl hi hd (kk p e R s m args below meth c QQ hc he H locs la hR hS hF hZ hl)
theorem mm_lald {a n : Nat} {f : Nat → Int64} {i : Int32} (hm : S.1 a = .inl (1, n, .inr (.inl f))) (ha : a < S.2.1) (hi : vp_in i n) (hd : decode cc pc = .ok (.laload, 1)) (kk : mm_V g l own nm cc nL ret hh d dc ds Q (pc + 1) ls (.long (f i.toNatClampNeg) :: st) S uc us) : mm_V g l own nm cc nL ret hh d dc ds Q pc ls (.int i :: .ref a :: st) S uc us := by
  intro p e R s m args below meth c QQ hc he H locs la hR hS hF hZ hl
  exact va_lald hc.1 hc.2.1 hS.1 hR.1 a 1 (by rw [mm_wl_at ha, hm]; rfl) rfl hi hd (kk p e R s m args below meth c QQ hc he H locs la hR hS hF hZ hl)
theorem mm_bald {a n : Nat} {f : Nat → Int32} {i : Int32} (hm : S.1 a = .inl (2, n, .inl f)) (ha : a < S.2.1) (hi : vp_in i n) (hd : decode cc pc = .ok (.baload, 1)) (kk : mm_V g l own nm cc nL ret hh d dc ds Q (pc + 1) ls (.int (f i.toNatClampNeg) :: st) S uc us) : mm_V g l own nm cc nL ret hh d dc ds Q pc ls (.int i :: .ref a :: st) S uc us := by
  intro p e R s m args below meth c QQ hc he H locs la hR hS hF hZ hl
  exact va_bald hc.1 hc.2.1 hS.1 hR.1 a 2 (by rw [mm_wl_at ha, hm]; rfl) rfl hi hd (kk p e R s m args below meth c QQ hc he H locs la hR hS hF hZ hl)
theorem mm_zald {a n : Nat} {f : Nat → Int32} {i : Int32} (hm : S.1 a = .inl (3, n, .inl f)) (ha : a < S.2.1) (hi : vp_in i n) (hd : decode cc pc = .ok (.baload, 1)) (kk : mm_V g l own nm cc nL ret hh d dc ds Q (pc + 1) ls (.int (f i.toNatClampNeg) :: st) S uc us) : mm_V g l own nm cc nL ret hh d dc ds Q pc ls (.int i :: .ref a :: st) S uc us := by
  intro p e R s m args below meth c QQ hc he H locs la hR hS hF hZ hl
  exact va_zald hc.1 hc.2.1 hS.1 hR.1 a 3 (by rw [mm_wl_at ha, hm]; rfl) rfl hi hd (kk p e R s m args below meth c QQ hc he H locs la hR hS hF hZ hl)
theorem mm_cv_rf (g : mm_G) (r : Option Nat) : mm_cv g (va_rf r) = va_rf (r.map (fun i => mm_b g + i)) := by cases r <;> rfl
theorem mm_aald {a n t : Nat} {C : String} {f : Nat → Option Nat} {i : Int32} (ht : ∀ g : mm_G, (mm_tys g)[t]? = some (mm_cA g t, .object C)) (hm : S.1 a = .inl (t, n, .inr (.inr f))) (ha : a < S.2.1) (hi : vp_in i n) (hd : decode cc pc = .ok (.aaload, 1)) (kk : mm_V g l own nm cc nL ret hh d dc ds Q (pc + 1) ls (va_rf (f i.toNatClampNeg) :: st) S uc us) : mm_V g l own nm cc nL ret hh d dc ds Q pc ls (.int i :: .ref a :: st) S uc us := by
  intro p e R s m args below meth c QQ hc he H locs la hR hS hF hZ hl
  have hk := kk p e R s m args below meth c QQ hc he H locs la hR hS hF hZ hl
  rw [List.map_cons, mm_cv_rf] at hk
  exact va_aldq (C := C) (f := fun j => (f j).map (fun i => mm_b g + i)) hc.1 hc.2.1 hS.1 hR.1 a t (by rw [mm_wl_at ha, hm]; rfl) (ht g) hi hd hk
theorem mm_sald {i : Int32} (hi : vp_in i (mm_X g).2.1) (hd : decode cc pc = .ok (.iaload, 1)) (kk : mm_V g l own nm cc nL ret hh d dc ds Q (pc + 1) ls (.int ((mm_X g).2.2 i.toNatClampNeg) :: st) S uc us) : mm_V g l own nm cc nL ret hh d dc ds Q pc ls (.int i :: .retAddr 0 :: st) S uc us := by
  intro p e R s m args below meth c QQ hc he H locs la hR hS hF hZ hl
  have hS9 := hS
  obtain ⟨-, -, -, -, -, -, hX, hX1, hX2⟩ := hS
  exact va_sld (H0 := H) (A := mm_A g) hc.1 hc.2.1 hX (Nat.lt_of_lt_of_le hX1 hX2) (Nat.not_le.mpr hX1) ⟨Nat.le_refl _, fun _ _ _ => rfl, hF.2.2⟩ hi hd (kk p e R s m args below meth c QQ hc he H locs la hR hS9 hF hZ hl)
theorem mm_slen (hd : decode cc pc = .ok (.arraylength, 1)) (kk : mm_V g l own nm cc nL ret hh d dc ds Q (pc + 1) ls (.int (Int32.ofNat (mm_X g).2.1) :: st) S uc us) : mm_V g l own nm cc nL ret hh d dc ds Q pc ls (.retAddr 0 :: st) S uc us := by
  intro p e R s m args below meth c QQ hc he H locs la hR hS hF hZ hl
  have hS9 := hS
  obtain ⟨-, -, -, -, -, -, hX, hX1, hX2⟩ := hS
  exact va_slen (H0 := H) (A := mm_A g) hc.1 hc.2.1 hX (Nat.lt_of_lt_of_le hX1 hX2) (Nat.not_le.mpr hX1) ⟨Nat.le_refl _, fun _ _ _ => rfl, hF.2.2⟩ hd (kk p e R s m args below meth c QQ hc he H locs la hR hS9 hF hZ hl)
theorem mm_alen {a n t : Nat} {ty : FieldType} {x : (Nat → Int32) ⊕ (Nat → Int64) ⊕ (Nat → Option Nat)} {v : Int32} (ht : ∀ g : mm_G, (mm_tys g)[t]? = some (mm_cA g t, ty)) (hm : S.1 a = .inl (t, n, x)) (ha : a < S.2.1) (hv : Int32.ofNat n = v) (hd : decode cc pc = .ok (.arraylength, 1)) (kk : mm_V g l own nm cc nL ret hh d dc ds Q (pc + 1) ls (.int v :: st) S uc us) : mm_V g l own nm cc nL ret hh d dc ds Q pc ls (.ref a :: st) S uc us := by
  intro p e R s m args below meth c QQ hc he H locs la hR hS hF hZ hl
  obtain ⟨y, hy, hn⟩ : ∃ y : vp_A, mm_cc g (.inl (t, n, x)) = .inl (mm_cA g t, y) ∧ y.1 = n := by
    rcases x with f | f | f <;> exact ⟨(n, _), rfl, rfl⟩
  exact va_alen (x := y) hc.1 hc.2.1 hS.1 hR.1 a t (by rw [mm_wl_at ha, hm, hy]) (ht g) (by rw [hn]; exact hv) hd (kk p e R s m args below meth c QQ hc he H locs la hR hS hF hZ hl)
-- arrays: stores
theorem mm_iast {a n : Nat} {f : Nat → Int32} {i x : Int32} (hm : S.1 a = .inl (0, n, .inl f)) (ha : a < S.2.1) (hi : vp_in i n) (hd : decode cc pc = .ok (.iastore, 1)) (kk : mm_V g l own nm cc nL ret hh d dc ds Q (pc + 1) ls st (mm_up S.1 a (.inl (0, n, .inl (upd f i.toNatClampNeg x))), S.2) uc us) : mm_V g l own nm cc nL ret hh d dc ds Q pc ls (.int x :: .int i :: .ref a :: st) S uc us := by
  intro p e R s m args below meth c QQ hc he H locs la hR hS hF hZ hl
  obtain ⟨hx, hb, hml, hr, hlk2, hown, htb, hws, -, -, -, -, -, -, hbs⟩ := id hc
  refine va_iast hx hb hS.1 hR.1 (mm_wl_D g S.1 S.2.1) hF a 0 (by rw [mm_wl_at ha, hm]; rfl) rfl hi hd (fun H1 locs1 hP1 hD1 hF1 => ?_)
  have hP1 := mm_setP (.inl (0, n, .inl (upd f i.toNatClampNeg x))) hP1 ha rfl
  have hz : mm_b g ≤ H1.size := Nat.le_trans hbs hF1.1
  exact kk p e R s m args below meth c QQ hc he H1 locs1 la ⟨hP1, hz⟩ (mm_kept_of hbs hS hF hF1 hz) hF1 hZ hl
theorem mm_last {a n : Nat} {f : Nat → Int64} {i : Int32} {x : Int64} (hm : S.1 a = .inl (1, n, .inr (.inl f))) (ha : a < S.2.1) (hi : vp_in i n) (hd : decode cc pc = .ok (.lastore, 1)) (kk : mm_V g l own nm cc nL ret hh d dc ds Q (pc + 1) ls st (mm_up S.1 a (.inl (1, n, .inr (.inl (vp_updL f i.toNatClampNeg x)))), S.2) uc us) : mm_V g l own nm cc nL ret hh d dc ds Q pc ls (.long x :: .int i :: .ref a :: st) S uc us := by
  intro p e R s m args below meth c QQ hc he H locs la hR hS hF hZ hl
  obtain ⟨hx, hb, hml, hr, hlk2, hown, htb, hws, -, -, -, -, -, -, hbs⟩ := id hc
  refine va_last hx hb hS.1 hR.1 (mm_wl_D g S.1 S.2.1) hF a 1 (by rw [mm_wl_at ha, hm]; rfl) rfl hi hd (fun H1 locs1 hP1 hD1 hF1 => ?_)
  have hP1 := mm_setP (.inl (1, n, .inr (.inl (vp_updL f i.toNatClampNeg x)))) hP1 ha rfl
  have hz : mm_b g ≤ H1.size := Nat.le_trans hbs hF1.1
  exact kk p e R s m args below meth c QQ hc he H1 locs1 la ⟨hP1, hz⟩ (mm_kept_of hbs hS hF hF1 hz) hF1 hZ hl
theorem mm_bast {a n : Nat} {f : Nat → Int32} {i x : Int32} (hm : S.1 a = .inl (2, n, .inl f)) (ha : a < S.2.1) (hi : vp_in i n) (hd : decode cc pc = .ok (.bastore, 1)) (kk : mm_V g l own nm cc nL ret hh d dc ds Q (pc + 1) ls st (mm_up S.1 a (.inl (2, n, .inl (upd f i.toNatClampNeg (vp_nar .byte x)))), S.2) uc us) : mm_V g l own nm cc nL ret hh d dc ds Q pc ls (.int x :: .int i :: .ref a :: st) S uc us := by
  intro p e R s m args below meth c QQ hc he H locs la hR hS hF hZ hl
  obtain ⟨hx, hb, hml, hr, hlk2, hown, htb, hws, -, -, -, -, -, -, hbs⟩ := id hc
  refine va_bast hx hb hS.1 hR.1 (mm_wl_D g S.1 S.2.1) hF a 2 (by rw [mm_wl_at ha, hm]; rfl) rfl hi hd (fun H1 locs1 hP1 hD1 hF1 => ?_)
  have hP1 := mm_setP (.inl (2, n, .inl (upd f i.toNatClampNeg (vp_nar .byte x)))) hP1 ha rfl
  have hz : mm_b g ≤ H1.size := Nat.le_trans hbs hF1.1
  exact kk p e R s m args below meth c QQ hc he H1 locs1 la ⟨hP1, hz⟩ (mm_kept_of hbs hS hF hF1 hz) hF1 hZ hl
theorem mm_zast {a n : Nat} {f : Nat → Int32} {i x : Int32} (hm : S.1 a = .inl (3, n, .inl f)) (ha : a < S.2.1) (hi : vp_in i n) (hd : decode cc pc = .ok (.bastore, 1)) (kk : mm_V g l own nm cc nL ret hh d dc ds Q (pc + 1) ls st (mm_up S.1 a (.inl (3, n, .inl (upd f i.toNatClampNeg (vp_nar .boolean x)))), S.2) uc us) : mm_V g l own nm cc nL ret hh d dc ds Q pc ls (.int x :: .int i :: .ref a :: st) S uc us := by
  intro p e R s m args below meth c QQ hc he H locs la hR hS hF hZ hl
  obtain ⟨hx, hb, hml, hr, hlk2, hown, htb, hws, -, -, -, -, -, -, hbs⟩ := id hc
  refine va_zast hx hb hS.1 hR.1 (mm_wl_D g S.1 S.2.1) hF a 3 (by rw [mm_wl_at ha, hm]; rfl) rfl hi hd (fun H1 locs1 hP1 hD1 hF1 => ?_)
  have hP1 := mm_setP (.inl (3, n, .inl (upd f i.toNatClampNeg (vp_nar .boolean x)))) hP1 ha rfl
  have hz : mm_b g ≤ H1.size := Nat.le_trans hbs hF1.1
  exact kk p e R s m args below meth c QQ hc he H1 locs1 la ⟨hP1, hz⟩ (mm_kept_of hbs hS hF hF1 hz) hF1 hZ hl
theorem mm_up_map (g : mm_G) (f : Nat → Option Nat) (k : Nat) (r : Option Nat) : va_up (fun j => (f j).map (fun i => mm_b g + i)) k (r.map (fun i => mm_b g + i)) = fun j => (va_up f k r j).map (fun i => mm_b g + i) := by
  funext j
  unfold va_up
  split <;> rfl
/-- an object of class number cv goes into an array of that class -/
theorem mm_aast {a n t v cv : Nat} {r : vw_C} {fs : List Value} {f : Nat → Option Nat} {i : Int32} (ht : ∀ g : mm_G, (mm_tys g)[t]? = some (mm_cA g t, .object r.1)) (hr0 : vwCl[cv]? = some r) (hm : S.1 a = .inl (t, n, .inr (.inr f))) (ha : a < S.2.1) (hmv : S.1 v = .inr (cv, fs)) (hv : v < S.2.1) (hi : vp_in i n) (hd : decode cc pc = .ok (.aastore, 1))
    (kk : mm_V g l own nm cc nL ret hh d dc ds Q (pc + 1) ls st (mm_up S.1 a (.inl (t, n, .inr (.inr (va_up f i.toNatClampNeg (some v))))), S.2) uc us) : mm_V g l own nm cc nL ret hh d dc ds Q pc ls (.ref v :: .int i :: .ref a :: st) S uc us := by
  intro p e R s m args below meth c QQ hc he H locs la hR hS hF hZ hl
  obtain ⟨hx, hb, hml, hr, hlk2, hown, htb, hws, -, -, -, -, -, -, hbs⟩ := id hc
  refine va_astq (r := r) (vs := fs.map (mm_cv g)) (f := fun j => (f j).map (fun i => mm_b g + i)) hx hb hS.1 hR.1 (mm_wl_D g S.1 S.2.1) hF a t v cv (by rw [mm_wl_at ha, hm]; rfl) (ht g) (by rw [mm_wl_at hv, hmv]; rfl) hr0 hi hd (fun H1 locs1 hP1 hD1 hF1 => ?_)
  have hP1 := mm_setP (.inl (t, n, .inr (.inr (va_up f i.toNatClampNeg (some v))))) hP1 ha (by rw [show (some (mm_b g + v) : Option Nat) = (some v).map (fun i => mm_b g + i) from rfl, mm_up_map]; rfl)
  have hz : mm_b g ≤ H1.size := Nat.le_trans hbs hF1.1
  exact kk p e R s m args below meth c QQ hc he H1 locs1 la ⟨hP1, hz⟩ (mm_kept_of hbs hS hF hF1 hz) hF1 hZ hl
theorem mm_aastN {a n t : Nat} {C : String} {f : Nat → Option Nat} {i : Int32} (ht : ∀ g : mm_G, (mm_tys g)[t]? = some (mm_cA g t, .object C)) (hm : S.1 a = .inl (t, n, .inr (.inr f))) (ha : a < S.2.1) (hi : vp_in i n) (hd : decode cc pc = .ok (.aastore, 1))
    (kk : mm_V g l own nm cc nL ret hh d dc ds Q (pc + 1) ls st (mm_up S.1 a (.inl (t, n, .inr (.inr (va_up f i.toNatClampNeg none)))), S.2) uc us) : mm_V g l own nm cc nL ret hh d dc ds Q pc ls (.null :: .int i :: .ref a :: st) S uc us := by
  intro p e R s m args below meth c QQ hc he H locs la hR hS hF hZ hl
  obtain ⟨hx, hb, hml, hr, hlk2, hown, htb, hws, -, -, -, -, -, -, hbs⟩ := id hc
  refine va_astqN (C := C) (f := fun j => (f j).map (fun i => mm_b g + i)) hx hb hS.1 hR.1 (mm_wl_D g S.1 S.2.1) hF a t (by rw [mm_wl_at ha, hm]; rfl) (ht g) hi hd (fun H1 locs1 hP1 hD1 hF1 => ?_)
  have hP1 := mm_setP (.inl (t, n, .inr (.inr (va_up f i.toNatClampNeg none)))) hP1 ha (by rw [show (none : Option Nat) = (none : Option Nat).map (fun i => mm_b g + i) from rfl, mm_up_map]; rfl)
  have hz : mm_b g ≤ H1.size := Nat.le_trans hbs hF1.1
  exact kk p e R s m args below meth c QQ hc he H1 locs1 la ⟨hP1, hz⟩ (mm_kept_of hbs hS hF hF1 hz) hF1 hZ hl
theorem mm_oinit {index a : Nat} (hw1 : Cond.methodLink own index objectInit ∈ mm_ws) (hw2 : Cond.instanceMethod objectInit ∈ mm_ws) (hw3 : Cond.code objectInit ⟨#[0xb1]⟩ 1 none ∈ mm_ws) (hsum : (st.map fun v => v.category).sum ≤ 8) (hd : decode cc pc = .ok (.invokespecial index, 3)) (kk : mm_V g l own nm cc nL ret hh d dc ds Q (pc + 3) ls st S uc us) : mm_V g l own nm cc nL ret hh d dc ds Q pc ls (.ref a :: st) S uc us := by
  intro p e R s m args below meth c QQ hc he H locs la hR hS hF hZ hl
  obtain ⟨hx, hb, hml, hr, hlk2, hown, htb, hws, hst, hfr, hlo, -, -, -, hbs⟩ := id hc
  have hsum2 : ((st.map (mm_cv g)).map fun v => v.category).sum ≤ 8 := by
    rw [List.map_map, show ((fun v : Value => v.category) ∘ mm_cv g) = fun v : Value => v.category from funext (mm_cv_cat g)]; exact hsum
  exact W.objInit (a := mm_b g + a) (rest := st.map (mm_cv g)) hx hb hown (hws _ hw1) (hws _ hw2) (hws _ hw3) rfl (by rw [hml]; exact hl.1) rfl hd (by omega) (by have := lv_room (m := m) (pc := pc) (ls := la) (rest := (.ref a :: st).map (mm_cv g)) hsum2; omega) (kk p e R s m args below meth c QQ hc he H locs la hR hS hF hZ hl)
end MMW
