def jLen : MethodName := ⟨"java/lang/String", "length", "()I"⟩
def jChr : MethodName := ⟨"java/lang/String", "charAt", "(I)C"⟩
def lmin (x y : Int64) : Int64 := if y < x then y else x
def mm_mn (own : String) (i : Nat) : Prop := Cond.methodLink own i Lib.MathLoose.min_long.x ∈ mm_ws ∧ Cond.static Lib.MathLoose.min_long.x ∈ mm_ws ∧ Cond.initialized "java/lang/Math" ∈ mm_ws ∧ Cond.code Lib.MathLoose.min_long.x Lib.MathLoose.min_long.code 4 (some .long) ∈ mm_ws
def mm_ac (own : String) (i : Nat) : Prop := Cond.methodLink own i arraycopyName ∈ mm_ws ∧ Cond.native arraycopyName ∈ mm_ws ∧ Cond.static arraycopyName ∈ mm_ws ∧ Cond.initialized "java/lang/System" ∈ mm_ws
/-- bytes copied within a row -/
def cpy9 (σ : SG) (a s d n : Nat) : SG := (fun b j => if b = a ∧ d ≤ j ∧ j < d + n then σ.1 a (s + (j - d)) else σ.1 b j, σ.2.1, σ.2.2)
def acopy {β : Type} (σ : SG) (a : Nat) (s d n : Int32) (f : SG → Option β) : Option β := if ¬ s < 0 ∧ ¬ d < 0 ∧ ¬ n < 0 ∧ s.toNatClampNeg + n.toNatClampNeg ≤ ln a ∧ d.toNatClampNeg + n.toNatClampNeg ≤ ln a ∧ (∀ i, i < n.toNatClampNeg → (sI σ a (s.toNatClampNeg + i)).toInt8.toInt32 = sI σ a (s.toNatClampNeg + i)) then f (cpy9 σ a s.toNatClampNeg d.toNatClampNeg n.toNatClampNeg) else none
theorem kX_X0_35 : Cond.methodLink RX0 35 jLen ∈ mm_ws := mm_t_3 193 rfl rfl
theorem kX_X0_41 : Cond.methodLink RX0 41 jChr ∈ mm_ws := mm_t_3 203 rfl rfl
theorem kX_X10_84 : mm_mn RX10 84 := ⟨mm_t_4 12 rfl rfl, mm_t_4 13 rfl rfl, mm_t_1 3 rfl rfl, mm_t_4 14 rfl rfl⟩
theorem kX_X7_176 : Cond.methodLink RX7 176 jLen ∈ mm_ws := mm_t_5 192 rfl rfl
theorem kX_X7_183 : Cond.methodLink RX7 183 jChr ∈ mm_ws := mm_t_5 194 rfl rfl
theorem kX_X0_47 : mm_ac RX0 47 := ⟨mm_t_6 23 rfl rfl, mm_t_6 25 rfl rfl, mm_t_6 24 rfl rfl, mm_t_1 24 rfl rfl⟩
section MJDK
variable {g : mm_G} {l : Launch} {own nm : String} {cc : ByteArray} {nL : Nat} {ret : Option FieldType} {hh : List ExceptionTableEntry} {d dc ds : Nat} {Q : mm_R → mm_S → Prop} {pc : Nat} {ls : List (Option Value)} {st : List Value} {S : mm_S} {Z : Nat → Nat → Option Nat} {σ : SG} {n : Nat} {z : Bool} {uc us : Nat} {β : Type} {R : β}
theorem mm_ldcS {k i : Nat} {text : String} (hstr : mm_strs[k]? = some (own, i, text)) (hd : decode cc pc = .ok (.ldc i, 2)) (kk : mm_V g l own nm cc nL ret hh d dc ds Q (pc + 2) ls (.retAddr (k + 1) :: st) S uc us) : mm_V g l own nm cc nL ret hh d dc ds Q pc ls st S uc us := by
  intro p e R s m args below meth c QQ hc he H locs la hR hS hF hZ hl
  obtain ⟨hx, hb, hml9, hr, hlk2, hown, htb, hws, hst, hfr, hlo, hcel, hsl, hnm9, hbs⟩ := id hc
  exact va_ldcS hx hb hown (hS.2.2.1 k _ hstr) hd (kk p e R s m args below meth c QQ hc he H locs la hR hS hF hZ hl)
theorem mm_mminL {x y : Int64} {index : Nat} (hw : mm_mn own index) (hsum : (st.map fun v => v.category).sum ≤ 8) (h1 : uc ≤ dc) (h2 : us ≤ ds) (hd : decode cc pc = .ok (.invokestatic index, 3)) (kk : mm_V g l own nm cc nL ret hh d dc ds Q (pc + 3) ls (.long (lmin x y) :: st) S uc us) : mm_V g l own nm cc nL ret hh d dc ds Q pc ls (.long y :: .long x :: st) S uc us := by
  intro p e R s m args below meth c QQ hc he H locs la hR hS hF hZ hl
  obtain ⟨hx, hb, hml9, hr, hlk2, hown, htb, hws, hst, hfr, hlo, hcel, hsl, hnm9, hbs⟩ := id hc
  exact va_mmin_long hx hb (by rw [hml9]; exact hl.1.symm) hown (hws _ hw.1) (hws _ hw.2.1) (hws _ hw.2.2.1) (hws _ hw.2.2.2) (by omega) (by rw [mm_sum]; omega) (by rw [hcel]; exact h1) (by rw [hsl]; exact h2) hd (kk p e R s m args below meth c QQ hc he H locs la hR hS hF hZ hl)
def yJ_coder : MethodName := ⟨"java/lang/String", "coder", "()B"⟩
theorem wJ_coder : mm_W yJ_coder prog_21_method_152_code 1 (some .byte) 0 := ⟨mm_t_3 200 rfl rfl, mm_t_1 20 rfl rfl, by decide, by decide +kernel, by decide⟩
theorem iJ_coder : Cond.instanceMethod yJ_coder ∈ mm_ws := mm_t_3 198 rfl rfl
theorem eJ_coder : Cond.selects mm_stn yJ_coder yJ_coder ∈ mm_ws := mm_t_3 199 rfl rfl
def yJ_length : MethodName := ⟨"java/lang/String", "length", "()I"⟩
theorem wJ_length : mm_W yJ_length prog_21_method_54_code 1 (some .int) 0 := ⟨mm_t_3 196 rfl rfl, mm_t_1 20 rfl rfl, by decide, by decide +kernel, by decide⟩
theorem iJ_length : Cond.instanceMethod yJ_length ∈ mm_ws := mm_t_3 194 rfl rfl
theorem eJ_length : Cond.selects mm_stn yJ_length yJ_length ∈ mm_ws := mm_t_3 195 rfl rfl
def yJ_isLatin1 : MethodName := ⟨"java/lang/String", "isLatin1", "()Z"⟩
theorem wJ_isLatin1 : mm_W yJ_isLatin1 prog_21_method_154_code 1 (some .boolean) 0 := ⟨mm_t_3 210 rfl rfl, mm_t_1 20 rfl rfl, by decide, by decide +kernel, by decide⟩
theorem iJ_isLatin1 : Cond.instanceMethod yJ_isLatin1 ∈ mm_ws := mm_t_3 208 rfl rfl
theorem eJ_isLatin1 : Cond.selects mm_stn yJ_isLatin1 yJ_isLatin1 ∈ mm_ws := mm_t_3 209 rfl rfl
def yJ_charAt : MethodName := ⟨"java/lang/String", "charAt", "(I)C"⟩
theorem wJ_charAt : mm_W yJ_charAt prog_21_method_56_code 2 (some .char) 1 := ⟨mm_t_3 206 rfl rfl, mm_t_1 20 rfl rfl, by decide, by decide +kernel, by decide⟩
theorem iJ_charAt : Cond.instanceMethod yJ_charAt ∈ mm_ws := mm_t_3 204 rfl rfl
theorem eJ_charAt : Cond.selects mm_stn yJ_charAt yJ_charAt ∈ mm_ws := mm_t_3 205 rfl rfl
def yJ_sl1 : MethodName := ⟨"java/lang/StringLatin1", "charAt", "([BI)C"⟩
theorem wJ_sl1 : mm_W yJ_sl1 prog_22_method_2_code 2 (some .char) 2 := ⟨mm_t_3 213 rfl rfl, mm_t_1 21 rfl rfl, by decide, by decide +kernel, by decide⟩
theorem sJ_sl1 : Cond.static yJ_sl1 ∈ mm_ws := mm_t_3 212 rfl rfl
def yJ_cki : MethodName := ⟨"java/lang/String", "checkIndex", "(II)V"⟩
theorem wJ_cki : mm_W yJ_cki prog_21_method_155_code 2 none 2 := ⟨mm_t_3 216 rfl rfl, mm_t_1 20 rfl rfl, by decide, by decide +kernel, by decide⟩
theorem sJ_cki : Cond.static yJ_cki ∈ mm_ws := mm_t_3 215 rfl rfl
def yJ_pcki : MethodName := ⟨"jdk/internal/util/Preconditions", "checkIndex", "(IILjava/util/function/BiFunction;)I"⟩
theorem wJ_pcki : mm_W yJ_pcki prog_27_method_11_code 3 (some .int) 3 := ⟨mm_t_3 221 rfl rfl, mm_t_1 22 rfl rfl, by decide, by decide +kernel, by decide⟩
theorem sJ_pcki : Cond.static yJ_pcki ∈ mm_ws := mm_t_3 220 rfl rfl
theorem lJ_coder : Cond.methodLink "java/lang/String" 335 yJ_coder ∈ mm_ws := mm_t_3 197 rfl rfl
theorem lJ_isLatin1 : Cond.methodLink "java/lang/String" 492 yJ_isLatin1 ∈ mm_ws := mm_t_3 207 rfl rfl
theorem lJ_sl1 : Cond.methodLink "java/lang/String" 495 yJ_sl1 ∈ mm_ws := mm_t_3 211 rfl rfl
theorem lJ_cki : Cond.methodLink "java/lang/StringLatin1" 9 yJ_cki ∈ mm_ws := mm_t_3 214 rfl rfl
theorem lJ_pcki : Cond.methodLink "java/lang/String" 1059 yJ_pcki ∈ mm_ws := mm_t_3 219 rfl rfl
theorem fJ_value : Cond.fieldLink "java/lang/String" 9 "java/lang/String" "value" "[B" ∈ mm_ws := mm_t_10 149 rfl rfl
theorem fJ_coder : Cond.fieldLink "java/lang/String" 15 "java/lang/String" "coder" "B" ∈ mm_ws := mm_t_10 150 rfl rfl
theorem fJ_compact : Cond.fieldLink "java/lang/String" 38 "java/lang/String" "COMPACT_STRINGS" "Z" ∈ mm_ws := mm_t_3 201 rfl rfl
theorem fJ_sioobe : Cond.fieldLink "java/lang/String" 1053 "jdk/internal/util/Preconditions" "SIOOBE_FORMATTER" "Ljava/util/function/BiFunction;" ∈ mm_ws := mm_t_3 217 rfl rfl
theorem dJ_coder_0 : decode prog_21_method_152_code 0 = .ok (.getstatic 38, 3) := by decide +kernel
theorem dJ_coder_3 : decode prog_21_method_152_code 3 = .ok (.ifCond .eq 10, 3) := by decide +kernel
theorem dJ_coder_6 : decode prog_21_method_152_code 6 = .ok (.aload_n 0, 1) := by decide +kernel
theorem dJ_coder_7 : decode prog_21_method_152_code 7 = .ok (.getfield 15, 3) := by decide +kernel
theorem dJ_coder_10 : decode prog_21_method_152_code 10 = .ok (.goto 4, 3) := by decide +kernel
theorem dJ_coder_14 : decode prog_21_method_152_code 14 = .ok (.ireturn, 1) := by decide +kernel
theorem dJ_length_0 : decode prog_21_method_54_code 0 = .ok (.aload_n 0, 1) := by decide +kernel
theorem dJ_length_1 : decode prog_21_method_54_code 1 = .ok (.getfield 9, 3) := by decide +kernel
theorem dJ_length_4 : decode prog_21_method_54_code 4 = .ok (.arraylength, 1) := by decide +kernel
theorem dJ_length_5 : decode prog_21_method_54_code 5 = .ok (.aload_n 0, 1) := by decide +kernel
theorem dJ_length_6 : decode prog_21_method_54_code 6 = .ok (.invokevirtual 335, 3) := by decide +kernel
theorem dJ_length_9 : decode prog_21_method_54_code 9 = .ok (.ishr, 1) := by decide +kernel
theorem dJ_length_10 : decode prog_21_method_54_code 10 = .ok (.ireturn, 1) := by decide +kernel
theorem dJ_isLatin1_0 : decode prog_21_method_154_code 0 = .ok (.getstatic 38, 3) := by decide +kernel
theorem dJ_isLatin1_3 : decode prog_21_method_154_code 3 = .ok (.ifCond .eq 14, 3) := by decide +kernel
theorem dJ_isLatin1_6 : decode prog_21_method_154_code 6 = .ok (.aload_n 0, 1) := by decide +kernel
theorem dJ_isLatin1_7 : decode prog_21_method_154_code 7 = .ok (.getfield 15, 3) := by decide +kernel
theorem dJ_isLatin1_10 : decode prog_21_method_154_code 10 = .ok (.ifCond .ne 7, 3) := by decide +kernel
theorem dJ_isLatin1_13 : decode prog_21_method_154_code 13 = .ok (.iconst 1, 1) := by decide +kernel
theorem dJ_isLatin1_14 : decode prog_21_method_154_code 14 = .ok (.goto 4, 3) := by decide +kernel
theorem dJ_isLatin1_18 : decode prog_21_method_154_code 18 = .ok (.ireturn, 1) := by decide +kernel
theorem dJ_charAt_0 : decode prog_21_method_56_code 0 = .ok (.aload_n 0, 1) := by decide +kernel
theorem dJ_charAt_1 : decode prog_21_method_56_code 1 = .ok (.invokevirtual 492, 3) := by decide +kernel
theorem dJ_charAt_4 : decode prog_21_method_56_code 4 = .ok (.ifCond .eq 12, 3) := by decide +kernel
theorem dJ_charAt_7 : decode prog_21_method_56_code 7 = .ok (.aload_n 0, 1) := by decide +kernel
theorem dJ_charAt_8 : decode prog_21_method_56_code 8 = .ok (.getfield 9, 3) := by decide +kernel
theorem dJ_charAt_11 : decode prog_21_method_56_code 11 = .ok (.iload_n 1, 1) := by decide +kernel
theorem dJ_charAt_12 : decode prog_21_method_56_code 12 = .ok (.invokestatic 495, 3) := by decide +kernel
theorem dJ_charAt_15 : decode prog_21_method_56_code 15 = .ok (.ireturn, 1) := by decide +kernel
theorem dJ_sl1_0 : decode prog_22_method_2_code 0 = .ok (.iload_n 1, 1) := by decide +kernel
theorem dJ_sl1_1 : decode prog_22_method_2_code 1 = .ok (.aload_n 0, 1) := by decide +kernel
theorem dJ_sl1_2 : decode prog_22_method_2_code 2 = .ok (.arraylength, 1) := by decide +kernel
theorem dJ_sl1_3 : decode prog_22_method_2_code 3 = .ok (.invokestatic 9, 3) := by decide +kernel
theorem dJ_sl1_6 : decode prog_22_method_2_code 6 = .ok (.aload_n 0, 1) := by decide +kernel
theorem dJ_sl1_7 : decode prog_22_method_2_code 7 = .ok (.iload_n 1, 1) := by decide +kernel
theorem dJ_sl1_8 : decode prog_22_method_2_code 8 = .ok (.baload, 1) := by decide +kernel
theorem dJ_sl1_9 : decode prog_22_method_2_code 9 = .ok (.sipush 255, 3) := by decide +kernel
theorem dJ_sl1_12 : decode prog_22_method_2_code 12 = .ok (.iand, 1) := by decide +kernel
theorem dJ_sl1_13 : decode prog_22_method_2_code 13 = .ok (.i2c, 1) := by decide +kernel
theorem dJ_sl1_14 : decode prog_22_method_2_code 14 = .ok (.ireturn, 1) := by decide +kernel
theorem dJ_cki_0 : decode prog_21_method_155_code 0 = .ok (.iload_n 0, 1) := by decide +kernel
theorem dJ_cki_1 : decode prog_21_method_155_code 1 = .ok (.iload_n 1, 1) := by decide +kernel
theorem dJ_cki_2 : decode prog_21_method_155_code 2 = .ok (.getstatic 1053, 3) := by decide +kernel
theorem dJ_cki_5 : decode prog_21_method_155_code 5 = .ok (.invokestatic 1059, 3) := by decide +kernel
theorem dJ_cki_8 : decode prog_21_method_155_code 8 = .ok (.pop, 1) := by decide +kernel
theorem dJ_cki_9 : decode prog_21_method_155_code 9 = .ok (.return_, 1) := by decide +kernel
theorem dJ_pcki_0 : decode prog_27_method_11_code 0 = .ok (.iload_n 0, 1) := by decide +kernel
theorem dJ_pcki_1 : decode prog_27_method_11_code 1 = .ok (.ifCond .lt 8, 3) := by decide +kernel
theorem dJ_pcki_4 : decode prog_27_method_11_code 4 = .ok (.iload_n 0, 1) := by decide +kernel
theorem dJ_pcki_5 : decode prog_27_method_11_code 5 = .ok (.iload_n 1, 1) := by decide +kernel
theorem dJ_pcki_6 : decode prog_27_method_11_code 6 = .ok (.if_icmp .lt 10, 3) := by decide +kernel
theorem dJ_pcki_16 : decode prog_27_method_11_code 16 = .ok (.iload_n 0, 1) := by decide +kernel
theorem dJ_pcki_17 : decode prog_27_method_11_code 17 = .ok (.ireturn, 1) := by decide +kernel
/-- the texts at the state's own heap -/
theorem mm_Tx_s {s : State} {H : Heap} {locs : List Loc} (hS : mm_St g s H) (hF : va_S (mm_A g) s.heap H locs) (hbs : mm_b g ≤ s.heap.size) : mm_Tx g s s.heap :=
  mm_Tx.kept (H := H) hS.2.2.2.2.1.2 (fun a _ h2 => (hF.2.1 a (Nat.lt_of_lt_of_le (Nat.not_le.mp h2) hbs) h2).symm)
theorem mm_callT {y : MethodName} {bytes : ByteArray} {maxL n0 index dc' ds' k : Nat} {rt : Option FieldType} {as stk : List Value} {Qc : Option Value → mm_S → Prop} (hk : k < 24) (hcl : y.cls = mm_stn) (hw : mm_W y bytes maxL rt n0) (hml : Cond.methodLink own index y ∈ mm_ws) (him : Cond.instanceMethod y ∈ mm_ws) (hse : Cond.selects mm_stn y y ∈ mm_ws) (hd : decode cc pc = .ok (.invokevirtual index, 3))
    (hM : mm_Cm g l y (.code y bytes maxL rt) d dc' ds' (.retAddr (k + 1) :: as) S Qc) (hn : as.length = n0) (hstk : stk = as.reverse ++ .retAddr (k + 1) :: st) (hsum : (st.map fun v => v.category).sum ≤ 8) (hu1 : uc + dc' ≤ dc) (hu2 : us + ds' ≤ ds)
    (kk : ∀ (v : Option Value) (S' : mm_S), Qc v S' → (S'.2.2 = false → S.2.2 = false ∧ S'.2.1 = S.2.1 + dc') ∧ mm_V g l own nm cc nL ret hh (d + 1) dc ds Q (pc + 3) ls (v.toList ++ st) S' (uc + dc') (us + ds')) : mm_V g l own nm cc nL ret hh (d + 1) dc ds Q pc ls stk S uc us := by
  intro p e R s m args below meth c QQ hc he H locs la hR hS hF hZ hl T hT X
  subst hT
  subst hstk
  obtain ⟨hx, hb, hml9, hr, hlk2, hown, htb, hws, hst, hfr, hlo, hcel, hsl, hnm9, hbs⟩ := id hc
  have hrv : ∃ cell : Cell, T.heap[mm_sA g k]? = some cell ∧ cell.vm.isStatics = false ∧ s.vm.findClass mm_stn = some cell.cls := by
    obtain ⟨cell, h1, h2, h3, -⟩ := (hS.2.2.2.2.1.2.1 k hk).1
    exact ⟨cell, h1, h2, h3⟩
  obtain ⟨v, st₀, t, T', L, h0, X', hL, e1, e2, hq, st1⟩ := va_runV (As := as.map (mm_cv g)) (rest := st.map (mm_cv g)) (b := mm_sA g k) (C := mm_stn) (g := F0 m pc la ((as.reverse ++ .retAddr (k + 1) :: st).map (mm_cv g))) (nL := nL) ⟨hx, hb, hml9, hown, hws⟩ hM
    ⟨mm_callB hc hw hml, hws _ him, hws _ hse⟩ ⟨mm_Pc_blind g _ S, hrv, mm_preP (as := .retAddr (k + 1) :: as) X hR hS hZ⟩ rfl (by rw [List.length_map]; exact hn) hl.1 (by show (as.reverse ++ .retAddr (k + 1) :: st).map (mm_cv g) = _; rw [List.map_append, List.map_reverse]; rfl) (lv_room (by rw [mm_sum]; exact hsum)) hd (by rw [hcel, hsl]; exact ⟨hu1, hu2⟩) T rfl X
  exact mm_back (Qc := mm_nt Qc) hc he hS hF hl h0 X' hL e1 hq st1 hZ (fun v S' h => kk v S' h)
theorem mm_getC {k index : Nat} (hk : k < 24) (hlk : Cond.fieldLink own index mm_stn "coder" "B" ∈ mm_ws) (hd : decode cc pc = .ok (.getfield index, 3)) (kk : mm_V g l own nm cc nL ret hh d dc ds Q (pc + 3) ls (.int 0 :: st) S uc us) : mm_V g l own nm cc nL ret hh d dc ds Q pc ls (.retAddr (k + 1) :: st) S uc us := by
  intro p e R s m args below meth c QQ hc he H locs la hR hS hF hZ hl
  obtain ⟨hx, hb, hml9, hr, hlk2, hown, htb, hws, hst, hfr, hlo, hcel, hsl, hnm9, hbs⟩ := id hc
  exact vk_getf hx hb ((mm_Tx_s hS hF hbs).1 k hk).2.1 hF hown (hws _ hlk) (fun x h => h) hd (kk p e R s m args below meth c QQ hc he H locs la hR hS hF hZ hl)
theorem mm_getW {k index : Nat} (hk : k < 24) (hlk : Cond.fieldLink own index mm_stn "value" "[B" ∈ mm_ws) (hd : decode cc pc = .ok (.getfield index, 3)) (kk : mm_V g l own nm cc nL ret hh d dc ds Q (pc + 3) ls (.retAddr (1000 + k + 1) :: st) S uc us) : mm_V g l own nm cc nL ret hh d dc ds Q pc ls (.retAddr (k + 1) :: st) S uc us := by
  intro p e R s m args below meth c QQ hc he H locs la hR hS hF hZ hl
  obtain ⟨hx, hb, hml9, hr, hlk2, hown, htb, hws, hst, hfr, hlo, hcel, hsl, hnm9, hbs⟩ := id hc
  exact vk_getf hx hb ((mm_Tx_s hS hF hbs).1 k hk).2.2.1 hF hown (hws _ hlk) (fun x h => h) hd (kk p e R s m args below meth c QQ hc he H locs la hR hS hF hZ hl)
theorem mm_tlenT {k : Nat} (hk : k < 24) (hd : decode cc pc = .ok (.arraylength, 1)) (kk : mm_V g l own nm cc nL ret hh d dc ds Q (pc + 1) ls (.int (nI (tlen k)) :: st) S uc us) : mm_V g l own nm cc nL ret hh d dc ds Q pc ls (.retAddr (1000 + k + 1) :: st) S uc us := by
  intro p e R s m args below meth c QQ hc he H locs la hR hS hF hZ hl
  obtain ⟨hx, hb, hml9, hr, hlk2, hown, htb, hws, hst, hfr, hlo, hcel, hsl, hnm9, hbs⟩ := id hc
  exact va_tlen hx hb ((mm_Tx_s hS hF hbs).1 k hk).2.2.2 hF rfl hd (kk p e R s m args below meth c QQ hc he H locs la hR hS hF hZ hl)
theorem mm_tbT {k j : Nat} {i : Int32} (hk : k < 24) (hj : i.toNatClampNeg = j) (hi : vp_in i (tlen k)) (hd : decode cc pc = .ok (.baload, 1)) (kk : mm_V g l own nm cc nL ret hh d dc ds Q (pc + 1) ls (.int (tchr k j) :: st) S uc us) : mm_V g l own nm cc nL ret hh d dc ds Q pc ls (.int i :: .retAddr (1000 + k + 1) :: st) S uc us := by
  intro p e R s m args below meth c QQ hc he H locs la hR hS hF hZ hl
  obtain ⟨hx, hb, hml9, hr, hlk2, hown, htb, hws, hst, hfr, hlo, hcel, hsl, hnm9, hbs⟩ := id hc
  exact va_tb hx hb ((mm_Tx_s hS hF hbs).1 k hk).2.2.2 hF hi (show Value.int (tchr k i.toNatClampNeg) = .int (tchr k j) by rw [hj]) hd (kk p e R s m args below meth c QQ hc he H locs la hR hS hF hZ hl)
theorem mm_gsC {index : Nat} (hlk : Cond.fieldLink own index mm_stn "COMPACT_STRINGS" "Z" ∈ mm_ws) (hd : decode cc pc = .ok (.getstatic index, 3)) (kk : mm_V g l own nm cc nL ret hh d dc ds Q (pc + 3) ls (.int 1 :: st) S uc us) : mm_V g l own nm cc nL ret hh d dc ds Q pc ls st S uc us := by
  intro p e R s m args below meth c QQ hc he H locs la hR hS hF hZ hl
  obtain ⟨hx, hb, hml9, hr, hlk2, hown, htb, hws, hst, hfr, hlo, hcel, hsl, hnm9, hbs⟩ := id hc
  exact va_gets hx hb (mm_Tx_s hS hF hbs).2.1 hF hown (hws _ hlk) (fun x h => h) hd (kk p e R s m args below meth c QQ hc he H locs la hR hS hF hZ hl)
theorem mm_gsF {index : Nat} (hlk : Cond.fieldLink own index mm_pcn "SIOOBE_FORMATTER" "Ljava/util/function/BiFunction;" ∈ mm_ws) (hd : decode cc pc = .ok (.getstatic index, 3)) (kk : ∀ v : Value, v = .null ∨ v = .retAddr 2001 → mm_V g l own nm cc nL ret hh d dc ds Q (pc + 3) ls (v :: st) S uc us) : mm_V g l own nm cc nL ret hh d dc ds Q pc ls st S uc us := by
  intro p e R s m args below meth c QQ hc he H locs la hR hS hF hZ hl
  obtain ⟨hx, hb, hml9, hr, hlk2, hown, htb, hws, hst, hfr, hlo, hcel, hsl, hnm9, hbs⟩ := id hc
  rcases (mm_Tx_s hS hF hbs).2.2 with z | z
  · exact va_gets hx hb z hF hown (hws _ hlk) (fun x h => h) hd (kk .null (Or.inl rfl) p e R s m args below meth c QQ hc he H locs la hR hS hF hZ hl)
  · exact va_gets hx hb z hF hown (hws _ hlk) (fun x h => h) hd (kk (.retAddr 2001) (Or.inr rfl) p e R s m args below meth c QQ hc he H locs la hR hS hF hZ hl)
theorem mm_i2c {x v : Int32} (hd : decode cc pc = .ok (.i2c, 1)) (hv : (x.toUInt32 % 65536).toInt32 = v) (kk : mm_V g l own nm cc nL ret hh d dc ds Q (pc + 1) ls (.int v :: st) S uc us) : mm_V g l own nm cc nL ret hh d dc ds Q pc ls (.int x :: st) S uc us := by
  intro p e R s m args below meth c QQ hc he H locs la hR hS hF hZ hl
  exact lv_i2c hc.1 hc.2.1 hd hv (kk p e R s m args below meth c QQ hc he H locs la hR hS hF hZ hl)
theorem e_J_coder (hst : l.stackTraces = false) {k : Nat} (hk : k < 24) : mm_Cm g l yJ_coder (.code yJ_coder prog_21_method_152_code 1 (some .byte)) d 0 0 [.retAddr (k + 1)] S (fun v S' => v = some (.int 0) ∧ S' = S) := by
  refine mm_Cm_of hst (by decide) (Nat.le_of_ble_eq_true rfl) ?_
  show mm_V g l mm_stn "coder" prog_21_method_152_code 1 (some .byte) [] d 0 0 _ 0 [some (.retAddr (k + 1))] [] S 0 0
  refine mm_gsC fJ_compact dJ_coder_0 ?_
  refine mm_if_eq 13 dJ_coder_3 (by decide) (fun h => absurd h (by decide)) (fun _ => ?_)
  refine mm_aload_n dJ_coder_6 rfl rfl ?_
  refine mm_getC hk fJ_coder dJ_coder_7 ?_
  refine mm_goto 14 dJ_coder_10 (by decide) ?_
  exact mm_iret dJ_coder_14 rfl rfl ⟨rfl, rfl⟩ (by omega) (by omega)
theorem e_J_length (hst : l.stackTraces = false) {k : Nat} (hk : k < 24) : mm_Cm g l yJ_length (.code yJ_length prog_21_method_54_code 1 (some .int)) (d + 1) 0 0 [.retAddr (k + 1)] S (fun v S' => v = some (.int (nI (tlen k))) ∧ S' = S) := by
  refine mm_Cm_of hst (by decide) (Nat.le_of_ble_eq_true rfl) ?_
  show mm_V g l mm_stn "length" prog_21_method_54_code 1 (some .int) [] (d + 1) 0 0 _ 0 [some (.retAddr (k + 1))] [] S 0 0
  refine mm_aload_n dJ_length_0 rfl rfl ?_
  refine mm_getW hk fJ_value dJ_length_1 ?_
  refine mm_tlenT hk dJ_length_4 ?_
  refine mm_aload_n dJ_length_5 rfl rfl ?_
  refine mm_callT (as := []) hk rfl wJ_coder lJ_coder iJ_coder eJ_coder dJ_length_6 (e_J_coder hst hk) rfl rfl (Nat.le_of_ble_eq_true rfl) (by omega) (by omega) (fun v S9 hq => ?_)
  obtain ⟨rfl, rfl⟩ := hq
  refine ⟨fun h => ⟨h, rfl⟩, ?_⟩
  refine mm_ishr dJ_length_9 ?_
  rw [show ((0 : Int32) &&& 31) = 0 by decide, show nI (tlen k) >>> (0 : Int32) = nI (tlen k) by simp]
  exact mm_iret dJ_length_10 rfl rfl ⟨rfl, rfl⟩ (by omega) (by omega)
theorem e_J_isLatin1 (hst : l.stackTraces = false) {k : Nat} (hk : k < 24) : mm_Cm g l yJ_isLatin1 (.code yJ_isLatin1 prog_21_method_154_code 1 (some .boolean)) d 0 0 [.retAddr (k + 1)] S (fun v S' => v = some (.int 1) ∧ S' = S) := by
  refine mm_Cm_of hst (by decide) (Nat.le_of_ble_eq_true rfl) ?_
  show mm_V g l mm_stn "isLatin1" prog_21_method_154_code 1 (some .boolean) [] d 0 0 _ 0 [some (.retAddr (k + 1))] [] S 0 0
  refine mm_gsC fJ_compact dJ_isLatin1_0 ?_
  refine mm_if_eq 17 dJ_isLatin1_3 (by decide) (fun h => absurd h (by decide)) (fun _ => ?_)
  refine mm_aload_n dJ_isLatin1_6 rfl rfl ?_
  refine mm_getC hk fJ_coder dJ_isLatin1_7 ?_
  refine mm_if_ne 17 dJ_isLatin1_10 (by decide) (fun h => absurd rfl h) (fun _ => ?_)
  refine mm_iconst (v := 1) dJ_isLatin1_13 (by decide) ?_
  refine mm_goto 18 dJ_isLatin1_14 (by decide) ?_
  exact mm_iret dJ_isLatin1_18 rfl rfl ⟨rfl, rfl⟩ (by omega) (by omega)
theorem e_J_pcki (hst : l.stackTraces = false) {i m9 : Int32} {v : Value} (hv : v = .null ∨ v = .retAddr 2001) (h0 : ¬ i < 0) (h1 : i < m9) : mm_Cm g l yJ_pcki (.code yJ_pcki prog_27_method_11_code 3 (some .int)) d 0 0 [.int i, .int m9, v] S (fun w S' => w = some (.int i) ∧ S' = S) := by
  have hcat : v.category = 1 := by rcases hv with z | z <;> subst z <;> rfl
  refine mm_Cm_of hst (by decide) (by rcases hv with z | z <;> subst z <;> exact Nat.le_of_ble_eq_true rfl) ?_
  rw [show mm_ent [.int i, .int m9, v] 3 = [some (.int i), some (.int m9), some v] by rcases hv with z | z <;> subst z <;> rfl]
  show mm_V g l mm_pcn "checkIndex" prog_27_method_11_code 3 (some .int) [] d 0 0 _ 0 [some (.int i), some (.int m9), some v] [] S 0 0
  refine mm_iload_n dJ_pcki_0 rfl ?_
  refine mm_if_lt 9 dJ_pcki_1 (by decide) (fun h => absurd h h0) (fun _ => ?_)
  refine mm_iload_n dJ_pcki_4 rfl ?_
  refine mm_iload_n dJ_pcki_5 rfl ?_
  refine mm_icmp_lt 16 dJ_pcki_6 (by decide) (fun _ => ?_) (fun h => absurd h1 h)
  refine mm_iload_n dJ_pcki_16 rfl ?_
  exact mm_iret dJ_pcki_17 rfl rfl ⟨rfl, rfl⟩ (by omega) (by omega)
theorem e_J_cki (hst : l.stackTraces = false) {i m9 : Int32} (h0 : ¬ i < 0) (h1 : i < m9) : mm_Cm g l yJ_cki (.code yJ_cki prog_21_method_155_code 2 none) (d + 1) 0 0 [.int i, .int m9] S (fun w S' => w = none ∧ S' = S) := by
  refine mm_Cm_of hst (by decide) (Nat.le_of_ble_eq_true rfl) ?_
  show mm_V g l mm_stn "checkIndex" prog_21_method_155_code 2 none [] (d + 1) 0 0 _ 0 [some (.int i), some (.int m9)] [] S 0 0
  refine mm_iload_n dJ_cki_0 rfl ?_
  refine mm_iload_n dJ_cki_1 rfl ?_
  refine mm_gsF fJ_sioobe dJ_cki_2 (fun v hv => ?_)
  refine mm_callS (as := [.int i, .int m9, v]) wJ_pcki lJ_pcki sJ_pcki dJ_cki_5 (e_J_pcki hst hv h0 h1) rfl rfl (Nat.le_of_ble_eq_true rfl) (by omega) (by omega) (fun v9 S9 hq => ?_)
  obtain ⟨rfl, rfl⟩ := hq
  refine ⟨fun h => ⟨h, rfl⟩, ?_⟩
  refine mm_pop dJ_cki_8 rfl ?_
  exact mm_vret dJ_cki_9 rfl ⟨rfl, rfl⟩ (by omega) (by omega)
theorem t128 : ∀ k, k < 24 → ∀ c ∈ tby.getD k [], c < 128 := by decide +kernel
theorem tchr_c (k j : Nat) (hk : k < 24) : ((tchr k j &&& 255).toUInt32 % 65536).toInt32 = tchr k j ∧ narrow .char (.int (tchr k j)) = .int (tchr k j) := by
  have key : ∀ c, c < 128 → ((nI c &&& 255).toUInt32 % 65536).toInt32 = nI c ∧ narrow .char (.int (nI c)) = .int (nI c) := by decide +kernel
  unfold tchr
  refine key _ ?_
  by_cases h : j < (tby.getD k []).length
  · rw [List.getD_eq_getElem?_getD, List.getElem?_eq_getElem h]
    exact t128 k hk _ (List.getElem_mem h)
  · rw [List.getD_eq_getElem?_getD, List.getElem?_eq_none (by omega)]
    decide
theorem tlen_s {k : Nat} {i : Int32} (hk : k < 24) (hi : vp_in i (tlen k)) : ¬ i < 0 ∧ i < nI (tlen k) := by
  have hlt : i.toNatClampNeg < tlen k := Nat.not_le.mp fun q => hi (Or.inr q)
  have h0 : ¬ i < 0 := fun q => hi (Or.inl q)
  have hb : ∀ k, k < 24 → tlen k < 100 := by decide +kernel
  have hb := hb k hk
  refine ⟨h0, ?_⟩
  rw [Int32.lt_iff_toInt_lt]
  have e1 : (nI (tlen k)).toInt = (tlen k : Int) := by
    show (nI (tlen k)).toBitVec.toInt = _
    rw [show (nI (tlen k)).toBitVec = BitVec.ofNat 32 (tlen k) from rfl, BitVec.toInt_ofNat', Int.bmod_eq_of_le (by omega) (by omega)]
  have e2 : i.toInt.toNat < tlen k := hlt
  rw [e1]
  omega
theorem e_J_sl1 (hst : l.stackTraces = false) {k j : Nat} {i : Int32} (hk : k < 24) (hj : i.toNatClampNeg = j) (hi : vp_in i (tlen k)) : mm_Cm g l yJ_sl1 (.code yJ_sl1 prog_22_method_2_code 2 (some .char)) (d + 2) 0 0 [.retAddr (1000 + k + 1), .int i] S (fun w S' => w = some (.int (tchr k j)) ∧ S' = S) := by
  refine mm_Cm_of hst (by decide) (Nat.le_of_ble_eq_true rfl) ?_
  show mm_V g l "java/lang/StringLatin1" "charAt" prog_22_method_2_code 2 (some .char) [] (d + 2) 0 0 _ 0 [some (.retAddr (1000 + k + 1)), some (.int i)] [] S 0 0
  obtain ⟨h0, h1⟩ := tlen_s hk hi
  refine mm_iload_n dJ_sl1_0 rfl ?_
  refine mm_aload_n dJ_sl1_1 rfl rfl ?_
  refine mm_tlenT hk dJ_sl1_2 ?_
  refine mm_callS (as := [.int i, .int (nI (tlen k))]) wJ_cki lJ_cki sJ_cki dJ_sl1_3 (e_J_cki hst h0 h1) rfl rfl (Nat.le_of_ble_eq_true rfl) (by omega) (by omega) (fun v9 S9 hq => ?_)
  obtain ⟨rfl, rfl⟩ := hq
  refine ⟨fun h => ⟨h, rfl⟩, ?_⟩
  refine mm_aload_n dJ_sl1_6 rfl rfl ?_
  refine mm_iload_n dJ_sl1_7 rfl ?_
  refine mm_tbT hk hj hi dJ_sl1_8 ?_
  refine mm_sipush (v := 255) dJ_sl1_9 (by decide) ?_
  refine mm_iand dJ_sl1_12 ?_
  refine mm_i2c dJ_sl1_13 (tchr_c k j hk).1 ?_
  exact mm_iret dJ_sl1_14 rfl (tchr_c k j hk).2 ⟨rfl, rfl⟩ (by omega) (by omega)
theorem e_J_charAt (hst : l.stackTraces = false) {k j : Nat} {i : Int32} (hk : k < 24) (hj : i.toNatClampNeg = j) (hi : vp_in i (tlen k)) : mm_Cm g l yJ_charAt (.code yJ_charAt prog_21_method_56_code 2 (some .char)) (d + 3) 0 0 [.retAddr (k + 1), .int i] S (fun w S' => w = some (.int (tchr k j)) ∧ S' = S) := by
  refine mm_Cm_of hst (by decide) (Nat.le_of_ble_eq_true rfl) ?_
  show mm_V g l mm_stn "charAt" prog_21_method_56_code 2 (some .char) [] (d + 3) 0 0 _ 0 [some (.retAddr (k + 1)), some (.int i)] [] S 0 0
  refine mm_aload_n dJ_charAt_0 rfl rfl ?_
  refine mm_callT (as := []) hk rfl wJ_isLatin1 lJ_isLatin1 iJ_isLatin1 eJ_isLatin1 dJ_charAt_1 (e_J_isLatin1 hst hk) rfl rfl (Nat.le_of_ble_eq_true rfl) (by omega) (by omega) (fun v S9 hq => ?_)
  obtain ⟨rfl, rfl⟩ := hq
  refine ⟨fun h => ⟨h, rfl⟩, ?_⟩
  refine mm_if_eq 16 dJ_charAt_4 (by decide) (fun h => absurd h (by decide)) (fun _ => ?_)
  refine mm_aload_n dJ_charAt_7 rfl rfl ?_
  refine mm_getW hk fJ_value dJ_charAt_8 ?_
  refine mm_iload_n dJ_charAt_11 rfl ?_
  refine mm_callS (as := [.retAddr (1000 + k + 1), .int i]) wJ_sl1 lJ_sl1 sJ_sl1 dJ_charAt_12 (e_J_sl1 hst hk hj hi) rfl rfl (Nat.le_of_ble_eq_true rfl) (by omega) (by omega) (fun v9 S9 hq => ?_)
  obtain ⟨rfl, rfl⟩ := hq
  refine ⟨fun h => ⟨h, rfl⟩, ?_⟩
  exact mm_iret dJ_charAt_15 rfl (tchr_c k j hk).2 ⟨rfl, rfl⟩ (by omega) (by omega)
theorem mm_hst {Y : Prop} (h : l.stackTraces = false → mm_V g l own nm cc nL ret hh d dc ds Q pc ls st S uc us) : mm_V g l own nm cc nL ret hh d dc ds Q pc ls st S uc us := by
  intro p e R s m args below meth c QQ hc
  exact h hc.2.2.2.2.2.2.2.2.1 p e R s m args below meth c QQ hc
theorem mm_strlen {k index : Nat} (hk : k < 24) (hw : Cond.methodLink own index jLen ∈ mm_ws) (hsum : (st.map fun v => v.category).sum ≤ 8) (h1 : uc ≤ dc) (h2 : us ≤ ds) (hd : decode cc pc = .ok (.invokevirtual index, 3)) (kk : mm_V g l own nm cc nL ret hh (d + 2) dc ds Q (pc + 3) ls (.int (nI (tlen k)) :: st) S uc us) : mm_V g l own nm cc nL ret hh (d + 2) dc ds Q pc ls (.retAddr (k + 1) :: st) S uc us := by
  refine mm_hst (Y := True) (fun hst => ?_)
  refine mm_callT (as := []) (dc' := 0) (ds' := 0) hk rfl wJ_length hw iJ_length eJ_length hd (e_J_length hst hk) rfl rfl hsum (by omega) (by omega) (fun v S9 hq => ?_)
  obtain ⟨rfl, rfl⟩ := hq
  exact ⟨fun h => ⟨h, rfl⟩, kk⟩
theorem mm_strchr {k index j : Nat} {i : Int32} (hk : k < 24) (hw : Cond.methodLink own index jChr ∈ mm_ws) (hsum : (st.map fun v => v.category).sum ≤ 8) (h1 : uc ≤ dc) (h2 : us ≤ ds) (hj : i.toNatClampNeg = j) (hi : vp_in i (tlen k)) (hd : decode cc pc = .ok (.invokevirtual index, 3)) (kk : mm_V g l own nm cc nL ret hh (d + 4) dc ds Q (pc + 3) ls (.int (tchr k j) :: st) S uc us) : mm_V g l own nm cc nL ret hh (d + 4) dc ds Q pc ls (.int i :: .retAddr (k + 1) :: st) S uc us := by
  refine mm_hst (Y := True) (fun hst => ?_)
  refine mm_callT (as := [.int i]) (dc' := 0) (ds' := 0) hk rfl wJ_charAt hw iJ_charAt eJ_charAt hd (e_J_charAt hst hk hj hi) rfl rfl hsum (by omega) (by omega) (fun v S9 hq => ?_)
  obtain ⟨rfl, rfl⟩ := hq
  exact ⟨fun h => ⟨h, rfl⟩, kk⟩
theorem mm_acopy {a index n9 : Nat} {sp dp m9 : Int32} {f : Nat → Int32} (hw : mm_ac own index) (hm : S.1 a = .inl (2, n9, .inl f)) (ha : a < S.2.1) (h1 : ¬ sp < 0) (h2 : ¬ dp < 0) (h3 : ¬ m9 < 0) (h4 : sp.toNatClampNeg + m9.toNatClampNeg ≤ n9) (h5 : dp.toNatClampNeg + m9.toNatClampNeg ≤ n9) (hfit : ∀ i, i < m9.toNatClampNeg → fits .byte (.int (f (sp.toNatClampNeg + i))) = true) (hsum : (st.map fun v => v.category).sum ≤ 8) (hd : decode cc pc = .ok (.invokestatic index, 3)) (kk : mm_V g l own nm cc nL ret hh d dc ds Q (pc + 3) ls st (mm_up S.1 a (.inl (2, n9, .inl (va_cpy f f sp.toNatClampNeg dp.toNatClampNeg m9.toNatClampNeg))), S.2) uc us) : mm_V g l own nm cc nL ret hh d dc ds Q pc ls (.int m9 :: .int dp :: .ref a :: .int sp :: .ref a :: st) S uc us := by
  intro p e R s m args below meth c QQ hc he H locs la hR hS hF hZ hl
  obtain ⟨hx, hb, hml9, hr, hlk2, hown, htb, hws, hst, hfr, hlo, hcel, hsl, hnm9, hbs⟩ := id hc
  have hnw : nativeFrameWords "java/lang/System" "arraycopy" 5 ≤ 60 := by decide +kernel
  refine va_copyi hx hb (by rw [hml9]; exact hl.1.symm) hown (hws _ hw.1) (hws _ hw.2.1) (hws _ hw.2.2.1) (hws _ hw.2.2.2) hS.1 hR.1 (mm_wl_D g S.1 S.2.1) hF a a 2 2 (by rw [mm_wl_at ha, hm]; rfl) (by rw [mm_wl_at ha, hm]; rfl) rfl rfl rfl h1 h2 h3 h4 h5 hfit (by omega) (by rw [mm_sum]; omega) hd (fun H1 locs1 hP1 hD1 hF1 => ?_)
  have hP1 := mm_setP (.inl (2, n9, .inl (va_cpy f f sp.toNatClampNeg dp.toNatClampNeg m9.toNatClampNeg))) hP1 ha rfl
  have hz : mm_b g ≤ H1.size := Nat.le_trans hbs hF1.1
  exact kk p e R s m args below meth c QQ hc he H1 locs1 la ⟨hP1, hz⟩ (mm_kept_of hbs hS hF hF1 hz) hF1 hZ hl
theorem fits_b {x : Int32} (h : x.toInt8.toInt32 = x) : fits .byte (.int x) = true := by
  have h1 := Int8.le_toInt x.toInt8
  have h2 := Int8.toInt_lt x.toInt8
  have h3 : x.toInt = x.toInt8.toInt := by
    rw [← Int8.toInt_toInt32, h]
  show (decide (-128 ≤ x) && decide (x ≤ 127)) = true
  rw [Bool.and_eq_true, decide_eq_true_iff, decide_eq_true_iff, Int32.le_iff_toInt_le, Int32.le_iff_toInt_le]
  have e1 : (-128 : Int32).toInt = -128 := by decide
  have e2 : (127 : Int32).toInt = 127 := by decide
  omega
theorem s_acopy {a index : Nat} {sp dp m9 : Int32} {f : SG → Option β} (hw : mm_ac own index) (hs : sh a = 102) (hsum : (st.map fun v => v.category).sum ≤ 8) (hn : 1186 ≤ n) (h1 : uc ≤ dc) (h2 : us ≤ ds) (hd : decode cc pc = .ok (.invokestatic index, 3)) (hx : acopy σ a sp dp m9 f = some R) (kk : ∀ σ1 : SG, f σ1 = some R → mm_V g l own nm cc nL ret hh d dc ds Q (pc + 3) ls st (mem Z σ1, n, z) uc us) : mm_V g l own nm cc nL ret hh d dc ds Q pc ls (.int m9 :: .int dp :: .ref a :: .int sp :: .ref a :: st) (mem Z σ, n, z) uc us := by
  unfold acopy at hx
  by_cases q : ¬ sp < 0 ∧ ¬ dp < 0 ∧ ¬ m9 < 0 ∧ sp.toNatClampNeg + m9.toNatClampNeg ≤ ln a ∧ dp.toNatClampNeg + m9.toNatClampNeg ≤ ln a ∧ (∀ i, i < m9.toNatClampNeg → (sI σ a (sp.toNatClampNeg + i)).toInt8.toInt32 = sI σ a (sp.toNatClampNeg + i))
  · rw [if_pos q] at hx
    obtain ⟨q1, q2, q3, q4, q5, q6⟩ := q
    refine mm_acopy (S := (mem Z σ, n, z)) (f := sI σ a) hw ((mem_arr (t := 2) hs).trans (by rw [ctn_I (Or.inr (Or.inl rfl))])) (sh_ltn hs (by omega) hn) q1 q2 q3 q4 q5 (fun i hi => fits_b (q6 i hi)) hsum hd ?_
    have e : mm_up (mem Z σ) a (.inl (2, ln a, .inl (va_cpy (sI σ a) (sI σ a) sp.toNatClampNeg dp.toNatClampNeg m9.toNatClampNeg))) = mem Z (cpy9 σ a sp.toNatClampNeg dp.toNatClampNeg m9.toNatClampNeg) := by
      refine mem_up ?_ (fun b hb => mem_oth (fun j => ?_) (fun j => rfl) (fun j => rfl))
      · rw [mem_arr (t := 2) hs, ctn_I (Or.inr (Or.inl rfl))]
        congr 3
        refine congrArg Sum.inl (funext fun j => ?_)
        show (if a = a ∧ dp.toNatClampNeg ≤ j ∧ j < dp.toNatClampNeg + m9.toNatClampNeg then sI σ a (sp.toNatClampNeg + (j - dp.toNatClampNeg)) else sI σ a j) = va_cpy (sI σ a) (sI σ a) sp.toNatClampNeg dp.toNatClampNeg m9.toNatClampNeg j
        unfold va_cpy
        by_cases z : dp.toNatClampNeg ≤ j ∧ j < dp.toNatClampNeg + m9.toNatClampNeg
        · rw [if_pos ⟨rfl, z⟩, if_pos z]
        · rw [if_neg (fun y => z y.2), if_neg z]
      · show (if b = a ∧ dp.toNatClampNeg ≤ j ∧ j < dp.toNatClampNeg + m9.toNatClampNeg then _ else sI σ b j) = sI σ b j
        rw [if_neg (fun y => hb y.1)]
    show mm_V g l own nm cc nL ret hh d dc ds Q (pc + 3) ls st (mm_up (mem Z σ) a _, n, z) uc us
    rw [e]
    exact kk _ hx
  · rw [if_neg q] at hx
    cases hx
end MJDK
