/-! ===== the law's loop ===== -/
theorem nz_1 {E : String} (h : E ∈ [IAE]) : ¬ fdC (.inr E) = 0 := by
  rcases List.mem_singleton.mp h with rfl
  decide
theorem nz_2 {E : String} (h : E ∈ [IAE, ISE]) : ¬ fdC (.inr E) = 0 := by
  unfold fdC
  simp only
  split <;> decide
theorem nz_t {E : String} (h : E ∈ [ISE]) : ¬ thS (.inr E) = 0 := by unfold thS; simp
theorem nz_o {E : String} (h : E ∈ [ISE]) : ¬ otC (.inr E) = 0 := by unfold otC; simp
theorem nz_p {E : String} (h : E ∈ [ISE, UOE]) : ¬ prC (.inr E) = 0 := by
  unfold prC
  simp only
  split <;> decide
set_option maxHeartbeats 4000000 in
set_option maxRecDepth 100000 in
theorem l_feed {g : mm_G} {l : Launch} (hst : l.stackTraces = false) {Z : Nat → Nat → Option Nat} (hZ : HZ Z) {dc ds uc us : Nat} {i x1 x2 x3 : Int32} {v5 v6 v7 : Option Value} {σ : SG} {A : LST} (hI : INV A σ) (h1 : uc + 1 ≤ dc) (h2 : us + 6 ≤ ds) (hin1 : vp_in (i + 1) (mm_X g).2.1) (hx1 : (mm_X g).2.2 (i + 1 : Int32).toNatClampNeg = x1) (hin2 : vp_in (i + 2) (mm_X g).2.1) (hx2 : (mm_X g).2.2 (i + 2 : Int32).toNatClampNeg = x2) (hin3 : vp_in (i + 3) (mm_X g).2.1) (hx3 : (mm_X g).2.2 (i + 3 : Int32).toNatClampNeg = x3) (K : ∀ (v5 v6 v7 : Option Value) (σ9 : SG) (uc9 us9 : Nat), (∃ A, INV A σ9) → uc9 ≤ uc + 1 → us9 ≤ us + 6 → mm_V g l RL "law" cL_law 8 (some .boolean) [] 100 dc ds (fun r _ => r = .inl (some (.int 1))) 597 [some (.retAddr 0), some (.ref 0), some (.ref 1101), some (.ref 1185), some (.int (i)), v5, v6, v7] [] (mem Z σ9, 1186, true) uc9 us9) : mm_V g l RL "law" cL_law 8 (some .boolean) [] 100 dc ds (fun r _ => r = .inl (some (.int 1))) 104 [some (.retAddr 0), some (.ref 0), some (.ref 1101), some (.ref 1185), some (.int (i)), v5, v6, v7] [] (mem Z σ, 1186, true) uc us := by
  refine mm_aload_n dL_law_104 rfl rfl ?_
  refine mm_aload_n dL_law_105 rfl rfl ?_
  refine mm_iload dL_law_106 rfl ?_
  refine mm_iconst (v := 1) dL_law_108 (by decide) ?_
  refine mm_iadd dL_law_109 ?_
  refine mm_sald (hin1) dL_law_110 ?_
  rw [hx1]
  refine mm_i2l dL_law_111 ?_
  refine mm_bipush (v := 32) dL_law_112 (by decide) ?_
  refine mm_lshl dL_law_114 ?_
  refine mm_aload_n dL_law_115 rfl rfl ?_
  refine mm_iload dL_law_116 rfl ?_
  refine mm_iconst (v := 2) dL_law_118 (by decide) ?_
  refine mm_iadd dL_law_119 ?_
  refine mm_sald (hin2) dL_law_120 ?_
  rw [hx2]
  refine mm_i2l dL_law_121 ?_
  refine mm_ldc2 kL_L_64 dL_law_122 ?_
  refine mm_land dL_law_125 ?_
  refine mm_lor dL_law_126 ?_
  refine mm_aload_n dL_law_127 rfl rfl ?_
  refine mm_iload dL_law_128 rfl ?_
  refine mm_iconst (v := 3) dL_law_130 (by decide) ?_
  refine mm_iadd dL_law_131 ?_
  refine mm_sald (hin3) dL_law_132 ?_
  rw [hx3]
  refine mm_aload_n dL_law_133 rfl rfl ?_
  obtain ⟨r, τ, hok, hx, hfc, hA⟩ := st_feed (U := 300000) (b := ((x1.toInt64 <<< ((32 : Int32).toInt64 &&& 63)) ||| (x2.toInt64 &&& 4294967295))) (n := x3) (by decide) hI
  obtain ⟨v, υ, hq, hfr, h5, hcmp, hI2⟩ := hA (oF r τ) (oF_sm r τ)
  refine mm_callC (n := 4) wC_L_feed wi_L ⟨by decide, by decide⟩ (by decide +kernel) (by decide) kM_L_66 wT_L_feed dL_law_134 (w_feed hst hZ hx hok) rfl rfl (Nat.le_of_ble_eq_true rfl) (by omega) (by omega) (fun v9 S9 hq9 => ?_)
  obtain ⟨rfl, rfl⟩ := hq9
  refine ⟨fun h => (by cases h), ?_⟩
  refine mm_istore [some (.retAddr 0), some (.ref 0), some (.ref 1101), some (.ref 1185), some (.int (i)), some (.int (fdC r)), v6, v7] dL_law_137 (by decide) rfl ?_
  refine mm_aload_n dL_law_139 rfl rfl ?_
  refine mm_aload_n dL_law_140 rfl rfl ?_
  refine mm_iload dL_law_141 rfl ?_
  refine mm_iconst (v := 1) dL_law_143 (by decide) ?_
  refine mm_iadd dL_law_144 ?_
  refine mm_sald (hin1) dL_law_145 ?_
  rw [hx1]
  refine mm_i2l dL_law_146 ?_
  refine mm_bipush (v := 32) dL_law_147 (by decide) ?_
  refine mm_lshl dL_law_149 ?_
  refine mm_aload_n dL_law_150 rfl rfl ?_
  refine mm_iload dL_law_151 rfl ?_
  refine mm_iconst (v := 2) dL_law_153 (by decide) ?_
  refine mm_iadd dL_law_154 ?_
  refine mm_sald (hin2) dL_law_155 ?_
  rw [hx2]
  refine mm_i2l dL_law_156 ?_
  refine mm_ldc2 kL_L_64 dL_law_157 ?_
  refine mm_land dL_law_160 ?_
  refine mm_lor dL_law_161 ?_
  refine mm_aload_n dL_law_162 rfl rfl ?_
  refine mm_iload dL_law_163 rfl ?_
  refine mm_iconst (v := 3) dL_law_165 (by decide) ?_
  refine mm_iadd dL_law_166 ?_
  refine mm_sald (hin3) dL_law_167 ?_
  rw [hx3]
  refine mm_callV3 (ci := 12) wM_X12_feed kM_L_71 wI_X12_feed wS_X12_feed dL_law_168 (e_X12_feed (z := true) hst hZ (Nat.le_refl 1186) sh_1101 hq) (mem_obj sh_1101 (by decide)) (by decide) rfl rfl rfl (Nat.le_of_ble_eq_true rfl) (by omega) (by omega) (fun v9 S9 hq9 => ?_)
  obtain ⟨rfl, rfl⟩ := hq9
  refine ⟨fun h => (by cases h), ?_⟩
  refine mm_istore [some (.retAddr 0), some (.ref 0), some (.ref 1101), some (.ref 1185), some (.int (i)), some (.int (fdC r)), some (.int v), v7] dL_law_171 (by decide) rfl ?_
  refine mm_goto 597 dL_law_173 (by decide) ?_
  exact K _ _ _ _ _ _ hI2 (by omega) (by omega)
set_option maxHeartbeats 4000000 in
set_option maxRecDepth 100000 in
theorem l_compile {g : mm_G} {l : Launch} (hst : l.stackTraces = false) {Z : Nat → Nat → Option Nat} (hZ : HZ Z) {dc ds uc us : Nat} {i x1 : Int32} {v5 v6 v7 : Option Value} {σ : SG} {A : LST} (hI : INV A σ) (h1 : uc + 1 ≤ dc) (h2 : us + 6 ≤ ds) (hin1 : vp_in (i + 1) (mm_X g).2.1) (hx1 : (mm_X g).2.2 (i + 1 : Int32).toNatClampNeg = x1) (K : ∀ (v5 v6 v7 : Option Value) (σ9 : SG) (uc9 us9 : Nat), (∃ A, INV A σ9) → uc9 ≤ uc + 1 → us9 ≤ us + 6 → mm_V g l RL "law" cL_law 8 (some .boolean) [] 100 dc ds (fun r _ => r = .inl (some (.int 1))) 597 [some (.retAddr 0), some (.ref 0), some (.ref 1101), some (.ref 1185), some (.int (i)), v5, v6, v7] [] (mem Z σ9, 1186, true) uc9 us9) : mm_V g l RL "law" cL_law 8 (some .boolean) [] 100 dc ds (fun r _ => r = .inl (some (.int 1))) 176 [some (.retAddr 0), some (.ref 0), some (.ref 1101), some (.ref 1185), some (.int (i)), v5, v6, v7] [] (mem Z σ, 1186, true) uc us := by
  refine mm_aload_n dL_law_176 rfl rfl ?_
  refine mm_aload_n dL_law_177 rfl rfl ?_
  refine mm_iload dL_law_178 rfl ?_
  refine mm_iconst (v := 1) dL_law_180 (by decide) ?_
  refine mm_iadd dL_law_181 ?_
  refine mm_sald (hin1) dL_law_182 ?_
  rw [hx1]
  refine mm_aload_n dL_law_183 rfl rfl ?_
  obtain ⟨r, τ, hok, hx, hfc, hA⟩ := st_compile (U := 300000) (p := x1) (by decide) hI
  obtain ⟨v, υ, hq, hfr, h5, hcmp, hI2⟩ := hA (oF r τ) (oF_sm r τ)
  refine mm_callC (n := 3) wC_L_compile wi_L ⟨by decide, by decide⟩ (by decide +kernel) (by decide) kM_L_72 wT_L_compile dL_law_184 (w_compile hst hZ hx hok) rfl rfl (Nat.le_of_ble_eq_true rfl) (by omega) (by omega) (fun v9 S9 hq9 => ?_)
  obtain ⟨rfl, rfl⟩ := hq9
  refine ⟨fun h => (by cases h), ?_⟩
  refine mm_istore [some (.retAddr 0), some (.ref 0), some (.ref 1101), some (.ref 1185), some (.int (i)), some (.int (fdC r)), v6, v7] dL_law_187 (by decide) rfl ?_
  refine mm_aload_n dL_law_189 rfl rfl ?_
  refine mm_aload_n dL_law_190 rfl rfl ?_
  refine mm_iload dL_law_191 rfl ?_
  refine mm_iconst (v := 1) dL_law_193 (by decide) ?_
  refine mm_iadd dL_law_194 ?_
  refine mm_sald (hin1) dL_law_195 ?_
  rw [hx1]
  refine mm_callV3 (ci := 12) wM_X12_compile kM_L_75 wI_X12_compile wS_X12_compile dL_law_196 (e_X12_compile (z := true) hst hZ (Nat.le_refl 1186) sh_1101 hq) (mem_obj sh_1101 (by decide)) (by decide) rfl rfl rfl (Nat.le_of_ble_eq_true rfl) (by omega) (by omega) (fun v9 S9 hq9 => ?_)
  obtain ⟨rfl, rfl⟩ := hq9
  refine ⟨fun h => (by cases h), ?_⟩
  refine mm_istore [some (.retAddr 0), some (.ref 0), some (.ref 1101), some (.ref 1185), some (.int (i)), some (.int (fdC r)), some (.int v), v7] dL_law_199 (by decide) rfl ?_
  refine mm_goto 597 dL_law_201 (by decide) ?_
  exact K _ _ _ _ _ _ hI2 (by omega) (by omega)
set_option maxHeartbeats 4000000 in
set_option maxRecDepth 100000 in
theorem l_place {g : mm_G} {l : Launch} (hst : l.stackTraces = false) {Z : Nat → Nat → Option Nat} (hZ : HZ Z) {dc ds uc us : Nat} {i : Int32} {v5 v6 v7 : Option Value} {σ : SG} {A : LST} (hI : INV A σ) (h1 : uc + 1 ≤ dc) (h2 : us + 6 ≤ ds) (K : ∀ (v5 v6 v7 : Option Value) (σ9 : SG) (uc9 us9 : Nat), (∃ A, INV A σ9) → uc9 ≤ uc + 1 → us9 ≤ us + 6 → mm_V g l RL "law" cL_law 8 (some .boolean) [] 100 dc ds (fun r _ => r = .inl (some (.int 1))) 597 [some (.retAddr 0), some (.ref 0), some (.ref 1101), some (.ref 1185), some (.int (i)), v5, v6, v7] [] (mem Z σ9, 1186, true) uc9 us9) : mm_V g l RL "law" cL_law 8 (some .boolean) [] 100 dc ds (fun r _ => r = .inl (some (.int 1))) 204 [some (.retAddr 0), some (.ref 0), some (.ref 1101), some (.ref 1185), some (.int (i)), v5, v6, v7] [] (mem Z σ, 1186, true) uc us := by
  refine mm_aload_n dL_law_204 rfl rfl ?_
  refine mm_callV3 (ci := 11) wM_X11_place kM_L_76 wI_X11_place wS_X11_place dL_law_205 (e_X11_place (σ := σ) (n := 1186) (z := true) hst hZ (Nat.le_refl _) sh_0 rfl) (mem_obj sh_0 (by decide)) (by decide) rfl rfl rfl (Nat.le_of_ble_eq_true rfl) (by omega) (by omega) (fun v9 S9 hq9 => ?_)
  obtain ⟨rfl, rfl⟩ := hq9
  refine ⟨fun h => (by cases h), ?_⟩
  refine mm_pop dL_law_208 rfl ?_
  refine mm_aload_n dL_law_209 rfl rfl ?_
  obtain ⟨v, υ, hq, hfr, h5, hcmp, hI2⟩ := st_place (r := .inl none) hI σ (fun b _ => sm_refl σ b)
  refine mm_callV3 (ci := 12) wM_X12_place kM_L_79 wI_X12_place wS_X12_place dL_law_210 (e_X12_place (z := true) hst hZ (Nat.le_refl 1186) sh_1101 hq) (mem_obj sh_1101 (by decide)) (by decide) rfl rfl rfl (Nat.le_of_ble_eq_true rfl) (by omega) (by omega) (fun v9 S9 hq9 => ?_)
  obtain ⟨rfl, rfl⟩ := hq9
  refine ⟨fun h => (by cases h), ?_⟩
  refine mm_pop dL_law_213 rfl ?_
  refine mm_goto 597 dL_law_214 (by decide) ?_
  exact K _ _ _ _ _ _ hI2 (by omega) (by omega)
set_option maxHeartbeats 4000000 in
set_option maxRecDepth 100000 in
theorem l_many {g : mm_G} {l : Launch} (hst : l.stackTraces = false) {Z : Nat → Nat → Option Nat} (hZ : HZ Z) {dc ds uc us : Nat} {i x1 x2 : Int32} {v5 v6 v7 : Option Value} {σ : SG} {A : LST} (hI : INV A σ) (h1 : uc + 1 ≤ dc) (h2 : us + 6 ≤ ds) (hin1 : vp_in (i + 1) (mm_X g).2.1) (hx1 : (mm_X g).2.2 (i + 1 : Int32).toNatClampNeg = x1) (hin2 : vp_in (i + 2) (mm_X g).2.1) (hx2 : (mm_X g).2.2 (i + 2 : Int32).toNatClampNeg = x2) (K : ∀ (v5 v6 v7 : Option Value) (σ9 : SG) (uc9 us9 : Nat), (∃ A, INV A σ9) → uc9 ≤ uc + 1 → us9 ≤ us + 6 → mm_V g l RL "law" cL_law 8 (some .boolean) [] 100 dc ds (fun r _ => r = .inl (some (.int 1))) 597 [some (.retAddr 0), some (.ref 0), some (.ref 1101), some (.ref 1185), some (.int (i)), v5, v6, v7] [] (mem Z σ9, 1186, true) uc9 us9) : mm_V g l RL "law" cL_law 8 (some .boolean) [] 100 dc ds (fun r _ => r = .inl (some (.int 1))) 217 [some (.retAddr 0), some (.ref 0), some (.ref 1101), some (.ref 1185), some (.int (i)), v5, v6, v7] [] (mem Z σ, 1186, true) uc us := by
  refine mm_aload_n dL_law_217 rfl rfl ?_
  refine mm_aload_n dL_law_218 rfl rfl ?_
  refine mm_iload dL_law_219 rfl ?_
  refine mm_iconst (v := 1) dL_law_221 (by decide) ?_
  refine mm_iadd dL_law_222 ?_
  refine mm_sald (hin1) dL_law_223 ?_
  rw [hx1]
  refine mm_aload_n dL_law_224 rfl rfl ?_
  refine mm_iload dL_law_225 rfl ?_
  refine mm_iconst (v := 2) dL_law_227 (by decide) ?_
  refine mm_iadd dL_law_228 ?_
  refine mm_sald (hin2) dL_law_229 ?_
  rw [hx2]
  refine mm_aload_n dL_law_230 rfl rfl ?_
  obtain ⟨r, τ, hok, hx, hfc, hA⟩ := st_many (p := x1) (w := x2) hI
  obtain ⟨v, υ, hq, hfr, h5, hcmp, hI2⟩ := hA (oF r τ) (oF_sm r τ)
  refine mm_callC (n := 4) wC_L_many wi_L ⟨by decide, by decide⟩ (by decide +kernel) (by decide) kM_L_80 wT_L_many dL_law_231 (w_many hst hZ hx hok) rfl rfl (Nat.le_of_ble_eq_true rfl) (by omega) (by omega) (fun v9 S9 hq9 => ?_)
  obtain ⟨rfl, rfl⟩ := hq9
  refine ⟨fun h => (by cases h), ?_⟩
  refine mm_istore [some (.retAddr 0), some (.ref 0), some (.ref 1101), some (.ref 1185), some (.int (i)), some (.int (fdC r)), v6, v7] dL_law_234 (by decide) rfl ?_
  refine mm_aload_n dL_law_236 rfl rfl ?_
  refine mm_aload_n dL_law_237 rfl rfl ?_
  refine mm_iload dL_law_238 rfl ?_
  refine mm_iconst (v := 1) dL_law_240 (by decide) ?_
  refine mm_iadd dL_law_241 ?_
  refine mm_sald (hin1) dL_law_242 ?_
  rw [hx1]
  refine mm_aload_n dL_law_243 rfl rfl ?_
  refine mm_iload dL_law_244 rfl ?_
  refine mm_iconst (v := 2) dL_law_246 (by decide) ?_
  refine mm_iadd dL_law_247 ?_
  refine mm_sald (hin2) dL_law_248 ?_
  rw [hx2]
  refine mm_callV3 (ci := 12) wM_X12_many kM_L_83 wI_X12_many wS_X12_many dL_law_249 (e_X12_many (z := true) hst hZ (Nat.le_refl 1186) sh_1101 hq) (mem_obj sh_1101 (by decide)) (by decide) rfl rfl rfl (Nat.le_of_ble_eq_true rfl) (by omega) (by omega) (fun v9 S9 hq9 => ?_)
  obtain ⟨rfl, rfl⟩ := hq9
  refine ⟨fun h => (by cases h), ?_⟩
  refine mm_istore [some (.retAddr 0), some (.ref 0), some (.ref 1101), some (.ref 1185), some (.int (i)), some (.int (fdC r)), some (.int v), v7] dL_law_252 (by decide) rfl ?_
  refine mm_goto 597 dL_law_254 (by decide) ?_
  exact K _ _ _ _ _ _ hI2 (by omega) (by omega)
set_option maxHeartbeats 4000000 in
set_option maxRecDepth 100000 in
theorem l_field {g : mm_G} {l : Launch} (hst : l.stackTraces = false) {Z : Nat → Nat → Option Nat} (hZ : HZ Z) {dc ds uc us : Nat} {i x1 x2 x3 x4 : Int32} {v5 v6 v7 : Option Value} {σ : SG} {A : LST} (hI : INV A σ) (h1 : uc + 1 ≤ dc) (h2 : us + 6 ≤ ds) (hin1 : vp_in (i + 1) (mm_X g).2.1) (hx1 : (mm_X g).2.2 (i + 1 : Int32).toNatClampNeg = x1) (hin2 : vp_in (i + 2) (mm_X g).2.1) (hx2 : (mm_X g).2.2 (i + 2 : Int32).toNatClampNeg = x2) (hin3 : vp_in (i + 3) (mm_X g).2.1) (hx3 : (mm_X g).2.2 (i + 3 : Int32).toNatClampNeg = x3) (hin4 : vp_in (i + 4) (mm_X g).2.1) (hx4 : (mm_X g).2.2 (i + 4 : Int32).toNatClampNeg = x4) (K : ∀ (v5 v6 v7 : Option Value) (σ9 : SG) (uc9 us9 : Nat), (∃ A, INV A σ9) → uc9 ≤ uc + 1 → us9 ≤ us + 6 → mm_V g l RL "law" cL_law 8 (some .boolean) [] 100 dc ds (fun r _ => r = .inl (some (.int 1))) 597 [some (.retAddr 0), some (.ref 0), some (.ref 1101), some (.ref 1185), some (.int (i)), v5, v6, v7] [] (mem Z σ9, 1186, true) uc9 us9) : mm_V g l RL "law" cL_law 8 (some .boolean) [] 100 dc ds (fun r _ => r = .inl (some (.int 1))) 257 [some (.retAddr 0), some (.ref 0), some (.ref 1101), some (.ref 1185), some (.int (i)), v5, v6, v7] [] (mem Z σ, 1186, true) uc us := by
  refine mm_aload_n dL_law_257 rfl rfl ?_
  refine mm_aload_n dL_law_258 rfl rfl ?_
  refine mm_iload dL_law_259 rfl ?_
  refine mm_iconst (v := 1) dL_law_261 (by decide) ?_
  refine mm_iadd dL_law_262 ?_
  refine mm_sald (hin1) dL_law_263 ?_
  rw [hx1]
  refine mm_aload_n dL_law_264 rfl rfl ?_
  refine mm_iload dL_law_265 rfl ?_
  refine mm_iconst (v := 2) dL_law_267 (by decide) ?_
  refine mm_iadd dL_law_268 ?_
  refine mm_sald (hin2) dL_law_269 ?_
  rw [hx2]
  refine mm_aload_n dL_law_270 rfl rfl ?_
  refine mm_iload dL_law_271 rfl ?_
  refine mm_iconst (v := 3) dL_law_273 (by decide) ?_
  refine mm_iadd dL_law_274 ?_
  refine mm_sald (hin3) dL_law_275 ?_
  rw [hx3]
  refine mm_aload_n dL_law_276 rfl rfl ?_
  refine mm_iload dL_law_277 rfl ?_
  refine mm_iconst (v := 4) dL_law_279 (by decide) ?_
  refine mm_iadd dL_law_280 ?_
  refine mm_sald (hin4) dL_law_281 ?_
  rw [hx4]
  refine mm_aload_n dL_law_282 rfl rfl ?_
  obtain ⟨r, τ, hok, hx, hfc, hA⟩ := st_field (U := 300000) (p := x1) (x := x2) (y := x3) (w := x4) (by decide) hI
  obtain ⟨v, υ, hq, hfr, h5, hcmp, hI2⟩ := hA (oF r τ) (oF_sm r τ)
  refine mm_callC (n := 6) wC_L_field wi_L ⟨by decide, by decide⟩ (by decide +kernel) (by decide) kM_L_84 wT_L_field dL_law_283 (w_field hst hZ hx hok) rfl rfl (Nat.le_of_ble_eq_true rfl) (by omega) (by omega) (fun v9 S9 hq9 => ?_)
  obtain ⟨rfl, rfl⟩ := hq9
  refine ⟨fun h => (by cases h), ?_⟩
  refine mm_istore [some (.retAddr 0), some (.ref 0), some (.ref 1101), some (.ref 1185), some (.int (i)), some (.int (fdC r)), v6, v7] dL_law_286 (by decide) rfl ?_
  refine mm_aload_n dL_law_288 rfl rfl ?_
  refine mm_aload_n dL_law_289 rfl rfl ?_
  refine mm_iload dL_law_290 rfl ?_
  refine mm_iconst (v := 1) dL_law_292 (by decide) ?_
  refine mm_iadd dL_law_293 ?_
  refine mm_sald (hin1) dL_law_294 ?_
  rw [hx1]
  refine mm_aload_n dL_law_295 rfl rfl ?_
  refine mm_iload dL_law_296 rfl ?_
  refine mm_iconst (v := 2) dL_law_298 (by decide) ?_
  refine mm_iadd dL_law_299 ?_
  refine mm_sald (hin2) dL_law_300 ?_
  rw [hx2]
  refine mm_aload_n dL_law_301 rfl rfl ?_
  refine mm_iload dL_law_302 rfl ?_
  refine mm_iconst (v := 3) dL_law_304 (by decide) ?_
  refine mm_iadd dL_law_305 ?_
  refine mm_sald (hin3) dL_law_306 ?_
  rw [hx3]
  refine mm_aload_n dL_law_307 rfl rfl ?_
  refine mm_iload dL_law_308 rfl ?_
  refine mm_iconst (v := 4) dL_law_310 (by decide) ?_
  refine mm_iadd dL_law_311 ?_
  refine mm_sald (hin4) dL_law_312 ?_
  rw [hx4]
  refine mm_callV3 (ci := 12) wM_X12_field kM_L_87 wI_X12_field wS_X12_field dL_law_313 (e_X12_field (z := true) hst hZ (Nat.le_refl 1186) sh_1101 hq) (mem_obj sh_1101 (by decide)) (by decide) rfl rfl rfl (Nat.le_of_ble_eq_true rfl) (by omega) (by omega) (fun v9 S9 hq9 => ?_)
  obtain ⟨rfl, rfl⟩ := hq9
  refine ⟨fun h => (by cases h), ?_⟩
  refine mm_istore [some (.retAddr 0), some (.ref 0), some (.ref 1101), some (.ref 1185), some (.int (i)), some (.int (fdC r)), some (.int v), v7] dL_law_316 (by decide) rfl ?_
  refine mm_goto 597 dL_law_318 (by decide) ?_
  exact K _ _ _ _ _ _ hI2 (by omega) (by omega)
set_option maxHeartbeats 4000000 in
set_option maxRecDepth 100000 in
theorem l_find {g : mm_G} {l : Launch} (hst : l.stackTraces = false) {Z : Nat → Nat → Option Nat} (hZ : HZ Z) {dc ds uc us : Nat} {i x1 : Int32} {v5 v6 v7 : Option Value} {σ : SG} {A : LST} (hI : INV A σ) (h1 : uc + 1 ≤ dc) (h2 : us + 6 ≤ ds) (hin1 : vp_in (i + 1) (mm_X g).2.1) (hx1 : (mm_X g).2.2 (i + 1 : Int32).toNatClampNeg = x1) (K : ∀ (v5 v6 v7 : Option Value) (σ9 : SG) (uc9 us9 : Nat), (∃ A, INV A σ9) → uc9 ≤ uc + 1 → us9 ≤ us + 6 → mm_V g l RL "law" cL_law 8 (some .boolean) [] 100 dc ds (fun r _ => r = .inl (some (.int 1))) 597 [some (.retAddr 0), some (.ref 0), some (.ref 1101), some (.ref 1185), some (.int (i)), v5, v6, v7] [] (mem Z σ9, 1186, true) uc9 us9) : mm_V g l RL "law" cL_law 8 (some .boolean) [] 100 dc ds (fun r _ => r = .inl (some (.int 1))) 321 [some (.retAddr 0), some (.ref 0), some (.ref 1101), some (.ref 1185), some (.int (i)), v5, v6, v7] [] (mem Z σ, 1186, true) uc us := by
  refine mm_aload_n dL_law_321 rfl rfl ?_
  refine mm_aload_n dL_law_322 rfl rfl ?_
  refine mm_iload dL_law_323 rfl ?_
  refine mm_iconst (v := 1) dL_law_325 (by decide) ?_
  refine mm_iadd dL_law_326 ?_
  refine mm_sald (hin1) dL_law_327 ?_
  rw [hx1]
  refine mm_aload_n dL_law_328 rfl rfl ?_
  obtain ⟨r, τ, hok, hx, hfc, hA⟩ := st_find (U := 300000) (p := x1) (by decide) hI
  obtain ⟨v, υ, hq, hfr, h5, hcmp, hI2⟩ := hA (oF r τ) (oF_sm r τ)
  refine mm_callC (n := 3) wC_L_find wi_L ⟨by decide, by decide⟩ (by decide +kernel) (by decide) kM_L_88 wT_L_find dL_law_329 (w_find hst hZ hx hok) rfl rfl (Nat.le_of_ble_eq_true rfl) (by omega) (by omega) (fun v9 S9 hq9 => ?_)
  obtain ⟨rfl, rfl⟩ := hq9
  refine ⟨fun h => (by cases h), ?_⟩
  refine mm_istore [some (.retAddr 0), some (.ref 0), some (.ref 1101), some (.ref 1185), some (.int (i)), some (.int (fdC r)), v6, v7] dL_law_332 (by decide) rfl ?_
  refine mm_aload_n dL_law_334 rfl rfl ?_
  refine mm_aload_n dL_law_335 rfl rfl ?_
  refine mm_iload dL_law_336 rfl ?_
  refine mm_iconst (v := 1) dL_law_338 (by decide) ?_
  refine mm_iadd dL_law_339 ?_
  refine mm_sald (hin1) dL_law_340 ?_
  rw [hx1]
  refine mm_callV3 (ci := 12) wM_X12_find kM_L_90 wI_X12_find wS_X12_find dL_law_341 (e_X12_find (z := true) hst hZ (Nat.le_refl 1186) sh_1101 hq) (mem_obj sh_1101 (by decide)) (by decide) rfl rfl rfl (Nat.le_of_ble_eq_true rfl) (by omega) (by omega) (fun v9 S9 hq9 => ?_)
  obtain ⟨rfl, rfl⟩ := hq9
  refine ⟨fun h => (by cases h), ?_⟩
  refine mm_istore [some (.retAddr 0), some (.ref 0), some (.ref 1101), some (.ref 1185), some (.int (i)), some (.int (fdC r)), some (.int v), v7] dL_law_344 (by decide) rfl ?_
  refine mm_goto 597 dL_law_346 (by decide) ?_
  exact K _ _ _ _ _ _ hI2 (by omega) (by omega)
set_option maxHeartbeats 4000000 in
set_option maxRecDepth 100000 in
theorem l_decode {g : mm_G} {l : Launch} (hst : l.stackTraces = false) {Z : Nat → Nat → Option Nat} (hZ : HZ Z) {dc ds uc us : Nat} {i x1 x2 x3 : Int32} {v5 v6 v7 : Option Value} {σ : SG} {A : LST} (hI : INV A σ) (h1 : uc + 1 ≤ dc) (h2 : us + 6 ≤ ds) (hin1 : vp_in (i + 1) (mm_X g).2.1) (hx1 : (mm_X g).2.2 (i + 1 : Int32).toNatClampNeg = x1) (hin2 : vp_in (i + 2) (mm_X g).2.1) (hx2 : (mm_X g).2.2 (i + 2 : Int32).toNatClampNeg = x2) (hin3 : vp_in (i + 3) (mm_X g).2.1) (hx3 : (mm_X g).2.2 (i + 3 : Int32).toNatClampNeg = x3) (K : ∀ (v5 v6 v7 : Option Value) (σ9 : SG) (uc9 us9 : Nat), (∃ A, INV A σ9) → uc9 ≤ uc + 1 → us9 ≤ us + 6 → mm_V g l RL "law" cL_law 8 (some .boolean) [] 100 dc ds (fun r _ => r = .inl (some (.int 1))) 597 [some (.retAddr 0), some (.ref 0), some (.ref 1101), some (.ref 1185), some (.int (i)), v5, v6, v7] [] (mem Z σ9, 1186, true) uc9 us9) : mm_V g l RL "law" cL_law 8 (some .boolean) [] 100 dc ds (fun r _ => r = .inl (some (.int 1))) 349 [some (.retAddr 0), some (.ref 0), some (.ref 1101), some (.ref 1185), some (.int (i)), v5, v6, v7] [] (mem Z σ, 1186, true) uc us := by
  refine mm_aload_n dL_law_349 rfl rfl ?_
  refine mm_aload_n dL_law_350 rfl rfl ?_
  refine mm_iload dL_law_351 rfl ?_
  refine mm_iconst (v := 1) dL_law_353 (by decide) ?_
  refine mm_iadd dL_law_354 ?_
  refine mm_sald (hin1) dL_law_355 ?_
  rw [hx1]
  refine mm_aload_n dL_law_356 rfl rfl ?_
  refine mm_iload dL_law_357 rfl ?_
  refine mm_iconst (v := 2) dL_law_359 (by decide) ?_
  refine mm_iadd dL_law_360 ?_
  refine mm_sald (hin2) dL_law_361 ?_
  rw [hx2]
  refine mm_aload_n dL_law_362 rfl rfl ?_
  refine mm_iload dL_law_363 rfl ?_
  refine mm_iconst (v := 3) dL_law_365 (by decide) ?_
  refine mm_iadd dL_law_366 ?_
  refine mm_sald (hin3) dL_law_367 ?_
  rw [hx3]
  refine mm_aload_n dL_law_368 rfl rfl ?_
  obtain ⟨r, τ, hok, hx, hfc, hA⟩ := st_decode (U := 300000) (p := x1) (x := x2) (y := x3) (by decide) hI
  obtain ⟨v, υ, hq, hfr, h5, hcmp, hI2⟩ := hA (oF r τ) (oF_sm r τ)
  refine mm_callC (n := 5) wC_L_decode wi_L ⟨by decide, by decide⟩ (by decide +kernel) (by decide) kM_L_91 wT_L_decode dL_law_369 (w_decode hst hZ hx hok) rfl rfl (Nat.le_of_ble_eq_true rfl) (by omega) (by omega) (fun v9 S9 hq9 => ?_)
  obtain ⟨rfl, rfl⟩ := hq9
  refine ⟨fun h => (by cases h), ?_⟩
  refine mm_istore [some (.retAddr 0), some (.ref 0), some (.ref 1101), some (.ref 1185), some (.int (i)), some (.int (fdC r)), v6, v7] dL_law_372 (by decide) rfl ?_
  refine mm_aload_n dL_law_374 rfl rfl ?_
  refine mm_aload_n dL_law_375 rfl rfl ?_
  refine mm_iload dL_law_376 rfl ?_
  refine mm_iconst (v := 1) dL_law_378 (by decide) ?_
  refine mm_iadd dL_law_379 ?_
  refine mm_sald (hin1) dL_law_380 ?_
  rw [hx1]
  refine mm_aload_n dL_law_381 rfl rfl ?_
  refine mm_iload dL_law_382 rfl ?_
  refine mm_iconst (v := 2) dL_law_384 (by decide) ?_
  refine mm_iadd dL_law_385 ?_
  refine mm_sald (hin2) dL_law_386 ?_
  rw [hx2]
  refine mm_aload_n dL_law_387 rfl rfl ?_
  refine mm_iload dL_law_388 rfl ?_
  refine mm_iconst (v := 3) dL_law_390 (by decide) ?_
  refine mm_iadd dL_law_391 ?_
  refine mm_sald (hin3) dL_law_392 ?_
  rw [hx3]
  refine mm_callV3 (ci := 12) wM_X12_decode kM_L_94 wI_X12_decode wS_X12_decode dL_law_393 (e_X12_decode (z := true) hst hZ (Nat.le_refl 1186) sh_1101 hq) (mem_obj sh_1101 (by decide)) (by decide) rfl rfl rfl (Nat.le_of_ble_eq_true rfl) (by omega) (by omega) (fun v9 S9 hq9 => ?_)
  obtain ⟨rfl, rfl⟩ := hq9
  refine ⟨fun h => (by cases h), ?_⟩
  refine mm_istore [some (.retAddr 0), some (.ref 0), some (.ref 1101), some (.ref 1185), some (.int (i)), some (.int (fdC r)), some (.int v), v7] dL_law_396 (by decide) rfl ?_
  refine mm_goto 597 dL_law_398 (by decide) ?_
  exact K _ _ _ _ _ _ hI2 (by omega) (by omega)
set_option maxHeartbeats 4000000 in
set_option maxRecDepth 100000 in
theorem l_parse {g : mm_G} {l : Launch} (hst : l.stackTraces = false) {Z : Nat → Nat → Option Nat} (hZ : HZ Z) {dc ds uc us : Nat} {i x1 x2 x3 : Int32} {v5 v6 v7 : Option Value} {σ : SG} {A : LST} (hI : INV A σ) (h1 : uc + 1 ≤ dc) (h2 : us + 6 ≤ ds) (hin1 : vp_in (i + 1) (mm_X g).2.1) (hx1 : (mm_X g).2.2 (i + 1 : Int32).toNatClampNeg = x1) (hin2 : vp_in (i + 2) (mm_X g).2.1) (hx2 : (mm_X g).2.2 (i + 2 : Int32).toNatClampNeg = x2) (hin3 : vp_in (i + 3) (mm_X g).2.1) (hx3 : (mm_X g).2.2 (i + 3 : Int32).toNatClampNeg = x3) (K : ∀ (v5 v6 v7 : Option Value) (σ9 : SG) (uc9 us9 : Nat), (∃ A, INV A σ9) → uc9 ≤ uc + 1 → us9 ≤ us + 6 → mm_V g l RL "law" cL_law 8 (some .boolean) [] 100 dc ds (fun r _ => r = .inl (some (.int 1))) 597 [some (.retAddr 0), some (.ref 0), some (.ref 1101), some (.ref 1185), some (.int (i)), v5, v6, v7] [] (mem Z σ9, 1186, true) uc9 us9) : mm_V g l RL "law" cL_law 8 (some .boolean) [] 100 dc ds (fun r _ => r = .inl (some (.int 1))) 401 [some (.retAddr 0), some (.ref 0), some (.ref 1101), some (.ref 1185), some (.int (i)), v5, v6, v7] [] (mem Z σ, 1186, true) uc us := by
  refine mm_aload_n dL_law_401 rfl rfl ?_
  refine mm_aload_n dL_law_402 rfl rfl ?_
  refine mm_iload dL_law_403 rfl ?_
  refine mm_iconst (v := 1) dL_law_405 (by decide) ?_
  refine mm_iadd dL_law_406 ?_
  refine mm_sald (hin1) dL_law_407 ?_
  rw [hx1]
  refine mm_aload_n dL_law_408 rfl rfl ?_
  refine mm_iload dL_law_409 rfl ?_
  refine mm_iconst (v := 2) dL_law_411 (by decide) ?_
  refine mm_iadd dL_law_412 ?_
  refine mm_sald (hin2) dL_law_413 ?_
  rw [hx2]
  refine mm_aload_n dL_law_414 rfl rfl ?_
  refine mm_iload dL_law_415 rfl ?_
  refine mm_iconst (v := 3) dL_law_417 (by decide) ?_
  refine mm_iadd dL_law_418 ?_
  refine mm_sald (hin3) dL_law_419 ?_
  rw [hx3]
  refine mm_aload_n dL_law_420 rfl rfl ?_
  obtain ⟨r, τ, hok, hx, hfc, hA⟩ := st_parse (U := 300000) (p := x1) (x := x2) (y := x3) (by decide) hI
  obtain ⟨v, υ, hq, hfr, h5, hcmp, hI2⟩ := hA (oF r τ) (oF_sm r τ)
  refine mm_callC (n := 5) wC_L_parse wi_L ⟨by decide, by decide⟩ (by decide +kernel) (by decide) kM_L_95 wT_L_parse dL_law_421 (w_parse hst hZ hx hok) rfl rfl (Nat.le_of_ble_eq_true rfl) (by omega) (by omega) (fun v9 S9 hq9 => ?_)
  obtain ⟨rfl, rfl⟩ := hq9
  refine ⟨fun h => (by cases h), ?_⟩
  refine mm_istore [some (.retAddr 0), some (.ref 0), some (.ref 1101), some (.ref 1185), some (.int (i)), some (.int (fdC r)), v6, v7] dL_law_424 (by decide) rfl ?_
  refine mm_aload_n dL_law_426 rfl rfl ?_
  refine mm_aload_n dL_law_427 rfl rfl ?_
  refine mm_iload dL_law_428 rfl ?_
  refine mm_iconst (v := 1) dL_law_430 (by decide) ?_
  refine mm_iadd dL_law_431 ?_
  refine mm_sald (hin1) dL_law_432 ?_
  rw [hx1]
  refine mm_aload_n dL_law_433 rfl rfl ?_
  refine mm_iload dL_law_434 rfl ?_
  refine mm_iconst (v := 2) dL_law_436 (by decide) ?_
  refine mm_iadd dL_law_437 ?_
  refine mm_sald (hin2) dL_law_438 ?_
  rw [hx2]
  refine mm_aload_n dL_law_439 rfl rfl ?_
  refine mm_iload dL_law_440 rfl ?_
  refine mm_iconst (v := 3) dL_law_442 (by decide) ?_
  refine mm_iadd dL_law_443 ?_
  refine mm_sald (hin3) dL_law_444 ?_
  rw [hx3]
  refine mm_callV3 (ci := 12) wM_X12_parse kM_L_97 wI_X12_parse wS_X12_parse dL_law_445 (e_X12_parse (z := true) hst hZ (Nat.le_refl 1186) sh_1101 hq) (mem_obj sh_1101 (by decide)) (by decide) rfl rfl rfl (Nat.le_of_ble_eq_true rfl) (by omega) (by omega) (fun v9 S9 hq9 => ?_)
  obtain ⟨rfl, rfl⟩ := hq9
  refine ⟨fun h => (by cases h), ?_⟩
  refine mm_istore [some (.retAddr 0), some (.ref 0), some (.ref 1101), some (.ref 1185), some (.int (i)), some (.int (fdC r)), some (.int v), v7] dL_law_448 (by decide) rfl ?_
  refine mm_goto 597 dL_law_450 (by decide) ?_
  exact K _ _ _ _ _ _ hI2 (by omega) (by omega)
set_option maxHeartbeats 4000000 in
set_option maxRecDepth 100000 in
theorem l_encode {g : mm_G} {l : Launch} (hst : l.stackTraces = false) {Z : Nat → Nat → Option Nat} (hZ : HZ Z) {dc ds uc us : Nat} {i : Int32} {v5 v6 v7 : Option Value} {σ : SG} {A : LST} (hI : INV A σ) (h1 : uc + 1 ≤ dc) (h2 : us + 6 ≤ ds) (K : ∀ (v5 v6 v7 : Option Value) (σ9 : SG) (uc9 us9 : Nat), (∃ A, INV A σ9) → uc9 ≤ uc + 1 → us9 ≤ us + 6 → mm_V g l RL "law" cL_law 8 (some .boolean) [] 100 dc ds (fun r _ => r = .inl (some (.int 1))) 597 [some (.retAddr 0), some (.ref 0), some (.ref 1101), some (.ref 1185), some (.int (i)), v5, v6, v7] [] (mem Z σ9, 1186, true) uc9 us9) : mm_V g l RL "law" cL_law 8 (some .boolean) [] 100 dc ds (fun r _ => r = .inl (some (.int 1))) 453 [some (.retAddr 0), some (.ref 0), some (.ref 1101), some (.ref 1185), some (.int (i)), v5, v6, v7] [] (mem Z σ, 1186, true) uc us := by
  refine mm_aload_n dL_law_453 rfl rfl ?_
  refine mm_aload_n dL_law_454 rfl rfl ?_
  obtain ⟨r, τ, hok, hx, hfc, hA⟩ := st_encode (U := 300000) (by decide) hI
  obtain ⟨v, υ, hq, hfr, h5, hcmp, hI2⟩ := hA (oF r τ) (oF_sm r τ)
  refine mm_callC (n := 2) wC_L_encode wi_L ⟨by decide, by decide⟩ (by decide +kernel) (by decide) kM_L_98 wT_L_encode dL_law_455 (w_encode hst hZ hx hok) rfl rfl (Nat.le_of_ble_eq_true rfl) (by omega) (by omega) (fun v9 S9 hq9 => ?_)
  obtain ⟨rfl, rfl⟩ := hq9
  refine ⟨fun h => (by cases h), ?_⟩
  refine mm_istore [some (.retAddr 0), some (.ref 0), some (.ref 1101), some (.ref 1185), some (.int (i)), some (.int (thS r)), v6, v7] dL_law_458 (by decide) rfl ?_
  refine mm_aload_n dL_law_460 rfl rfl ?_
  refine mm_callV3 (ci := 12) wM_X12_encode kM_L_101 wI_X12_encode wS_X12_encode dL_law_461 (e_X12_encode (z := true) hst hZ (Nat.le_refl 1186) sh_1101 hq) (mem_obj sh_1101 (by decide)) (by decide) rfl rfl rfl (Nat.le_of_ble_eq_true rfl) (by omega) (by omega) (fun v9 S9 hq9 => ?_)
  obtain ⟨rfl, rfl⟩ := hq9
  refine ⟨fun h => (by cases h), ?_⟩
  refine mm_istore [some (.retAddr 0), some (.ref 0), some (.ref 1101), some (.ref 1185), some (.int (i)), some (.int (thS r)), some (.int v), v7] dL_law_464 (by decide) rfl ?_
  refine mm_goto 597 dL_law_466 (by decide) ?_
  exact K _ _ _ _ _ _ hI2 (by omega) (by omega)
set_option maxHeartbeats 4000000 in
set_option maxRecDepth 100000 in
theorem l_print {g : mm_G} {l : Launch} (hst : l.stackTraces = false) {Z : Nat → Nat → Option Nat} (hZ : HZ Z) {dc ds uc us : Nat} {i : Int32} {v5 v6 v7 : Option Value} {σ : SG} {A : LST} (hI : INV A σ) (h1 : uc + 1 ≤ dc) (h2 : us + 6 ≤ ds) (K : ∀ (v5 v6 v7 : Option Value) (σ9 : SG) (uc9 us9 : Nat), (∃ A, INV A σ9) → uc9 ≤ uc + 1 → us9 ≤ us + 6 → mm_V g l RL "law" cL_law 8 (some .boolean) [] 100 dc ds (fun r _ => r = .inl (some (.int 1))) 597 [some (.retAddr 0), some (.ref 0), some (.ref 1101), some (.ref 1185), some (.int (i)), v5, v6, v7] [] (mem Z σ9, 1186, true) uc9 us9) : mm_V g l RL "law" cL_law 8 (some .boolean) [] 100 dc ds (fun r _ => r = .inl (some (.int 1))) 469 [some (.retAddr 0), some (.ref 0), some (.ref 1101), some (.ref 1185), some (.int (i)), v5, v6, v7] [] (mem Z σ, 1186, true) uc us := by
  refine mm_aload_n dL_law_469 rfl rfl ?_
  refine mm_aload_n dL_law_470 rfl rfl ?_
  obtain ⟨r, τ, hok, hx, hfc, hA⟩ := st_print (U := 300000) (by decide) hI
  obtain ⟨v, υ, hq, hfr, h5, hcmp, hI2⟩ := hA (oF r τ) (oF_sm r τ)
  refine mm_callC (n := 2) wC_L_print wi_L ⟨by decide, by decide⟩ (by decide +kernel) (by decide) kM_L_102 wT_L_print dL_law_471 (w_print hst hZ hx hok) rfl rfl (Nat.le_of_ble_eq_true rfl) (by omega) (by omega) (fun v9 S9 hq9 => ?_)
  obtain ⟨rfl, rfl⟩ := hq9
  refine ⟨fun h => (by cases h), ?_⟩
  refine mm_istore [some (.retAddr 0), some (.ref 0), some (.ref 1101), some (.ref 1185), some (.int (i)), some (.int (prC r)), v6, v7] dL_law_474 (by decide) rfl ?_
  refine mm_aload_n dL_law_476 rfl rfl ?_
  refine mm_callV3 (ci := 12) wM_X12_print kM_L_104 wI_X12_print wS_X12_print dL_law_477 (e_X12_print (z := true) hst hZ (Nat.le_refl 1186) sh_1101 hq) (mem_obj sh_1101 (by decide)) (by decide) rfl rfl rfl (Nat.le_of_ble_eq_true rfl) (by omega) (by omega) (fun v9 S9 hq9 => ?_)
  obtain ⟨rfl, rfl⟩ := hq9
  refine ⟨fun h => (by cases h), ?_⟩
  refine mm_istore [some (.retAddr 0), some (.ref 0), some (.ref 1101), some (.ref 1185), some (.int (i)), some (.int (prC r)), some (.int v), v7] dL_law_480 (by decide) rfl ?_
  refine mm_goto 597 dL_law_482 (by decide) ?_
  exact K _ _ _ _ _ _ hI2 (by omega) (by omega)
set_option maxHeartbeats 4000000 in
set_option maxRecDepth 100000 in
theorem l_check {g : mm_G} {l : Launch} (hst : l.stackTraces = false) {Z : Nat → Nat → Option Nat} (hZ : HZ Z) {dc ds uc us : Nat} {i x1 x2 : Int32} {v5 v6 v7 : Option Value} {σ : SG} {A : LST} (hI : INV A σ) (h1 : uc + 1 ≤ dc) (h2 : us + 6 ≤ ds) (hin1 : vp_in (i + 1) (mm_X g).2.1) (hx1 : (mm_X g).2.2 (i + 1 : Int32).toNatClampNeg = x1) (hin2 : vp_in (i + 2) (mm_X g).2.1) (hx2 : (mm_X g).2.2 (i + 2 : Int32).toNatClampNeg = x2) (K : ∀ (v5 v6 v7 : Option Value) (σ9 : SG) (uc9 us9 : Nat), (∃ A, INV A σ9) → uc9 ≤ uc + 1 → us9 ≤ us + 6 → mm_V g l RL "law" cL_law 8 (some .boolean) [] 100 dc ds (fun r _ => r = .inl (some (.int 1))) 597 [some (.retAddr 0), some (.ref 0), some (.ref 1101), some (.ref 1185), some (.int (i)), v5, v6, v7] [] (mem Z σ9, 1186, true) uc9 us9) : mm_V g l RL "law" cL_law 8 (some .boolean) [] 100 dc ds (fun r _ => r = .inl (some (.int 1))) 485 [some (.retAddr 0), some (.ref 0), some (.ref 1101), some (.ref 1185), some (.int (i)), v5, v6, v7] [] (mem Z σ, 1186, true) uc us := by
  refine mm_aload_n dL_law_485 rfl rfl ?_
  refine mm_aload_n dL_law_486 rfl rfl ?_
  refine mm_iload dL_law_487 rfl ?_
  refine mm_iconst (v := 1) dL_law_489 (by decide) ?_
  refine mm_iadd dL_law_490 ?_
  refine mm_sald (hin1) dL_law_491 ?_
  rw [hx1]
  refine mm_aload_n dL_law_492 rfl rfl ?_
  refine mm_iload dL_law_493 rfl ?_
  refine mm_iconst (v := 2) dL_law_495 (by decide) ?_
  refine mm_iadd dL_law_496 ?_
  refine mm_sald (hin2) dL_law_497 ?_
  rw [hx2]
  refine mm_aload_n dL_law_498 rfl rfl ?_
  obtain ⟨r, τ, hok, hx, hfc, hA⟩ := st_check (U := 300000) (x := x1) (y := x2) (by decide) hI
  obtain ⟨v, υ, hq, hfr, h5, hcmp, hI2⟩ := hA (oF r τ) (oF_sm r τ)
  refine mm_callC (n := 4) wC_L_check wi_L ⟨by decide, by decide⟩ (by decide +kernel) (by decide) kM_L_105 wT_L_check dL_law_499 (w_check hst hZ hx hok) rfl rfl (Nat.le_of_ble_eq_true rfl) (by omega) (by omega) (fun v9 S9 hq9 => ?_)
  obtain ⟨rfl, rfl⟩ := hq9
  refine ⟨fun h => (by cases h), ?_⟩
  refine mm_istore [some (.retAddr 0), some (.ref 0), some (.ref 1101), some (.ref 1185), some (.int (i)), some (.int (fdC r)), v6, v7] dL_law_502 (by decide) rfl ?_
  refine mm_aload_n dL_law_504 rfl rfl ?_
  refine mm_aload_n dL_law_505 rfl rfl ?_
  refine mm_iload dL_law_506 rfl ?_
  refine mm_iconst (v := 1) dL_law_508 (by decide) ?_
  refine mm_iadd dL_law_509 ?_
  refine mm_sald (hin1) dL_law_510 ?_
  rw [hx1]
  refine mm_aload_n dL_law_511 rfl rfl ?_
  refine mm_iload dL_law_512 rfl ?_
  refine mm_iconst (v := 2) dL_law_514 (by decide) ?_
  refine mm_iadd dL_law_515 ?_
  refine mm_sald (hin2) dL_law_516 ?_
  rw [hx2]
  refine mm_callV3 (ci := 12) wM_X12_check kM_L_107 wI_X12_check wS_X12_check dL_law_517 (e_X12_check (z := true) hst hZ (Nat.le_refl 1186) sh_1101 hq) (mem_obj sh_1101 (by decide)) (by decide) rfl rfl rfl (Nat.le_of_ble_eq_true rfl) (by omega) (by omega) (fun v9 S9 hq9 => ?_)
  obtain ⟨rfl, rfl⟩ := hq9
  refine ⟨fun h => (by cases h), ?_⟩
  refine mm_istore [some (.retAddr 0), some (.ref 0), some (.ref 1101), some (.ref 1185), some (.int (i)), some (.int (fdC r)), some (.int v), v7] dL_law_520 (by decide) rfl ?_
  refine mm_goto 597 dL_law_522 (by decide) ?_
  exact K _ _ _ _ _ _ hI2 (by omega) (by omega)
set_option maxHeartbeats 4000000 in
set_option maxRecDepth 100000 in
theorem l_out {g : mm_G} {l : Launch} (hst : l.stackTraces = false) {Z : Nat → Nat → Option Nat} (hZ : HZ Z) {dc ds uc us : Nat} {i x1 : Int32} {v5 v6 v7 : Option Value} {σ : SG} {A : LST} (hI : INV A σ) (h1 : uc + 1 ≤ dc) (h2 : us + 6 ≤ ds) (hin1 : vp_in (i + 1) (mm_X g).2.1) (hx1 : (mm_X g).2.2 (i + 1 : Int32).toNatClampNeg = x1) (K : ∀ (v5 v6 v7 : Option Value) (σ9 : SG) (uc9 us9 : Nat), (∃ A, INV A σ9) → uc9 ≤ uc + 1 → us9 ≤ us + 6 → mm_V g l RL "law" cL_law 8 (some .boolean) [] 100 dc ds (fun r _ => r = .inl (some (.int 1))) 597 [some (.retAddr 0), some (.ref 0), some (.ref 1101), some (.ref 1185), some (.int (i)), v5, v6, v7] [] (mem Z σ9, 1186, true) uc9 us9) : mm_V g l RL "law" cL_law 8 (some .boolean) [] 100 dc ds (fun r _ => r = .inl (some (.int 1))) 525 [some (.retAddr 0), some (.ref 0), some (.ref 1101), some (.ref 1185), some (.int (i)), v5, v6, v7] [] (mem Z σ, 1186, true) uc us := by
  refine mm_aload_n dL_law_525 rfl rfl ?_
  refine mm_aload_n dL_law_526 rfl rfl ?_
  refine mm_iload dL_law_527 rfl ?_
  refine mm_iconst (v := 1) dL_law_529 (by decide) ?_
  refine mm_iadd dL_law_530 ?_
  refine mm_sald (hin1) dL_law_531 ?_
  rw [hx1]
  refine mm_aload_n dL_law_532 rfl rfl ?_
  obtain ⟨r, hok, hx, hA⟩ := st_out (U := 300000) (k := x1) (by decide) hI
  obtain ⟨v, υ, hq, hfr, h5, hcmp, hI2⟩ := hA (oF r σ) (oF_sm r σ)
  refine mm_callC (n := 3) wC_L_out wi_L ⟨by decide, by decide⟩ (by decide +kernel) (by decide) kM_L_108 wT_L_out dL_law_533 (w_out hst hZ hx hok) rfl rfl (Nat.le_of_ble_eq_true rfl) (by omega) (by omega) (fun v9 S9 hq9 => ?_)
  obtain ⟨rfl, rfl⟩ := hq9
  refine ⟨fun h => (by cases h), ?_⟩
  refine mm_istore [some (.retAddr 0), some (.ref 0), some (.ref 1101), some (.ref 1185), some (.int (i)), some (.int (otC r)), v6, v7] dL_law_536 (by decide) rfl ?_
  refine mm_aload_n dL_law_538 rfl rfl ?_
  refine mm_aload_n dL_law_539 rfl rfl ?_
  refine mm_iload dL_law_540 rfl ?_
  refine mm_iconst (v := 1) dL_law_542 (by decide) ?_
  refine mm_iadd dL_law_543 ?_
  refine mm_sald (hin1) dL_law_544 ?_
  rw [hx1]
  refine mm_callV3 (ci := 12) wM_X12_out kM_L_110 wI_X12_out wS_X12_out dL_law_545 (e_X12_out (z := true) hst hZ (Nat.le_refl 1186) sh_1101 hq) (mem_obj sh_1101 (by decide)) (by decide) rfl rfl rfl (Nat.le_of_ble_eq_true rfl) (by omega) (by omega) (fun v9 S9 hq9 => ?_)
  obtain ⟨rfl, rfl⟩ := hq9
  refine ⟨fun h => (by cases h), ?_⟩
  refine mm_lstore [some (.retAddr 0), some (.ref 0), some (.ref 1101), some (.ref 1185), some (.int (i)), some (.int (otC r)), some (.long v), none] dL_law_548 (by decide) rfl ?_
  refine mm_goto 597 dL_law_550 (by decide) ?_
  exact K _ _ _ _ _ _ hI2 (by omega) (by omega)
set_option maxHeartbeats 4000000 in
set_option maxRecDepth 100000 in
theorem l_turn {g : mm_G} {l : Launch} (hst : l.stackTraces = false) {Z : Nat → Nat → Option Nat} (hZ : HZ Z) {dc ds uc us : Nat} {i : Int32} {v5 v6 v7 : Option Value} {σ : SG} {A : LST} (hI : INV A σ) (h1 : uc + 1 ≤ dc) (h2 : us + 6 ≤ ds) (K : ∀ (v5 v6 v7 : Option Value) (σ9 : SG) (uc9 us9 : Nat), (∃ A, INV A σ9) → uc9 ≤ uc + 1 → us9 ≤ us + 6 → mm_V g l RL "law" cL_law 8 (some .boolean) [] 100 dc ds (fun r _ => r = .inl (some (.int 1))) 597 [some (.retAddr 0), some (.ref 0), some (.ref 1101), some (.ref 1185), some (.int (i)), v5, v6, v7] [] (mem Z σ9, 1186, true) uc9 us9) : mm_V g l RL "law" cL_law 8 (some .boolean) [] 100 dc ds (fun r _ => r = .inl (some (.int 1))) 553 [some (.retAddr 0), some (.ref 0), some (.ref 1101), some (.ref 1185), some (.int (i)), v5, v6, v7] [] (mem Z σ, 1186, true) uc us := by
  refine mm_aload_n dL_law_553 rfl rfl ?_
  refine mm_aload_n dL_law_554 rfl rfl ?_
  obtain ⟨r, τ, hok, hx, hfc, hA⟩ := st_turn (U := 300000) (by decide) hI
  obtain ⟨v, υ, hq, hfr, h5, hcmp, hI2⟩ := hA (oF r τ) (oF_sm r τ)
  refine mm_callC (n := 2) wC_L_turn wi_L ⟨by decide, by decide⟩ (by decide +kernel) (by decide) kM_L_111 wT_L_turn dL_law_555 (w_turn hst hZ hx hok) rfl rfl (Nat.le_of_ble_eq_true rfl) (by omega) (by omega) (fun v9 S9 hq9 => ?_)
  obtain ⟨rfl, rfl⟩ := hq9
  refine ⟨fun h => (by cases h), ?_⟩
  refine mm_istore [some (.retAddr 0), some (.ref 0), some (.ref 1101), some (.ref 1185), some (.int (i)), some (.int (otC r)), v6, v7] dL_law_558 (by decide) rfl ?_
  refine mm_aload_n dL_law_560 rfl rfl ?_
  refine mm_callV3 (ci := 12) wM_X12_turn kM_L_113 wI_X12_turn wS_X12_turn dL_law_561 (e_X12_turn (z := true) hst hZ (Nat.le_refl 1186) sh_1101 hq) (mem_obj sh_1101 (by decide)) (by decide) rfl rfl rfl (Nat.le_of_ble_eq_true rfl) (by omega) (by omega) (fun v9 S9 hq9 => ?_)
  obtain ⟨rfl, rfl⟩ := hq9
  refine ⟨fun h => (by cases h), ?_⟩
  refine mm_istore [some (.retAddr 0), some (.ref 0), some (.ref 1101), some (.ref 1185), some (.int (i)), some (.int (otC r)), some (.int v), v7] dL_law_564 (by decide) rfl ?_
  refine mm_aload_n dL_law_566 rfl rfl ?_
  refine mm_callV3 (ci := 12) wM_X12_thrown kM_L_114 wI_X12_thrown wS_X12_thrown dL_law_567 (e_X12_thrown (σ := υ) (n := 1186) (z := true) hst hZ (Nat.le_refl _) sh_1101 rfl) (mem_obj sh_1101 (by decide)) (by decide) rfl rfl rfl (Nat.le_of_ble_eq_true rfl) (by omega) (by omega) (fun v9 S9 hq9 => ?_)
  obtain ⟨rfl, rfl⟩ := hq9
  refine ⟨fun h => (by cases h), ?_⟩
  refine mm_iload dL_law_570 rfl ?_
  refine mm_icmp_eq 577 dL_law_572 (by decide) (fun _ => ?_) (fun h => absurd h5 h)
  refine mm_iload dL_law_577 rfl ?_
  refine mm_if_ne 594 dL_law_579 (by decide) (fun _ => mm_goto 597 dL_law_594 (by decide) (K _ _ _ _ _ _ hI2 (by omega) (by omega))) (fun hz => ?_)
  rcases hok with ⟨w, rfl⟩ | ⟨E, hE, rfl⟩
  case inr => exact absurd hz (nz_o hE)
  refine mm_aload_n dL_law_582 rfl rfl ?_
  refine mm_iconst (v := 0) dL_law_583 (by decide) ?_
  refine mm_lald3 ((mem_arr (t := 1) sh_1185).trans (by rw [ctn_L])) (by decide) (by rw [ln_1185]; unfold vp_in; decide) dL_law_584 ?_
  refine mm_iload dL_law_585 rfl ?_
  refine mm_i2l dL_law_587 ?_
  refine mm_lcmp dL_law_588 ?_
  have hL : lg_cmp (sL υ 1185 0) v.toInt64 = 0 := by rw [hcmp trivial w rfl, (hfr 1185 (Or.inr (Nat.le_refl _)) 0).2.1]; exact lg_cmp_self _
  refine mm_if_eq 594 dL_law_589 (by decide) (fun _ => ?_) (fun h => absurd hL h)
  refine mm_goto 597 dL_law_594 (by decide) ?_
  exact K _ _ _ _ _ _ hI2 (by omega) (by omega)
theorem lt_scr {L k : Nat} (hL : L ≤ 2560) (hk : k ≤ 2565) (h : ¬ Int32.ofNat L - 5 < nI k) : k + 5 ≤ L := by
  rw [Int32.lt_iff_toInt_lt, Int32.toInt_sub] at h
  have e1 : (Int32.ofNat L).toInt = L := by
    show (nI L).toBitVec.toInt = _
    rw [show (nI L).toBitVec = BitVec.ofNat 32 L from rfl, BitVec.toInt_ofNat', Int.bmod_eq_of_le (by omega) (by omega)]
  have e2 : (nI k).toInt = k := by
    show (nI k).toBitVec.toInt = _
    rw [show (nI k).toBitVec = BitVec.ofNat 32 k from rfl, BitVec.toInt_ofNat', Int.bmod_eq_of_le (by omega) (by omega)]
  have e3 : (5 : Int32).toInt = 5 := by decide
  rw [e1, e2, e3, Int.bmod_eq_of_le (by omega) (by omega)] at h
  omega
theorem in_scr {L k c : Nat} (hL : L ≤ 2560) (h : k + c < L) : vp_in (nI k + nI c) L := by
  rw [nI_add]
  exact vp_in_nI (by omega) (by omega)
theorem law_exit {g : mm_G} {l : Launch} (dc ds : Nat) (S : mm_S) (uc us : Nat) (h1 : uc ≤ dc) (h2 : us ≤ ds) (ls : List (Option Value)) : mm_V g l RL "law" cL_law 8 (some .boolean) [] 100 dc ds (fun r _ => r = .inl (some (.int 1))) 603 ls [] S uc us := by
  refine mm_iconst (v := 1) dL_law_603 (by decide) ?_
  exact mm_iret dL_law_604 rfl rfl rfl h1 h2
set_option maxHeartbeats 16000000 in
set_option maxRecDepth 100000 in
theorem law_loop {g : mm_G} {l : Launch} (hst : l.stackTraces = false) {Z : Nat → Nat → Option Nat} (hZ : HZ Z) {dc ds : Nat} (hL : (mm_X g).2.1 ≤ 2560) : ∀ (m j : Nat) (v5 v6 v7 : Option Value) (σ : SG) (uc us : Nat), j + m = 513 → (∃ A, INV A σ) → uc + m ≤ dc → us + 6 * m ≤ ds → mm_V g l RL "law" cL_law 8 (some .boolean) [] 100 dc ds (fun r _ => r = .inl (some (.int 1))) 23 [some (.retAddr 0), some (.ref 0), some (.ref 1101), some (.ref 1185), some (.int (nI (5 * j))), v5, v6, v7] [] (mem Z σ, 1186, true) uc us := by
  intro m
  induction m with
  | zero =>
    intro j v5 v6 v7 σ uc us hj hI h1 h2
    refine mm_iload dL_law_23 rfl ?_
    refine mm_aload_n dL_law_25 rfl rfl ?_
    refine mm_slen dL_law_26 ?_
    refine mm_iconst (v := 5) dL_law_27 (by decide) ?_
    refine mm_isub dL_law_28 ?_
    refine mm_icmp_gt 603 dL_law_29 (by decide) (fun _ => law_exit dc ds _ _ _ (by omega) (by omega) _) (fun h => ?_)
    exfalso
    have := lt_scr (L := (mm_X g).2.1) (k := 5 * j) hL (by omega) h
    omega
  | succ m ih =>
    intro j v5 v6 v7 σ uc us hj hIe h1 h2
    obtain ⟨A, hI⟩ := hIe
    refine mm_iload dL_law_23 rfl ?_
    refine mm_aload_n dL_law_25 rfl rfl ?_
    refine mm_slen dL_law_26 ?_
    refine mm_iconst (v := 5) dL_law_27 (by decide) ?_
    refine mm_isub dL_law_28 ?_
    refine mm_icmp_gt 603 dL_law_29 (by decide) (fun _ => law_exit dc ds _ _ _ (by omega) (by omega) _) (fun h => ?_)
    have h5 := lt_scr (L := (mm_X g).2.1) (k := 5 * j) hL (by omega) h
    have hin : ∀ c, c < 5 → vp_in (nI (5 * j) + nI c) (mm_X g).2.1 := fun c hc => in_scr hL (by omega)
    have hK : ∀ (v5 v6 v7 : Option Value) (σ9 : SG) (uc9 us9 : Nat), (∃ A, INV A σ9) → uc9 ≤ uc + 1 → us9 ≤ us + 6 → mm_V g l RL "law" cL_law 8 (some .boolean) [] 100 dc ds (fun r _ => r = .inl (some (.int 1))) 597 [some (.retAddr 0), some (.ref 0), some (.ref 1101), some (.ref 1185), some (.int (nI (5 * j))), v5, v6, v7] [] (mem Z σ9, 1186, true) uc9 us9 := by
      intro v5 v6 v7 σ9 uc9 us9 hI9 h8 h9
      refine mm_iinc (v := nI (5 * (j + 1))) [some (.retAddr 0), some (.ref 0), some (.ref 1101), some (.ref 1185), some (.int (nI (5 * (j + 1)))), v5, v6, v7] dL_law_597 rfl (by rw [show (5 : Nat) * (j + 1) = 5 * j + 5 by omega, ← nI_add]; rfl) (by decide) rfl ?_
      refine mm_goto 23 dL_law_600 (by decide) ?_
      exact ih (j + 1) v5 v6 v7 σ9 uc9 us9 (by omega) hI9 (by omega) (by omega)
    refine mm_aload_n dL_law_32 rfl rfl ?_
    refine mm_iload dL_law_33 rfl ?_
    refine mm_sald (vp_in_nI (by omega) (by omega)) dL_law_35 ?_
    refine mm_bipush (v := 15) dL_law_36 (by decide) ?_
    refine mm_iand dL_law_38 ?_
    obtain ⟨q, hq, e⟩ := pk_andE ((mm_X g).2.2 (nI (5 * j)).toNatClampNeg) (m := 15) 4 (by decide)
    rw [e]
    clear e
    rcases (show q = 0 ∨ q = 1 ∨ q = 2 ∨ q = 3 ∨ q = 4 ∨ q = 5 ∨ q = 6 ∨ q = 7 ∨ q = 8 ∨ q = 9 ∨ q = 10 ∨ q = 11 ∨ q = 12 ∨ (q = 13 ∨ q = 14 ∨ q = 15) by omega) with rfl | rfl | rfl | rfl | rfl | rfl | rfl | rfl | rfl | rfl | rfl | rfl | rfl | hj2
    · refine mm_tsIn 104 dL_law_39 (by decide) (by decide) (show _ = some 65 from by decide) (by decide) ?_
      exact l_feed hst hZ hI (by omega) (by omega) (hin 1 (by decide)) rfl (hin 2 (by decide)) rfl (hin 3 (by decide)) rfl (fun v5 v6 v7 σ9 uc9 us9 hI9 h8 h9 => hK v5 v6 v7 σ9 uc9 us9 hI9 h8 h9)
    · refine mm_tsIn 176 dL_law_39 (by decide) (by decide) (show _ = some 137 from by decide) (by decide) ?_
      exact l_compile hst hZ hI (by omega) (by omega) (hin 1 (by decide)) rfl (fun v5 v6 v7 σ9 uc9 us9 hI9 h8 h9 => hK v5 v6 v7 σ9 uc9 us9 hI9 h8 h9)
    · refine mm_tsIn 204 dL_law_39 (by decide) (by decide) (show _ = some 165 from by decide) (by decide) ?_
      exact l_place hst hZ hI (by omega) (by omega) (fun v5 v6 v7 σ9 uc9 us9 hI9 h8 h9 => hK v5 v6 v7 σ9 uc9 us9 hI9 h8 h9)
    · refine mm_tsIn 217 dL_law_39 (by decide) (by decide) (show _ = some 178 from by decide) (by decide) ?_
      exact l_many hst hZ hI (by omega) (by omega) (hin 1 (by decide)) rfl (hin 2 (by decide)) rfl (fun v5 v6 v7 σ9 uc9 us9 hI9 h8 h9 => hK v5 v6 v7 σ9 uc9 us9 hI9 h8 h9)
    · refine mm_tsIn 257 dL_law_39 (by decide) (by decide) (show _ = some 218 from by decide) (by decide) ?_
      exact l_field hst hZ hI (by omega) (by omega) (hin 1 (by decide)) rfl (hin 2 (by decide)) rfl (hin 3 (by decide)) rfl (hin 4 (by decide)) rfl (fun v5 v6 v7 σ9 uc9 us9 hI9 h8 h9 => hK v5 v6 v7 σ9 uc9 us9 hI9 h8 h9)
    · refine mm_tsIn 321 dL_law_39 (by decide) (by decide) (show _ = some 282 from by decide) (by decide) ?_
      exact l_find hst hZ hI (by omega) (by omega) (hin 1 (by decide)) rfl (fun v5 v6 v7 σ9 uc9 us9 hI9 h8 h9 => hK v5 v6 v7 σ9 uc9 us9 hI9 h8 h9)
    · refine mm_tsIn 349 dL_law_39 (by decide) (by decide) (show _ = some 310 from by decide) (by decide) ?_
      exact l_decode hst hZ hI (by omega) (by omega) (hin 1 (by decide)) rfl (hin 2 (by decide)) rfl (hin 3 (by decide)) rfl (fun v5 v6 v7 σ9 uc9 us9 hI9 h8 h9 => hK v5 v6 v7 σ9 uc9 us9 hI9 h8 h9)
    · refine mm_tsIn 401 dL_law_39 (by decide) (by decide) (show _ = some 362 from by decide) (by decide) ?_
      exact l_parse hst hZ hI (by omega) (by omega) (hin 1 (by decide)) rfl (hin 2 (by decide)) rfl (hin 3 (by decide)) rfl (fun v5 v6 v7 σ9 uc9 us9 hI9 h8 h9 => hK v5 v6 v7 σ9 uc9 us9 hI9 h8 h9)
    · refine mm_tsIn 453 dL_law_39 (by decide) (by decide) (show _ = some 414 from by decide) (by decide) ?_
      exact l_encode hst hZ hI (by omega) (by omega) (fun v5 v6 v7 σ9 uc9 us9 hI9 h8 h9 => hK v5 v6 v7 σ9 uc9 us9 hI9 h8 h9)
    · refine mm_tsIn 469 dL_law_39 (by decide) (by decide) (show _ = some 430 from by decide) (by decide) ?_
      exact l_print hst hZ hI (by omega) (by omega) (fun v5 v6 v7 σ9 uc9 us9 hI9 h8 h9 => hK v5 v6 v7 σ9 uc9 us9 hI9 h8 h9)
    · refine mm_tsIn 485 dL_law_39 (by decide) (by decide) (show _ = some 446 from by decide) (by decide) ?_
      exact l_check hst hZ hI (by omega) (by omega) (hin 1 (by decide)) rfl (hin 2 (by decide)) rfl (fun v5 v6 v7 σ9 uc9 us9 hI9 h8 h9 => hK v5 v6 v7 σ9 uc9 us9 hI9 h8 h9)
    · refine mm_tsIn 525 dL_law_39 (by decide) (by decide) (show _ = some 486 from by decide) (by decide) ?_
      exact l_out hst hZ hI (by omega) (by omega) (hin 1 (by decide)) rfl (fun v5 v6 v7 σ9 uc9 us9 hI9 h8 h9 => hK v5 v6 v7 σ9 uc9 us9 hI9 h8 h9)
    · refine mm_tsIn 553 dL_law_39 (by decide) (by decide) (show _ = some 514 from by decide) (by decide) ?_
      exact l_turn hst hZ hI (by omega) (by omega) (fun v5 v6 v7 σ9 uc9 us9 hI9 h8 h9 => hK v5 v6 v7 σ9 uc9 us9 hI9 h8 h9)
    · refine mm_tsOut 597 dL_law_39 (by rcases hj2 with rfl | rfl | rfl <;> decide) (by decide) ?_
      exact hK v5 v6 v7 σ uc us ⟨A, hI⟩ (by omega) (by omega)
