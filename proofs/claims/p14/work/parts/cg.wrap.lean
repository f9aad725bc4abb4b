/-! ===== the law's wrappers ===== -/
/-- what a wrapper leaves in the law's out -/
def oF (r : mm_R) (σ : SG) : SG := match r with
  | .inl (some (.int w)) => uL σ 1185 0 w.toInt64
  | .inl (some (.long w)) => uL σ 1185 0 w
  | _ => σ
theorem oF_sm (r : mm_R) (σ : SG) : ∀ b, b ≠ 1185 → sm σ (oF r σ) b := by
  have key : ∀ v, ∀ b, b ≠ 1185 → sm σ (uL σ 1185 0 v) b := fun v b hb k => ⟨rfl, by rw [sL_uL, if_neg (fun z => hb z.1)], rfl⟩
  intro b hb
  unfold oF
  split
  · exact key _ b hb
  · exact key _ b hb
  · exact sm_refl σ b
theorem sh_0 : sh 0 = 11 := by decide
theorem sh_1101 : sh 1101 = 12 := by decide
theorem sh_1185 : sh 1185 = 101 := by decide
theorem ln_1185 : ln 1185 = 1 := by decide
theorem lg_cmp_self (x : Int64) : lg_cmp x x = 0 := by unfold lg_cmp; simp
set_option maxHeartbeats 4000000 in
set_option maxRecDepth 100000 in
theorem w_feed {g : mm_G} {l : Launch} (hst : l.stackTraces = false) {Z : Nat → Nat → Option Nat} (hZ : HZ Z) {d U : Nat} {p0 : Int64} {p1 : Int32} {σ σ' : SG} {r : mm_R} (hx : x_X11_feed U 0 p0 p1 σ = some (r, σ')) (hk : okR [IAE, ISE] r) : mm_Ct g l yL_feed (.codeWith yL_feed cL_feed 6 (some .int) hL_feed) (d + 2) 1 6 [.ref 0, .long p0, .int p1, .ref 1185] (mem Z σ, 1186, true) (mm_nt (fun v S' => v = some (.int (fdC r)) ∧ S' = (mem Z (oF r σ'), 1186, true))) := by
  refine mm_Cw_of hst (by decide) (Nat.le_of_ble_eq_true rfl) ?_
  show mm_V g l RL "feed" cL_feed 6 (some .int) (tableOf hL_feed) (d + 2) 1 6 _ 0 [some (.ref 0), some (.long p0), none, some (.int p1), some (.ref 1185), none] [] (mem Z σ, 1186, true) 0 0
  refine mm_aload dL_feed_0 rfl rfl ?_
  refine mm_iconst (v := 0) dL_feed_2 (by decide) ?_
  refine mm_aload_n dL_feed_3 rfl rfl ?_
  refine mm_lload_n dL_feed_4 rfl ?_
  refine mm_iload_n dL_feed_5 rfl ?_
  rcases hk with ⟨w, rfl⟩ | ⟨E, hE, rfl⟩
  · refine mm_callH3 (ci := 11) wM_X11_feed kM_L_7 wI_X11_feed wS_X11_feed dL_feed_6 (e_X11_feed hst hZ (Nat.le_refl _) sh_0 hx) (mem_obj sh_0 (by decide)) (by decide) rfl rfl rfl (Nat.le_of_ble_eq_true rfl) (by omega) (by omega) (fun v S9 hq => ?_) (fun E9 S9 hq => by cases hq.1)
    obtain ⟨h1, rfl⟩ := hq
    cases h1
    refine ⟨fun h => (by cases h), ?_⟩
    refine mm_i2l dL_feed_9 ?_
    refine s_last (a := 1185) (f := fun σ9 => some σ9) (R := uL σ' 1185 0 w.toInt64) sh_1185 (Nat.le_refl _) (show (0 : Int32).toNatClampNeg = 0 from rfl) (by unfold vp_in; decide) ln_1185 dL_feed_10 rfl (fun σ1 h1 => ?_)
    cases h1
    refine mm_goto 22 dL_feed_11 (by decide) ?_
    refine mm_iconst (v := 0) dL_feed_22 (by decide) ?_
    exact mm_iret dL_feed_23 rfl rfl ⟨rfl, rfl⟩ (by omega) (by omega)
  · rcases List.mem_cons.mp hE with rfl | hE
    · refine mm_callH3 (ci := 11) wM_X11_feed kM_L_7 wI_X11_feed wS_X11_feed dL_feed_6 (e_X11_feed hst hZ (Nat.le_refl _) sh_0 hx) (mem_obj sh_0 (by decide)) (by decide) rfl rfl rfl (Nat.le_of_ble_eq_true rfl) (by omega) (by omega) (fun v S9 hq => by cases hq.1) (fun E9 S9 hq => ?_)
      obtain ⟨h1, rfl⟩ := hq
      cases h1
      refine ⟨rfl, 14, 5, Or.inr ⟨rfl, by decide, _, kC_L_13, Or.inr ⟨wk_IllegalArgumentException_IllegalArgumentException, rfl⟩⟩, by decide, Or.inr ⟨dL_feed_14, ?_⟩⟩
      refine mm_iconst (v := 1) dL_feed_16 (by decide) ?_
      exact mm_iret dL_feed_17 rfl rfl ⟨rfl, rfl⟩ (by omega) (by omega)
    · rcases List.mem_singleton.mp hE with rfl
      refine mm_callH3 (ci := 11) wM_X11_feed kM_L_7 wI_X11_feed wS_X11_feed dL_feed_6 (e_X11_feed hst hZ (Nat.le_refl _) sh_0 hx) (mem_obj sh_0 (by decide)) (by decide) rfl rfl rfl (Nat.le_of_ble_eq_true rfl) (by omega) (by omega) (fun v S9 hq => by cases hq.1) (fun E9 S9 hq => ?_)
      obtain ⟨h1, rfl⟩ := hq
      cases h1
      refine ⟨rfl, 18, 5, Or.inr ⟨rfl, by decide, _, kC_L_13, Or.inl ⟨by decide +kernel, Or.inr ⟨rfl, by decide, _, kC_L_15, Or.inr ⟨wk_IllegalStateException_IllegalStateException, rfl⟩⟩⟩⟩, by decide, Or.inr ⟨dL_feed_18, ?_⟩⟩
      refine mm_iconst (v := 2) dL_feed_20 (by decide) ?_
      exact mm_iret dL_feed_21 rfl rfl ⟨rfl, rfl⟩ (by omega) (by omega)
set_option maxHeartbeats 4000000 in
set_option maxRecDepth 100000 in
theorem w_compile {g : mm_G} {l : Launch} (hst : l.stackTraces = false) {Z : Nat → Nat → Option Nat} (hZ : HZ Z) {d U : Nat} {p0 : Int32} {σ σ' : SG} {r : mm_R} (hx : x_X11_compile U 0 p0 σ = some (r, σ')) (hk : okR [IAE] r) : mm_Ct g l yL_compile (.codeWith yL_compile cL_compile 4 (some .int) hL_compile) (d + 11) 1 6 [.ref 0, .int p0, .ref 1185] (mem Z σ, 1186, true) (mm_nt (fun v S' => v = some (.int (fdC r)) ∧ S' = (mem Z (oF r σ'), 1186, true))) := by
  refine mm_Cw_of hst (by decide) (Nat.le_of_ble_eq_true rfl) ?_
  show mm_V g l RL "compile" cL_compile 4 (some .int) (tableOf hL_compile) (d + 11) 1 6 _ 0 [some (.ref 0), some (.int p0), some (.ref 1185), none] [] (mem Z σ, 1186, true) 0 0
  refine mm_aload_n dL_compile_0 rfl rfl ?_
  refine mm_iconst (v := 0) dL_compile_1 (by decide) ?_
  refine mm_aload_n dL_compile_2 rfl rfl ?_
  refine mm_iload_n dL_compile_3 rfl ?_
  rcases hk with ⟨w, rfl⟩ | ⟨E, hE, rfl⟩
  · refine mm_callH3 (ci := 11) wM_X11_compile kM_L_17 wI_X11_compile wS_X11_compile dL_compile_4 (e_X11_compile hst hZ (Nat.le_refl _) sh_0 hx) (mem_obj sh_0 (by decide)) (by decide) rfl rfl rfl (Nat.le_of_ble_eq_true rfl) (by omega) (by omega) (fun v S9 hq => ?_) (fun E9 S9 hq => by cases hq.1)
    obtain ⟨h1, rfl⟩ := hq
    cases h1
    refine ⟨fun h => (by cases h), ?_⟩
    refine mm_i2l dL_compile_7 ?_
    refine s_last (a := 1185) (f := fun σ9 => some σ9) (R := uL σ' 1185 0 w.toInt64) sh_1185 (Nat.le_refl _) (show (0 : Int32).toNatClampNeg = 0 from rfl) (by unfold vp_in; decide) ln_1185 dL_compile_8 rfl (fun σ1 h1 => ?_)
    cases h1
    refine mm_goto 15 dL_compile_9 (by decide) ?_
    refine mm_iconst (v := 0) dL_compile_15 (by decide) ?_
    exact mm_iret dL_compile_16 rfl rfl ⟨rfl, rfl⟩ (by omega) (by omega)
  · rcases List.mem_singleton.mp hE with rfl
    refine mm_callH3 (ci := 11) wM_X11_compile kM_L_17 wI_X11_compile wS_X11_compile dL_compile_4 (e_X11_compile hst hZ (Nat.le_refl _) sh_0 hx) (mem_obj sh_0 (by decide)) (by decide) rfl rfl rfl (Nat.le_of_ble_eq_true rfl) (by omega) (by omega) (fun v S9 hq => by cases hq.1) (fun E9 S9 hq => ?_)
    obtain ⟨h1, rfl⟩ := hq
    cases h1
    refine ⟨rfl, 12, 3, Or.inr ⟨rfl, by decide, _, kC_L_13, Or.inr ⟨wk_IllegalArgumentException_IllegalArgumentException, rfl⟩⟩, by decide, Or.inl ⟨3, rfl, dL_compile_12, ?_⟩⟩
    refine mm_iconst (v := 1) dL_compile_13 (by decide) ?_
    exact mm_iret dL_compile_14 rfl rfl ⟨rfl, rfl⟩ (by omega) (by omega)
set_option maxHeartbeats 4000000 in
set_option maxRecDepth 100000 in
theorem w_many {g : mm_G} {l : Launch} (hst : l.stackTraces = false) {Z : Nat → Nat → Option Nat} (hZ : HZ Z) {d : Nat} {p0 : Int32} {p1 : Int32} {σ σ' : SG} {r : mm_R} (hx : x_X11_many 0 p0 p1 σ = some (r, σ')) (hk : okR [IAE] r) : mm_Ct g l yL_many (.codeWith yL_many cL_many 5 (some .int) hL_many) (d + 2) 1 6 [.ref 0, .int p0, .int p1, .ref 1185] (mem Z σ, 1186, true) (mm_nt (fun v S' => v = some (.int (fdC r)) ∧ S' = (mem Z (oF r σ'), 1186, true))) := by
  refine mm_Cw_of hst (by decide) (Nat.le_of_ble_eq_true rfl) ?_
  show mm_V g l RL "many" cL_many 5 (some .int) (tableOf hL_many) (d + 2) 1 6 _ 0 [some (.ref 0), some (.int p0), some (.int p1), some (.ref 1185), none] [] (mem Z σ, 1186, true) 0 0
  refine mm_aload_n dL_many_0 rfl rfl ?_
  refine mm_iconst (v := 0) dL_many_1 (by decide) ?_
  refine mm_aload_n dL_many_2 rfl rfl ?_
  refine mm_iload_n dL_many_3 rfl ?_
  refine mm_iload_n dL_many_4 rfl ?_
  rcases hk with ⟨w, rfl⟩ | ⟨E, hE, rfl⟩
  · refine mm_callH3 (ci := 11) wM_X11_many kM_L_21 wI_X11_many wS_X11_many dL_many_5 (e_X11_many hst hZ (Nat.le_refl _) sh_0 hx) (mem_obj sh_0 (by decide)) (by decide) rfl rfl rfl (Nat.le_of_ble_eq_true rfl) (by omega) (by omega) (fun v S9 hq => ?_) (fun E9 S9 hq => by cases hq.1)
    obtain ⟨h1, rfl⟩ := hq
    cases h1
    refine ⟨fun h => (by cases h), ?_⟩
    refine mm_i2l dL_many_8 ?_
    refine s_last (a := 1185) (f := fun σ9 => some σ9) (R := uL σ' 1185 0 w.toInt64) sh_1185 (Nat.le_refl _) (show (0 : Int32).toNatClampNeg = 0 from rfl) (by unfold vp_in; decide) ln_1185 dL_many_9 rfl (fun σ1 h1 => ?_)
    cases h1
    refine mm_goto 17 dL_many_10 (by decide) ?_
    refine mm_iconst (v := 0) dL_many_17 (by decide) ?_
    exact mm_iret dL_many_18 rfl rfl ⟨rfl, rfl⟩ (by omega) (by omega)
  · rcases List.mem_singleton.mp hE with rfl
    refine mm_callH3 (ci := 11) wM_X11_many kM_L_21 wI_X11_many wS_X11_many dL_many_5 (e_X11_many hst hZ (Nat.le_refl _) sh_0 hx) (mem_obj sh_0 (by decide)) (by decide) rfl rfl rfl (Nat.le_of_ble_eq_true rfl) (by omega) (by omega) (fun v S9 hq => by cases hq.1) (fun E9 S9 hq => ?_)
    obtain ⟨h1, rfl⟩ := hq
    cases h1
    refine ⟨rfl, 13, 4, Or.inr ⟨rfl, by decide, _, kC_L_13, Or.inr ⟨wk_IllegalArgumentException_IllegalArgumentException, rfl⟩⟩, by decide, Or.inr ⟨dL_many_13, ?_⟩⟩
    refine mm_iconst (v := 1) dL_many_15 (by decide) ?_
    exact mm_iret dL_many_16 rfl rfl ⟨rfl, rfl⟩ (by omega) (by omega)
set_option maxHeartbeats 4000000 in
set_option maxRecDepth 100000 in
theorem w_field {g : mm_G} {l : Launch} (hst : l.stackTraces = false) {Z : Nat → Nat → Option Nat} (hZ : HZ Z) {d U : Nat} {p0 : Int32} {p1 : Int32} {p2 : Int32} {p3 : Int32} {σ σ' : SG} {r : mm_R} (hx : x_X11_field U 0 p0 p1 p2 p3 σ = some (r, σ')) (hk : okR [IAE] r) : mm_Ct g l yL_field (.codeWith yL_field cL_field 7 (some .int) hL_field) (d + 4) 1 6 [.ref 0, .int p0, .int p1, .int p2, .int p3, .ref 1185] (mem Z σ, 1186, true) (mm_nt (fun v S' => v = some (.int (fdC r)) ∧ S' = (mem Z (oF r σ'), 1186, true))) := by
  refine mm_Cw_of hst (by decide) (Nat.le_of_ble_eq_true rfl) ?_
  show mm_V g l RL "field" cL_field 7 (some .int) (tableOf hL_field) (d + 4) 1 6 _ 0 [some (.ref 0), some (.int p0), some (.int p1), some (.int p2), some (.int p3), some (.ref 1185), none] [] (mem Z σ, 1186, true) 0 0
  refine mm_aload dL_field_0 rfl rfl ?_
  refine mm_iconst (v := 0) dL_field_2 (by decide) ?_
  refine mm_aload_n dL_field_3 rfl rfl ?_
  refine mm_iload_n dL_field_4 rfl ?_
  refine mm_iload_n dL_field_5 rfl ?_
  refine mm_iload_n dL_field_6 rfl ?_
  refine mm_iload dL_field_7 rfl ?_
  rcases hk with ⟨w, rfl⟩ | ⟨E, hE, rfl⟩
  · refine mm_callH3 (ci := 11) wM_X11_field kM_L_25 wI_X11_field wS_X11_field dL_field_9 (e_X11_field hst hZ (Nat.le_refl _) sh_0 hx) (mem_obj sh_0 (by decide)) (by decide) rfl rfl rfl (Nat.le_of_ble_eq_true rfl) (by omega) (by omega) (fun v S9 hq => ?_) (fun E9 S9 hq => by cases hq.1)
    obtain ⟨h1, rfl⟩ := hq
    cases h1
    refine ⟨fun h => (by cases h), ?_⟩
    refine mm_i2l dL_field_12 ?_
    refine s_last (a := 1185) (f := fun σ9 => some σ9) (R := uL σ' 1185 0 w.toInt64) sh_1185 (Nat.le_refl _) (show (0 : Int32).toNatClampNeg = 0 from rfl) (by unfold vp_in; decide) ln_1185 dL_field_13 rfl (fun σ1 h1 => ?_)
    cases h1
    refine mm_goto 21 dL_field_14 (by decide) ?_
    refine mm_iconst (v := 0) dL_field_21 (by decide) ?_
    exact mm_iret dL_field_22 rfl rfl ⟨rfl, rfl⟩ (by omega) (by omega)
  · rcases List.mem_singleton.mp hE with rfl
    refine mm_callH3 (ci := 11) wM_X11_field kM_L_25 wI_X11_field wS_X11_field dL_field_9 (e_X11_field hst hZ (Nat.le_refl _) sh_0 hx) (mem_obj sh_0 (by decide)) (by decide) rfl rfl rfl (Nat.le_of_ble_eq_true rfl) (by omega) (by omega) (fun v S9 hq => by cases hq.1) (fun E9 S9 hq => ?_)
    obtain ⟨h1, rfl⟩ := hq
    cases h1
    refine ⟨rfl, 17, 6, Or.inr ⟨rfl, by decide, _, kC_L_13, Or.inr ⟨wk_IllegalArgumentException_IllegalArgumentException, rfl⟩⟩, by decide, Or.inr ⟨dL_field_17, ?_⟩⟩
    refine mm_iconst (v := 1) dL_field_19 (by decide) ?_
    exact mm_iret dL_field_20 rfl rfl ⟨rfl, rfl⟩ (by omega) (by omega)
set_option maxHeartbeats 4000000 in
set_option maxRecDepth 100000 in
theorem w_find {g : mm_G} {l : Launch} (hst : l.stackTraces = false) {Z : Nat → Nat → Option Nat} (hZ : HZ Z) {d U : Nat} {p0 : Int32} {σ σ' : SG} {r : mm_R} (hx : x_X11_find U 0 p0 σ = some (r, σ')) (hk : okR [IAE] r) : mm_Ct g l yL_find (.codeWith yL_find cL_find 4 (some .int) hL_find) (d + 4) 1 6 [.ref 0, .int p0, .ref 1185] (mem Z σ, 1186, true) (mm_nt (fun v S' => v = some (.int (fdC r)) ∧ S' = (mem Z (oF r σ'), 1186, true))) := by
  refine mm_Cw_of hst (by decide) (Nat.le_of_ble_eq_true rfl) ?_
  show mm_V g l RL "find" cL_find 4 (some .int) (tableOf hL_find) (d + 4) 1 6 _ 0 [some (.ref 0), some (.int p0), some (.ref 1185), none] [] (mem Z σ, 1186, true) 0 0
  refine mm_aload_n dL_find_0 rfl rfl ?_
  refine mm_iconst (v := 0) dL_find_1 (by decide) ?_
  refine mm_aload_n dL_find_2 rfl rfl ?_
  refine mm_iload_n dL_find_3 rfl ?_
  rcases hk with ⟨w, rfl⟩ | ⟨E, hE, rfl⟩
  · refine mm_callH3 (ci := 11) wM_X11_find kM_L_29 wI_X11_find wS_X11_find dL_find_4 (e_X11_find hst hZ (Nat.le_refl _) sh_0 hx) (mem_obj sh_0 (by decide)) (by decide) rfl rfl rfl (Nat.le_of_ble_eq_true rfl) (by omega) (by omega) (fun v S9 hq => ?_) (fun E9 S9 hq => by cases hq.1)
    obtain ⟨h1, rfl⟩ := hq
    cases h1
    refine ⟨fun h => (by cases h), ?_⟩
    refine mm_i2l dL_find_7 ?_
    refine s_last (a := 1185) (f := fun σ9 => some σ9) (R := uL σ' 1185 0 w.toInt64) sh_1185 (Nat.le_refl _) (show (0 : Int32).toNatClampNeg = 0 from rfl) (by unfold vp_in; decide) ln_1185 dL_find_8 rfl (fun σ1 h1 => ?_)
    cases h1
    refine mm_goto 15 dL_find_9 (by decide) ?_
    refine mm_iconst (v := 0) dL_find_15 (by decide) ?_
    exact mm_iret dL_find_16 rfl rfl ⟨rfl, rfl⟩ (by omega) (by omega)
  · rcases List.mem_singleton.mp hE with rfl
    refine mm_callH3 (ci := 11) wM_X11_find kM_L_29 wI_X11_find wS_X11_find dL_find_4 (e_X11_find hst hZ (Nat.le_refl _) sh_0 hx) (mem_obj sh_0 (by decide)) (by decide) rfl rfl rfl (Nat.le_of_ble_eq_true rfl) (by omega) (by omega) (fun v S9 hq => by cases hq.1) (fun E9 S9 hq => ?_)
    obtain ⟨h1, rfl⟩ := hq
    cases h1
    refine ⟨rfl, 12, 3, Or.inr ⟨rfl, by decide, _, kC_L_13, Or.inr ⟨wk_IllegalArgumentException_IllegalArgumentException, rfl⟩⟩, by decide, Or.inl ⟨3, rfl, dL_find_12, ?_⟩⟩
    refine mm_iconst (v := 1) dL_find_13 (by decide) ?_
    exact mm_iret dL_find_14 rfl rfl ⟨rfl, rfl⟩ (by omega) (by omega)
set_option maxHeartbeats 4000000 in
set_option maxRecDepth 100000 in
theorem w_decode {g : mm_G} {l : Launch} (hst : l.stackTraces = false) {Z : Nat → Nat → Option Nat} (hZ : HZ Z) {d U : Nat} {p0 : Int32} {p1 : Int32} {p2 : Int32} {σ σ' : SG} {r : mm_R} (hx : x_X11_decode U 0 p0 p1 p2 σ = some (r, σ')) (hk : okR [IAE, ISE] r) : mm_Ct g l yL_decode (.codeWith yL_decode cL_decode 6 (some .int) hL_decode) (d + 59) 1 6 [.ref 0, .int p0, .int p1, .int p2, .ref 1185] (mem Z σ, 1186, true) (mm_nt (fun v S' => v = some (.int (fdC r)) ∧ S' = (mem Z (oF r σ'), 1186, true))) := by
  refine mm_Cw_of hst (by decide) (Nat.le_of_ble_eq_true rfl) ?_
  show mm_V g l RL "decode" cL_decode 6 (some .int) (tableOf hL_decode) (d + 59) 1 6 _ 0 [some (.ref 0), some (.int p0), some (.int p1), some (.int p2), some (.ref 1185), none] [] (mem Z σ, 1186, true) 0 0
  refine mm_aload dL_decode_0 rfl rfl ?_
  refine mm_iconst (v := 0) dL_decode_2 (by decide) ?_
  refine mm_aload_n dL_decode_3 rfl rfl ?_
  refine mm_iload_n dL_decode_4 rfl ?_
  refine mm_iload_n dL_decode_5 rfl ?_
  refine mm_iload_n dL_decode_6 rfl ?_
  rcases hk with ⟨w, rfl⟩ | ⟨E, hE, rfl⟩
  · refine mm_callH3 (ci := 11) wM_X11_decode kM_L_32 wI_X11_decode wS_X11_decode dL_decode_7 (e_X11_decode hst hZ (Nat.le_refl _) sh_0 hx) (mem_obj sh_0 (by decide)) (by decide) rfl rfl rfl (Nat.le_of_ble_eq_true rfl) (by omega) (by omega) (fun v S9 hq => ?_) (fun E9 S9 hq => by cases hq.1)
    obtain ⟨h1, rfl⟩ := hq
    cases h1
    refine ⟨fun h => (by cases h), ?_⟩
    refine mm_i2l dL_decode_10 ?_
    refine s_last (a := 1185) (f := fun σ9 => some σ9) (R := uL σ' 1185 0 w.toInt64) sh_1185 (Nat.le_refl _) (show (0 : Int32).toNatClampNeg = 0 from rfl) (by unfold vp_in; decide) ln_1185 dL_decode_11 rfl (fun σ1 h1 => ?_)
    cases h1
    refine mm_goto 23 dL_decode_12 (by decide) ?_
    refine mm_iconst (v := 0) dL_decode_23 (by decide) ?_
    exact mm_iret dL_decode_24 rfl rfl ⟨rfl, rfl⟩ (by omega) (by omega)
  · rcases List.mem_cons.mp hE with rfl | hE
    · refine mm_callH3 (ci := 11) wM_X11_decode kM_L_32 wI_X11_decode wS_X11_decode dL_decode_7 (e_X11_decode hst hZ (Nat.le_refl _) sh_0 hx) (mem_obj sh_0 (by decide)) (by decide) rfl rfl rfl (Nat.le_of_ble_eq_true rfl) (by omega) (by omega) (fun v S9 hq => by cases hq.1) (fun E9 S9 hq => ?_)
      obtain ⟨h1, rfl⟩ := hq
      cases h1
      refine ⟨rfl, 15, 5, Or.inr ⟨rfl, by decide, _, kC_L_13, Or.inr ⟨wk_IllegalArgumentException_IllegalArgumentException, rfl⟩⟩, by decide, Or.inr ⟨dL_decode_15, ?_⟩⟩
      refine mm_iconst (v := 1) dL_decode_17 (by decide) ?_
      exact mm_iret dL_decode_18 rfl rfl ⟨rfl, rfl⟩ (by omega) (by omega)
    · rcases List.mem_singleton.mp hE with rfl
      refine mm_callH3 (ci := 11) wM_X11_decode kM_L_32 wI_X11_decode wS_X11_decode dL_decode_7 (e_X11_decode hst hZ (Nat.le_refl _) sh_0 hx) (mem_obj sh_0 (by decide)) (by decide) rfl rfl rfl (Nat.le_of_ble_eq_true rfl) (by omega) (by omega) (fun v S9 hq => by cases hq.1) (fun E9 S9 hq => ?_)
      obtain ⟨h1, rfl⟩ := hq
      cases h1
      refine ⟨rfl, 19, 5, Or.inr ⟨rfl, by decide, _, kC_L_13, Or.inl ⟨by decide +kernel, Or.inr ⟨rfl, by decide, _, kC_L_15, Or.inr ⟨wk_IllegalStateException_IllegalStateException, rfl⟩⟩⟩⟩, by decide, Or.inr ⟨dL_decode_19, ?_⟩⟩
      refine mm_iconst (v := 2) dL_decode_21 (by decide) ?_
      exact mm_iret dL_decode_22 rfl rfl ⟨rfl, rfl⟩ (by omega) (by omega)
set_option maxHeartbeats 4000000 in
set_option maxRecDepth 100000 in
theorem w_parse {g : mm_G} {l : Launch} (hst : l.stackTraces = false) {Z : Nat → Nat → Option Nat} (hZ : HZ Z) {d U : Nat} {p0 : Int32} {p1 : Int32} {p2 : Int32} {σ σ' : SG} {r : mm_R} (hx : x_X11_parse U 0 p0 p1 p2 σ = some (r, σ')) (hk : okR [IAE, ISE] r) : mm_Ct g l yL_parse (.codeWith yL_parse cL_parse 6 (some .int) hL_parse) (d + 65) 1 6 [.ref 0, .int p0, .int p1, .int p2, .ref 1185] (mem Z σ, 1186, true) (mm_nt (fun v S' => v = some (.int (fdC r)) ∧ S' = (mem Z (oF r σ'), 1186, true))) := by
  refine mm_Cw_of hst (by decide) (Nat.le_of_ble_eq_true rfl) ?_
  show mm_V g l RL "parse" cL_parse 6 (some .int) (tableOf hL_parse) (d + 65) 1 6 _ 0 [some (.ref 0), some (.int p0), some (.int p1), some (.int p2), some (.ref 1185), none] [] (mem Z σ, 1186, true) 0 0
  refine mm_aload dL_parse_0 rfl rfl ?_
  refine mm_iconst (v := 0) dL_parse_2 (by decide) ?_
  refine mm_aload_n dL_parse_3 rfl rfl ?_
  refine mm_iload_n dL_parse_4 rfl ?_
  refine mm_iload_n dL_parse_5 rfl ?_
  refine mm_iload_n dL_parse_6 rfl ?_
  rcases hk with ⟨w, rfl⟩ | ⟨E, hE, rfl⟩
  · refine mm_callH3 (ci := 11) wM_X11_parse kM_L_36 wI_X11_parse wS_X11_parse dL_parse_7 (e_X11_parse hst hZ (Nat.le_refl _) sh_0 hx) (mem_obj sh_0 (by decide)) (by decide) rfl rfl rfl (Nat.le_of_ble_eq_true rfl) (by omega) (by omega) (fun v S9 hq => ?_) (fun E9 S9 hq => by cases hq.1)
    obtain ⟨h1, rfl⟩ := hq
    cases h1
    refine ⟨fun h => (by cases h), ?_⟩
    refine mm_i2l dL_parse_10 ?_
    refine s_last (a := 1185) (f := fun σ9 => some σ9) (R := uL σ' 1185 0 w.toInt64) sh_1185 (Nat.le_refl _) (show (0 : Int32).toNatClampNeg = 0 from rfl) (by unfold vp_in; decide) ln_1185 dL_parse_11 rfl (fun σ1 h1 => ?_)
    cases h1
    refine mm_goto 23 dL_parse_12 (by decide) ?_
    refine mm_iconst (v := 0) dL_parse_23 (by decide) ?_
    exact mm_iret dL_parse_24 rfl rfl ⟨rfl, rfl⟩ (by omega) (by omega)
  · rcases List.mem_cons.mp hE with rfl | hE
    · refine mm_callH3 (ci := 11) wM_X11_parse kM_L_36 wI_X11_parse wS_X11_parse dL_parse_7 (e_X11_parse hst hZ (Nat.le_refl _) sh_0 hx) (mem_obj sh_0 (by decide)) (by decide) rfl rfl rfl (Nat.le_of_ble_eq_true rfl) (by omega) (by omega) (fun v S9 hq => by cases hq.1) (fun E9 S9 hq => ?_)
      obtain ⟨h1, rfl⟩ := hq
      cases h1
      refine ⟨rfl, 15, 5, Or.inr ⟨rfl, by decide, _, kC_L_13, Or.inr ⟨wk_IllegalArgumentException_IllegalArgumentException, rfl⟩⟩, by decide, Or.inr ⟨dL_parse_15, ?_⟩⟩
      refine mm_iconst (v := 1) dL_parse_17 (by decide) ?_
      exact mm_iret dL_parse_18 rfl rfl ⟨rfl, rfl⟩ (by omega) (by omega)
    · rcases List.mem_singleton.mp hE with rfl
      refine mm_callH3 (ci := 11) wM_X11_parse kM_L_36 wI_X11_parse wS_X11_parse dL_parse_7 (e_X11_parse hst hZ (Nat.le_refl _) sh_0 hx) (mem_obj sh_0 (by decide)) (by decide) rfl rfl rfl (Nat.le_of_ble_eq_true rfl) (by omega) (by omega) (fun v S9 hq => by cases hq.1) (fun E9 S9 hq => ?_)
      obtain ⟨h1, rfl⟩ := hq
      cases h1
      refine ⟨rfl, 19, 5, Or.inr ⟨rfl, by decide, _, kC_L_13, Or.inl ⟨by decide +kernel, Or.inr ⟨rfl, by decide, _, kC_L_15, Or.inr ⟨wk_IllegalStateException_IllegalStateException, rfl⟩⟩⟩⟩, by decide, Or.inr ⟨dL_parse_19, ?_⟩⟩
      refine mm_iconst (v := 2) dL_parse_21 (by decide) ?_
      exact mm_iret dL_parse_22 rfl rfl ⟨rfl, rfl⟩ (by omega) (by omega)
set_option maxHeartbeats 4000000 in
set_option maxRecDepth 100000 in
theorem w_encode {g : mm_G} {l : Launch} (hst : l.stackTraces = false) {Z : Nat → Nat → Option Nat} (hZ : HZ Z) {d U : Nat} {σ σ' : SG} {r : mm_R} (hx : x_X11_encode U 0 σ = some (r, σ')) (hk : okR [ISE] r) : mm_Ct g l yL_encode (.codeWith yL_encode cL_encode 3 (some .int) hL_encode) (d + 59) 1 6 [.ref 0, .ref 1185] (mem Z σ, 1186, true) (mm_nt (fun v S' => v = some (.int (thS r)) ∧ S' = (mem Z (oF r σ'), 1186, true))) := by
  refine mm_Cw_of hst (by decide) (Nat.le_of_ble_eq_true rfl) ?_
  show mm_V g l RL "encode" cL_encode 3 (some .int) (tableOf hL_encode) (d + 59) 1 6 _ 0 [some (.ref 0), some (.ref 1185), none] [] (mem Z σ, 1186, true) 0 0
  refine mm_aload_n dL_encode_0 rfl rfl ?_
  refine mm_iconst (v := 0) dL_encode_1 (by decide) ?_
  refine mm_aload_n dL_encode_2 rfl rfl ?_
  rcases hk with ⟨w, rfl⟩ | ⟨E, hE, rfl⟩
  · refine mm_callH3 (ci := 11) wM_X11_encode kM_L_39 wI_X11_encode wS_X11_encode dL_encode_3 (e_X11_encode hst hZ (Nat.le_refl _) sh_0 hx) (mem_obj sh_0 (by decide)) (by decide) rfl rfl rfl (Nat.le_of_ble_eq_true rfl) (by omega) (by omega) (fun v S9 hq => ?_) (fun E9 S9 hq => by cases hq.1)
    obtain ⟨h1, rfl⟩ := hq
    cases h1
    refine ⟨fun h => (by cases h), ?_⟩
    refine mm_i2l dL_encode_6 ?_
    refine s_last (a := 1185) (f := fun σ9 => some σ9) (R := uL σ' 1185 0 w.toInt64) sh_1185 (Nat.le_refl _) (show (0 : Int32).toNatClampNeg = 0 from rfl) (by unfold vp_in; decide) ln_1185 dL_encode_7 rfl (fun σ1 h1 => ?_)
    cases h1
    refine mm_goto 14 dL_encode_8 (by decide) ?_
    refine mm_iconst (v := 0) dL_encode_14 (by decide) ?_
    exact mm_iret dL_encode_15 rfl rfl ⟨rfl, rfl⟩ (by omega) (by omega)
  · rcases List.mem_singleton.mp hE with rfl
    refine mm_callH3 (ci := 11) wM_X11_encode kM_L_39 wI_X11_encode wS_X11_encode dL_encode_3 (e_X11_encode hst hZ (Nat.le_refl _) sh_0 hx) (mem_obj sh_0 (by decide)) (by decide) rfl rfl rfl (Nat.le_of_ble_eq_true rfl) (by omega) (by omega) (fun v S9 hq => by cases hq.1) (fun E9 S9 hq => ?_)
    obtain ⟨h1, rfl⟩ := hq
    cases h1
    refine ⟨rfl, 11, 2, Or.inr ⟨rfl, by decide, _, kC_L_15, Or.inr ⟨wk_IllegalStateException_IllegalStateException, rfl⟩⟩, by decide, Or.inl ⟨2, rfl, dL_encode_11, ?_⟩⟩
    refine mm_iconst (v := 1) dL_encode_12 (by decide) ?_
    exact mm_iret dL_encode_13 rfl rfl ⟨rfl, rfl⟩ (by omega) (by omega)
set_option maxHeartbeats 4000000 in
set_option maxRecDepth 100000 in
theorem w_print {g : mm_G} {l : Launch} (hst : l.stackTraces = false) {Z : Nat → Nat → Option Nat} (hZ : HZ Z) {d U : Nat} {σ σ' : SG} {r : mm_R} (hx : x_X11_print U 0 σ = some (r, σ')) (hk : okR [ISE, UOE] r) : mm_Ct g l yL_print (.codeWith yL_print cL_print 3 (some .int) hL_print) (d + 65) 1 6 [.ref 0, .ref 1185] (mem Z σ, 1186, true) (mm_nt (fun v S' => v = some (.int (prC r)) ∧ S' = (mem Z (oF r σ'), 1186, true))) := by
  refine mm_Cw_of hst (by decide) (Nat.le_of_ble_eq_true rfl) ?_
  show mm_V g l RL "print" cL_print 3 (some .int) (tableOf hL_print) (d + 65) 1 6 _ 0 [some (.ref 0), some (.ref 1185), none] [] (mem Z σ, 1186, true) 0 0
  refine mm_aload_n dL_print_0 rfl rfl ?_
  refine mm_iconst (v := 0) dL_print_1 (by decide) ?_
  refine mm_aload_n dL_print_2 rfl rfl ?_
  rcases hk with ⟨w, rfl⟩ | ⟨E, hE, rfl⟩
  · refine mm_callH3 (ci := 11) wM_X11_print kM_L_43 wI_X11_print wS_X11_print dL_print_3 (e_X11_print hst hZ (Nat.le_refl _) sh_0 hx) (mem_obj sh_0 (by decide)) (by decide) rfl rfl rfl (Nat.le_of_ble_eq_true rfl) (by omega) (by omega) (fun v S9 hq => ?_) (fun E9 S9 hq => by cases hq.1)
    obtain ⟨h1, rfl⟩ := hq
    cases h1
    refine ⟨fun h => (by cases h), ?_⟩
    refine mm_i2l dL_print_6 ?_
    refine s_last (a := 1185) (f := fun σ9 => some σ9) (R := uL σ' 1185 0 w.toInt64) sh_1185 (Nat.le_refl _) (show (0 : Int32).toNatClampNeg = 0 from rfl) (by unfold vp_in; decide) ln_1185 dL_print_7 rfl (fun σ1 h1 => ?_)
    cases h1
    refine mm_goto 17 dL_print_8 (by decide) ?_
    refine mm_iconst (v := 0) dL_print_17 (by decide) ?_
    exact mm_iret dL_print_18 rfl rfl ⟨rfl, rfl⟩ (by omega) (by omega)
  · rcases List.mem_cons.mp hE with rfl | hE
    · refine mm_callH3 (ci := 11) wM_X11_print kM_L_43 wI_X11_print wS_X11_print dL_print_3 (e_X11_print hst hZ (Nat.le_refl _) sh_0 hx) (mem_obj sh_0 (by decide)) (by decide) rfl rfl rfl (Nat.le_of_ble_eq_true rfl) (by omega) (by omega) (fun v S9 hq => by cases hq.1) (fun E9 S9 hq => ?_)
      obtain ⟨h1, rfl⟩ := hq
      cases h1
      refine ⟨rfl, 11, 2, Or.inr ⟨rfl, by decide, _, kC_L_15, Or.inr ⟨wk_IllegalStateException_IllegalStateException, rfl⟩⟩, by decide, Or.inl ⟨2, rfl, dL_print_11, ?_⟩⟩
      refine mm_iconst (v := 1) dL_print_12 (by decide) ?_
      exact mm_iret dL_print_13 rfl rfl ⟨rfl, rfl⟩ (by omega) (by omega)
    · rcases List.mem_singleton.mp hE with rfl
      refine mm_callH3 (ci := 11) wM_X11_print kM_L_43 wI_X11_print wS_X11_print dL_print_3 (e_X11_print hst hZ (Nat.le_refl _) sh_0 hx) (mem_obj sh_0 (by decide)) (by decide) rfl rfl rfl (Nat.le_of_ble_eq_true rfl) (by omega) (by omega) (fun v S9 hq => by cases hq.1) (fun E9 S9 hq => ?_)
      obtain ⟨h1, rfl⟩ := hq
      cases h1
      refine ⟨rfl, 14, 2, Or.inr ⟨rfl, by decide, _, kC_L_15, Or.inl ⟨by decide +kernel, Or.inr ⟨rfl, by decide, _, kC_L_46, Or.inr ⟨wk_UnsupportedOperationException_UnsupportedOperationException, rfl⟩⟩⟩⟩, by decide, Or.inl ⟨2, rfl, dL_print_14, ?_⟩⟩
      refine mm_iconst (v := 2) dL_print_15 (by decide) ?_
      exact mm_iret dL_print_16 rfl rfl ⟨rfl, rfl⟩ (by omega) (by omega)
set_option maxHeartbeats 4000000 in
set_option maxRecDepth 100000 in
theorem w_check {g : mm_G} {l : Launch} (hst : l.stackTraces = false) {Z : Nat → Nat → Option Nat} (hZ : HZ Z) {d U : Nat} {p0 : Int32} {p1 : Int32} {σ σ' : SG} {r : mm_R} (hx : x_X11_check U 0 p0 p1 σ = some (r, σ')) (hk : okR [IAE] r) : mm_Ct g l yL_check (.codeWith yL_check cL_check 5 (some .int) hL_check) (d + 5) 1 6 [.ref 0, .int p0, .int p1, .ref 1185] (mem Z σ, 1186, true) (mm_nt (fun v S' => v = some (.int (fdC r)) ∧ S' = (mem Z (oF r σ'), 1186, true))) := by
  refine mm_Cw_of hst (by decide) (Nat.le_of_ble_eq_true rfl) ?_
  show mm_V g l RL "check" cL_check 5 (some .int) (tableOf hL_check) (d + 5) 1 6 _ 0 [some (.ref 0), some (.int p0), some (.int p1), some (.ref 1185), none] [] (mem Z σ, 1186, true) 0 0
  refine mm_aload_n dL_check_0 rfl rfl ?_
  refine mm_iconst (v := 0) dL_check_1 (by decide) ?_
  refine mm_aload_n dL_check_2 rfl rfl ?_
  refine mm_iload_n dL_check_3 rfl ?_
  refine mm_iload_n dL_check_4 rfl ?_
  rcases hk with ⟨w, rfl⟩ | ⟨E, hE, rfl⟩
  · refine mm_callH3 (ci := 11) wM_X11_check kM_L_48 wI_X11_check wS_X11_check dL_check_5 (e_X11_check hst hZ (Nat.le_refl _) sh_0 hx) (mem_obj sh_0 (by decide)) (by decide) rfl rfl rfl (Nat.le_of_ble_eq_true rfl) (by omega) (by omega) (fun v S9 hq => ?_) (fun E9 S9 hq => by cases hq.1)
    obtain ⟨h1, rfl⟩ := hq
    cases h1
    refine ⟨fun h => (by cases h), ?_⟩
    refine mm_i2l dL_check_8 ?_
    refine s_last (a := 1185) (f := fun σ9 => some σ9) (R := uL σ' 1185 0 w.toInt64) sh_1185 (Nat.le_refl _) (show (0 : Int32).toNatClampNeg = 0 from rfl) (by unfold vp_in; decide) ln_1185 dL_check_9 rfl (fun σ1 h1 => ?_)
    cases h1
    refine mm_goto 17 dL_check_10 (by decide) ?_
    refine mm_iconst (v := 0) dL_check_17 (by decide) ?_
    exact mm_iret dL_check_18 rfl rfl ⟨rfl, rfl⟩ (by omega) (by omega)
  · rcases List.mem_singleton.mp hE with rfl
    refine mm_callH3 (ci := 11) wM_X11_check kM_L_48 wI_X11_check wS_X11_check dL_check_5 (e_X11_check hst hZ (Nat.le_refl _) sh_0 hx) (mem_obj sh_0 (by decide)) (by decide) rfl rfl rfl (Nat.le_of_ble_eq_true rfl) (by omega) (by omega) (fun v S9 hq => by cases hq.1) (fun E9 S9 hq => ?_)
    obtain ⟨h1, rfl⟩ := hq
    cases h1
    refine ⟨rfl, 13, 4, Or.inr ⟨rfl, by decide, _, kC_L_13, Or.inr ⟨wk_IllegalArgumentException_IllegalArgumentException, rfl⟩⟩, by decide, Or.inr ⟨dL_check_13, ?_⟩⟩
    refine mm_iconst (v := 1) dL_check_15 (by decide) ?_
    exact mm_iret dL_check_16 rfl rfl ⟨rfl, rfl⟩ (by omega) (by omega)
set_option maxHeartbeats 4000000 in
set_option maxRecDepth 100000 in
theorem w_out {g : mm_G} {l : Launch} (hst : l.stackTraces = false) {Z : Nat → Nat → Option Nat} (hZ : HZ Z) {d U : Nat} {p0 : Int32} {σ σ' : SG} {r : mm_R} (hx : x_X11_out U 0 p0 σ = some (r, σ')) (hk : (∃ w, r = .inl (some (.long w))) ∨ r = .inr IOB) : mm_Ct g l yL_out (.codeWith yL_out cL_out 4 (some .int) hL_out) (d + 2) 1 6 [.ref 0, .int p0, .ref 1185] (mem Z σ, 1186, true) (mm_nt (fun v S' => v = some (.int (otC r)) ∧ S' = (mem Z (oF r σ'), 1186, true))) := by
  refine mm_Cw_of hst (by decide) (Nat.le_of_ble_eq_true rfl) ?_
  show mm_V g l RL "out" cL_out 4 (some .int) (tableOf hL_out) (d + 2) 1 6 _ 0 [some (.ref 0), some (.int p0), some (.ref 1185), none] [] (mem Z σ, 1186, true) 0 0
  refine mm_aload_n dL_out_0 rfl rfl ?_
  refine mm_iconst (v := 0) dL_out_1 (by decide) ?_
  refine mm_aload_n dL_out_2 rfl rfl ?_
  refine mm_iload_n dL_out_3 rfl ?_
  rcases hk with ⟨w, rfl⟩ | rfl
  · refine mm_callH3 (ci := 11) wM_X11_out kM_L_51 wI_X11_out wS_X11_out dL_out_4 (e_X11_out hst hZ (Nat.le_refl _) sh_0 hx) (mem_obj sh_0 (by decide)) (by decide) rfl rfl rfl (Nat.le_of_ble_eq_true rfl) (by omega) (by omega) (fun v S9 hq => ?_) (fun E9 S9 hq => by cases hq.1)
    obtain ⟨h1, rfl⟩ := hq
    cases h1
    refine ⟨fun h => (by cases h), ?_⟩
    refine s_last (a := 1185) (f := fun σ9 => some σ9) (R := uL σ' 1185 0 w) sh_1185 (Nat.le_refl _) (show (0 : Int32).toNatClampNeg = 0 from rfl) (by unfold vp_in; decide) ln_1185 dL_out_7 rfl (fun σ1 h1 => ?_)
    cases h1
    refine mm_goto 14 dL_out_8 (by decide) ?_
    refine mm_iconst (v := 0) dL_out_14 (by decide) ?_
    exact mm_iret dL_out_15 rfl rfl ⟨rfl, rfl⟩ (by omega) (by omega)
  · refine mm_callH3 (ci := 11) wM_X11_out kM_L_51 wI_X11_out wS_X11_out dL_out_4 (e_X11_out hst hZ (Nat.le_refl _) sh_0 hx) (mem_obj sh_0 (by decide)) (by decide) rfl rfl rfl (Nat.le_of_ble_eq_true rfl) (by omega) (by omega) (fun v S9 hq => by cases hq.1) (fun E9 S9 hq => ?_)
    obtain ⟨h1, rfl⟩ := hq
    cases h1
    refine ⟨rfl, 11, 3, Or.inr ⟨rfl, by decide, _, kC_L_55, Or.inr ⟨wk_IndexOutOfBoundsException_IndexOutOfBoundsException, rfl⟩⟩, by decide, Or.inl ⟨3, rfl, dL_out_11, ?_⟩⟩
    refine mm_iconst (v := 1) dL_out_12 (by decide) ?_
    exact mm_iret dL_out_13 rfl rfl ⟨rfl, rfl⟩ (by omega) (by omega)
set_option maxHeartbeats 4000000 in
set_option maxRecDepth 100000 in
theorem w_turn {g : mm_G} {l : Launch} (hst : l.stackTraces = false) {Z : Nat → Nat → Option Nat} (hZ : HZ Z) {d U : Nat} {σ σ' : SG} {r : mm_R} (hx : x_X11_turn U 0 σ = some (r, σ')) (hk : okR [ISE] r) : mm_Ct g l yL_turn (.codeWith yL_turn cL_turn 3 (some .int) hL_turn) (d + 3) 1 6 [.ref 0, .ref 1185] (mem Z σ, 1186, true) (mm_nt (fun v S' => v = some (.int (otC r)) ∧ S' = (mem Z (oF r σ'), 1186, true))) := by
  refine mm_Cw_of hst (by decide) (Nat.le_of_ble_eq_true rfl) ?_
  show mm_V g l RL "turn" cL_turn 3 (some .int) (tableOf hL_turn) (d + 3) 1 6 _ 0 [some (.ref 0), some (.ref 1185), none] [] (mem Z σ, 1186, true) 0 0
  refine mm_aload_n dL_turn_0 rfl rfl ?_
  refine mm_iconst (v := 0) dL_turn_1 (by decide) ?_
  refine mm_aload_n dL_turn_2 rfl rfl ?_
  rcases hk with ⟨w, rfl⟩ | ⟨E, hE, rfl⟩
  · refine mm_callH3 (ci := 11) wM_X11_turn kM_L_57 wI_X11_turn wS_X11_turn dL_turn_3 (e_X11_turn hst hZ (Nat.le_refl _) sh_0 hx) (mem_obj sh_0 (by decide)) (by decide) rfl rfl rfl (Nat.le_of_ble_eq_true rfl) (by omega) (by omega) (fun v S9 hq => ?_) (fun E9 S9 hq => by cases hq.1)
    obtain ⟨h1, rfl⟩ := hq
    cases h1
    refine ⟨fun h => (by cases h), ?_⟩
    refine mm_i2l dL_turn_6 ?_
    refine s_last (a := 1185) (f := fun σ9 => some σ9) (R := uL σ' 1185 0 w.toInt64) sh_1185 (Nat.le_refl _) (show (0 : Int32).toNatClampNeg = 0 from rfl) (by unfold vp_in; decide) ln_1185 dL_turn_7 rfl (fun σ1 h1 => ?_)
    cases h1
    refine mm_goto 14 dL_turn_8 (by decide) ?_
    refine mm_iconst (v := 0) dL_turn_14 (by decide) ?_
    exact mm_iret dL_turn_15 rfl rfl ⟨rfl, rfl⟩ (by omega) (by omega)
  · rcases List.mem_singleton.mp hE with rfl
    refine mm_callH3 (ci := 11) wM_X11_turn kM_L_57 wI_X11_turn wS_X11_turn dL_turn_3 (e_X11_turn hst hZ (Nat.le_refl _) sh_0 hx) (mem_obj sh_0 (by decide)) (by decide) rfl rfl rfl (Nat.le_of_ble_eq_true rfl) (by omega) (by omega) (fun v S9 hq => by cases hq.1) (fun E9 S9 hq => ?_)
    obtain ⟨h1, rfl⟩ := hq
    cases h1
    refine ⟨rfl, 11, 2, Or.inr ⟨rfl, by decide, _, kC_L_15, Or.inr ⟨wk_IllegalStateException_IllegalStateException, rfl⟩⟩, by decide, Or.inl ⟨2, rfl, dL_turn_11, ?_⟩⟩
    refine mm_iconst (v := 1) dL_turn_12 (by decide) ?_
    exact mm_iret dL_turn_13 rfl rfl ⟨rfl, rfl⟩ (by omega) (by omega)
