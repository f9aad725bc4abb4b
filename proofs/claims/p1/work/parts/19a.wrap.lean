set_option maxHeartbeats 4000000 in
set_option maxRecDepth 100000 in
theorem w_compile_0 {g : mm_G} {l : Launch} (hst : l.stackTraces = false) {d : Nat} (M : Nat → mm_C) (h0 : M 0 = .inr (11, [.ref 1, .ref 3, .ref 5, .ref 197, .ref 389, .ref 1094, .ref 1095, .ref 1097, .int (-1)])) (h1 : M 1 = .inr (0, [.ref 2, .int 0, .int 0])) (h5 : M 5 = .inr (2, [.ref 6, .ref 191, .ref 196, .int 0, .int 0])) (h6 : M 6 = .inr (6, [.ref 7, .ref 9, .ref 190, .int 0, .int 0])) (h7 : M 7 = .inr (0, [.ref 8, .int 0, .int 0])) (h190 : M 190 = .inl (0, 5, .inl (fun _ => 0))) (h191 : M 191 = .inr (10, [.ref 7, .ref 192, .ref 193, .ref 194, .ref 195, .int 0, .int 0, .int 0])) (h192 : M 192 = .inl (0, 701, .inl (fun _ => 0))) (h193 : M 193 = .inl (0, 701, .inl (fun _ => 0))) (h194 : M 194 = .inl (0, 701, .inl (fun _ => 0))) (h195 : M 195 = .inl (1, 701, .inr (.inl (fun _ => 0)))) (h196 : M 196 = .inr (5, [.ref 6, .ref 191, .null, .null, .null, .int 0, .int 0, .int 0])) (h389 : M 389 = .inr (8, [.ref 390, .ref 1091, .ref 1092, .int 0, .null, .null])) (h1091 : M 1091 = .inr (4, [.null, .null, .null, .null, .long 0, .int 0, .int 0])) (h1092 : M 1092 = .inr (0, [.ref 1093, .int 0, .int 0])) (h1185 : M 1185 = .inl (1, 1, .inr (.inl (fun _ => 0)))) : mm_Ct g l yL_compile (.codeWith yL_compile cL_compile 4 (some .int) hL_compile) (d + 6) 0 0 [.ref 0, .int 0, .ref 1185] (M, 1186, false) (mm_nt (fun v S' => v = some (.int 0) ∧ S'.2 = (1186, false) ∧ S'.1 1185 = .inl (1, 1, .inr (.inl (vp_updL (fun _ => 0) ((0 : Int32).toNatClampNeg) ((1 : Int32).toInt64)))) ∧ ∀ j, 1101 ≤ j → j ≠ 1185 → S'.1 j = M j)) := by
  refine mm_Cw_of hst (by decide) (Nat.le_of_ble_eq_true rfl) ?_
  show mm_V g l RL "compile" cL_compile 4 (some .int) (tableOf hL_compile) (d + 6) 0 0 _ 0 [some (.ref 0), some (.int 0), some (.ref 1185), none] [] (M, 1186, false) 0 0
  refine mm_aload_n dL_compile_0 rfl rfl ?_
  refine mm_iconst (v := 0) dL_compile_1 (by decide) ?_
  refine mm_aload_n dL_compile_2 rfl rfl ?_
  refine mm_iload_n dL_compile_3 rfl ?_
  refine mm_callH3 (ci := 11) wM_X11_compile kM_L_17 wI_X11_compile wS_X11_compile dL_compile_4 (f_compile_0 hst _  h0 h1 h5 h6 h7 h190 h191 h192 h193 h194 h195 h196 h389 h1091 h1092) h0 (Nat.le_of_ble_eq_true rfl) rfl rfl rfl (Nat.le_of_ble_eq_true rfl) (by omega) (by omega) (fun v S9 hq => ?_) (fun E9 S9 hq => by cases hq.1)
  obtain ⟨M9, z9⟩ := S9
  obtain ⟨hv, hz, hF⟩ := hq
  cases hv
  cases hz
  refine ⟨fun h => ⟨h, rfl⟩, ?_⟩
  refine mm_i2l dL_compile_7 ?_
  refine mm_last3 (mm_frN (hF _ (by omega)) h1185) (Nat.le_of_ble_eq_true rfl) (by unfold vp_in; decide) dL_compile_8 ?_
  refine mm_goto 15 dL_compile_9 (by decide) ?_
  refine mm_iconst (v := 0) dL_compile_15 (by decide) ?_
  refine mm_iret dL_compile_16 rfl rfl ?_ (by omega) (by omega)
  refine ⟨rfl, rfl, ?_⟩
  dsimp only
  exact ⟨mm_up_s, fun x hx hn => mm_upN hn (mm_frN (hF _ hx) (rfl))⟩

set_option maxHeartbeats 4000000 in
set_option maxRecDepth 100000 in
theorem w_compile_1 {g : mm_G} {l : Launch} (hst : l.stackTraces = false) {d : Nat} (M : Nat → mm_C) (h0 : M 0 = .inr (11, [.ref 1, .ref 3, .ref 5, .ref 197, .ref 389, .ref 1094, .ref 1095, .ref 1097, .int (-1)])) (h1 : M 1 = .inr (0, [.ref 2, .int 0, .int 0])) (h197 : M 197 = .inr (2, [.ref 198, .ref 383, .ref 388, .int 0, .int 0])) (h198 : M 198 = .inr (6, [.ref 199, .ref 201, .ref 382, .int 0, .int 0])) (h199 : M 199 = .inr (0, [.ref 200, .int 0, .int 0])) (h382 : M 382 = .inl (0, 5, .inl (fun _ => 0))) (h383 : M 383 = .inr (10, [.ref 199, .ref 384, .ref 385, .ref 386, .ref 387, .int 0, .int 0, .int 0])) (h384 : M 384 = .inl (0, 701, .inl (fun _ => 0))) (h385 : M 385 = .inl (0, 701, .inl (fun _ => 0))) (h386 : M 386 = .inl (0, 701, .inl (fun _ => 0))) (h387 : M 387 = .inl (1, 701, .inr (.inl (fun _ => 0)))) (h388 : M 388 = .inr (5, [.ref 198, .ref 383, .null, .null, .null, .int 0, .int 0, .int 0])) (h389 : M 389 = .inr (8, [.ref 390, .ref 1091, .ref 1092, .int 0, .null, .null])) (h1091 : M 1091 = .inr (4, [.null, .null, .null, .null, .long 0, .int 0, .int 0])) (h1092 : M 1092 = .inr (0, [.ref 1093, .int 0, .int 0])) (h1185 : M 1185 = .inl (1, 1, .inr (.inl (fun _ => 0)))) : mm_Ct g l yL_compile (.codeWith yL_compile cL_compile 4 (some .int) hL_compile) (d + 6) 0 0 [.ref 0, .int 1, .ref 1185] (M, 1186, false) (mm_nt (fun v S' => v = some (.int 0) ∧ S'.2 = (1186, false) ∧ S'.1 1185 = .inl (1, 1, .inr (.inl (vp_updL (fun _ => 0) ((0 : Int32).toNatClampNeg) ((1 : Int32).toInt64)))) ∧ ∀ j, 1101 ≤ j → j ≠ 1185 → S'.1 j = M j)) := by
  refine mm_Cw_of hst (by decide) (Nat.le_of_ble_eq_true rfl) ?_
  show mm_V g l RL "compile" cL_compile 4 (some .int) (tableOf hL_compile) (d + 6) 0 0 _ 0 [some (.ref 0), some (.int 1), some (.ref 1185), none] [] (M, 1186, false) 0 0
  refine mm_aload_n dL_compile_0 rfl rfl ?_
  refine mm_iconst (v := 0) dL_compile_1 (by decide) ?_
  refine mm_aload_n dL_compile_2 rfl rfl ?_
  refine mm_iload_n dL_compile_3 rfl ?_
  refine mm_callH3 (ci := 11) wM_X11_compile kM_L_17 wI_X11_compile wS_X11_compile dL_compile_4 (f_compile_1 hst _  h0 h1 h197 h198 h199 h382 h383 h384 h385 h386 h387 h388 h389 h1091 h1092) h0 (Nat.le_of_ble_eq_true rfl) rfl rfl rfl (Nat.le_of_ble_eq_true rfl) (by omega) (by omega) (fun v S9 hq => ?_) (fun E9 S9 hq => by cases hq.1)
  obtain ⟨M9, z9⟩ := S9
  obtain ⟨hv, hz, hF⟩ := hq
  cases hv
  cases hz
  refine ⟨fun h => ⟨h, rfl⟩, ?_⟩
  refine mm_i2l dL_compile_7 ?_
  refine mm_last3 (mm_frN (hF _ (by omega)) h1185) (Nat.le_of_ble_eq_true rfl) (by unfold vp_in; decide) dL_compile_8 ?_
  refine mm_goto 15 dL_compile_9 (by decide) ?_
  refine mm_iconst (v := 0) dL_compile_15 (by decide) ?_
  refine mm_iret dL_compile_16 rfl rfl ?_ (by omega) (by omega)
  refine ⟨rfl, rfl, ?_⟩
  dsimp only
  exact ⟨mm_up_s, fun x hx hn => mm_upN hn (mm_frN (hF _ hx) (rfl))⟩

set_option maxHeartbeats 4000000 in
set_option maxRecDepth 100000 in
theorem w_compile_x {g : mm_G} {l : Launch} (hst : l.stackTraces = false) {d : Nat} (M : Nat → mm_C) (p : Int32) (hp0 : ¬ p = 0) (hp1 : ¬ p = 1) (h0 : M 0 = .inr (11, [.ref 1, .ref 3, .ref 5, .ref 197, .ref 389, .ref 1094, .ref 1095, .ref 1097, .int (-1)])) (h1185 : M 1185 = .inl (1, 1, .inr (.inl (fun _ => 0)))) : mm_Ct g l yL_compile (.codeWith yL_compile cL_compile 4 (some .int) hL_compile) (d + 2) 1 6 [.ref 0, .int p, .ref 1185] (M, 1186, false) (mm_nt (fun v S' => v = some (.int 1) ∧ S'.2 = (1186, true) ∧ S'.1 1185 = .inl (1, 1, .inr (.inl (fun _ => 0))) ∧ ∀ j, 1101 ≤ j → j ≠ 1185 → S'.1 j = M j)) := by
  refine mm_Cw_of hst (by decide) (Nat.le_of_ble_eq_true rfl) ?_
  show mm_V g l RL "compile" cL_compile 4 (some .int) (tableOf hL_compile) (d + 2) 1 6 _ 0 [some (.ref 0), some (.int p), some (.ref 1185), none] [] (M, 1186, false) 0 0
  refine mm_aload_n dL_compile_0 rfl rfl ?_
  refine mm_iconst (v := 0) dL_compile_1 (by decide) ?_
  refine mm_aload_n dL_compile_2 rfl rfl ?_
  refine mm_iload_n dL_compile_3 rfl ?_
  refine mm_callH3 (ci := 11) wM_X11_compile kM_L_17 wI_X11_compile wS_X11_compile dL_compile_4 (f_compile_x hst _ p hp0 hp1 h0) h0 (Nat.le_of_ble_eq_true rfl) rfl rfl rfl (Nat.le_of_ble_eq_true rfl) (by omega) (by omega) (fun v S9 hq => by cases hq.1) (fun E9 S9 hq => ?_)
  obtain ⟨M9, z9⟩ := S9
  obtain ⟨hE, hz, hF⟩ := hq
  cases hE
  cases hz
  refine ⟨rfl, 12, 3, Or.inr ⟨rfl, by decide, _, kC_L_13, Or.inr ⟨wk_IllegalArgumentException_IllegalArgumentException, rfl⟩⟩, by decide, Or.inl ⟨3, rfl, dL_compile_12, ?_⟩⟩
  refine mm_iconst (v := 1) dL_compile_13 (by decide) ?_
  refine mm_iret dL_compile_14 rfl rfl ?_ (by omega) (by omega)
  refine ⟨rfl, rfl, ?_⟩
  dsimp only
  exact ⟨(mm_frN (hF _ (by omega)) h1185), fun x hx hn => mm_frN (hF _ hx) (rfl)⟩

set_option maxHeartbeats 4000000 in
set_option maxRecDepth 100000 in
theorem w_many_0_0 {g : mm_G} {l : Launch} (hst : l.stackTraces = false) {d : Nat} (M : Nat → mm_C) (h0 : M 0 = .inr (11, [.ref 1, .ref 3, .ref 5, .ref 197, .ref 389, .ref 1094, .ref 1095, .ref 1097, .int (-1)])) (h5 : M 5 = .inr (2, [.ref 6, .ref 191, .ref 196, .int 0, .int 0])) (h6 : M 6 = .inr (6, [.ref 7, .ref 9, .ref 190, .int 0, .int 0])) (h190 : M 190 = .inl (0, 5, .inl (fun _ => 0))) (h1185 : M 1185 = .inl (1, 1, .inr (.inl (fun _ => 0)))) : mm_Ct g l yL_many (.codeWith yL_many cL_many 5 (some .int) hL_many) (d + 2) 0 0 [.ref 0, .int 0, .int 0, .ref 1185] (M, 1186, false) (mm_nt (fun v S' => v = some (.int 0) ∧ S'.2 = (1186, false) ∧ S'.1 1185 = .inl (1, 1, .inr (.inl (vp_updL (fun _ => 0) ((0 : Int32).toNatClampNeg) (((fun _ => 0) (0 : Int32).toNatClampNeg : Int32).toInt64)))) ∧ ∀ j, 1101 ≤ j → j ≠ 1185 → S'.1 j = M j)) := by
  refine mm_Cw_of hst (by decide) (Nat.le_of_ble_eq_true rfl) ?_
  show mm_V g l RL "many" cL_many 5 (some .int) (tableOf hL_many) (d + 2) 0 0 _ 0 [some (.ref 0), some (.int 0), some (.int 0), some (.ref 1185), none] [] (M, 1186, false) 0 0
  refine mm_aload_n dL_many_0 rfl rfl ?_
  refine mm_iconst (v := 0) dL_many_1 (by decide) ?_
  refine mm_aload_n dL_many_2 rfl rfl ?_
  refine mm_iload_n dL_many_3 rfl ?_
  refine mm_iload_n dL_many_4 rfl ?_
  refine mm_callH3 (ci := 11) wM_X11_many kM_L_21 wI_X11_many wS_X11_many dL_many_5 (f_many_0_0 hst _  h0 h5 h6 h190) h0 (Nat.le_of_ble_eq_true rfl) rfl rfl rfl (Nat.le_of_ble_eq_true rfl) (by omega) (by omega) (fun v S9 hq => ?_) (fun E9 S9 hq => by cases hq.1)
  obtain ⟨M9, z9⟩ := S9
  obtain ⟨hv, hz, hF⟩ := hq
  cases hv
  cases hz
  refine ⟨fun h => ⟨h, rfl⟩, ?_⟩
  refine mm_i2l dL_many_8 ?_
  refine mm_last3 (mm_frN (hF _ (by omega)) h1185) (Nat.le_of_ble_eq_true rfl) (by unfold vp_in; decide) dL_many_9 ?_
  refine mm_goto 17 dL_many_10 (by decide) ?_
  refine mm_iconst (v := 0) dL_many_17 (by decide) ?_
  refine mm_iret dL_many_18 rfl rfl ?_ (by omega) (by omega)
  refine ⟨rfl, rfl, ?_⟩
  dsimp only
  exact ⟨mm_up_s, fun x hx hn => mm_upN hn (mm_frN (hF _ hx) (rfl))⟩

set_option maxHeartbeats 4000000 in
set_option maxRecDepth 100000 in
theorem w_many_0_1 {g : mm_G} {l : Launch} (hst : l.stackTraces = false) {d : Nat} (M : Nat → mm_C) (h0 : M 0 = .inr (11, [.ref 1, .ref 3, .ref 5, .ref 197, .ref 389, .ref 1094, .ref 1095, .ref 1097, .int (-1)])) (h5 : M 5 = .inr (2, [.ref 6, .ref 191, .ref 196, .int 0, .int 0])) (h6 : M 6 = .inr (6, [.ref 7, .ref 9, .ref 190, .int 0, .int 0])) (h190 : M 190 = .inl (0, 5, .inl (fun _ => 0))) (h1185 : M 1185 = .inl (1, 1, .inr (.inl (fun _ => 0)))) : mm_Ct g l yL_many (.codeWith yL_many cL_many 5 (some .int) hL_many) (d + 2) 0 0 [.ref 0, .int 0, .int 1, .ref 1185] (M, 1186, false) (mm_nt (fun v S' => v = some (.int 0) ∧ S'.2 = (1186, false) ∧ S'.1 1185 = .inl (1, 1, .inr (.inl (vp_updL (fun _ => 0) ((0 : Int32).toNatClampNeg) (((fun _ => 0) (1 : Int32).toNatClampNeg : Int32).toInt64)))) ∧ ∀ j, 1101 ≤ j → j ≠ 1185 → S'.1 j = M j)) := by
  refine mm_Cw_of hst (by decide) (Nat.le_of_ble_eq_true rfl) ?_
  show mm_V g l RL "many" cL_many 5 (some .int) (tableOf hL_many) (d + 2) 0 0 _ 0 [some (.ref 0), some (.int 0), some (.int 1), some (.ref 1185), none] [] (M, 1186, false) 0 0
  refine mm_aload_n dL_many_0 rfl rfl ?_
  refine mm_iconst (v := 0) dL_many_1 (by decide) ?_
  refine mm_aload_n dL_many_2 rfl rfl ?_
  refine mm_iload_n dL_many_3 rfl ?_
  refine mm_iload_n dL_many_4 rfl ?_
  refine mm_callH3 (ci := 11) wM_X11_many kM_L_21 wI_X11_many wS_X11_many dL_many_5 (f_many_0_1 hst _  h0 h5 h6 h190) h0 (Nat.le_of_ble_eq_true rfl) rfl rfl rfl (Nat.le_of_ble_eq_true rfl) (by omega) (by omega) (fun v S9 hq => ?_) (fun E9 S9 hq => by cases hq.1)
  obtain ⟨M9, z9⟩ := S9
  obtain ⟨hv, hz, hF⟩ := hq
  cases hv
  cases hz
  refine ⟨fun h => ⟨h, rfl⟩, ?_⟩
  refine mm_i2l dL_many_8 ?_
  refine mm_last3 (mm_frN (hF _ (by omega)) h1185) (Nat.le_of_ble_eq_true rfl) (by unfold vp_in; decide) dL_many_9 ?_
  refine mm_goto 17 dL_many_10 (by decide) ?_
  refine mm_iconst (v := 0) dL_many_17 (by decide) ?_
  refine mm_iret dL_many_18 rfl rfl ?_ (by omega) (by omega)
  refine ⟨rfl, rfl, ?_⟩
  dsimp only
  exact ⟨mm_up_s, fun x hx hn => mm_upN hn (mm_frN (hF _ hx) (rfl))⟩

set_option maxHeartbeats 4000000 in
set_option maxRecDepth 100000 in
theorem w_many_0_2 {g : mm_G} {l : Launch} (hst : l.stackTraces = false) {d : Nat} (M : Nat → mm_C) (h0 : M 0 = .inr (11, [.ref 1, .ref 3, .ref 5, .ref 197, .ref 389, .ref 1094, .ref 1095, .ref 1097, .int (-1)])) (h5 : M 5 = .inr (2, [.ref 6, .ref 191, .ref 196, .int 0, .int 0])) (h6 : M 6 = .inr (6, [.ref 7, .ref 9, .ref 190, .int 0, .int 0])) (h190 : M 190 = .inl (0, 5, .inl (fun _ => 0))) (h1185 : M 1185 = .inl (1, 1, .inr (.inl (fun _ => 0)))) : mm_Ct g l yL_many (.codeWith yL_many cL_many 5 (some .int) hL_many) (d + 2) 0 0 [.ref 0, .int 0, .int 2, .ref 1185] (M, 1186, false) (mm_nt (fun v S' => v = some (.int 0) ∧ S'.2 = (1186, false) ∧ S'.1 1185 = .inl (1, 1, .inr (.inl (vp_updL (fun _ => 0) ((0 : Int32).toNatClampNeg) (((fun _ => 0) (2 : Int32).toNatClampNeg : Int32).toInt64)))) ∧ ∀ j, 1101 ≤ j → j ≠ 1185 → S'.1 j = M j)) := by
  refine mm_Cw_of hst (by decide) (Nat.le_of_ble_eq_true rfl) ?_
  show mm_V g l RL "many" cL_many 5 (some .int) (tableOf hL_many) (d + 2) 0 0 _ 0 [some (.ref 0), some (.int 0), some (.int 2), some (.ref 1185), none] [] (M, 1186, false) 0 0
  refine mm_aload_n dL_many_0 rfl rfl ?_
  refine mm_iconst (v := 0) dL_many_1 (by decide) ?_
  refine mm_aload_n dL_many_2 rfl rfl ?_
  refine mm_iload_n dL_many_3 rfl ?_
  refine mm_iload_n dL_many_4 rfl ?_
  refine mm_callH3 (ci := 11) wM_X11_many kM_L_21 wI_X11_many wS_X11_many dL_many_5 (f_many_0_2 hst _  h0 h5 h6 h190) h0 (Nat.le_of_ble_eq_true rfl) rfl rfl rfl (Nat.le_of_ble_eq_true rfl) (by omega) (by omega) (fun v S9 hq => ?_) (fun E9 S9 hq => by cases hq.1)
  obtain ⟨M9, z9⟩ := S9
  obtain ⟨hv, hz, hF⟩ := hq
  cases hv
  cases hz
  refine ⟨fun h => ⟨h, rfl⟩, ?_⟩
  refine mm_i2l dL_many_8 ?_
  refine mm_last3 (mm_frN (hF _ (by omega)) h1185) (Nat.le_of_ble_eq_true rfl) (by unfold vp_in; decide) dL_many_9 ?_
  refine mm_goto 17 dL_many_10 (by decide) ?_
  refine mm_iconst (v := 0) dL_many_17 (by decide) ?_
  refine mm_iret dL_many_18 rfl rfl ?_ (by omega) (by omega)
  refine ⟨rfl, rfl, ?_⟩
  dsimp only
  exact ⟨mm_up_s, fun x hx hn => mm_upN hn (mm_frN (hF _ hx) (rfl))⟩

set_option maxHeartbeats 4000000 in
set_option maxRecDepth 100000 in
theorem w_many_0_n {g : mm_G} {l : Launch} (hst : l.stackTraces = false) {d : Nat} (M : Nat → mm_C) (q : Int32) (hq : q < 0) (h0 : M 0 = .inr (11, [.ref 1, .ref 3, .ref 5, .ref 197, .ref 389, .ref 1094, .ref 1095, .ref 1097, .int (-1)])) (h1185 : M 1185 = .inl (1, 1, .inr (.inl (fun _ => 0)))) : mm_Ct g l yL_many (.codeWith yL_many cL_many 5 (some .int) hL_many) (d + 2) 1 6 [.ref 0, .int 0, .int q, .ref 1185] (M, 1186, false) (mm_nt (fun v S' => v = some (.int 1) ∧ S'.2 = (1186, true) ∧ S'.1 1185 = .inl (1, 1, .inr (.inl (fun _ => 0))) ∧ ∀ j, 1101 ≤ j → j ≠ 1185 → S'.1 j = M j)) := by
  refine mm_Cw_of hst (by decide) (Nat.le_of_ble_eq_true rfl) ?_
  show mm_V g l RL "many" cL_many 5 (some .int) (tableOf hL_many) (d + 2) 1 6 _ 0 [some (.ref 0), some (.int 0), some (.int q), some (.ref 1185), none] [] (M, 1186, false) 0 0
  refine mm_aload_n dL_many_0 rfl rfl ?_
  refine mm_iconst (v := 0) dL_many_1 (by decide) ?_
  refine mm_aload_n dL_many_2 rfl rfl ?_
  refine mm_iload_n dL_many_3 rfl ?_
  refine mm_iload_n dL_many_4 rfl ?_
  refine mm_callH3 (ci := 11) wM_X11_many kM_L_21 wI_X11_many wS_X11_many dL_many_5 (f_many_0_n hst _ q hq h0) h0 (Nat.le_of_ble_eq_true rfl) rfl rfl rfl (Nat.le_of_ble_eq_true rfl) (by omega) (by omega) (fun v S9 hq => by cases hq.1) (fun E9 S9 hq => ?_)
  obtain ⟨M9, z9⟩ := S9
  obtain ⟨hE, hz, hF⟩ := hq
  cases hE
  cases hz
  refine ⟨rfl, 13, 4, Or.inr ⟨rfl, by decide, _, kC_L_13, Or.inr ⟨wk_IllegalArgumentException_IllegalArgumentException, rfl⟩⟩, by decide, Or.inr ⟨dL_many_13, ?_⟩⟩
  refine mm_iconst (v := 1) dL_many_15 (by decide) ?_
  refine mm_iret dL_many_16 rfl rfl ?_ (by omega) (by omega)
  refine ⟨rfl, rfl, ?_⟩
  dsimp only
  exact ⟨(mm_frN (hF _ (by omega)) h1185), fun x hx hn => mm_frN (hF _ hx) (rfl)⟩

set_option maxHeartbeats 4000000 in
set_option maxRecDepth 100000 in
theorem w_many_0_m {g : mm_G} {l : Launch} (hst : l.stackTraces = false) {d : Nat} (M : Nat → mm_C) (q : Int32) (hq0 : ¬ q < 0) (hq : 2 < q) (h0 : M 0 = .inr (11, [.ref 1, .ref 3, .ref 5, .ref 197, .ref 389, .ref 1094, .ref 1095, .ref 1097, .int (-1)])) (h1185 : M 1185 = .inl (1, 1, .inr (.inl (fun _ => 0)))) : mm_Ct g l yL_many (.codeWith yL_many cL_many 5 (some .int) hL_many) (d + 2) 1 6 [.ref 0, .int 0, .int q, .ref 1185] (M, 1186, false) (mm_nt (fun v S' => v = some (.int 1) ∧ S'.2 = (1186, true) ∧ S'.1 1185 = .inl (1, 1, .inr (.inl (fun _ => 0))) ∧ ∀ j, 1101 ≤ j → j ≠ 1185 → S'.1 j = M j)) := by
  refine mm_Cw_of hst (by decide) (Nat.le_of_ble_eq_true rfl) ?_
  show mm_V g l RL "many" cL_many 5 (some .int) (tableOf hL_many) (d + 2) 1 6 _ 0 [some (.ref 0), some (.int 0), some (.int q), some (.ref 1185), none] [] (M, 1186, false) 0 0
  refine mm_aload_n dL_many_0 rfl rfl ?_
  refine mm_iconst (v := 0) dL_many_1 (by decide) ?_
  refine mm_aload_n dL_many_2 rfl rfl ?_
  refine mm_iload_n dL_many_3 rfl ?_
  refine mm_iload_n dL_many_4 rfl ?_
  refine mm_callH3 (ci := 11) wM_X11_many kM_L_21 wI_X11_many wS_X11_many dL_many_5 (f_many_0_m hst _ q hq0 hq h0) h0 (Nat.le_of_ble_eq_true rfl) rfl rfl rfl (Nat.le_of_ble_eq_true rfl) (by omega) (by omega) (fun v S9 hq => by cases hq.1) (fun E9 S9 hq => ?_)
  obtain ⟨M9, z9⟩ := S9
  obtain ⟨hE, hz, hF⟩ := hq
  cases hE
  cases hz
  refine ⟨rfl, 13, 4, Or.inr ⟨rfl, by decide, _, kC_L_13, Or.inr ⟨wk_IllegalArgumentException_IllegalArgumentException, rfl⟩⟩, by decide, Or.inr ⟨dL_many_13, ?_⟩⟩
  refine mm_iconst (v := 1) dL_many_15 (by decide) ?_
  refine mm_iret dL_many_16 rfl rfl ?_ (by omega) (by omega)
  refine ⟨rfl, rfl, ?_⟩
  dsimp only
  exact ⟨(mm_frN (hF _ (by omega)) h1185), fun x hx hn => mm_frN (hF _ hx) (rfl)⟩

set_option maxHeartbeats 4000000 in
set_option maxRecDepth 100000 in
theorem w_many_1_0 {g : mm_G} {l : Launch} (hst : l.stackTraces = false) {d : Nat} (M : Nat → mm_C) (h0 : M 0 = .inr (11, [.ref 1, .ref 3, .ref 5, .ref 197, .ref 389, .ref 1094, .ref 1095, .ref 1097, .int (-1)])) (h197 : M 197 = .inr (2, [.ref 198, .ref 383, .ref 388, .int 0, .int 0])) (h198 : M 198 = .inr (6, [.ref 199, .ref 201, .ref 382, .int 0, .int 0])) (h382 : M 382 = .inl (0, 5, .inl (fun _ => 0))) (h1185 : M 1185 = .inl (1, 1, .inr (.inl (fun _ => 0)))) : mm_Ct g l yL_many (.codeWith yL_many cL_many 5 (some .int) hL_many) (d + 2) 0 0 [.ref 0, .int 1, .int 0, .ref 1185] (M, 1186, false) (mm_nt (fun v S' => v = some (.int 0) ∧ S'.2 = (1186, false) ∧ S'.1 1185 = .inl (1, 1, .inr (.inl (vp_updL (fun _ => 0) ((0 : Int32).toNatClampNeg) (((fun _ => 0) (0 : Int32).toNatClampNeg : Int32).toInt64)))) ∧ ∀ j, 1101 ≤ j → j ≠ 1185 → S'.1 j = M j)) := by
  refine mm_Cw_of hst (by decide) (Nat.le_of_ble_eq_true rfl) ?_
  show mm_V g l RL "many" cL_many 5 (some .int) (tableOf hL_many) (d + 2) 0 0 _ 0 [some (.ref 0), some (.int 1), some (.int 0), some (.ref 1185), none] [] (M, 1186, false) 0 0
  refine mm_aload_n dL_many_0 rfl rfl ?_
  refine mm_iconst (v := 0) dL_many_1 (by decide) ?_
  refine mm_aload_n dL_many_2 rfl rfl ?_
  refine mm_iload_n dL_many_3 rfl ?_
  refine mm_iload_n dL_many_4 rfl ?_
  refine mm_callH3 (ci := 11) wM_X11_many kM_L_21 wI_X11_many wS_X11_many dL_many_5 (f_many_1_0 hst _  h0 h197 h198 h382) h0 (Nat.le_of_ble_eq_true rfl) rfl rfl rfl (Nat.le_of_ble_eq_true rfl) (by omega) (by omega) (fun v S9 hq => ?_) (fun E9 S9 hq => by cases hq.1)
  obtain ⟨M9, z9⟩ := S9
  obtain ⟨hv, hz, hF⟩ := hq
  cases hv
  cases hz
  refine ⟨fun h => ⟨h, rfl⟩, ?_⟩
  refine mm_i2l dL_many_8 ?_
  refine mm_last3 (mm_frN (hF _ (by omega)) h1185) (Nat.le_of_ble_eq_true rfl) (by unfold vp_in; decide) dL_many_9 ?_
  refine mm_goto 17 dL_many_10 (by decide) ?_
  refine mm_iconst (v := 0) dL_many_17 (by decide) ?_
  refine mm_iret dL_many_18 rfl rfl ?_ (by omega) (by omega)
  refine ⟨rfl, rfl, ?_⟩
  dsimp only
  exact ⟨mm_up_s, fun x hx hn => mm_upN hn (mm_frN (hF _ hx) (rfl))⟩

set_option maxHeartbeats 4000000 in
set_option maxRecDepth 100000 in
theorem w_many_1_1 {g : mm_G} {l : Launch} (hst : l.stackTraces = false) {d : Nat} (M : Nat → mm_C) (h0 : M 0 = .inr (11, [.ref 1, .ref 3, .ref 5, .ref 197, .ref 389, .ref 1094, .ref 1095, .ref 1097, .int (-1)])) (h197 : M 197 = .inr (2, [.ref 198, .ref 383, .ref 388, .int 0, .int 0])) (h198 : M 198 = .inr (6, [.ref 199, .ref 201, .ref 382, .int 0, .int 0])) (h382 : M 382 = .inl (0, 5, .inl (fun _ => 0))) (h1185 : M 1185 = .inl (1, 1, .inr (.inl (fun _ => 0)))) : mm_Ct g l yL_many (.codeWith yL_many cL_many 5 (some .int) hL_many) (d + 2) 0 0 [.ref 0, .int 1, .int 1, .ref 1185] (M, 1186, false) (mm_nt (fun v S' => v = some (.int 0) ∧ S'.2 = (1186, false) ∧ S'.1 1185 = .inl (1, 1, .inr (.inl (vp_updL (fun _ => 0) ((0 : Int32).toNatClampNeg) (((fun _ => 0) (1 : Int32).toNatClampNeg : Int32).toInt64)))) ∧ ∀ j, 1101 ≤ j → j ≠ 1185 → S'.1 j = M j)) := by
  refine mm_Cw_of hst (by decide) (Nat.le_of_ble_eq_true rfl) ?_
  show mm_V g l RL "many" cL_many 5 (some .int) (tableOf hL_many) (d + 2) 0 0 _ 0 [some (.ref 0), some (.int 1), some (.int 1), some (.ref 1185), none] [] (M, 1186, false) 0 0
  refine mm_aload_n dL_many_0 rfl rfl ?_
  refine mm_iconst (v := 0) dL_many_1 (by decide) ?_
  refine mm_aload_n dL_many_2 rfl rfl ?_
  refine mm_iload_n dL_many_3 rfl ?_
  refine mm_iload_n dL_many_4 rfl ?_
  refine mm_callH3 (ci := 11) wM_X11_many kM_L_21 wI_X11_many wS_X11_many dL_many_5 (f_many_1_1 hst _  h0 h197 h198 h382) h0 (Nat.le_of_ble_eq_true rfl) rfl rfl rfl (Nat.le_of_ble_eq_true rfl) (by omega) (by omega) (fun v S9 hq => ?_) (fun E9 S9 hq => by cases hq.1)
  obtain ⟨M9, z9⟩ := S9
  obtain ⟨hv, hz, hF⟩ := hq
  cases hv
  cases hz
  refine ⟨fun h => ⟨h, rfl⟩, ?_⟩
  refine mm_i2l dL_many_8 ?_
  refine mm_last3 (mm_frN (hF _ (by omega)) h1185) (Nat.le_of_ble_eq_true rfl) (by unfold vp_in; decide) dL_many_9 ?_
  refine mm_goto 17 dL_many_10 (by decide) ?_
  refine mm_iconst (v := 0) dL_many_17 (by decide) ?_
  refine mm_iret dL_many_18 rfl rfl ?_ (by omega) (by omega)
  refine ⟨rfl, rfl, ?_⟩
  dsimp only
  exact ⟨mm_up_s, fun x hx hn => mm_upN hn (mm_frN (hF _ hx) (rfl))⟩

set_option maxHeartbeats 4000000 in
set_option maxRecDepth 100000 in
theorem w_many_1_2 {g : mm_G} {l : Launch} (hst : l.stackTraces = false) {d : Nat} (M : Nat → mm_C) (h0 : M 0 = .inr (11, [.ref 1, .ref 3, .ref 5, .ref 197, .ref 389, .ref 1094, .ref 1095, .ref 1097, .int (-1)])) (h197 : M 197 = .inr (2, [.ref 198, .ref 383, .ref 388, .int 0, .int 0])) (h198 : M 198 = .inr (6, [.ref 199, .ref 201, .ref 382, .int 0, .int 0])) (h382 : M 382 = .inl (0, 5, .inl (fun _ => 0))) (h1185 : M 1185 = .inl (1, 1, .inr (.inl (fun _ => 0)))) : mm_Ct g l yL_many (.codeWith yL_many cL_many 5 (some .int) hL_many) (d + 2) 0 0 [.ref 0, .int 1, .int 2, .ref 1185] (M, 1186, false) (mm_nt (fun v S' => v = some (.int 0) ∧ S'.2 = (1186, false) ∧ S'.1 1185 = .inl (1, 1, .inr (.inl (vp_updL (fun _ => 0) ((0 : Int32).toNatClampNeg) (((fun _ => 0) (2 : Int32).toNatClampNeg : Int32).toInt64)))) ∧ ∀ j, 1101 ≤ j → j ≠ 1185 → S'.1 j = M j)) := by
  refine mm_Cw_of hst (by decide) (Nat.le_of_ble_eq_true rfl) ?_
  show mm_V g l RL "many" cL_many 5 (some .int) (tableOf hL_many) (d + 2) 0 0 _ 0 [some (.ref 0), some (.int 1), some (.int 2), some (.ref 1185), none] [] (M, 1186, false) 0 0
  refine mm_aload_n dL_many_0 rfl rfl ?_
  refine mm_iconst (v := 0) dL_many_1 (by decide) ?_
  refine mm_aload_n dL_many_2 rfl rfl ?_
  refine mm_iload_n dL_many_3 rfl ?_
  refine mm_iload_n dL_many_4 rfl ?_
  refine mm_callH3 (ci := 11) wM_X11_many kM_L_21 wI_X11_many wS_X11_many dL_many_5 (f_many_1_2 hst _  h0 h197 h198 h382) h0 (Nat.le_of_ble_eq_true rfl) rfl rfl rfl (Nat.le_of_ble_eq_true rfl) (by omega) (by omega) (fun v S9 hq => ?_) (fun E9 S9 hq => by cases hq.1)
  obtain ⟨M9, z9⟩ := S9
  obtain ⟨hv, hz, hF⟩ := hq
  cases hv
  cases hz
  refine ⟨fun h => ⟨h, rfl⟩, ?_⟩
  refine mm_i2l dL_many_8 ?_
  refine mm_last3 (mm_frN (hF _ (by omega)) h1185) (Nat.le_of_ble_eq_true rfl) (by unfold vp_in; decide) dL_many_9 ?_
  refine mm_goto 17 dL_many_10 (by decide) ?_
  refine mm_iconst (v := 0) dL_many_17 (by decide) ?_
  refine mm_iret dL_many_18 rfl rfl ?_ (by omega) (by omega)
  refine ⟨rfl, rfl, ?_⟩
  dsimp only
  exact ⟨mm_up_s, fun x hx hn => mm_upN hn (mm_frN (hF _ hx) (rfl))⟩

set_option maxHeartbeats 4000000 in
set_option maxRecDepth 100000 in
theorem w_many_1_n {g : mm_G} {l : Launch} (hst : l.stackTraces = false) {d : Nat} (M : Nat → mm_C) (q : Int32) (hq : q < 0) (h0 : M 0 = .inr (11, [.ref 1, .ref 3, .ref 5, .ref 197, .ref 389, .ref 1094, .ref 1095, .ref 1097, .int (-1)])) (h1185 : M 1185 = .inl (1, 1, .inr (.inl (fun _ => 0)))) : mm_Ct g l yL_many (.codeWith yL_many cL_many 5 (some .int) hL_many) (d + 2) 1 6 [.ref 0, .int 1, .int q, .ref 1185] (M, 1186, false) (mm_nt (fun v S' => v = some (.int 1) ∧ S'.2 = (1186, true) ∧ S'.1 1185 = .inl (1, 1, .inr (.inl (fun _ => 0))) ∧ ∀ j, 1101 ≤ j → j ≠ 1185 → S'.1 j = M j)) := by
  refine mm_Cw_of hst (by decide) (Nat.le_of_ble_eq_true rfl) ?_
  show mm_V g l RL "many" cL_many 5 (some .int) (tableOf hL_many) (d + 2) 1 6 _ 0 [some (.ref 0), some (.int 1), some (.int q), some (.ref 1185), none] [] (M, 1186, false) 0 0
  refine mm_aload_n dL_many_0 rfl rfl ?_
  refine mm_iconst (v := 0) dL_many_1 (by decide) ?_
  refine mm_aload_n dL_many_2 rfl rfl ?_
  refine mm_iload_n dL_many_3 rfl ?_
  refine mm_iload_n dL_many_4 rfl ?_
  refine mm_callH3 (ci := 11) wM_X11_many kM_L_21 wI_X11_many wS_X11_many dL_many_5 (f_many_1_n hst _ q hq h0) h0 (Nat.le_of_ble_eq_true rfl) rfl rfl rfl (Nat.le_of_ble_eq_true rfl) (by omega) (by omega) (fun v S9 hq => by cases hq.1) (fun E9 S9 hq => ?_)
  obtain ⟨M9, z9⟩ := S9
  obtain ⟨hE, hz, hF⟩ := hq
  cases hE
  cases hz
  refine ⟨rfl, 13, 4, Or.inr ⟨rfl, by decide, _, kC_L_13, Or.inr ⟨wk_IllegalArgumentException_IllegalArgumentException, rfl⟩⟩, by decide, Or.inr ⟨dL_many_13, ?_⟩⟩
  refine mm_iconst (v := 1) dL_many_15 (by decide) ?_
  refine mm_iret dL_many_16 rfl rfl ?_ (by omega) (by omega)
  refine ⟨rfl, rfl, ?_⟩
  dsimp only
  exact ⟨(mm_frN (hF _ (by omega)) h1185), fun x hx hn => mm_frN (hF _ hx) (rfl)⟩

set_option maxHeartbeats 4000000 in
set_option maxRecDepth 100000 in
theorem w_many_1_m {g : mm_G} {l : Launch} (hst : l.stackTraces = false) {d : Nat} (M : Nat → mm_C) (q : Int32) (hq0 : ¬ q < 0) (hq : 2 < q) (h0 : M 0 = .inr (11, [.ref 1, .ref 3, .ref 5, .ref 197, .ref 389, .ref 1094, .ref 1095, .ref 1097, .int (-1)])) (h1185 : M 1185 = .inl (1, 1, .inr (.inl (fun _ => 0)))) : mm_Ct g l yL_many (.codeWith yL_many cL_many 5 (some .int) hL_many) (d + 2) 1 6 [.ref 0, .int 1, .int q, .ref 1185] (M, 1186, false) (mm_nt (fun v S' => v = some (.int 1) ∧ S'.2 = (1186, true) ∧ S'.1 1185 = .inl (1, 1, .inr (.inl (fun _ => 0))) ∧ ∀ j, 1101 ≤ j → j ≠ 1185 → S'.1 j = M j)) := by
  refine mm_Cw_of hst (by decide) (Nat.le_of_ble_eq_true rfl) ?_
  show mm_V g l RL "many" cL_many 5 (some .int) (tableOf hL_many) (d + 2) 1 6 _ 0 [some (.ref 0), some (.int 1), some (.int q), some (.ref 1185), none] [] (M, 1186, false) 0 0
  refine mm_aload_n dL_many_0 rfl rfl ?_
  refine mm_iconst (v := 0) dL_many_1 (by decide) ?_
  refine mm_aload_n dL_many_2 rfl rfl ?_
  refine mm_iload_n dL_many_3 rfl ?_
  refine mm_iload_n dL_many_4 rfl ?_
  refine mm_callH3 (ci := 11) wM_X11_many kM_L_21 wI_X11_many wS_X11_many dL_many_5 (f_many_1_m hst _ q hq0 hq h0) h0 (Nat.le_of_ble_eq_true rfl) rfl rfl rfl (Nat.le_of_ble_eq_true rfl) (by omega) (by omega) (fun v S9 hq => by cases hq.1) (fun E9 S9 hq => ?_)
  obtain ⟨M9, z9⟩ := S9
  obtain ⟨hE, hz, hF⟩ := hq
  cases hE
  cases hz
  refine ⟨rfl, 13, 4, Or.inr ⟨rfl, by decide, _, kC_L_13, Or.inr ⟨wk_IllegalArgumentException_IllegalArgumentException, rfl⟩⟩, by decide, Or.inr ⟨dL_many_13, ?_⟩⟩
  refine mm_iconst (v := 1) dL_many_15 (by decide) ?_
  refine mm_iret dL_many_16 rfl rfl ?_ (by omega) (by omega)
  refine ⟨rfl, rfl, ?_⟩
  dsimp only
  exact ⟨(mm_frN (hF _ (by omega)) h1185), fun x hx hn => mm_frN (hF _ hx) (rfl)⟩

set_option maxHeartbeats 4000000 in
set_option maxRecDepth 100000 in
theorem w_many_x {g : mm_G} {l : Launch} (hst : l.stackTraces = false) {d : Nat} (M : Nat → mm_C) (p : Int32) (hp0 : ¬ p = 0) (hp1 : ¬ p = 1) (q : Int32) (h0 : M 0 = .inr (11, [.ref 1, .ref 3, .ref 5, .ref 197, .ref 389, .ref 1094, .ref 1095, .ref 1097, .int (-1)])) (h1185 : M 1185 = .inl (1, 1, .inr (.inl (fun _ => 0)))) : mm_Ct g l yL_many (.codeWith yL_many cL_many 5 (some .int) hL_many) (d + 2) 1 6 [.ref 0, .int p, .int q, .ref 1185] (M, 1186, false) (mm_nt (fun v S' => v = some (.int 1) ∧ S'.2 = (1186, true) ∧ S'.1 1185 = .inl (1, 1, .inr (.inl (fun _ => 0))) ∧ ∀ j, 1101 ≤ j → j ≠ 1185 → S'.1 j = M j)) := by
  refine mm_Cw_of hst (by decide) (Nat.le_of_ble_eq_true rfl) ?_
  show mm_V g l RL "many" cL_many 5 (some .int) (tableOf hL_many) (d + 2) 1 6 _ 0 [some (.ref 0), some (.int p), some (.int q), some (.ref 1185), none] [] (M, 1186, false) 0 0
  refine mm_aload_n dL_many_0 rfl rfl ?_
  refine mm_iconst (v := 0) dL_many_1 (by decide) ?_
  refine mm_aload_n dL_many_2 rfl rfl ?_
  refine mm_iload_n dL_many_3 rfl ?_
  refine mm_iload_n dL_many_4 rfl ?_
  refine mm_callH3 (ci := 11) wM_X11_many kM_L_21 wI_X11_many wS_X11_many dL_many_5 (f_many_x hst _ p hp0 hp1 q h0) h0 (Nat.le_of_ble_eq_true rfl) rfl rfl rfl (Nat.le_of_ble_eq_true rfl) (by omega) (by omega) (fun v S9 hq => by cases hq.1) (fun E9 S9 hq => ?_)
  obtain ⟨M9, z9⟩ := S9
  obtain ⟨hE, hz, hF⟩ := hq
  cases hE
  cases hz
  refine ⟨rfl, 13, 4, Or.inr ⟨rfl, by decide, _, kC_L_13, Or.inr ⟨wk_IllegalArgumentException_IllegalArgumentException, rfl⟩⟩, by decide, Or.inr ⟨dL_many_13, ?_⟩⟩
  refine mm_iconst (v := 1) dL_many_15 (by decide) ?_
  refine mm_iret dL_many_16 rfl rfl ?_ (by omega) (by omega)
  refine ⟨rfl, rfl, ?_⟩
  dsimp only
  exact ⟨(mm_frN (hF _ (by omega)) h1185), fun x hx hn => mm_frN (hF _ hx) (rfl)⟩

set_option maxHeartbeats 4000000 in
set_option maxRecDepth 100000 in
theorem w_field_0 {g : mm_G} {l : Launch} (hst : l.stackTraces = false) {d : Nat} (M : Nat → mm_C) (q1 q2 q3 : Int32) (h0 : M 0 = .inr (11, [.ref 1, .ref 3, .ref 5, .ref 197, .ref 389, .ref 1094, .ref 1095, .ref 1097, .int (-1)])) (h5 : M 5 = .inr (2, [.ref 6, .ref 191, .ref 196, .int 0, .int 0])) (h6 : M 6 = .inr (6, [.ref 7, .ref 9, .ref 190, .int 0, .int 0])) (h1185 : M 1185 = .inl (1, 1, .inr (.inl (fun _ => 0)))) : mm_Ct g l yL_field (.codeWith yL_field cL_field 7 (some .int) hL_field) (d + 3) 1 6 [.ref 0, .int 0, .int q1, .int q2, .int q3, .ref 1185] (M, 1186, false) (mm_nt (fun v S' => v = some (.int 1) ∧ S'.2 = (1186, true) ∧ S'.1 1185 = .inl (1, 1, .inr (.inl (fun _ => 0))) ∧ ∀ j, 1101 ≤ j → j ≠ 1185 → S'.1 j = M j)) := by
  refine mm_Cw_of hst (by decide) (Nat.le_of_ble_eq_true rfl) ?_
  show mm_V g l RL "field" cL_field 7 (some .int) (tableOf hL_field) (d + 3) 1 6 _ 0 [some (.ref 0), some (.int 0), some (.int q1), some (.int q2), some (.int q3), some (.ref 1185), none] [] (M, 1186, false) 0 0
  refine mm_aload dL_field_0 rfl rfl ?_
  refine mm_iconst (v := 0) dL_field_2 (by decide) ?_
  refine mm_aload_n dL_field_3 rfl rfl ?_
  refine mm_iload_n dL_field_4 rfl ?_
  refine mm_iload_n dL_field_5 rfl ?_
  refine mm_iload_n dL_field_6 rfl ?_
  refine mm_iload dL_field_7 rfl ?_
  refine mm_callH3 (ci := 11) wM_X11_field kM_L_25 wI_X11_field wS_X11_field dL_field_9 (f_field_0 hst _ q1 q2 q3 h0 h5 h6) h0 (Nat.le_of_ble_eq_true rfl) rfl rfl rfl (Nat.le_of_ble_eq_true rfl) (by omega) (by omega) (fun v S9 hq => by cases hq.1) (fun E9 S9 hq => ?_)
  obtain ⟨M9, z9⟩ := S9
  obtain ⟨hE, hz, hF⟩ := hq
  cases hE
  cases hz
  refine ⟨rfl, 17, 6, Or.inr ⟨rfl, by decide, _, kC_L_13, Or.inr ⟨wk_IllegalArgumentException_IllegalArgumentException, rfl⟩⟩, by decide, Or.inr ⟨dL_field_17, ?_⟩⟩
  refine mm_iconst (v := 1) dL_field_19 (by decide) ?_
  refine mm_iret dL_field_20 rfl rfl ?_ (by omega) (by omega)
  refine ⟨rfl, rfl, ?_⟩
  dsimp only
  exact ⟨(mm_frN (hF _ (by omega)) h1185), fun x hx hn => mm_frN (hF _ hx) (rfl)⟩

set_option maxHeartbeats 4000000 in
set_option maxRecDepth 100000 in
theorem w_field_1 {g : mm_G} {l : Launch} (hst : l.stackTraces = false) {d : Nat} (M : Nat → mm_C) (q1 q2 q3 : Int32) (h0 : M 0 = .inr (11, [.ref 1, .ref 3, .ref 5, .ref 197, .ref 389, .ref 1094, .ref 1095, .ref 1097, .int (-1)])) (h197 : M 197 = .inr (2, [.ref 198, .ref 383, .ref 388, .int 0, .int 0])) (h198 : M 198 = .inr (6, [.ref 199, .ref 201, .ref 382, .int 0, .int 0])) (h1185 : M 1185 = .inl (1, 1, .inr (.inl (fun _ => 0)))) : mm_Ct g l yL_field (.codeWith yL_field cL_field 7 (some .int) hL_field) (d + 3) 1 6 [.ref 0, .int 1, .int q1, .int q2, .int q3, .ref 1185] (M, 1186, false) (mm_nt (fun v S' => v = some (.int 1) ∧ S'.2 = (1186, true) ∧ S'.1 1185 = .inl (1, 1, .inr (.inl (fun _ => 0))) ∧ ∀ j, 1101 ≤ j → j ≠ 1185 → S'.1 j = M j)) := by
  refine mm_Cw_of hst (by decide) (Nat.le_of_ble_eq_true rfl) ?_
  show mm_V g l RL "field" cL_field 7 (some .int) (tableOf hL_field) (d + 3) 1 6 _ 0 [some (.ref 0), some (.int 1), some (.int q1), some (.int q2), some (.int q3), some (.ref 1185), none] [] (M, 1186, false) 0 0
  refine mm_aload dL_field_0 rfl rfl ?_
  refine mm_iconst (v := 0) dL_field_2 (by decide) ?_
  refine mm_aload_n dL_field_3 rfl rfl ?_
  refine mm_iload_n dL_field_4 rfl ?_
  refine mm_iload_n dL_field_5 rfl ?_
  refine mm_iload_n dL_field_6 rfl ?_
  refine mm_iload dL_field_7 rfl ?_
  refine mm_callH3 (ci := 11) wM_X11_field kM_L_25 wI_X11_field wS_X11_field dL_field_9 (f_field_1 hst _ q1 q2 q3 h0 h197 h198) h0 (Nat.le_of_ble_eq_true rfl) rfl rfl rfl (Nat.le_of_ble_eq_true rfl) (by omega) (by omega) (fun v S9 hq => by cases hq.1) (fun E9 S9 hq => ?_)
  obtain ⟨M9, z9⟩ := S9
  obtain ⟨hE, hz, hF⟩ := hq
  cases hE
  cases hz
  refine ⟨rfl, 17, 6, Or.inr ⟨rfl, by decide, _, kC_L_13, Or.inr ⟨wk_IllegalArgumentException_IllegalArgumentException, rfl⟩⟩, by decide, Or.inr ⟨dL_field_17, ?_⟩⟩
  refine mm_iconst (v := 1) dL_field_19 (by decide) ?_
  refine mm_iret dL_field_20 rfl rfl ?_ (by omega) (by omega)
  refine ⟨rfl, rfl, ?_⟩
  dsimp only
  exact ⟨(mm_frN (hF _ (by omega)) h1185), fun x hx hn => mm_frN (hF _ hx) (rfl)⟩

set_option maxHeartbeats 4000000 in
set_option maxRecDepth 100000 in
theorem w_field_x {g : mm_G} {l : Launch} (hst : l.stackTraces = false) {d : Nat} (M : Nat → mm_C) (p : Int32) (hp0 : ¬ p = 0) (hp1 : ¬ p = 1) (q1 q2 q3 : Int32) (h0 : M 0 = .inr (11, [.ref 1, .ref 3, .ref 5, .ref 197, .ref 389, .ref 1094, .ref 1095, .ref 1097, .int (-1)])) (h1185 : M 1185 = .inl (1, 1, .inr (.inl (fun _ => 0)))) : mm_Ct g l yL_field (.codeWith yL_field cL_field 7 (some .int) hL_field) (d + 3) 1 6 [.ref 0, .int p, .int q1, .int q2, .int q3, .ref 1185] (M, 1186, false) (mm_nt (fun v S' => v = some (.int 1) ∧ S'.2 = (1186, true) ∧ S'.1 1185 = .inl (1, 1, .inr (.inl (fun _ => 0))) ∧ ∀ j, 1101 ≤ j → j ≠ 1185 → S'.1 j = M j)) := by
  refine mm_Cw_of hst (by decide) (Nat.le_of_ble_eq_true rfl) ?_
  show mm_V g l RL "field" cL_field 7 (some .int) (tableOf hL_field) (d + 3) 1 6 _ 0 [some (.ref 0), some (.int p), some (.int q1), some (.int q2), some (.int q3), some (.ref 1185), none] [] (M, 1186, false) 0 0
  refine mm_aload dL_field_0 rfl rfl ?_
  refine mm_iconst (v := 0) dL_field_2 (by decide) ?_
  refine mm_aload_n dL_field_3 rfl rfl ?_
  refine mm_iload_n dL_field_4 rfl ?_
  refine mm_iload_n dL_field_5 rfl ?_
  refine mm_iload_n dL_field_6 rfl ?_
  refine mm_iload dL_field_7 rfl ?_
  refine mm_callH3 (ci := 11) wM_X11_field kM_L_25 wI_X11_field wS_X11_field dL_field_9 (f_field_x hst _ p hp0 hp1 q1 q2 q3 h0) h0 (Nat.le_of_ble_eq_true rfl) rfl rfl rfl (Nat.le_of_ble_eq_true rfl) (by omega) (by omega) (fun v S9 hq => by cases hq.1) (fun E9 S9 hq => ?_)
  obtain ⟨M9, z9⟩ := S9
  obtain ⟨hE, hz, hF⟩ := hq
  cases hE
  cases hz
  refine ⟨rfl, 17, 6, Or.inr ⟨rfl, by decide, _, kC_L_13, Or.inr ⟨wk_IllegalArgumentException_IllegalArgumentException, rfl⟩⟩, by decide, Or.inr ⟨dL_field_17, ?_⟩⟩
  refine mm_iconst (v := 1) dL_field_19 (by decide) ?_
  refine mm_iret dL_field_20 rfl rfl ?_ (by omega) (by omega)
  refine ⟨rfl, rfl, ?_⟩
  dsimp only
  exact ⟨(mm_frN (hF _ (by omega)) h1185), fun x hx hn => mm_frN (hF _ hx) (rfl)⟩

set_option maxHeartbeats 4000000 in
set_option maxRecDepth 100000 in
theorem w_find_0 {g : mm_G} {l : Launch} (hst : l.stackTraces = false) {d : Nat} (M : Nat → mm_C) (h0 : M 0 = .inr (11, [.ref 1, .ref 3, .ref 5, .ref 197, .ref 389, .ref 1094, .ref 1095, .ref 1097, .int (-1)])) (h1 : M 1 = .inr (0, [.ref 2, .int 0, .int 0])) (h5 : M 5 = .inr (2, [.ref 6, .ref 191, .ref 196, .int 0, .int 0])) (h6 : M 6 = .inr (6, [.ref 7, .ref 9, .ref 190, .int 0, .int 0])) (h1185 : M 1185 = .inl (1, 1, .inr (.inl (fun _ => 0)))) : mm_Ct g l yL_find (.codeWith yL_find cL_find 4 (some .int) hL_find) (d + 2) 0 0 [.ref 0, .int 0, .ref 1185] (M, 1186, false) (mm_nt (fun v S' => v = some (.int 0) ∧ S'.2 = (1186, false) ∧ S'.1 1185 = .inl (1, 1, .inr (.inl (vp_updL (fun _ => 0) ((0 : Int32).toNatClampNeg) (((-1) : Int32).toInt64)))) ∧ ∀ j, 1101 ≤ j → j ≠ 1185 → S'.1 j = M j)) := by
  refine mm_Cw_of hst (by decide) (Nat.le_of_ble_eq_true rfl) ?_
  show mm_V g l RL "find" cL_find 4 (some .int) (tableOf hL_find) (d + 2) 0 0 _ 0 [some (.ref 0), some (.int 0), some (.ref 1185), none] [] (M, 1186, false) 0 0
  refine mm_aload_n dL_find_0 rfl rfl ?_
  refine mm_iconst (v := 0) dL_find_1 (by decide) ?_
  refine mm_aload_n dL_find_2 rfl rfl ?_
  refine mm_iload_n dL_find_3 rfl ?_
  refine mm_callH3 (ci := 11) wM_X11_find kM_L_29 wI_X11_find wS_X11_find dL_find_4 (f_find_0 hst _  h0 h1 h5 h6) h0 (Nat.le_of_ble_eq_true rfl) rfl rfl rfl (Nat.le_of_ble_eq_true rfl) (by omega) (by omega) (fun v S9 hq => ?_) (fun E9 S9 hq => by cases hq.1)
  obtain ⟨M9, z9⟩ := S9
  obtain ⟨hv, hz, hF⟩ := hq
  cases hv
  cases hz
  refine ⟨fun h => ⟨h, rfl⟩, ?_⟩
  refine mm_i2l dL_find_7 ?_
  refine mm_last3 (mm_frN (hF _ (by omega)) h1185) (Nat.le_of_ble_eq_true rfl) (by unfold vp_in; decide) dL_find_8 ?_
  refine mm_goto 15 dL_find_9 (by decide) ?_
  refine mm_iconst (v := 0) dL_find_15 (by decide) ?_
  refine mm_iret dL_find_16 rfl rfl ?_ (by omega) (by omega)
  refine ⟨rfl, rfl, ?_⟩
  dsimp only
  exact ⟨mm_up_s, fun x hx hn => mm_upN hn (mm_frN (hF _ hx) (rfl))⟩

set_option maxHeartbeats 4000000 in
set_option maxRecDepth 100000 in
theorem w_find_1 {g : mm_G} {l : Launch} (hst : l.stackTraces = false) {d : Nat} (M : Nat → mm_C) (h0 : M 0 = .inr (11, [.ref 1, .ref 3, .ref 5, .ref 197, .ref 389, .ref 1094, .ref 1095, .ref 1097, .int (-1)])) (h1 : M 1 = .inr (0, [.ref 2, .int 0, .int 0])) (h197 : M 197 = .inr (2, [.ref 198, .ref 383, .ref 388, .int 0, .int 0])) (h198 : M 198 = .inr (6, [.ref 199, .ref 201, .ref 382, .int 0, .int 0])) (h1185 : M 1185 = .inl (1, 1, .inr (.inl (fun _ => 0)))) : mm_Ct g l yL_find (.codeWith yL_find cL_find 4 (some .int) hL_find) (d + 2) 0 0 [.ref 0, .int 1, .ref 1185] (M, 1186, false) (mm_nt (fun v S' => v = some (.int 0) ∧ S'.2 = (1186, false) ∧ S'.1 1185 = .inl (1, 1, .inr (.inl (vp_updL (fun _ => 0) ((0 : Int32).toNatClampNeg) (((-1) : Int32).toInt64)))) ∧ ∀ j, 1101 ≤ j → j ≠ 1185 → S'.1 j = M j)) := by
  refine mm_Cw_of hst (by decide) (Nat.le_of_ble_eq_true rfl) ?_
  show mm_V g l RL "find" cL_find 4 (some .int) (tableOf hL_find) (d + 2) 0 0 _ 0 [some (.ref 0), some (.int 1), some (.ref 1185), none] [] (M, 1186, false) 0 0
  refine mm_aload_n dL_find_0 rfl rfl ?_
  refine mm_iconst (v := 0) dL_find_1 (by decide) ?_
  refine mm_aload_n dL_find_2 rfl rfl ?_
  refine mm_iload_n dL_find_3 rfl ?_
  refine mm_callH3 (ci := 11) wM_X11_find kM_L_29 wI_X11_find wS_X11_find dL_find_4 (f_find_1 hst _  h0 h1 h197 h198) h0 (Nat.le_of_ble_eq_true rfl) rfl rfl rfl (Nat.le_of_ble_eq_true rfl) (by omega) (by omega) (fun v S9 hq => ?_) (fun E9 S9 hq => by cases hq.1)
  obtain ⟨M9, z9⟩ := S9
  obtain ⟨hv, hz, hF⟩ := hq
  cases hv
  cases hz
  refine ⟨fun h => ⟨h, rfl⟩, ?_⟩
  refine mm_i2l dL_find_7 ?_
  refine mm_last3 (mm_frN (hF _ (by omega)) h1185) (Nat.le_of_ble_eq_true rfl) (by unfold vp_in; decide) dL_find_8 ?_
  refine mm_goto 15 dL_find_9 (by decide) ?_
  refine mm_iconst (v := 0) dL_find_15 (by decide) ?_
  refine mm_iret dL_find_16 rfl rfl ?_ (by omega) (by omega)
  refine ⟨rfl, rfl, ?_⟩
  dsimp only
  exact ⟨mm_up_s, fun x hx hn => mm_upN hn (mm_frN (hF _ hx) (rfl))⟩

set_option maxHeartbeats 4000000 in
set_option maxRecDepth 100000 in
theorem w_find_x {g : mm_G} {l : Launch} (hst : l.stackTraces = false) {d : Nat} (M : Nat → mm_C) (p : Int32) (hp0 : ¬ p = 0) (hp1 : ¬ p = 1) (h0 : M 0 = .inr (11, [.ref 1, .ref 3, .ref 5, .ref 197, .ref 389, .ref 1094, .ref 1095, .ref 1097, .int (-1)])) (h1 : M 1 = .inr (0, [.ref 2, .int 0, .int 0])) (h1185 : M 1185 = .inl (1, 1, .inr (.inl (fun _ => 0)))) : mm_Ct g l yL_find (.codeWith yL_find cL_find 4 (some .int) hL_find) (d + 2) 1 6 [.ref 0, .int p, .ref 1185] (M, 1186, false) (mm_nt (fun v S' => v = some (.int 1) ∧ S'.2 = (1186, true) ∧ S'.1 1185 = .inl (1, 1, .inr (.inl (fun _ => 0))) ∧ ∀ j, 1101 ≤ j → j ≠ 1185 → S'.1 j = M j)) := by
  refine mm_Cw_of hst (by decide) (Nat.le_of_ble_eq_true rfl) ?_
  show mm_V g l RL "find" cL_find 4 (some .int) (tableOf hL_find) (d + 2) 1 6 _ 0 [some (.ref 0), some (.int p), some (.ref 1185), none] [] (M, 1186, false) 0 0
  refine mm_aload_n dL_find_0 rfl rfl ?_
  refine mm_iconst (v := 0) dL_find_1 (by decide) ?_
  refine mm_aload_n dL_find_2 rfl rfl ?_
  refine mm_iload_n dL_find_3 rfl ?_
  refine mm_callH3 (ci := 11) wM_X11_find kM_L_29 wI_X11_find wS_X11_find dL_find_4 (f_find_x hst _ p hp0 hp1 h0 h1) h0 (Nat.le_of_ble_eq_true rfl) rfl rfl rfl (Nat.le_of_ble_eq_true rfl) (by omega) (by omega) (fun v S9 hq => by cases hq.1) (fun E9 S9 hq => ?_)
  obtain ⟨M9, z9⟩ := S9
  obtain ⟨hE, hz, hF⟩ := hq
  cases hE
  cases hz
  refine ⟨rfl, 12, 3, Or.inr ⟨rfl, by decide, _, kC_L_13, Or.inr ⟨wk_IllegalArgumentException_IllegalArgumentException, rfl⟩⟩, by decide, Or.inl ⟨3, rfl, dL_find_12, ?_⟩⟩
  refine mm_iconst (v := 1) dL_find_13 (by decide) ?_
  refine mm_iret dL_find_14 rfl rfl ?_ (by omega) (by omega)
  refine ⟨rfl, rfl, ?_⟩
  dsimp only
  exact ⟨(mm_frN (hF _ (by omega)) h1185), fun x hx hn => mm_frN (hF _ hx) (rfl)⟩

set_option maxHeartbeats 4000000 in
set_option maxRecDepth 100000 in
theorem w_decode_0 {g : mm_G} {l : Launch} (hst : l.stackTraces = false) {d : Nat} (M : Nat → mm_C) (q1 q2 : Int32) (h0 : M 0 = .inr (11, [.ref 1, .ref 3, .ref 5, .ref 197, .ref 389, .ref 1094, .ref 1095, .ref 1097, .int (-1)])) (h1 : M 1 = .inr (0, [.ref 2, .int 0, .int 0])) (h5 : M 5 = .inr (2, [.ref 6, .ref 191, .ref 196, .int 0, .int 0])) (h6 : M 6 = .inr (6, [.ref 7, .ref 9, .ref 190, .int 0, .int 0])) (h389 : M 389 = .inr (8, [.ref 390, .ref 1091, .ref 1092, .int 0, .null, .null])) (h1091 : M 1091 = .inr (4, [.null, .null, .null, .null, .long 0, .int 0, .int 0])) (h1092 : M 1092 = .inr (0, [.ref 1093, .int 0, .int 0])) (h1185 : M 1185 = .inl (1, 1, .inr (.inl (fun _ => 0)))) : mm_Ct g l yL_decode (.codeWith yL_decode cL_decode 6 (some .int) hL_decode) (d + 4) 1 6 [.ref 0, .int 0, .int q1, .int q2, .ref 1185] (M, 1186, false) (mm_nt (fun v S' => v = some (.int 1) ∧ S'.2 = (1186, true) ∧ S'.1 1185 = .inl (1, 1, .inr (.inl (fun _ => 0))) ∧ ∀ j, 1101 ≤ j → j ≠ 1185 → S'.1 j = M j)) := by
  refine mm_Cw_of hst (by decide) (Nat.le_of_ble_eq_true rfl) ?_
  show mm_V g l RL "decode" cL_decode 6 (some .int) (tableOf hL_decode) (d + 4) 1 6 _ 0 [some (.ref 0), some (.int 0), some (.int q1), some (.int q2), some (.ref 1185), none] [] (M, 1186, false) 0 0
  refine mm_aload dL_decode_0 rfl rfl ?_
  refine mm_iconst (v := 0) dL_decode_2 (by decide) ?_
  refine mm_aload_n dL_decode_3 rfl rfl ?_
  refine mm_iload_n dL_decode_4 rfl ?_
  refine mm_iload_n dL_decode_5 rfl ?_
  refine mm_iload_n dL_decode_6 rfl ?_
  refine mm_callH3 (ci := 11) wM_X11_decode kM_L_32 wI_X11_decode wS_X11_decode dL_decode_7 (f_decode_0 hst _ q1 q2 h0 h1 h5 h6 h389 h1091 h1092) h0 (Nat.le_of_ble_eq_true rfl) rfl rfl rfl (Nat.le_of_ble_eq_true rfl) (by omega) (by omega) (fun v S9 hq => by cases hq.1) (fun E9 S9 hq => ?_)
  obtain ⟨M9, z9⟩ := S9
  obtain ⟨hE, hz, hF⟩ := hq
  cases hE
  cases hz
  refine ⟨rfl, 15, 5, Or.inr ⟨rfl, by decide, _, kC_L_13, Or.inr ⟨wk_IllegalArgumentException_IllegalArgumentException, rfl⟩⟩, by decide, Or.inr ⟨dL_decode_15, ?_⟩⟩
  refine mm_iconst (v := 1) dL_decode_17 (by decide) ?_
  refine mm_iret dL_decode_18 rfl rfl ?_ (by omega) (by omega)
  refine ⟨rfl, rfl, ?_⟩
  dsimp only
  exact ⟨(mm_frN (hF _ (by omega)) h1185), fun x hx hn => mm_frN (hF _ hx) (rfl)⟩

set_option maxHeartbeats 4000000 in
set_option maxRecDepth 100000 in
theorem w_decode_1 {g : mm_G} {l : Launch} (hst : l.stackTraces = false) {d : Nat} (M : Nat → mm_C) (q1 q2 : Int32) (h0 : M 0 = .inr (11, [.ref 1, .ref 3, .ref 5, .ref 197, .ref 389, .ref 1094, .ref 1095, .ref 1097, .int (-1)])) (h1 : M 1 = .inr (0, [.ref 2, .int 0, .int 0])) (h197 : M 197 = .inr (2, [.ref 198, .ref 383, .ref 388, .int 0, .int 0])) (h198 : M 198 = .inr (6, [.ref 199, .ref 201, .ref 382, .int 0, .int 0])) (h389 : M 389 = .inr (8, [.ref 390, .ref 1091, .ref 1092, .int 0, .null, .null])) (h1091 : M 1091 = .inr (4, [.null, .null, .null, .null, .long 0, .int 0, .int 0])) (h1092 : M 1092 = .inr (0, [.ref 1093, .int 0, .int 0])) (h1185 : M 1185 = .inl (1, 1, .inr (.inl (fun _ => 0)))) : mm_Ct g l yL_decode (.codeWith yL_decode cL_decode 6 (some .int) hL_decode) (d + 4) 1 6 [.ref 0, .int 1, .int q1, .int q2, .ref 1185] (M, 1186, false) (mm_nt (fun v S' => v = some (.int 1) ∧ S'.2 = (1186, true) ∧ S'.1 1185 = .inl (1, 1, .inr (.inl (fun _ => 0))) ∧ ∀ j, 1101 ≤ j → j ≠ 1185 → S'.1 j = M j)) := by
  refine mm_Cw_of hst (by decide) (Nat.le_of_ble_eq_true rfl) ?_
  show mm_V g l RL "decode" cL_decode 6 (some .int) (tableOf hL_decode) (d + 4) 1 6 _ 0 [some (.ref 0), some (.int 1), some (.int q1), some (.int q2), some (.ref 1185), none] [] (M, 1186, false) 0 0
  refine mm_aload dL_decode_0 rfl rfl ?_
  refine mm_iconst (v := 0) dL_decode_2 (by decide) ?_
  refine mm_aload_n dL_decode_3 rfl rfl ?_
  refine mm_iload_n dL_decode_4 rfl ?_
  refine mm_iload_n dL_decode_5 rfl ?_
  refine mm_iload_n dL_decode_6 rfl ?_
  refine mm_callH3 (ci := 11) wM_X11_decode kM_L_32 wI_X11_decode wS_X11_decode dL_decode_7 (f_decode_1 hst _ q1 q2 h0 h1 h197 h198 h389 h1091 h1092) h0 (Nat.le_of_ble_eq_true rfl) rfl rfl rfl (Nat.le_of_ble_eq_true rfl) (by omega) (by omega) (fun v S9 hq => by cases hq.1) (fun E9 S9 hq => ?_)
  obtain ⟨M9, z9⟩ := S9
  obtain ⟨hE, hz, hF⟩ := hq
  cases hE
  cases hz
  refine ⟨rfl, 15, 5, Or.inr ⟨rfl, by decide, _, kC_L_13, Or.inr ⟨wk_IllegalArgumentException_IllegalArgumentException, rfl⟩⟩, by decide, Or.inr ⟨dL_decode_15, ?_⟩⟩
  refine mm_iconst (v := 1) dL_decode_17 (by decide) ?_
  refine mm_iret dL_decode_18 rfl rfl ?_ (by omega) (by omega)
  refine ⟨rfl, rfl, ?_⟩
  dsimp only
  exact ⟨(mm_frN (hF _ (by omega)) h1185), fun x hx hn => mm_frN (hF _ hx) (rfl)⟩

set_option maxHeartbeats 4000000 in
set_option maxRecDepth 100000 in
theorem w_decode_x {g : mm_G} {l : Launch} (hst : l.stackTraces = false) {d : Nat} (M : Nat → mm_C) (p : Int32) (hp0 : ¬ p = 0) (hp1 : ¬ p = 1) (q1 q2 : Int32) (h0 : M 0 = .inr (11, [.ref 1, .ref 3, .ref 5, .ref 197, .ref 389, .ref 1094, .ref 1095, .ref 1097, .int (-1)])) (h1 : M 1 = .inr (0, [.ref 2, .int 0, .int 0])) (h389 : M 389 = .inr (8, [.ref 390, .ref 1091, .ref 1092, .int 0, .null, .null])) (h1091 : M 1091 = .inr (4, [.null, .null, .null, .null, .long 0, .int 0, .int 0])) (h1092 : M 1092 = .inr (0, [.ref 1093, .int 0, .int 0])) (h1185 : M 1185 = .inl (1, 1, .inr (.inl (fun _ => 0)))) : mm_Ct g l yL_decode (.codeWith yL_decode cL_decode 6 (some .int) hL_decode) (d + 4) 1 6 [.ref 0, .int p, .int q1, .int q2, .ref 1185] (M, 1186, false) (mm_nt (fun v S' => v = some (.int 1) ∧ S'.2 = (1186, true) ∧ S'.1 1185 = .inl (1, 1, .inr (.inl (fun _ => 0))) ∧ ∀ j, 1101 ≤ j → j ≠ 1185 → S'.1 j = M j)) := by
  refine mm_Cw_of hst (by decide) (Nat.le_of_ble_eq_true rfl) ?_
  show mm_V g l RL "decode" cL_decode 6 (some .int) (tableOf hL_decode) (d + 4) 1 6 _ 0 [some (.ref 0), some (.int p), some (.int q1), some (.int q2), some (.ref 1185), none] [] (M, 1186, false) 0 0
  refine mm_aload dL_decode_0 rfl rfl ?_
  refine mm_iconst (v := 0) dL_decode_2 (by decide) ?_
  refine mm_aload_n dL_decode_3 rfl rfl ?_
  refine mm_iload_n dL_decode_4 rfl ?_
  refine mm_iload_n dL_decode_5 rfl ?_
  refine mm_iload_n dL_decode_6 rfl ?_
  refine mm_callH3 (ci := 11) wM_X11_decode kM_L_32 wI_X11_decode wS_X11_decode dL_decode_7 (f_decode_x hst _ p hp0 hp1 q1 q2 h0 h1 h389 h1091 h1092) h0 (Nat.le_of_ble_eq_true rfl) rfl rfl rfl (Nat.le_of_ble_eq_true rfl) (by omega) (by omega) (fun v S9 hq => by cases hq.1) (fun E9 S9 hq => ?_)
  obtain ⟨M9, z9⟩ := S9
  obtain ⟨hE, hz, hF⟩ := hq
  cases hE
  cases hz
  refine ⟨rfl, 15, 5, Or.inr ⟨rfl, by decide, _, kC_L_13, Or.inr ⟨wk_IllegalArgumentException_IllegalArgumentException, rfl⟩⟩, by decide, Or.inr ⟨dL_decode_15, ?_⟩⟩
  refine mm_iconst (v := 1) dL_decode_17 (by decide) ?_
  refine mm_iret dL_decode_18 rfl rfl ?_ (by omega) (by omega)
  refine ⟨rfl, rfl, ?_⟩
  dsimp only
  exact ⟨(mm_frN (hF _ (by omega)) h1185), fun x hx hn => mm_frN (hF _ hx) (rfl)⟩

set_option maxHeartbeats 4000000 in
set_option maxRecDepth 100000 in
theorem w_parse_0 {g : mm_G} {l : Launch} (hst : l.stackTraces = false) {d : Nat} (M : Nat → mm_C) (q1 q2 : Int32) (h0 : M 0 = .inr (11, [.ref 1, .ref 3, .ref 5, .ref 197, .ref 389, .ref 1094, .ref 1095, .ref 1097, .int (-1)])) (h1 : M 1 = .inr (0, [.ref 2, .int 0, .int 0])) (h5 : M 5 = .inr (2, [.ref 6, .ref 191, .ref 196, .int 0, .int 0])) (h6 : M 6 = .inr (6, [.ref 7, .ref 9, .ref 190, .int 0, .int 0])) (h389 : M 389 = .inr (8, [.ref 390, .ref 1091, .ref 1092, .int 0, .null, .null])) (h1091 : M 1091 = .inr (4, [.null, .null, .null, .null, .long 0, .int 0, .int 0])) (h1092 : M 1092 = .inr (0, [.ref 1093, .int 0, .int 0])) (h1185 : M 1185 = .inl (1, 1, .inr (.inl (fun _ => 0)))) : mm_Ct g l yL_parse (.codeWith yL_parse cL_parse 6 (some .int) hL_parse) (d + 4) 1 6 [.ref 0, .int 0, .int q1, .int q2, .ref 1185] (M, 1186, false) (mm_nt (fun v S' => v = some (.int 1) ∧ S'.2 = (1186, true) ∧ S'.1 1185 = .inl (1, 1, .inr (.inl (fun _ => 0))) ∧ ∀ j, 1101 ≤ j → j ≠ 1185 → S'.1 j = M j)) := by
  refine mm_Cw_of hst (by decide) (Nat.le_of_ble_eq_true rfl) ?_
  show mm_V g l RL "parse" cL_parse 6 (some .int) (tableOf hL_parse) (d + 4) 1 6 _ 0 [some (.ref 0), some (.int 0), some (.int q1), some (.int q2), some (.ref 1185), none] [] (M, 1186, false) 0 0
  refine mm_aload dL_parse_0 rfl rfl ?_
  refine mm_iconst (v := 0) dL_parse_2 (by decide) ?_
  refine mm_aload_n dL_parse_3 rfl rfl ?_
  refine mm_iload_n dL_parse_4 rfl ?_
  refine mm_iload_n dL_parse_5 rfl ?_
  refine mm_iload_n dL_parse_6 rfl ?_
  refine mm_callH3 (ci := 11) wM_X11_parse kM_L_36 wI_X11_parse wS_X11_parse dL_parse_7 (f_parse_0 hst _ q1 q2 h0 h1 h5 h6 h389 h1091 h1092) h0 (Nat.le_of_ble_eq_true rfl) rfl rfl rfl (Nat.le_of_ble_eq_true rfl) (by omega) (by omega) (fun v S9 hq => by cases hq.1) (fun E9 S9 hq => ?_)
  obtain ⟨M9, z9⟩ := S9
  obtain ⟨hE, hz, hF⟩ := hq
  cases hE
  cases hz
  refine ⟨rfl, 15, 5, Or.inr ⟨rfl, by decide, _, kC_L_13, Or.inr ⟨wk_IllegalArgumentException_IllegalArgumentException, rfl⟩⟩, by decide, Or.inr ⟨dL_parse_15, ?_⟩⟩
  refine mm_iconst (v := 1) dL_parse_17 (by decide) ?_
  refine mm_iret dL_parse_18 rfl rfl ?_ (by omega) (by omega)
  refine ⟨rfl, rfl, ?_⟩
  dsimp only
  exact ⟨(mm_frN (hF _ (by omega)) h1185), fun x hx hn => mm_frN (hF _ hx) (rfl)⟩

set_option maxHeartbeats 4000000 in
set_option maxRecDepth 100000 in
theorem w_parse_1 {g : mm_G} {l : Launch} (hst : l.stackTraces = false) {d : Nat} (M : Nat → mm_C) (q1 q2 : Int32) (h0 : M 0 = .inr (11, [.ref 1, .ref 3, .ref 5, .ref 197, .ref 389, .ref 1094, .ref 1095, .ref 1097, .int (-1)])) (h1 : M 1 = .inr (0, [.ref 2, .int 0, .int 0])) (h197 : M 197 = .inr (2, [.ref 198, .ref 383, .ref 388, .int 0, .int 0])) (h198 : M 198 = .inr (6, [.ref 199, .ref 201, .ref 382, .int 0, .int 0])) (h389 : M 389 = .inr (8, [.ref 390, .ref 1091, .ref 1092, .int 0, .null, .null])) (h1091 : M 1091 = .inr (4, [.null, .null, .null, .null, .long 0, .int 0, .int 0])) (h1092 : M 1092 = .inr (0, [.ref 1093, .int 0, .int 0])) (h1185 : M 1185 = .inl (1, 1, .inr (.inl (fun _ => 0)))) : mm_Ct g l yL_parse (.codeWith yL_parse cL_parse 6 (some .int) hL_parse) (d + 4) 1 6 [.ref 0, .int 1, .int q1, .int q2, .ref 1185] (M, 1186, false) (mm_nt (fun v S' => v = some (.int 1) ∧ S'.2 = (1186, true) ∧ S'.1 1185 = .inl (1, 1, .inr (.inl (fun _ => 0))) ∧ ∀ j, 1101 ≤ j → j ≠ 1185 → S'.1 j = M j)) := by
  refine mm_Cw_of hst (by decide) (Nat.le_of_ble_eq_true rfl) ?_
  show mm_V g l RL "parse" cL_parse 6 (some .int) (tableOf hL_parse) (d + 4) 1 6 _ 0 [some (.ref 0), some (.int 1), some (.int q1), some (.int q2), some (.ref 1185), none] [] (M, 1186, false) 0 0
  refine mm_aload dL_parse_0 rfl rfl ?_
  refine mm_iconst (v := 0) dL_parse_2 (by decide) ?_
  refine mm_aload_n dL_parse_3 rfl rfl ?_
  refine mm_iload_n dL_parse_4 rfl ?_
  refine mm_iload_n dL_parse_5 rfl ?_
  refine mm_iload_n dL_parse_6 rfl ?_
  refine mm_callH3 (ci := 11) wM_X11_parse kM_L_36 wI_X11_parse wS_X11_parse dL_parse_7 (f_parse_1 hst _ q1 q2 h0 h1 h197 h198 h389 h1091 h1092) h0 (Nat.le_of_ble_eq_true rfl) rfl rfl rfl (Nat.le_of_ble_eq_true rfl) (by omega) (by omega) (fun v S9 hq => by cases hq.1) (fun E9 S9 hq => ?_)
  obtain ⟨M9, z9⟩ := S9
  obtain ⟨hE, hz, hF⟩ := hq
  cases hE
  cases hz
  refine ⟨rfl, 15, 5, Or.inr ⟨rfl, by decide, _, kC_L_13, Or.inr ⟨wk_IllegalArgumentException_IllegalArgumentException, rfl⟩⟩, by decide, Or.inr ⟨dL_parse_15, ?_⟩⟩
  refine mm_iconst (v := 1) dL_parse_17 (by decide) ?_
  refine mm_iret dL_parse_18 rfl rfl ?_ (by omega) (by omega)
  refine ⟨rfl, rfl, ?_⟩
  dsimp only
  exact ⟨(mm_frN (hF _ (by omega)) h1185), fun x hx hn => mm_frN (hF _ hx) (rfl)⟩

set_option maxHeartbeats 4000000 in
set_option maxRecDepth 100000 in
theorem w_parse_x {g : mm_G} {l : Launch} (hst : l.stackTraces = false) {d : Nat} (M : Nat → mm_C) (p : Int32) (hp0 : ¬ p = 0) (hp1 : ¬ p = 1) (q1 q2 : Int32) (h0 : M 0 = .inr (11, [.ref 1, .ref 3, .ref 5, .ref 197, .ref 389, .ref 1094, .ref 1095, .ref 1097, .int (-1)])) (h1 : M 1 = .inr (0, [.ref 2, .int 0, .int 0])) (h389 : M 389 = .inr (8, [.ref 390, .ref 1091, .ref 1092, .int 0, .null, .null])) (h1091 : M 1091 = .inr (4, [.null, .null, .null, .null, .long 0, .int 0, .int 0])) (h1092 : M 1092 = .inr (0, [.ref 1093, .int 0, .int 0])) (h1185 : M 1185 = .inl (1, 1, .inr (.inl (fun _ => 0)))) : mm_Ct g l yL_parse (.codeWith yL_parse cL_parse 6 (some .int) hL_parse) (d + 4) 1 6 [.ref 0, .int p, .int q1, .int q2, .ref 1185] (M, 1186, false) (mm_nt (fun v S' => v = some (.int 1) ∧ S'.2 = (1186, true) ∧ S'.1 1185 = .inl (1, 1, .inr (.inl (fun _ => 0))) ∧ ∀ j, 1101 ≤ j → j ≠ 1185 → S'.1 j = M j)) := by
  refine mm_Cw_of hst (by decide) (Nat.le_of_ble_eq_true rfl) ?_
  show mm_V g l RL "parse" cL_parse 6 (some .int) (tableOf hL_parse) (d + 4) 1 6 _ 0 [some (.ref 0), some (.int p), some (.int q1), some (.int q2), some (.ref 1185), none] [] (M, 1186, false) 0 0
  refine mm_aload dL_parse_0 rfl rfl ?_
  refine mm_iconst (v := 0) dL_parse_2 (by decide) ?_
  refine mm_aload_n dL_parse_3 rfl rfl ?_
  refine mm_iload_n dL_parse_4 rfl ?_
  refine mm_iload_n dL_parse_5 rfl ?_
  refine mm_iload_n dL_parse_6 rfl ?_
  refine mm_callH3 (ci := 11) wM_X11_parse kM_L_36 wI_X11_parse wS_X11_parse dL_parse_7 (f_parse_x hst _ p hp0 hp1 q1 q2 h0 h1 h389 h1091 h1092) h0 (Nat.le_of_ble_eq_true rfl) rfl rfl rfl (Nat.le_of_ble_eq_true rfl) (by omega) (by omega) (fun v S9 hq => by cases hq.1) (fun E9 S9 hq => ?_)
  obtain ⟨M9, z9⟩ := S9
  obtain ⟨hE, hz, hF⟩ := hq
  cases hE
  cases hz
  refine ⟨rfl, 15, 5, Or.inr ⟨rfl, by decide, _, kC_L_13, Or.inr ⟨wk_IllegalArgumentException_IllegalArgumentException, rfl⟩⟩, by decide, Or.inr ⟨dL_parse_15, ?_⟩⟩
  refine mm_iconst (v := 1) dL_parse_17 (by decide) ?_
  refine mm_iret dL_parse_18 rfl rfl ?_ (by omega) (by omega)
  refine ⟨rfl, rfl, ?_⟩
  dsimp only
  exact ⟨(mm_frN (hF _ (by omega)) h1185), fun x hx hn => mm_frN (hF _ hx) (rfl)⟩

set_option maxHeartbeats 4000000 in
set_option maxRecDepth 100000 in
theorem w_encode {g : mm_G} {l : Launch} (hst : l.stackTraces = false) {d : Nat} (M : Nat → mm_C) (h0 : M 0 = .inr (11, [.ref 1, .ref 3, .ref 5, .ref 197, .ref 389, .ref 1094, .ref 1095, .ref 1097, .int (-1)])) (h3 : M 3 = .inr (0, [.ref 4, .int 0, .int 0])) (h389 : M 389 = .inr (8, [.ref 390, .ref 1091, .ref 1092, .int 0, .null, .null])) (h1185 : M 1185 = .inl (1, 1, .inr (.inl (fun _ => 0)))) : mm_Ct g l yL_encode (.codeWith yL_encode cL_encode 3 (some .int) hL_encode) (d + 2) 1 6 [.ref 0, .ref 1185] (M, 1186, false) (mm_nt (fun v S' => v = some (.int 1) ∧ S'.2 = (1186, true) ∧ S'.1 1185 = .inl (1, 1, .inr (.inl (fun _ => 0))) ∧ ∀ j, 1101 ≤ j → j ≠ 1185 → S'.1 j = M j)) := by
  refine mm_Cw_of hst (by decide) (Nat.le_of_ble_eq_true rfl) ?_
  show mm_V g l RL "encode" cL_encode 3 (some .int) (tableOf hL_encode) (d + 2) 1 6 _ 0 [some (.ref 0), some (.ref 1185), none] [] (M, 1186, false) 0 0
  refine mm_aload_n dL_encode_0 rfl rfl ?_
  refine mm_iconst (v := 0) dL_encode_1 (by decide) ?_
  refine mm_aload_n dL_encode_2 rfl rfl ?_
  refine mm_callH3 (ci := 11) wM_X11_encode kM_L_39 wI_X11_encode wS_X11_encode dL_encode_3 (f_encode hst _  h0 h3 h389) h0 (Nat.le_of_ble_eq_true rfl) rfl rfl rfl (Nat.le_of_ble_eq_true rfl) (by omega) (by omega) (fun v S9 hq => by cases hq.1) (fun E9 S9 hq => ?_)
  obtain ⟨M9, z9⟩ := S9
  obtain ⟨hE, hz, hF⟩ := hq
  cases hE
  cases hz
  refine ⟨rfl, 11, 2, Or.inr ⟨rfl, by decide, _, kC_L_15, Or.inr ⟨wk_IllegalStateException_IllegalStateException, rfl⟩⟩, by decide, Or.inl ⟨2, rfl, dL_encode_11, ?_⟩⟩
  refine mm_iconst (v := 1) dL_encode_12 (by decide) ?_
  refine mm_iret dL_encode_13 rfl rfl ?_ (by omega) (by omega)
  refine ⟨rfl, rfl, ?_⟩
  dsimp only
  exact ⟨(mm_frN (hF _ (by omega)) h1185), fun x hx hn => mm_frN (hF _ hx) (rfl)⟩

set_option maxHeartbeats 4000000 in
set_option maxRecDepth 100000 in
theorem w_print {g : mm_G} {l : Launch} (hst : l.stackTraces = false) {d : Nat} (M : Nat → mm_C) (h0 : M 0 = .inr (11, [.ref 1, .ref 3, .ref 5, .ref 197, .ref 389, .ref 1094, .ref 1095, .ref 1097, .int (-1)])) (h3 : M 3 = .inr (0, [.ref 4, .int 0, .int 0])) (h389 : M 389 = .inr (8, [.ref 390, .ref 1091, .ref 1092, .int 0, .null, .null])) (h1185 : M 1185 = .inl (1, 1, .inr (.inl (fun _ => 0)))) : mm_Ct g l yL_print (.codeWith yL_print cL_print 3 (some .int) hL_print) (d + 2) 1 6 [.ref 0, .ref 1185] (M, 1186, false) (mm_nt (fun v S' => v = some (.int 1) ∧ S'.2 = (1186, true) ∧ S'.1 1185 = .inl (1, 1, .inr (.inl (fun _ => 0))) ∧ ∀ j, 1101 ≤ j → j ≠ 1185 → S'.1 j = M j)) := by
  refine mm_Cw_of hst (by decide) (Nat.le_of_ble_eq_true rfl) ?_
  show mm_V g l RL "print" cL_print 3 (some .int) (tableOf hL_print) (d + 2) 1 6 _ 0 [some (.ref 0), some (.ref 1185), none] [] (M, 1186, false) 0 0
  refine mm_aload_n dL_print_0 rfl rfl ?_
  refine mm_iconst (v := 0) dL_print_1 (by decide) ?_
  refine mm_aload_n dL_print_2 rfl rfl ?_
  refine mm_callH3 (ci := 11) wM_X11_print kM_L_43 wI_X11_print wS_X11_print dL_print_3 (f_print hst _  h0 h3 h389) h0 (Nat.le_of_ble_eq_true rfl) rfl rfl rfl (Nat.le_of_ble_eq_true rfl) (by omega) (by omega) (fun v S9 hq => by cases hq.1) (fun E9 S9 hq => ?_)
  obtain ⟨M9, z9⟩ := S9
  obtain ⟨hE, hz, hF⟩ := hq
  cases hE
  cases hz
  refine ⟨rfl, 11, 2, Or.inr ⟨rfl, by decide, _, kC_L_15, Or.inr ⟨wk_IllegalStateException_IllegalStateException, rfl⟩⟩, by decide, Or.inl ⟨2, rfl, dL_print_11, ?_⟩⟩
  refine mm_iconst (v := 1) dL_print_12 (by decide) ?_
  refine mm_iret dL_print_13 rfl rfl ?_ (by omega) (by omega)
  refine ⟨rfl, rfl, ?_⟩
  dsimp only
  exact ⟨(mm_frN (hF _ (by omega)) h1185), fun x hx hn => mm_frN (hF _ hx) (rfl)⟩

set_option maxHeartbeats 4000000 in
set_option maxRecDepth 100000 in
theorem w_check {g : mm_G} {l : Launch} (hst : l.stackTraces = false) {d : Nat} (M : Nat → mm_C) (q1 q2 : Int32) (h0 : M 0 = .inr (11, [.ref 1, .ref 3, .ref 5, .ref 197, .ref 389, .ref 1094, .ref 1095, .ref 1097, .int (-1)])) (h3 : M 3 = .inr (0, [.ref 4, .int 0, .int 0])) (h5 : M 5 = .inr (2, [.ref 6, .ref 191, .ref 196, .int 0, .int 0])) (h6 : M 6 = .inr (6, [.ref 7, .ref 9, .ref 190, .int 0, .int 0])) (h197 : M 197 = .inr (2, [.ref 198, .ref 383, .ref 388, .int 0, .int 0])) (h198 : M 198 = .inr (6, [.ref 199, .ref 201, .ref 382, .int 0, .int 0])) (h1185 : M 1185 = .inl (1, 1, .inr (.inl (fun _ => 0)))) : mm_Ct g l yL_check (.codeWith yL_check cL_check 5 (some .int) hL_check) (d + 2) 1 6 [.ref 0, .int q1, .int q2, .ref 1185] (M, 1186, false) (mm_nt (fun v S' => v = some (.int 1) ∧ S'.2 = (1186, true) ∧ S'.1 1185 = .inl (1, 1, .inr (.inl (fun _ => 0))) ∧ ∀ j, 1101 ≤ j → j ≠ 1185 → S'.1 j = M j)) := by
  refine mm_Cw_of hst (by decide) (Nat.le_of_ble_eq_true rfl) ?_
  show mm_V g l RL "check" cL_check 5 (some .int) (tableOf hL_check) (d + 2) 1 6 _ 0 [some (.ref 0), some (.int q1), some (.int q2), some (.ref 1185), none] [] (M, 1186, false) 0 0
  refine mm_aload_n dL_check_0 rfl rfl ?_
  refine mm_iconst (v := 0) dL_check_1 (by decide) ?_
  refine mm_aload_n dL_check_2 rfl rfl ?_
  refine mm_iload_n dL_check_3 rfl ?_
  refine mm_iload_n dL_check_4 rfl ?_
  refine mm_callH3 (ci := 11) wM_X11_check kM_L_48 wI_X11_check wS_X11_check dL_check_5 (f_check hst _ q1 q2 h0 h3 h5 h6 h197 h198) h0 (Nat.le_of_ble_eq_true rfl) rfl rfl rfl (Nat.le_of_ble_eq_true rfl) (by omega) (by omega) (fun v S9 hq => by cases hq.1) (fun E9 S9 hq => ?_)
  obtain ⟨M9, z9⟩ := S9
  obtain ⟨hE, hz, hF⟩ := hq
  cases hE
  cases hz
  refine ⟨rfl, 13, 4, Or.inr ⟨rfl, by decide, _, kC_L_13, Or.inr ⟨wk_IllegalArgumentException_IllegalArgumentException, rfl⟩⟩, by decide, Or.inr ⟨dL_check_13, ?_⟩⟩
  refine mm_iconst (v := 1) dL_check_15 (by decide) ?_
  refine mm_iret dL_check_16 rfl rfl ?_ (by omega) (by omega)
  refine ⟨rfl, rfl, ?_⟩
  dsimp only
  exact ⟨(mm_frN (hF _ (by omega)) h1185), fun x hx hn => mm_frN (hF _ hx) (rfl)⟩

set_option maxHeartbeats 4000000 in
set_option maxRecDepth 100000 in
theorem w_out_n {g : mm_G} {l : Launch} (hst : l.stackTraces = false) {d : Nat} (M : Nat → mm_C) (p : Int32) (hp : p < 0) (h0 : M 0 = .inr (11, [.ref 1, .ref 3, .ref 5, .ref 197, .ref 389, .ref 1094, .ref 1095, .ref 1097, .int (-1)])) (h1185 : M 1185 = .inl (1, 1, .inr (.inl (fun _ => 0)))) : mm_Ct g l yL_out (.codeWith yL_out cL_out 4 (some .int) hL_out) (d + 1) 1 6 [.ref 0, .int p, .ref 1185] (M, 1186, false) (mm_nt (fun v S' => v = some (.int 1) ∧ S'.2 = (1186, true) ∧ S'.1 1185 = .inl (1, 1, .inr (.inl (fun _ => 0))) ∧ ∀ j, 1101 ≤ j → j ≠ 1185 → S'.1 j = M j)) := by
  refine mm_Cw_of hst (by decide) (Nat.le_of_ble_eq_true rfl) ?_
  show mm_V g l RL "out" cL_out 4 (some .int) (tableOf hL_out) (d + 1) 1 6 _ 0 [some (.ref 0), some (.int p), some (.ref 1185), none] [] (M, 1186, false) 0 0
  refine mm_aload_n dL_out_0 rfl rfl ?_
  refine mm_iconst (v := 0) dL_out_1 (by decide) ?_
  refine mm_aload_n dL_out_2 rfl rfl ?_
  refine mm_iload_n dL_out_3 rfl ?_
  refine mm_callH3 (ci := 11) wM_X11_out kM_L_51 wI_X11_out wS_X11_out dL_out_4 (f_out_n hst _ p hp ) h0 (Nat.le_of_ble_eq_true rfl) rfl rfl rfl (Nat.le_of_ble_eq_true rfl) (by omega) (by omega) (fun v S9 hq => by cases hq.1) (fun E9 S9 hq => ?_)
  obtain ⟨M9, z9⟩ := S9
  obtain ⟨hE, hz, hF⟩ := hq
  cases hE
  cases hz
  refine ⟨rfl, 11, 3, Or.inr ⟨rfl, by decide, _, kC_L_55, Or.inr ⟨wk_IndexOutOfBoundsException_IndexOutOfBoundsException, rfl⟩⟩, by decide, Or.inl ⟨3, rfl, dL_out_11, ?_⟩⟩
  refine mm_iconst (v := 1) dL_out_12 (by decide) ?_
  refine mm_iret dL_out_13 rfl rfl ?_ (by omega) (by omega)
  refine ⟨rfl, rfl, ?_⟩
  dsimp only
  exact ⟨(mm_frN (hF _ (by omega)) h1185), fun x hx hn => mm_frN (hF _ hx) (rfl)⟩

set_option maxHeartbeats 4000000 in
set_option maxRecDepth 100000 in
theorem w_out_m {g : mm_G} {l : Launch} (hst : l.stackTraces = false) {d : Nat} (M : Nat → mm_C) (p : Int32) (hp : ¬ p < 0) (h0 : M 0 = .inr (11, [.ref 1, .ref 3, .ref 5, .ref 197, .ref 389, .ref 1094, .ref 1095, .ref 1097, .int (-1)])) (h3 : M 3 = .inr (0, [.ref 4, .int 0, .int 0])) (h1185 : M 1185 = .inl (1, 1, .inr (.inl (fun _ => 0)))) : mm_Ct g l yL_out (.codeWith yL_out cL_out 4 (some .int) hL_out) (d + 2) 1 6 [.ref 0, .int p, .ref 1185] (M, 1186, false) (mm_nt (fun v S' => v = some (.int 1) ∧ S'.2 = (1186, true) ∧ S'.1 1185 = .inl (1, 1, .inr (.inl (fun _ => 0))) ∧ ∀ j, 1101 ≤ j → j ≠ 1185 → S'.1 j = M j)) := by
  refine mm_Cw_of hst (by decide) (Nat.le_of_ble_eq_true rfl) ?_
  show mm_V g l RL "out" cL_out 4 (some .int) (tableOf hL_out) (d + 2) 1 6 _ 0 [some (.ref 0), some (.int p), some (.ref 1185), none] [] (M, 1186, false) 0 0
  refine mm_aload_n dL_out_0 rfl rfl ?_
  refine mm_iconst (v := 0) dL_out_1 (by decide) ?_
  refine mm_aload_n dL_out_2 rfl rfl ?_
  refine mm_iload_n dL_out_3 rfl ?_
  refine mm_callH3 (ci := 11) wM_X11_out kM_L_51 wI_X11_out wS_X11_out dL_out_4 (f_out_m hst _ p hp h0 h3) h0 (Nat.le_of_ble_eq_true rfl) rfl rfl rfl (Nat.le_of_ble_eq_true rfl) (by omega) (by omega) (fun v S9 hq => by cases hq.1) (fun E9 S9 hq => ?_)
  obtain ⟨M9, z9⟩ := S9
  obtain ⟨hE, hz, hF⟩ := hq
  cases hE
  cases hz
  refine ⟨rfl, 11, 3, Or.inr ⟨rfl, by decide, _, kC_L_55, Or.inr ⟨wk_IndexOutOfBoundsException_IndexOutOfBoundsException, rfl⟩⟩, by decide, Or.inl ⟨3, rfl, dL_out_11, ?_⟩⟩
  refine mm_iconst (v := 1) dL_out_12 (by decide) ?_
  refine mm_iret dL_out_13 rfl rfl ?_ (by omega) (by omega)
  refine ⟨rfl, rfl, ?_⟩
  dsimp only
  exact ⟨(mm_frN (hF _ (by omega)) h1185), fun x hx hn => mm_frN (hF _ hx) (rfl)⟩

set_option maxHeartbeats 4000000 in
set_option maxRecDepth 100000 in
theorem w_turn {g : mm_G} {l : Launch} (hst : l.stackTraces = false) {d : Nat} (M : Nat → mm_C) (h0 : M 0 = .inr (11, [.ref 1, .ref 3, .ref 5, .ref 197, .ref 389, .ref 1094, .ref 1095, .ref 1097, .int (-1)])) (h1 : M 1 = .inr (0, [.ref 2, .int 0, .int 0])) (h3 : M 3 = .inr (0, [.ref 4, .int 0, .int 0])) (h1185 : M 1185 = .inl (1, 1, .inr (.inl (fun _ => 0)))) : mm_Ct g l yL_turn (.codeWith yL_turn cL_turn 3 (some .int) hL_turn) (d + 2) 0 0 [.ref 0, .ref 1185] (M, 1186, false) (mm_nt (fun v S' => v = some (.int 0) ∧ S'.2 = (1186, false) ∧ S'.1 1185 = .inl (1, 1, .inr (.inl (vp_updL (fun _ => 0) ((0 : Int32).toNatClampNeg) ((0 : Int32).toInt64)))) ∧ ∀ j, 1101 ≤ j → j ≠ 1185 → S'.1 j = M j)) := by
  refine mm_Cw_of hst (by decide) (Nat.le_of_ble_eq_true rfl) ?_
  show mm_V g l RL "turn" cL_turn 3 (some .int) (tableOf hL_turn) (d + 2) 0 0 _ 0 [some (.ref 0), some (.ref 1185), none] [] (M, 1186, false) 0 0
  refine mm_aload_n dL_turn_0 rfl rfl ?_
  refine mm_iconst (v := 0) dL_turn_1 (by decide) ?_
  refine mm_aload_n dL_turn_2 rfl rfl ?_
  refine mm_callH3 (ci := 11) wM_X11_turn kM_L_57 wI_X11_turn wS_X11_turn dL_turn_3 (f_turn hst _  h0 h1 h3) h0 (Nat.le_of_ble_eq_true rfl) rfl rfl rfl (Nat.le_of_ble_eq_true rfl) (by omega) (by omega) (fun v S9 hq => ?_) (fun E9 S9 hq => by cases hq.1)
  obtain ⟨M9, z9⟩ := S9
  obtain ⟨hv, hz, hF⟩ := hq
  cases hv
  cases hz
  refine ⟨fun h => ⟨h, rfl⟩, ?_⟩
  refine mm_i2l dL_turn_6 ?_
  refine mm_last3 (mm_frN (hF _ (by omega)) h1185) (Nat.le_of_ble_eq_true rfl) (by unfold vp_in; decide) dL_turn_7 ?_
  refine mm_goto 14 dL_turn_8 (by decide) ?_
  refine mm_iconst (v := 0) dL_turn_14 (by decide) ?_
  refine mm_iret dL_turn_15 rfl rfl ?_ (by omega) (by omega)
  refine ⟨rfl, rfl, ?_⟩
  dsimp only
  exact ⟨mm_up_s, fun x hx hn => mm_upN hn (mm_frN (hF _ hx) (rfl))⟩

set_option maxHeartbeats 4000000 in
set_option maxRecDepth 100000 in
theorem w_feed_1 {g : mm_G} {l : Launch} (hst : l.stackTraces = false) {d : Nat} (M : Nat → mm_C) (b : Int64) (h0 : M 0 = .inr (11, [.ref 1, .ref 3, .ref 5, .ref 197, .ref 389, .ref 1094, .ref 1095, .ref 1097, .int (-1)])) (h1 : M 1 = .inr (0, [.ref 2, .int 0, .int 0])) (h2 : M 2 = .inl (2, 700, .inl (fun _ => 0))) (h1185 : M 1185 = .inl (1, 1, .inr (.inl (fun _ => 0)))) : mm_Ct g l yL_feed (.codeWith yL_feed cL_feed 6 (some .int) hL_feed) (d + 2) 0 0 [.ref 0, .long b, .int 1, .ref 1185] (M, 1186, false) (mm_nt (fun v S' => v = some (.int 0) ∧ S'.2 = (1186, false) ∧ S'.1 1185 = .inl (1, 1, .inr (.inl (vp_updL (fun _ => 0) ((0 : Int32).toNatClampNeg) ((0 + 1 : Int32).toInt64)))) ∧ ∀ j, 1101 ≤ j → j ≠ 1185 → S'.1 j = M j)) := by
  refine mm_Cw_of hst (by decide) (Nat.le_of_ble_eq_true rfl) ?_
  show mm_V g l RL "feed" cL_feed 6 (some .int) (tableOf hL_feed) (d + 2) 0 0 _ 0 [some (.ref 0), some (.long b), none, some (.int 1), some (.ref 1185), none] [] (M, 1186, false) 0 0
  refine mm_aload dL_feed_0 rfl rfl ?_
  refine mm_iconst (v := 0) dL_feed_2 (by decide) ?_
  refine mm_aload_n dL_feed_3 rfl rfl ?_
  refine mm_lload_n dL_feed_4 rfl ?_
  refine mm_iload_n dL_feed_5 rfl ?_
  refine mm_callH3 (ci := 11) wM_X11_feed kM_L_7 wI_X11_feed wS_X11_feed dL_feed_6 (f_feed_1 hst _ b h0 h1 h2) h0 (Nat.le_of_ble_eq_true rfl) rfl rfl rfl (Nat.le_of_ble_eq_true rfl) (by omega) (by omega) (fun v S9 hq => ?_) (fun E9 S9 hq => by cases hq.1)
  obtain ⟨M9, z9⟩ := S9
  obtain ⟨hv, hz, hF⟩ := hq
  cases hv
  cases hz
  refine ⟨fun h => ⟨h, rfl⟩, ?_⟩
  refine mm_i2l dL_feed_9 ?_
  refine mm_last3 (mm_frN (hF _ (by omega)) h1185) (Nat.le_of_ble_eq_true rfl) (by unfold vp_in; decide) dL_feed_10 ?_
  refine mm_goto 22 dL_feed_11 (by decide) ?_
  refine mm_iconst (v := 0) dL_feed_22 (by decide) ?_
  refine mm_iret dL_feed_23 rfl rfl ?_ (by omega) (by omega)
  refine ⟨rfl, rfl, ?_⟩
  dsimp only
  exact ⟨mm_up_s, fun x hx hn => mm_upN hn (mm_frN (hF _ hx) (rfl))⟩

set_option maxHeartbeats 4000000 in
set_option maxRecDepth 100000 in
theorem w_feed_2 {g : mm_G} {l : Launch} (hst : l.stackTraces = false) {d : Nat} (M : Nat → mm_C) (b : Int64) (h0 : M 0 = .inr (11, [.ref 1, .ref 3, .ref 5, .ref 197, .ref 389, .ref 1094, .ref 1095, .ref 1097, .int (-1)])) (h1 : M 1 = .inr (0, [.ref 2, .int 0, .int 0])) (h2 : M 2 = .inl (2, 700, .inl (fun _ => 0))) (h1185 : M 1185 = .inl (1, 1, .inr (.inl (fun _ => 0)))) : mm_Ct g l yL_feed (.codeWith yL_feed cL_feed 6 (some .int) hL_feed) (d + 2) 0 0 [.ref 0, .long b, .int 2, .ref 1185] (M, 1186, false) (mm_nt (fun v S' => v = some (.int 0) ∧ S'.2 = (1186, false) ∧ S'.1 1185 = .inl (1, 1, .inr (.inl (vp_updL (fun _ => 0) ((0 : Int32).toNatClampNeg) (((0 + 1) + 1 : Int32).toInt64)))) ∧ ∀ j, 1101 ≤ j → j ≠ 1185 → S'.1 j = M j)) := by
  refine mm_Cw_of hst (by decide) (Nat.le_of_ble_eq_true rfl) ?_
  show mm_V g l RL "feed" cL_feed 6 (some .int) (tableOf hL_feed) (d + 2) 0 0 _ 0 [some (.ref 0), some (.long b), none, some (.int 2), some (.ref 1185), none] [] (M, 1186, false) 0 0
  refine mm_aload dL_feed_0 rfl rfl ?_
  refine mm_iconst (v := 0) dL_feed_2 (by decide) ?_
  refine mm_aload_n dL_feed_3 rfl rfl ?_
  refine mm_lload_n dL_feed_4 rfl ?_
  refine mm_iload_n dL_feed_5 rfl ?_
  refine mm_callH3 (ci := 11) wM_X11_feed kM_L_7 wI_X11_feed wS_X11_feed dL_feed_6 (f_feed_2 hst _ b h0 h1 h2) h0 (Nat.le_of_ble_eq_true rfl) rfl rfl rfl (Nat.le_of_ble_eq_true rfl) (by omega) (by omega) (fun v S9 hq => ?_) (fun E9 S9 hq => by cases hq.1)
  obtain ⟨M9, z9⟩ := S9
  obtain ⟨hv, hz, hF⟩ := hq
  cases hv
  cases hz
  refine ⟨fun h => ⟨h, rfl⟩, ?_⟩
  refine mm_i2l dL_feed_9 ?_
  refine mm_last3 (mm_frN (hF _ (by omega)) h1185) (Nat.le_of_ble_eq_true rfl) (by unfold vp_in; decide) dL_feed_10 ?_
  refine mm_goto 22 dL_feed_11 (by decide) ?_
  refine mm_iconst (v := 0) dL_feed_22 (by decide) ?_
  refine mm_iret dL_feed_23 rfl rfl ?_ (by omega) (by omega)
  refine ⟨rfl, rfl, ?_⟩
  dsimp only
  exact ⟨mm_up_s, fun x hx hn => mm_upN hn (mm_frN (hF _ hx) (rfl))⟩

set_option maxHeartbeats 4000000 in
set_option maxRecDepth 100000 in
theorem w_feed_3 {g : mm_G} {l : Launch} (hst : l.stackTraces = false) {d : Nat} (M : Nat → mm_C) (b : Int64) (h0 : M 0 = .inr (11, [.ref 1, .ref 3, .ref 5, .ref 197, .ref 389, .ref 1094, .ref 1095, .ref 1097, .int (-1)])) (h1 : M 1 = .inr (0, [.ref 2, .int 0, .int 0])) (h2 : M 2 = .inl (2, 700, .inl (fun _ => 0))) (h1185 : M 1185 = .inl (1, 1, .inr (.inl (fun _ => 0)))) : mm_Ct g l yL_feed (.codeWith yL_feed cL_feed 6 (some .int) hL_feed) (d + 2) 0 0 [.ref 0, .long b, .int 3, .ref 1185] (M, 1186, false) (mm_nt (fun v S' => v = some (.int 0) ∧ S'.2 = (1186, false) ∧ S'.1 1185 = .inl (1, 1, .inr (.inl (vp_updL (fun _ => 0) ((0 : Int32).toNatClampNeg) ((((0 + 1) + 1) + 1 : Int32).toInt64)))) ∧ ∀ j, 1101 ≤ j → j ≠ 1185 → S'.1 j = M j)) := by
  refine mm_Cw_of hst (by decide) (Nat.le_of_ble_eq_true rfl) ?_
  show mm_V g l RL "feed" cL_feed 6 (some .int) (tableOf hL_feed) (d + 2) 0 0 _ 0 [some (.ref 0), some (.long b), none, some (.int 3), some (.ref 1185), none] [] (M, 1186, false) 0 0
  refine mm_aload dL_feed_0 rfl rfl ?_
  refine mm_iconst (v := 0) dL_feed_2 (by decide) ?_
  refine mm_aload_n dL_feed_3 rfl rfl ?_
  refine mm_lload_n dL_feed_4 rfl ?_
  refine mm_iload_n dL_feed_5 rfl ?_
  refine mm_callH3 (ci := 11) wM_X11_feed kM_L_7 wI_X11_feed wS_X11_feed dL_feed_6 (f_feed_3 hst _ b h0 h1 h2) h0 (Nat.le_of_ble_eq_true rfl) rfl rfl rfl (Nat.le_of_ble_eq_true rfl) (by omega) (by omega) (fun v S9 hq => ?_) (fun E9 S9 hq => by cases hq.1)
  obtain ⟨M9, z9⟩ := S9
  obtain ⟨hv, hz, hF⟩ := hq
  cases hv
  cases hz
  refine ⟨fun h => ⟨h, rfl⟩, ?_⟩
  refine mm_i2l dL_feed_9 ?_
  refine mm_last3 (mm_frN (hF _ (by omega)) h1185) (Nat.le_of_ble_eq_true rfl) (by unfold vp_in; decide) dL_feed_10 ?_
  refine mm_goto 22 dL_feed_11 (by decide) ?_
  refine mm_iconst (v := 0) dL_feed_22 (by decide) ?_
  refine mm_iret dL_feed_23 rfl rfl ?_ (by omega) (by omega)
  refine ⟨rfl, rfl, ?_⟩
  dsimp only
  exact ⟨mm_up_s, fun x hx hn => mm_upN hn (mm_frN (hF _ hx) (rfl))⟩

set_option maxHeartbeats 4000000 in
set_option maxRecDepth 100000 in
theorem w_feed_4 {g : mm_G} {l : Launch} (hst : l.stackTraces = false) {d : Nat} (M : Nat → mm_C) (b : Int64) (h0 : M 0 = .inr (11, [.ref 1, .ref 3, .ref 5, .ref 197, .ref 389, .ref 1094, .ref 1095, .ref 1097, .int (-1)])) (h1 : M 1 = .inr (0, [.ref 2, .int 0, .int 0])) (h2 : M 2 = .inl (2, 700, .inl (fun _ => 0))) (h1185 : M 1185 = .inl (1, 1, .inr (.inl (fun _ => 0)))) : mm_Ct g l yL_feed (.codeWith yL_feed cL_feed 6 (some .int) hL_feed) (d + 2) 0 0 [.ref 0, .long b, .int 4, .ref 1185] (M, 1186, false) (mm_nt (fun v S' => v = some (.int 0) ∧ S'.2 = (1186, false) ∧ S'.1 1185 = .inl (1, 1, .inr (.inl (vp_updL (fun _ => 0) ((0 : Int32).toNatClampNeg) (((((0 + 1) + 1) + 1) + 1 : Int32).toInt64)))) ∧ ∀ j, 1101 ≤ j → j ≠ 1185 → S'.1 j = M j)) := by
  refine mm_Cw_of hst (by decide) (Nat.le_of_ble_eq_true rfl) ?_
  show mm_V g l RL "feed" cL_feed 6 (some .int) (tableOf hL_feed) (d + 2) 0 0 _ 0 [some (.ref 0), some (.long b), none, some (.int 4), some (.ref 1185), none] [] (M, 1186, false) 0 0
  refine mm_aload dL_feed_0 rfl rfl ?_
  refine mm_iconst (v := 0) dL_feed_2 (by decide) ?_
  refine mm_aload_n dL_feed_3 rfl rfl ?_
  refine mm_lload_n dL_feed_4 rfl ?_
  refine mm_iload_n dL_feed_5 rfl ?_
  refine mm_callH3 (ci := 11) wM_X11_feed kM_L_7 wI_X11_feed wS_X11_feed dL_feed_6 (f_feed_4 hst _ b h0 h1 h2) h0 (Nat.le_of_ble_eq_true rfl) rfl rfl rfl (Nat.le_of_ble_eq_true rfl) (by omega) (by omega) (fun v S9 hq => ?_) (fun E9 S9 hq => by cases hq.1)
  obtain ⟨M9, z9⟩ := S9
  obtain ⟨hv, hz, hF⟩ := hq
  cases hv
  cases hz
  refine ⟨fun h => ⟨h, rfl⟩, ?_⟩
  refine mm_i2l dL_feed_9 ?_
  refine mm_last3 (mm_frN (hF _ (by omega)) h1185) (Nat.le_of_ble_eq_true rfl) (by unfold vp_in; decide) dL_feed_10 ?_
  refine mm_goto 22 dL_feed_11 (by decide) ?_
  refine mm_iconst (v := 0) dL_feed_22 (by decide) ?_
  refine mm_iret dL_feed_23 rfl rfl ?_ (by omega) (by omega)
  refine ⟨rfl, rfl, ?_⟩
  dsimp only
  exact ⟨mm_up_s, fun x hx hn => mm_upN hn (mm_frN (hF _ hx) (rfl))⟩

set_option maxHeartbeats 4000000 in
set_option maxRecDepth 100000 in
theorem w_feed_5 {g : mm_G} {l : Launch} (hst : l.stackTraces = false) {d : Nat} (M : Nat → mm_C) (b : Int64) (h0 : M 0 = .inr (11, [.ref 1, .ref 3, .ref 5, .ref 197, .ref 389, .ref 1094, .ref 1095, .ref 1097, .int (-1)])) (h1 : M 1 = .inr (0, [.ref 2, .int 0, .int 0])) (h2 : M 2 = .inl (2, 700, .inl (fun _ => 0))) (h1185 : M 1185 = .inl (1, 1, .inr (.inl (fun _ => 0)))) : mm_Ct g l yL_feed (.codeWith yL_feed cL_feed 6 (some .int) hL_feed) (d + 2) 0 0 [.ref 0, .long b, .int 5, .ref 1185] (M, 1186, false) (mm_nt (fun v S' => v = some (.int 0) ∧ S'.2 = (1186, false) ∧ S'.1 1185 = .inl (1, 1, .inr (.inl (vp_updL (fun _ => 0) ((0 : Int32).toNatClampNeg) ((((((0 + 1) + 1) + 1) + 1) + 1 : Int32).toInt64)))) ∧ ∀ j, 1101 ≤ j → j ≠ 1185 → S'.1 j = M j)) := by
  refine mm_Cw_of hst (by decide) (Nat.le_of_ble_eq_true rfl) ?_
  show mm_V g l RL "feed" cL_feed 6 (some .int) (tableOf hL_feed) (d + 2) 0 0 _ 0 [some (.ref 0), some (.long b), none, some (.int 5), some (.ref 1185), none] [] (M, 1186, false) 0 0
  refine mm_aload dL_feed_0 rfl rfl ?_
  refine mm_iconst (v := 0) dL_feed_2 (by decide) ?_
  refine mm_aload_n dL_feed_3 rfl rfl ?_
  refine mm_lload_n dL_feed_4 rfl ?_
  refine mm_iload_n dL_feed_5 rfl ?_
  refine mm_callH3 (ci := 11) wM_X11_feed kM_L_7 wI_X11_feed wS_X11_feed dL_feed_6 (f_feed_5 hst _ b h0 h1 h2) h0 (Nat.le_of_ble_eq_true rfl) rfl rfl rfl (Nat.le_of_ble_eq_true rfl) (by omega) (by omega) (fun v S9 hq => ?_) (fun E9 S9 hq => by cases hq.1)
  obtain ⟨M9, z9⟩ := S9
  obtain ⟨hv, hz, hF⟩ := hq
  cases hv
  cases hz
  refine ⟨fun h => ⟨h, rfl⟩, ?_⟩
  refine mm_i2l dL_feed_9 ?_
  refine mm_last3 (mm_frN (hF _ (by omega)) h1185) (Nat.le_of_ble_eq_true rfl) (by unfold vp_in; decide) dL_feed_10 ?_
  refine mm_goto 22 dL_feed_11 (by decide) ?_
  refine mm_iconst (v := 0) dL_feed_22 (by decide) ?_
  refine mm_iret dL_feed_23 rfl rfl ?_ (by omega) (by omega)
  refine ⟨rfl, rfl, ?_⟩
  dsimp only
  exact ⟨mm_up_s, fun x hx hn => mm_upN hn (mm_frN (hF _ hx) (rfl))⟩

set_option maxHeartbeats 4000000 in
set_option maxRecDepth 100000 in
theorem w_feed_6 {g : mm_G} {l : Launch} (hst : l.stackTraces = false) {d : Nat} (M : Nat → mm_C) (b : Int64) (h0 : M 0 = .inr (11, [.ref 1, .ref 3, .ref 5, .ref 197, .ref 389, .ref 1094, .ref 1095, .ref 1097, .int (-1)])) (h1 : M 1 = .inr (0, [.ref 2, .int 0, .int 0])) (h2 : M 2 = .inl (2, 700, .inl (fun _ => 0))) (h1185 : M 1185 = .inl (1, 1, .inr (.inl (fun _ => 0)))) : mm_Ct g l yL_feed (.codeWith yL_feed cL_feed 6 (some .int) hL_feed) (d + 2) 0 0 [.ref 0, .long b, .int 6, .ref 1185] (M, 1186, false) (mm_nt (fun v S' => v = some (.int 0) ∧ S'.2 = (1186, false) ∧ S'.1 1185 = .inl (1, 1, .inr (.inl (vp_updL (fun _ => 0) ((0 : Int32).toNatClampNeg) (((((((0 + 1) + 1) + 1) + 1) + 1) + 1 : Int32).toInt64)))) ∧ ∀ j, 1101 ≤ j → j ≠ 1185 → S'.1 j = M j)) := by
  refine mm_Cw_of hst (by decide) (Nat.le_of_ble_eq_true rfl) ?_
  show mm_V g l RL "feed" cL_feed 6 (some .int) (tableOf hL_feed) (d + 2) 0 0 _ 0 [some (.ref 0), some (.long b), none, some (.int 6), some (.ref 1185), none] [] (M, 1186, false) 0 0
  refine mm_aload dL_feed_0 rfl rfl ?_
  refine mm_iconst (v := 0) dL_feed_2 (by decide) ?_
  refine mm_aload_n dL_feed_3 rfl rfl ?_
  refine mm_lload_n dL_feed_4 rfl ?_
  refine mm_iload_n dL_feed_5 rfl ?_
  refine mm_callH3 (ci := 11) wM_X11_feed kM_L_7 wI_X11_feed wS_X11_feed dL_feed_6 (f_feed_6 hst _ b h0 h1 h2) h0 (Nat.le_of_ble_eq_true rfl) rfl rfl rfl (Nat.le_of_ble_eq_true rfl) (by omega) (by omega) (fun v S9 hq => ?_) (fun E9 S9 hq => by cases hq.1)
  obtain ⟨M9, z9⟩ := S9
  obtain ⟨hv, hz, hF⟩ := hq
  cases hv
  cases hz
  refine ⟨fun h => ⟨h, rfl⟩, ?_⟩
  refine mm_i2l dL_feed_9 ?_
  refine mm_last3 (mm_frN (hF _ (by omega)) h1185) (Nat.le_of_ble_eq_true rfl) (by unfold vp_in; decide) dL_feed_10 ?_
  refine mm_goto 22 dL_feed_11 (by decide) ?_
  refine mm_iconst (v := 0) dL_feed_22 (by decide) ?_
  refine mm_iret dL_feed_23 rfl rfl ?_ (by omega) (by omega)
  refine ⟨rfl, rfl, ?_⟩
  dsimp only
  exact ⟨mm_up_s, fun x hx hn => mm_upN hn (mm_frN (hF _ hx) (rfl))⟩

set_option maxHeartbeats 4000000 in
set_option maxRecDepth 100000 in
theorem w_feed_7 {g : mm_G} {l : Launch} (hst : l.stackTraces = false) {d : Nat} (M : Nat → mm_C) (b : Int64) (h0 : M 0 = .inr (11, [.ref 1, .ref 3, .ref 5, .ref 197, .ref 389, .ref 1094, .ref 1095, .ref 1097, .int (-1)])) (h1 : M 1 = .inr (0, [.ref 2, .int 0, .int 0])) (h2 : M 2 = .inl (2, 700, .inl (fun _ => 0))) (h1185 : M 1185 = .inl (1, 1, .inr (.inl (fun _ => 0)))) : mm_Ct g l yL_feed (.codeWith yL_feed cL_feed 6 (some .int) hL_feed) (d + 2) 0 0 [.ref 0, .long b, .int 7, .ref 1185] (M, 1186, false) (mm_nt (fun v S' => v = some (.int 0) ∧ S'.2 = (1186, false) ∧ S'.1 1185 = .inl (1, 1, .inr (.inl (vp_updL (fun _ => 0) ((0 : Int32).toNatClampNeg) ((((((((0 + 1) + 1) + 1) + 1) + 1) + 1) + 1 : Int32).toInt64)))) ∧ ∀ j, 1101 ≤ j → j ≠ 1185 → S'.1 j = M j)) := by
  refine mm_Cw_of hst (by decide) (Nat.le_of_ble_eq_true rfl) ?_
  show mm_V g l RL "feed" cL_feed 6 (some .int) (tableOf hL_feed) (d + 2) 0 0 _ 0 [some (.ref 0), some (.long b), none, some (.int 7), some (.ref 1185), none] [] (M, 1186, false) 0 0
  refine mm_aload dL_feed_0 rfl rfl ?_
  refine mm_iconst (v := 0) dL_feed_2 (by decide) ?_
  refine mm_aload_n dL_feed_3 rfl rfl ?_
  refine mm_lload_n dL_feed_4 rfl ?_
  refine mm_iload_n dL_feed_5 rfl ?_
  refine mm_callH3 (ci := 11) wM_X11_feed kM_L_7 wI_X11_feed wS_X11_feed dL_feed_6 (f_feed_7 hst _ b h0 h1 h2) h0 (Nat.le_of_ble_eq_true rfl) rfl rfl rfl (Nat.le_of_ble_eq_true rfl) (by omega) (by omega) (fun v S9 hq => ?_) (fun E9 S9 hq => by cases hq.1)
  obtain ⟨M9, z9⟩ := S9
  obtain ⟨hv, hz, hF⟩ := hq
  cases hv
  cases hz
  refine ⟨fun h => ⟨h, rfl⟩, ?_⟩
  refine mm_i2l dL_feed_9 ?_
  refine mm_last3 (mm_frN (hF _ (by omega)) h1185) (Nat.le_of_ble_eq_true rfl) (by unfold vp_in; decide) dL_feed_10 ?_
  refine mm_goto 22 dL_feed_11 (by decide) ?_
  refine mm_iconst (v := 0) dL_feed_22 (by decide) ?_
  refine mm_iret dL_feed_23 rfl rfl ?_ (by omega) (by omega)
  refine ⟨rfl, rfl, ?_⟩
  dsimp only
  exact ⟨mm_up_s, fun x hx hn => mm_upN hn (mm_frN (hF _ hx) (rfl))⟩

set_option maxHeartbeats 4000000 in
set_option maxRecDepth 100000 in
theorem w_feed_8 {g : mm_G} {l : Launch} (hst : l.stackTraces = false) {d : Nat} (M : Nat → mm_C) (b : Int64) (h0 : M 0 = .inr (11, [.ref 1, .ref 3, .ref 5, .ref 197, .ref 389, .ref 1094, .ref 1095, .ref 1097, .int (-1)])) (h1 : M 1 = .inr (0, [.ref 2, .int 0, .int 0])) (h2 : M 2 = .inl (2, 700, .inl (fun _ => 0))) (h1185 : M 1185 = .inl (1, 1, .inr (.inl (fun _ => 0)))) : mm_Ct g l yL_feed (.codeWith yL_feed cL_feed 6 (some .int) hL_feed) (d + 2) 0 0 [.ref 0, .long b, .int 8, .ref 1185] (M, 1186, false) (mm_nt (fun v S' => v = some (.int 0) ∧ S'.2 = (1186, false) ∧ S'.1 1185 = .inl (1, 1, .inr (.inl (vp_updL (fun _ => 0) ((0 : Int32).toNatClampNeg) (((((((((0 + 1) + 1) + 1) + 1) + 1) + 1) + 1) + 1 : Int32).toInt64)))) ∧ ∀ j, 1101 ≤ j → j ≠ 1185 → S'.1 j = M j)) := by
  refine mm_Cw_of hst (by decide) (Nat.le_of_ble_eq_true rfl) ?_
  show mm_V g l RL "feed" cL_feed 6 (some .int) (tableOf hL_feed) (d + 2) 0 0 _ 0 [some (.ref 0), some (.long b), none, some (.int 8), some (.ref 1185), none] [] (M, 1186, false) 0 0
  refine mm_aload dL_feed_0 rfl rfl ?_
  refine mm_iconst (v := 0) dL_feed_2 (by decide) ?_
  refine mm_aload_n dL_feed_3 rfl rfl ?_
  refine mm_lload_n dL_feed_4 rfl ?_
  refine mm_iload_n dL_feed_5 rfl ?_
  refine mm_callH3 (ci := 11) wM_X11_feed kM_L_7 wI_X11_feed wS_X11_feed dL_feed_6 (f_feed_8 hst _ b h0 h1 h2) h0 (Nat.le_of_ble_eq_true rfl) rfl rfl rfl (Nat.le_of_ble_eq_true rfl) (by omega) (by omega) (fun v S9 hq => ?_) (fun E9 S9 hq => by cases hq.1)
  obtain ⟨M9, z9⟩ := S9
  obtain ⟨hv, hz, hF⟩ := hq
  cases hv
  cases hz
  refine ⟨fun h => ⟨h, rfl⟩, ?_⟩
  refine mm_i2l dL_feed_9 ?_
  refine mm_last3 (mm_frN (hF _ (by omega)) h1185) (Nat.le_of_ble_eq_true rfl) (by unfold vp_in; decide) dL_feed_10 ?_
  refine mm_goto 22 dL_feed_11 (by decide) ?_
  refine mm_iconst (v := 0) dL_feed_22 (by decide) ?_
  refine mm_iret dL_feed_23 rfl rfl ?_ (by omega) (by omega)
  refine ⟨rfl, rfl, ?_⟩
  dsimp only
  exact ⟨mm_up_s, fun x hx hn => mm_upN hn (mm_frN (hF _ hx) (rfl))⟩

set_option maxHeartbeats 4000000 in
set_option maxRecDepth 100000 in
theorem w_feed_n {g : mm_G} {l : Launch} (hst : l.stackTraces = false) {d : Nat} (M : Nat → mm_C) (b : Int64) (p : Int32) (hp : p < 1) (h0 : M 0 = .inr (11, [.ref 1, .ref 3, .ref 5, .ref 197, .ref 389, .ref 1094, .ref 1095, .ref 1097, .int (-1)])) (h1185 : M 1185 = .inl (1, 1, .inr (.inl (fun _ => 0)))) : mm_Ct g l yL_feed (.codeWith yL_feed cL_feed 6 (some .int) hL_feed) (d + 1) 1 6 [.ref 0, .long b, .int p, .ref 1185] (M, 1186, false) (mm_nt (fun v S' => v = some (.int 1) ∧ S'.2 = (1186, true) ∧ S'.1 1185 = .inl (1, 1, .inr (.inl (fun _ => 0))) ∧ ∀ j, 1101 ≤ j → j ≠ 1185 → S'.1 j = M j)) := by
  refine mm_Cw_of hst (by decide) (Nat.le_of_ble_eq_true rfl) ?_
  show mm_V g l RL "feed" cL_feed 6 (some .int) (tableOf hL_feed) (d + 1) 1 6 _ 0 [some (.ref 0), some (.long b), none, some (.int p), some (.ref 1185), none] [] (M, 1186, false) 0 0
  refine mm_aload dL_feed_0 rfl rfl ?_
  refine mm_iconst (v := 0) dL_feed_2 (by decide) ?_
  refine mm_aload_n dL_feed_3 rfl rfl ?_
  refine mm_lload_n dL_feed_4 rfl ?_
  refine mm_iload_n dL_feed_5 rfl ?_
  refine mm_callH3 (ci := 11) wM_X11_feed kM_L_7 wI_X11_feed wS_X11_feed dL_feed_6 (f_feed_n hst _ b p hp ) h0 (Nat.le_of_ble_eq_true rfl) rfl rfl rfl (Nat.le_of_ble_eq_true rfl) (by omega) (by omega) (fun v S9 hq => by cases hq.1) (fun E9 S9 hq => ?_)
  obtain ⟨M9, z9⟩ := S9
  obtain ⟨hE, hz, hF⟩ := hq
  cases hE
  cases hz
  refine ⟨rfl, 14, 5, Or.inr ⟨rfl, by decide, _, kC_L_13, Or.inr ⟨wk_IllegalArgumentException_IllegalArgumentException, rfl⟩⟩, by decide, Or.inr ⟨dL_feed_14, ?_⟩⟩
  refine mm_iconst (v := 1) dL_feed_16 (by decide) ?_
  refine mm_iret dL_feed_17 rfl rfl ?_ (by omega) (by omega)
  refine ⟨rfl, rfl, ?_⟩
  dsimp only
  exact ⟨(mm_frN (hF _ (by omega)) h1185), fun x hx hn => mm_frN (hF _ hx) (rfl)⟩

set_option maxHeartbeats 4000000 in
set_option maxRecDepth 100000 in
theorem w_feed_m {g : mm_G} {l : Launch} (hst : l.stackTraces = false) {d : Nat} (M : Nat → mm_C) (b : Int64) (p : Int32) (hp0 : ¬ p < 1) (hp : 8 < p) (h0 : M 0 = .inr (11, [.ref 1, .ref 3, .ref 5, .ref 197, .ref 389, .ref 1094, .ref 1095, .ref 1097, .int (-1)])) (h1185 : M 1185 = .inl (1, 1, .inr (.inl (fun _ => 0)))) : mm_Ct g l yL_feed (.codeWith yL_feed cL_feed 6 (some .int) hL_feed) (d + 1) 1 6 [.ref 0, .long b, .int p, .ref 1185] (M, 1186, false) (mm_nt (fun v S' => v = some (.int 1) ∧ S'.2 = (1186, true) ∧ S'.1 1185 = .inl (1, 1, .inr (.inl (fun _ => 0))) ∧ ∀ j, 1101 ≤ j → j ≠ 1185 → S'.1 j = M j)) := by
  refine mm_Cw_of hst (by decide) (Nat.le_of_ble_eq_true rfl) ?_
  show mm_V g l RL "feed" cL_feed 6 (some .int) (tableOf hL_feed) (d + 1) 1 6 _ 0 [some (.ref 0), some (.long b), none, some (.int p), some (.ref 1185), none] [] (M, 1186, false) 0 0
  refine mm_aload dL_feed_0 rfl rfl ?_
  refine mm_iconst (v := 0) dL_feed_2 (by decide) ?_
  refine mm_aload_n dL_feed_3 rfl rfl ?_
  refine mm_lload_n dL_feed_4 rfl ?_
  refine mm_iload_n dL_feed_5 rfl ?_
  refine mm_callH3 (ci := 11) wM_X11_feed kM_L_7 wI_X11_feed wS_X11_feed dL_feed_6 (f_feed_m hst _ b p hp0 hp ) h0 (Nat.le_of_ble_eq_true rfl) rfl rfl rfl (Nat.le_of_ble_eq_true rfl) (by omega) (by omega) (fun v S9 hq => by cases hq.1) (fun E9 S9 hq => ?_)
  obtain ⟨M9, z9⟩ := S9
  obtain ⟨hE, hz, hF⟩ := hq
  cases hE
  cases hz
  refine ⟨rfl, 14, 5, Or.inr ⟨rfl, by decide, _, kC_L_13, Or.inr ⟨wk_IllegalArgumentException_IllegalArgumentException, rfl⟩⟩, by decide, Or.inr ⟨dL_feed_14, ?_⟩⟩
  refine mm_iconst (v := 1) dL_feed_16 (by decide) ?_
  refine mm_iret dL_feed_17 rfl rfl ?_ (by omega) (by omega)
  refine ⟨rfl, rfl, ?_⟩
  dsimp only
  exact ⟨(mm_frN (hF _ (by omega)) h1185), fun x hx hn => mm_frN (hF _ hx) (rfl)⟩
