set_option maxHeartbeats 4000000 in
set_option maxRecDepth 100000 in
theorem k1_X11_compilerOf {g : mm_G} {l : Launch} (hst : l.stackTraces = false) {d : Nat} (M : Nat → mm_C) (h0 : M 0 = .inr (11, [.ref 1, .ref 3, .ref 5, .ref 197, .ref 389, .ref 1094, .ref 1095, .ref 1097, .int (-1)])) : mm_Cm g l yX11_compilerOf (.code yX11_compilerOf cX11_compilerOf 2 (some (.object "ProtoDesk$Compiler"))) d 0 0 [.ref 0, .int 0] (M, 1186, false) (fun v S' => v = some (.ref 5) ∧ S' = (M, 1186, false)) := by
  refine mm_Cm_of hst (by decide) (Nat.le_of_ble_eq_true rfl) ?_
  show mm_V g l RX11 "compilerOf" cX11_compilerOf 2 (some (.object "ProtoDesk$Compiler")) [] d 0 0 _ 0 [some (.ref 0), some (.int 0)] [] (M, 1186, false) 0 0
  refine mm_iload_n dX11_compilerOf_0 rfl ?_
  refine mm_if_ne 11 dX11_compilerOf_1 (by decide) (fun h => absurd (by decide) h) (fun _ => ?_)
  refine mm_aload_n dX11_compilerOf_4 rfl rfl ?_
  refine mm_get3 (ci := 11) in_X11 rfl (k := 2) (by decide) rfl kF_X11_24 dX11_compilerOf_5 h0 (Nat.le_of_ble_eq_true rfl) rfl ?_
  refine mm_goto 24 dX11_compilerOf_8 (by decide) ?_
  refine mm_aret (a := some 5) dX11_compilerOf_24 rfl ?_ (by omega) (by omega)
  exact ⟨rfl, rfl⟩

set_option maxHeartbeats 4000000 in
set_option maxRecDepth 100000 in
theorem k4_X0_clear {g : mm_G} {l : Launch} (hst : l.stackTraces = false) {d : Nat} (M : Nat → mm_C) (h1092 : M 1092 = .inr (0, [.ref 1093, .int 0, .int 0])) : mm_Cm g l yX0_clear (.code yX0_clear cX0_clear 1 none) d 0 0 [.ref 1092] (M, 1186, false) (fun v S' => v = none ∧ S'.2 = (1186, false) ∧ S'.1 1092 = .inr (0, [.ref 1093, .int 0, .int 0]) ∧ ∀ j, j ≠ 1092 → S'.1 j = M j) := by
  refine mm_Cm_of hst (by decide) (Nat.le_of_ble_eq_true rfl) ?_
  show mm_V g l RX0 "clear" cX0_clear 1 none [] d 0 0 _ 0 [some (.ref 1092)] [] (M, 1186, false) 0 0
  refine mm_aload_n dX0_clear_0 rfl rfl ?_
  refine mm_iconst (v := 0) dX0_clear_1 (by decide) ?_
  refine mm_put3 (ci := 0) (fs1 := [.ref 1093, .int 0, .int 0]) in_X0 tyX0_ok nmX0 rfl (k := 1) (by decide) rfl rfl kF_X0_19 dX0_clear_2 (mm_fit_int _) h1092 (Nat.le_of_ble_eq_true rfl) (Nat.le_of_ble_eq_true rfl) rfl ?_
  refine mm_aload_n dX0_clear_5 rfl rfl ?_
  refine mm_iconst (v := 0) dX0_clear_6 (by decide) ?_
  refine mm_put3 (ci := 0) (fs1 := [.ref 1093, .int 0, .int 0]) in_X0 tyX0_ok nmX0 rfl (k := 2) (by decide) rfl rfl kF_X0_23 dX0_clear_7 mm_fit_z0 mm_up_s (Nat.le_of_ble_eq_true rfl) (Nat.le_of_ble_eq_true rfl) rfl ?_
  refine mm_vret dX0_clear_10 rfl ?_ (by omega) (by omega)
  refine ⟨rfl, rfl, ?_⟩
  dsimp only
  exact ⟨mm_up_s, fun x e1092 => mm_upN e1092 (mm_upN e1092 (rfl))⟩

set_option maxHeartbeats 4000000 in
set_option maxRecDepth 100000 in
theorem k6_X4_begin {g : mm_G} {l : Launch} (hst : l.stackTraces = false) {d : Nat} (M : Nat → mm_C) (h1091 : M 1091 = .inr (4, [.null, .null, .null, .null, .long 0, .int 0, .int 0])) : mm_Cm g l yX4_begin (.code yX4_begin cX4_begin 2 none) d 0 0 [.ref 1091, .null] (M, 1186, false) (fun v S' => v = none ∧ S'.2 = (1186, false) ∧ S'.1 1091 = .inr (4, [.null, .null, .null, .null, .long 0, .int 0, .int 0]) ∧ ∀ j, j ≠ 1091 → S'.1 j = M j) := by
  refine mm_Cm_of hst (by decide) (Nat.le_of_ble_eq_true rfl) ?_
  show mm_V g l RX4 "begin" cX4_begin 2 none [] d 0 0 _ 0 [some (.ref 1091), some (.null)] [] (M, 1186, false) 0 0
  refine mm_aload_n dX4_begin_0 rfl rfl ?_
  refine mm_aload_n dX4_begin_1 rfl rfl ?_
  refine mm_put3 (ci := 4) (fs1 := [.null, .null, .null, .null, .long 0, .int 0, .int 0]) in_X4 tyX4_ok nmX4 rfl (k := 0) (by decide) rfl rfl kF_X4_9 dX4_begin_2 (mm_fit_null _) h1091 (Nat.le_of_ble_eq_true rfl) (Nat.le_of_ble_eq_true rfl) rfl ?_
  refine mm_aload_n dX4_begin_5 rfl rfl ?_
  refine mm_null dX4_begin_6 ?_
  refine mm_put3 (ci := 4) (fs1 := [.null, .null, .null, .null, .long 0, .int 0, .int 0]) in_X4 tyX4_ok nmX4 rfl (k := 1) (by decide) rfl rfl kF_X4_15 dX4_begin_7 (mm_fit_null _) mm_up_s (Nat.le_of_ble_eq_true rfl) (Nat.le_of_ble_eq_true rfl) rfl ?_
  refine mm_aload_n dX4_begin_10 rfl rfl ?_
  refine mm_null dX4_begin_11 ?_
  refine mm_put3 (ci := 4) (fs1 := [.null, .null, .null, .null, .long 0, .int 0, .int 0]) in_X4 tyX4_ok nmX4 rfl (k := 2) (by decide) rfl rfl kF_X4_19 dX4_begin_12 (mm_fit_null _) mm_up_s (Nat.le_of_ble_eq_true rfl) (Nat.le_of_ble_eq_true rfl) rfl ?_
  refine mm_aload_n dX4_begin_15 rfl rfl ?_
  refine mm_null dX4_begin_16 ?_
  refine mm_put3 (ci := 4) (fs1 := [.null, .null, .null, .null, .long 0, .int 0, .int 0]) in_X4 tyX4_ok nmX4 rfl (k := 3) (by decide) rfl rfl kF_X4_22 dX4_begin_17 (mm_fit_null _) mm_up_s (Nat.le_of_ble_eq_true rfl) (Nat.le_of_ble_eq_true rfl) rfl ?_
  refine mm_aload_n dX4_begin_20 rfl rfl ?_
  refine mm_lconst (v := 0) dX4_begin_21 (by decide) ?_
  refine mm_put3 (ci := 4) (fs1 := [.null, .null, .null, .null, .long 0, .int 0, .int 0]) in_X4 tyX4_ok nmX4 rfl (k := 4) (by decide) rfl rfl kF_X4_25 dX4_begin_22 (mm_fit_long _) mm_up_s (Nat.le_of_ble_eq_true rfl) (Nat.le_of_ble_eq_true rfl) rfl ?_
  refine mm_aload_n dX4_begin_25 rfl rfl ?_
  refine mm_iconst (v := 0) dX4_begin_26 (by decide) ?_
  refine mm_put3 (ci := 4) (fs1 := [.null, .null, .null, .null, .long 0, .int 0, .int 0]) in_X4 tyX4_ok nmX4 rfl (k := 5) (by decide) rfl rfl kF_X4_29 dX4_begin_27 (mm_fit_int _) mm_up_s (Nat.le_of_ble_eq_true rfl) (Nat.le_of_ble_eq_true rfl) rfl ?_
  refine mm_aload_n dX4_begin_30 rfl rfl ?_
  refine mm_iconst (v := 0) dX4_begin_31 (by decide) ?_
  refine mm_put3 (ci := 4) (fs1 := [.null, .null, .null, .null, .long 0, .int 0, .int 0]) in_X4 tyX4_ok nmX4 rfl (k := 6) (by decide) rfl rfl kF_X4_33 dX4_begin_32 (mm_fit_int _) mm_up_s (Nat.le_of_ble_eq_true rfl) (Nat.le_of_ble_eq_true rfl) rfl ?_
  refine mm_vret dX4_begin_35 rfl ?_ (by omega) (by omega)
  refine ⟨rfl, rfl, ?_⟩
  dsimp only
  exact ⟨mm_up_s, fun x e1091 => mm_upN e1091 (mm_upN e1091 (mm_upN e1091 (mm_upN e1091 (mm_upN e1091 (mm_upN e1091 (mm_upN e1091 (rfl)))))))⟩

set_option maxHeartbeats 4000000 in
set_option maxRecDepth 100000 in
theorem k3_X8_drop {g : mm_G} {l : Launch} (hst : l.stackTraces = false) {d : Nat} (M : Nat → mm_C) (h389 : M 389 = .inr (8, [.ref 390, .ref 1091, .ref 1092, .int 0, .null, .null])) (h1091 : M 1091 = .inr (4, [.null, .null, .null, .null, .long 0, .int 0, .int 0])) (h1092 : M 1092 = .inr (0, [.ref 1093, .int 0, .int 0])) : mm_Cm g l yX8_drop (.code yX8_drop cX8_drop 1 none) (d + 1) 0 0 [.ref 389] (M, 1186, false) (fun v S' => v = none ∧ S'.2 = (1186, false) ∧ S'.1 389 = .inr (8, [.ref 390, .ref 1091, .ref 1092, .int 0, .null, .null]) ∧ S'.1 1092 = .inr (0, [.ref 1093, .int 0, .int 0]) ∧ S'.1 1091 = .inr (4, [.null, .null, .null, .null, .long 0, .int 0, .int 0]) ∧ ∀ j, j ≠ 389 → j ≠ 1092 → j ≠ 1091 → S'.1 j = M j) := by
  refine mm_Cm_of hst (by decide) (Nat.le_of_ble_eq_true rfl) ?_
  show mm_V g l RX8 "drop" cX8_drop 1 none [] (d + 1) 0 0 _ 0 [some (.ref 389)] [] (M, 1186, false) 0 0
  refine mm_aload_n dX8_drop_0 rfl rfl ?_
  refine mm_null dX8_drop_1 ?_
  refine mm_put3 (ci := 8) (fs1 := [.ref 390, .ref 1091, .ref 1092, .int 0, .null, .null]) in_X8 tyX8_ok nmX8 rfl (k := 4) (by decide) rfl rfl kF_X8_37 dX8_drop_2 (mm_fit_null _) h389 (Nat.le_of_ble_eq_true rfl) (Nat.le_of_ble_eq_true rfl) rfl ?_
  refine mm_aload_n dX8_drop_5 rfl rfl ?_
  refine mm_null dX8_drop_6 ?_
  refine mm_put3 (ci := 8) (fs1 := [.ref 390, .ref 1091, .ref 1092, .int 0, .null, .null]) in_X8 tyX8_ok nmX8 rfl (k := 5) (by decide) rfl rfl kF_X8_33 dX8_drop_7 (mm_fit_null _) mm_up_s (Nat.le_of_ble_eq_true rfl) (Nat.le_of_ble_eq_true rfl) rfl ?_
  refine mm_aload_n dX8_drop_10 rfl rfl ?_
  refine mm_get3 (ci := 8) in_X8 rfl (k := 2) (by decide) rfl kF_X8_29 dX8_drop_11 mm_up_s (Nat.le_of_ble_eq_true rfl) rfl ?_
  refine mm_callV3 (ci := 0) wM_X0_clear kM_X8_45 wI_X0_clear wS_X0_clear dX8_drop_14 (k4_X0_clear hst _  (mm_upN (by decide) (mm_upN (by decide) h1092))) (mm_upN (by decide) (mm_upN (by decide) h1092)) (Nat.le_of_ble_eq_true rfl) rfl rfl rfl (Nat.le_of_ble_eq_true rfl) (by omega) (by omega) (fun v S9 hq => ?_)
  obtain ⟨M5, z5⟩ := S9
  obtain ⟨rfl, hz5, g5_1092, g5_F⟩ := hq
  cases hz5
  refine ⟨fun h => ⟨h, rfl⟩, ?_⟩
  refine mm_aload_n dX8_drop_17 rfl rfl ?_
  refine mm_iconst (v := 0) dX8_drop_18 (by decide) ?_
  refine mm_put3 (ci := 8) (fs1 := [.ref 390, .ref 1091, .ref 1092, .int 0, .null, .null]) in_X8 tyX8_ok nmX8 rfl (k := 3) (by decide) rfl rfl kF_X8_48 dX8_drop_19 (mm_fit_int _) (mm_frN (g5_F _ (by decide)) mm_up_s) (Nat.le_of_ble_eq_true rfl) (Nat.le_of_ble_eq_true rfl) rfl ?_
  refine mm_aload_n dX8_drop_22 rfl rfl ?_
  refine mm_get3 (ci := 8) in_X8 rfl (k := 1) (by decide) rfl kF_X8_20 dX8_drop_23 mm_up_s (Nat.le_of_ble_eq_true rfl) rfl ?_
  refine mm_null dX8_drop_26 ?_
  refine mm_callV3 (ci := 4) wM_X4_begin kM_X8_52 wI_X4_begin wS_X4_begin dX8_drop_27 (k6_X4_begin hst _  (mm_upN (by decide) (mm_frN (g5_F _ (by decide)) (mm_upN (by decide) (mm_upN (by decide) h1091))))) (mm_upN (by decide) (mm_frN (g5_F _ (by decide)) (mm_upN (by decide) (mm_upN (by decide) h1091)))) (Nat.le_of_ble_eq_true rfl) rfl rfl rfl (Nat.le_of_ble_eq_true rfl) (by omega) (by omega) (fun v S9 hq => ?_)
  obtain ⟨M7, z7⟩ := S9
  obtain ⟨rfl, hz7, g7_1091, g7_F⟩ := hq
  cases hz7
  refine ⟨fun h => ⟨h, rfl⟩, ?_⟩
  refine mm_vret dX8_drop_30 rfl ?_ (by omega) (by omega)
  refine ⟨rfl, rfl, ?_⟩
  dsimp only
  exact ⟨(mm_frN (g7_F _ (by decide)) mm_up_s), (mm_frN (g7_F _ (by decide)) (mm_upN (by decide) g5_1092)), g7_1091, fun x e389 e1092 e1091 => mm_frN (g7_F _ e1091 ) (mm_upN e389 (mm_frN (g5_F _ e1092 ) (mm_upN e389 (mm_upN e389 (rfl)))))⟩

set_option maxHeartbeats 4000000 in
set_option maxRecDepth 100000 in
theorem k11_X0_clear {g : mm_G} {l : Launch} (hst : l.stackTraces = false) {d : Nat} (M : Nat → mm_C) (h7 : M 7 = .inr (0, [.ref 8, .int 0, .int 0])) : mm_Cm g l yX0_clear (.code yX0_clear cX0_clear 1 none) d 0 0 [.ref 7] (M, 1186, false) (fun v S' => v = none ∧ S'.2 = (1186, false) ∧ S'.1 7 = .inr (0, [.ref 8, .int 0, .int 0]) ∧ ∀ j, j ≠ 7 → S'.1 j = M j) := by
  refine mm_Cm_of hst (by decide) (Nat.le_of_ble_eq_true rfl) ?_
  show mm_V g l RX0 "clear" cX0_clear 1 none [] d 0 0 _ 0 [some (.ref 7)] [] (M, 1186, false) 0 0
  refine mm_aload_n dX0_clear_0 rfl rfl ?_
  refine mm_iconst (v := 0) dX0_clear_1 (by decide) ?_
  refine mm_put3 (ci := 0) (fs1 := [.ref 8, .int 0, .int 0]) in_X0 tyX0_ok nmX0 rfl (k := 1) (by decide) rfl rfl kF_X0_19 dX0_clear_2 (mm_fit_int _) h7 (Nat.le_of_ble_eq_true rfl) (Nat.le_of_ble_eq_true rfl) rfl ?_
  refine mm_aload_n dX0_clear_5 rfl rfl ?_
  refine mm_iconst (v := 0) dX0_clear_6 (by decide) ?_
  refine mm_put3 (ci := 0) (fs1 := [.ref 8, .int 0, .int 0]) in_X0 tyX0_ok nmX0 rfl (k := 2) (by decide) rfl rfl kF_X0_23 dX0_clear_7 mm_fit_z0 mm_up_s (Nat.le_of_ble_eq_true rfl) (Nat.le_of_ble_eq_true rfl) rfl ?_
  refine mm_vret dX0_clear_10 rfl ?_ (by omega) (by omega)
  refine ⟨rfl, rfl, ?_⟩
  dsimp only
  exact ⟨mm_up_s, fun x e7 => mm_upN e7 (mm_upN e7 (rfl))⟩

set_option maxHeartbeats 4000000 in
set_option maxRecDepth 100000 in
theorem k10_X6_clear {g : mm_G} {l : Launch} (hst : l.stackTraces = false) {d : Nat} (M : Nat → mm_C) (h6 : M 6 = .inr (6, [.ref 7, .ref 9, .ref 190, .int 0, .int 0])) (h7 : M 7 = .inr (0, [.ref 8, .int 0, .int 0])) (h190 : M 190 = .inl (0, 5, .inl (fun _ => 0))) : mm_Cm g l yX6_clear (.code yX6_clear cX6_clear 2 none) (d + 1) 0 0 [.ref 6] (M, 1186, false) (fun v S' => v = none ∧ S'.2 = (1186, false) ∧ S'.1 7 = .inr (0, [.ref 8, .int 0, .int 0]) ∧ S'.1 6 = .inr (6, [.ref 7, .ref 9, .ref 190, .int 0, .int 0]) ∧ S'.1 190 = .inl (0, 5, .inl (upd (upd (upd (upd (upd (fun _ => 0) ((0 : Int32).toNatClampNeg) 0) ((1 : Int32).toNatClampNeg) 0) ((2 : Int32).toNatClampNeg) 0) ((3 : Int32).toNatClampNeg) 0) ((4 : Int32).toNatClampNeg) 0)) ∧ ∀ j, j ≠ 7 → j ≠ 6 → j ≠ 190 → S'.1 j = M j) := by
  refine mm_Cm_of hst (by decide) (Nat.le_of_ble_eq_true rfl) ?_
  show mm_V g l RX6 "clear" cX6_clear 2 none [] (d + 1) 0 0 _ 0 [some (.ref 6), none] [] (M, 1186, false) 0 0
  refine mm_aload_n dX6_clear_0 rfl rfl ?_
  refine mm_get3 (ci := 6) in_X6 rfl (k := 0) (by decide) rfl kF_X6_14 dX6_clear_1 h6 (Nat.le_of_ble_eq_true rfl) rfl ?_
  refine mm_callV3 (ci := 0) wM_X0_clear kM_X6_31 wI_X0_clear wS_X0_clear dX6_clear_4 (k11_X0_clear hst _  h7) h7 (Nat.le_of_ble_eq_true rfl) rfl rfl rfl (Nat.le_of_ble_eq_true rfl) (by omega) (by omega) (fun v S9 hq => ?_)
  obtain ⟨M12, z12⟩ := S9
  obtain ⟨rfl, hz12, g12_7, g12_F⟩ := hq
  cases hz12
  refine ⟨fun h => ⟨h, rfl⟩, ?_⟩
  refine mm_aload_n dX6_clear_7 rfl rfl ?_
  refine mm_iconst (v := 0) dX6_clear_8 (by decide) ?_
  refine mm_put3 (ci := 6) (fs1 := [.ref 7, .ref 9, .ref 190, .int 0, .int 0]) in_X6 tyX6_ok nmX6 rfl (k := 3) (by decide) rfl rfl kF_X6_34 dX6_clear_9 (mm_fit_int _) (mm_frN (g12_F _ (by decide)) h6) (Nat.le_of_ble_eq_true rfl) (Nat.le_of_ble_eq_true rfl) rfl ?_
  refine mm_aload_n dX6_clear_12 rfl rfl ?_
  refine mm_iconst (v := 0) dX6_clear_13 (by decide) ?_
  refine mm_put3 (ci := 6) (fs1 := [.ref 7, .ref 9, .ref 190, .int 0, .int 0]) in_X6 tyX6_ok nmX6 rfl (k := 4) (by decide) rfl rfl kF_X6_38 dX6_clear_14 (mm_fit_int _) mm_up_s (Nat.le_of_ble_eq_true rfl) (Nat.le_of_ble_eq_true rfl) rfl ?_
  refine mm_iconst (v := 0) dX6_clear_17 (by decide) ?_
  refine mm_istore_n [some (.ref 6), some (.int 0)] dX6_clear_18 (by decide) rfl ?_
  refine mm_iload_n dX6_clear_19 rfl ?_
  refine mm_aload_n dX6_clear_20 rfl rfl ?_
  refine mm_get3 (ci := 6) in_X6 rfl (k := 2) (by decide) rfl kF_X6_27 dX6_clear_21 mm_up_s (Nat.le_of_ble_eq_true rfl) rfl ?_
  refine mm_alen3 (v := 5) (fun _ => rfl) (mm_upN (by decide) (mm_upN (by decide) (mm_frN (g12_F _ (by decide)) h190))) (Nat.le_of_ble_eq_true rfl) rfl dX6_clear_24 ?_
  refine mm_icmp_ge 41 dX6_clear_25 (by decide) (fun h => absurd h (by decide)) (fun _ => ?_)
  refine mm_aload_n dX6_clear_28 rfl rfl ?_
  refine mm_get3 (ci := 6) in_X6 rfl (k := 2) (by decide) rfl kF_X6_27 dX6_clear_29 mm_up_s (Nat.le_of_ble_eq_true rfl) rfl ?_
  refine mm_iload_n dX6_clear_32 rfl ?_
  refine mm_iconst (v := 0) dX6_clear_33 (by decide) ?_
  refine mm_iast3 (mm_upN (by decide) (mm_upN (by decide) (mm_frN (g12_F _ (by decide)) h190))) (Nat.le_of_ble_eq_true rfl) (by unfold vp_in; decide) dX6_clear_34 ?_
  refine mm_iinc (v := 1) [some (.ref 6), some (.int 1)] dX6_clear_35 rfl (by decide) (by decide) rfl ?_
  refine mm_goto 19 dX6_clear_38 (by decide) ?_
  refine mm_iload_n dX6_clear_19 rfl ?_
  refine mm_aload_n dX6_clear_20 rfl rfl ?_
  refine mm_get3 (ci := 6) in_X6 rfl (k := 2) (by decide) rfl kF_X6_27 dX6_clear_21 (mm_upN (by decide) mm_up_s) (Nat.le_of_ble_eq_true rfl) rfl ?_
  refine mm_alen3 (v := 5) (fun _ => rfl) mm_up_s (Nat.le_of_ble_eq_true rfl) rfl dX6_clear_24 ?_
  refine mm_icmp_ge 41 dX6_clear_25 (by decide) (fun h => absurd h (by decide)) (fun _ => ?_)
  refine mm_aload_n dX6_clear_28 rfl rfl ?_
  refine mm_get3 (ci := 6) in_X6 rfl (k := 2) (by decide) rfl kF_X6_27 dX6_clear_29 (mm_upN (by decide) mm_up_s) (Nat.le_of_ble_eq_true rfl) rfl ?_
  refine mm_iload_n dX6_clear_32 rfl ?_
  refine mm_iconst (v := 0) dX6_clear_33 (by decide) ?_
  refine mm_iast3 mm_up_s (Nat.le_of_ble_eq_true rfl) (by unfold vp_in; decide) dX6_clear_34 ?_
  refine mm_iinc (v := 2) [some (.ref 6), some (.int 2)] dX6_clear_35 rfl (by decide) (by decide) rfl ?_
  refine mm_goto 19 dX6_clear_38 (by decide) ?_
  refine mm_iload_n dX6_clear_19 rfl ?_
  refine mm_aload_n dX6_clear_20 rfl rfl ?_
  refine mm_get3 (ci := 6) in_X6 rfl (k := 2) (by decide) rfl kF_X6_27 dX6_clear_21 (mm_upN (by decide) (mm_upN (by decide) mm_up_s)) (Nat.le_of_ble_eq_true rfl) rfl ?_
  refine mm_alen3 (v := 5) (fun _ => rfl) mm_up_s (Nat.le_of_ble_eq_true rfl) rfl dX6_clear_24 ?_
  refine mm_icmp_ge 41 dX6_clear_25 (by decide) (fun h => absurd h (by decide)) (fun _ => ?_)
  refine mm_aload_n dX6_clear_28 rfl rfl ?_
  refine mm_get3 (ci := 6) in_X6 rfl (k := 2) (by decide) rfl kF_X6_27 dX6_clear_29 (mm_upN (by decide) (mm_upN (by decide) mm_up_s)) (Nat.le_of_ble_eq_true rfl) rfl ?_
  refine mm_iload_n dX6_clear_32 rfl ?_
  refine mm_iconst (v := 0) dX6_clear_33 (by decide) ?_
  refine mm_iast3 mm_up_s (Nat.le_of_ble_eq_true rfl) (by unfold vp_in; decide) dX6_clear_34 ?_
  refine mm_iinc (v := 3) [some (.ref 6), some (.int 3)] dX6_clear_35 rfl (by decide) (by decide) rfl ?_
  refine mm_goto 19 dX6_clear_38 (by decide) ?_
  refine mm_iload_n dX6_clear_19 rfl ?_
  refine mm_aload_n dX6_clear_20 rfl rfl ?_
  refine mm_get3 (ci := 6) in_X6 rfl (k := 2) (by decide) rfl kF_X6_27 dX6_clear_21 (mm_upN (by decide) (mm_upN (by decide) (mm_upN (by decide) mm_up_s))) (Nat.le_of_ble_eq_true rfl) rfl ?_
  refine mm_alen3 (v := 5) (fun _ => rfl) mm_up_s (Nat.le_of_ble_eq_true rfl) rfl dX6_clear_24 ?_
  refine mm_icmp_ge 41 dX6_clear_25 (by decide) (fun h => absurd h (by decide)) (fun _ => ?_)
  refine mm_aload_n dX6_clear_28 rfl rfl ?_
  refine mm_get3 (ci := 6) in_X6 rfl (k := 2) (by decide) rfl kF_X6_27 dX6_clear_29 (mm_upN (by decide) (mm_upN (by decide) (mm_upN (by decide) mm_up_s))) (Nat.le_of_ble_eq_true rfl) rfl ?_
  refine mm_iload_n dX6_clear_32 rfl ?_
  refine mm_iconst (v := 0) dX6_clear_33 (by decide) ?_
  refine mm_iast3 mm_up_s (Nat.le_of_ble_eq_true rfl) (by unfold vp_in; decide) dX6_clear_34 ?_
  refine mm_iinc (v := 4) [some (.ref 6), some (.int 4)] dX6_clear_35 rfl (by decide) (by decide) rfl ?_
  refine mm_goto 19 dX6_clear_38 (by decide) ?_
  refine mm_iload_n dX6_clear_19 rfl ?_
  refine mm_aload_n dX6_clear_20 rfl rfl ?_
  refine mm_get3 (ci := 6) in_X6 rfl (k := 2) (by decide) rfl kF_X6_27 dX6_clear_21 (mm_upN (by decide) (mm_upN (by decide) (mm_upN (by decide) (mm_upN (by decide) mm_up_s)))) (Nat.le_of_ble_eq_true rfl) rfl ?_
  refine mm_alen3 (v := 5) (fun _ => rfl) mm_up_s (Nat.le_of_ble_eq_true rfl) rfl dX6_clear_24 ?_
  refine mm_icmp_ge 41 dX6_clear_25 (by decide) (fun h => absurd h (by decide)) (fun _ => ?_)
  refine mm_aload_n dX6_clear_28 rfl rfl ?_
  refine mm_get3 (ci := 6) in_X6 rfl (k := 2) (by decide) rfl kF_X6_27 dX6_clear_29 (mm_upN (by decide) (mm_upN (by decide) (mm_upN (by decide) (mm_upN (by decide) mm_up_s)))) (Nat.le_of_ble_eq_true rfl) rfl ?_
  refine mm_iload_n dX6_clear_32 rfl ?_
  refine mm_iconst (v := 0) dX6_clear_33 (by decide) ?_
  refine mm_iast3 mm_up_s (Nat.le_of_ble_eq_true rfl) (by unfold vp_in; decide) dX6_clear_34 ?_
  refine mm_iinc (v := 5) [some (.ref 6), some (.int 5)] dX6_clear_35 rfl (by decide) (by decide) rfl ?_
  refine mm_goto 19 dX6_clear_38 (by decide) ?_
  refine mm_iload_n dX6_clear_19 rfl ?_
  refine mm_aload_n dX6_clear_20 rfl rfl ?_
  refine mm_get3 (ci := 6) in_X6 rfl (k := 2) (by decide) rfl kF_X6_27 dX6_clear_21 (mm_upN (by decide) (mm_upN (by decide) (mm_upN (by decide) (mm_upN (by decide) (mm_upN (by decide) mm_up_s))))) (Nat.le_of_ble_eq_true rfl) rfl ?_
  refine mm_alen3 (v := 5) (fun _ => rfl) mm_up_s (Nat.le_of_ble_eq_true rfl) rfl dX6_clear_24 ?_
  refine mm_icmp_ge 41 dX6_clear_25 (by decide) (fun _ => ?_) (fun h => absurd (by decide) h)
  refine mm_vret dX6_clear_41 rfl ?_ (by omega) (by omega)
  refine ⟨rfl, rfl, ?_⟩
  dsimp only
  exact ⟨(mm_upN (by decide) (mm_upN (by decide) (mm_upN (by decide) (mm_upN (by decide) (mm_upN (by decide) (mm_upN (by decide) (mm_upN (by decide) g12_7))))))), (mm_upN (by decide) (mm_upN (by decide) (mm_upN (by decide) (mm_upN (by decide) (mm_upN (by decide) mm_up_s))))), mm_up_s, fun x e7 e6 e190 => mm_upN e190 (mm_upN e190 (mm_upN e190 (mm_upN e190 (mm_upN e190 (mm_upN e6 (mm_upN e6 (mm_frN (g12_F _ e7 ) (rfl))))))))⟩

set_option maxHeartbeats 4000000 in
set_option maxRecDepth 100000 in
theorem k14_X6_text {g : mm_G} {l : Launch} (hst : l.stackTraces = false) {d : Nat} (M : Nat → mm_C) (h6 : M 6 = .inr (6, [.ref 7, .ref 9, .ref 190, .int 0, .int 0])) : mm_Cm g l yX6_text (.code yX6_text cX6_text 1 (some (.object "ProtoDesk$Bytes"))) d 0 0 [.ref 6] (M, 1186, false) (fun v S' => v = some (.ref 7) ∧ S' = (M, 1186, false)) := by
  refine mm_Cm_of hst (by decide) (Nat.le_of_ble_eq_true rfl) ?_
  show mm_V g l RX6 "text" cX6_text 1 (some (.object "ProtoDesk$Bytes")) [] d 0 0 _ 0 [some (.ref 6)] [] (M, 1186, false) 0 0
  refine mm_aload_n dX6_text_0 rfl rfl ?_
  refine mm_get3 (ci := 6) in_X6 rfl (k := 0) (by decide) rfl kF_X6_14 dX6_text_1 h6 (Nat.le_of_ble_eq_true rfl) rfl ?_
  refine mm_aret (a := some 7) dX6_text_4 rfl ?_ (by omega) (by omega)
  exact ⟨rfl, rfl⟩

set_option maxHeartbeats 4000000 in
set_option maxRecDepth 100000 in
theorem k16_X0_size {g : mm_G} {l : Launch} (hst : l.stackTraces = false) {d : Nat} (M : Nat → mm_C) (h1 : M 1 = .inr (0, [.ref 2, .int 0, .int 0])) : mm_Cm g l yX0_size (.code yX0_size cX0_size 1 (some .int)) d 0 0 [.ref 1] (M, 1186, false) (fun v S' => v = some (.int 0) ∧ S' = (M, 1186, false)) := by
  refine mm_Cm_of hst (by decide) (Nat.le_of_ble_eq_true rfl) ?_
  show mm_V g l RX0 "size" cX0_size 1 (some .int) [] d 0 0 _ 0 [some (.ref 1)] [] (M, 1186, false) 0 0
  refine mm_aload_n dX0_size_0 rfl rfl ?_
  refine mm_get3 (ci := 0) in_X0 rfl (k := 1) (by decide) rfl kF_X0_19 dX0_size_1 h1 (Nat.le_of_ble_eq_true rfl) rfl ?_
  refine mm_iret dX0_size_4 rfl rfl ?_ (by omega) (by omega)
  exact ⟨rfl, rfl⟩

set_option maxHeartbeats 4000000 in
set_option maxRecDepth 100000 in
theorem k18_X0_addAll {g : mm_G} {l : Launch} (hst : l.stackTraces = false) {d : Nat} (M : Nat → mm_C) : mm_Cm g l yX0_addAll (.code yX0_addAll cX0_addAll 5 none) d 0 0 [.ref 7, .ref 1, .int 0, .int 0] (M, 1186, false) (fun v S' => v = none ∧ S' = (M, 1186, false)) := by
  refine mm_Cm_of hst (by decide) (Nat.le_of_ble_eq_true rfl) ?_
  show mm_V g l RX0 "addAll" cX0_addAll 5 none [] d 0 0 _ 0 [some (.ref 7), some (.ref 1), some (.int 0), some (.int 0), none] [] (M, 1186, false) 0 0
  refine mm_iload_n dX0_addAll_0 rfl ?_
  refine mm_istore [some (.ref 7), some (.ref 1), some (.int 0), some (.int 0), some (.int 0)] dX0_addAll_1 (by decide) rfl ?_
  refine mm_iload dX0_addAll_3 rfl ?_
  refine mm_iload_n dX0_addAll_5 rfl ?_
  refine mm_icmp_ge 25 dX0_addAll_6 (by decide) (fun _ => ?_) (fun h => absurd (by decide) h)
  refine mm_vret dX0_addAll_25 rfl ?_ (by omega) (by omega)
  exact ⟨rfl, rfl⟩

set_option maxHeartbeats 4000000 in
set_option maxRecDepth 100000 in
theorem k21_X0_size {g : mm_G} {l : Launch} (hst : l.stackTraces = false) {d : Nat} (M : Nat → mm_C) (h7 : M 7 = .inr (0, [.ref 8, .int 0, .int 0])) : mm_Cm g l yX0_size (.code yX0_size cX0_size 1 (some .int)) d 0 0 [.ref 7] (M, 1186, false) (fun v S' => v = some (.int 0) ∧ S' = (M, 1186, false)) := by
  refine mm_Cm_of hst (by decide) (Nat.le_of_ble_eq_true rfl) ?_
  show mm_V g l RX0 "size" cX0_size 1 (some .int) [] d 0 0 _ 0 [some (.ref 7)] [] (M, 1186, false) 0 0
  refine mm_aload_n dX0_size_0 rfl rfl ?_
  refine mm_get3 (ci := 0) in_X0 rfl (k := 1) (by decide) rfl kF_X0_19 dX0_size_1 h7 (Nat.le_of_ble_eq_true rfl) rfl ?_
  refine mm_iret dX0_size_4 rfl rfl ?_ (by omega) (by omega)
  exact ⟨rfl, rfl⟩

set_option maxHeartbeats 4000000 in
set_option maxRecDepth 100000 in
theorem k23_X10_behindBlanks {g : mm_G} {l : Launch} (hst : l.stackTraces = false) {d : Nat} (M : Nat → mm_C) (h191 : M 191 = .inr (10, [.ref 7, .ref 192, .ref 193, .ref 194, .ref 195, .int 0, .int 0, .int 0])) : mm_Cm g l yX10_behindBlanks (.code yX10_behindBlanks cX10_behindBlanks 5 (some .int)) d 0 0 [.ref 191, .int 0] (M, 1186, false) (fun v S' => v = some (.int 0) ∧ S' = (M, 1186, false)) := by
  refine mm_Cm_of hst (by decide) (Nat.le_of_ble_eq_true rfl) ?_
  show mm_V g l RX10 "behindBlanks" cX10_behindBlanks 5 (some .int) [] d 0 0 _ 0 [some (.ref 191), some (.int 0), none, none, none] [] (M, 1186, false) 0 0
  refine mm_iload_n dX10_behindBlanks_0 rfl ?_
  refine mm_istore_n [some (.ref 191), some (.int 0), some (.int 0), none, none] dX10_behindBlanks_1 (by decide) rfl ?_
  refine mm_iload_n dX10_behindBlanks_2 rfl ?_
  refine mm_aload_n dX10_behindBlanks_3 rfl rfl ?_
  refine mm_get3 (ci := 10) in_X10 rfl (k := 6) (by decide) rfl kF_X10_33 dX10_behindBlanks_4 h191 (Nat.le_of_ble_eq_true rfl) rfl ?_
  refine mm_icmp_ge 92 dX10_behindBlanks_7 (by decide) (fun _ => ?_) (fun h => absurd (by decide) h)
  refine mm_aload_n dX10_behindBlanks_92 rfl rfl ?_
  refine mm_get3 (ci := 10) in_X10 rfl (k := 6) (by decide) rfl kF_X10_33 dX10_behindBlanks_93 h191 (Nat.le_of_ble_eq_true rfl) rfl ?_
  refine mm_iret dX10_behindBlanks_96 rfl rfl ?_ (by omega) (by omega)
  exact ⟨rfl, rfl⟩

set_option maxHeartbeats 4000000 in
set_option maxRecDepth 100000 in
theorem k26_X0_at {g : mm_G} {l : Launch} (hst : l.stackTraces = false) {d : Nat} (M : Nat → mm_C) (h7 : M 7 = .inr (0, [.ref 8, .int 0, .int 0])) : mm_Cm g l yX0_at (.code yX0_at cX0_at 2 (some .int)) d 0 0 [.ref 7, .int 0] (M, 1186, false) (fun v S' => v = some (.int (-1)) ∧ S' = (M, 1186, false)) := by
  refine mm_Cm_of hst (by decide) (Nat.le_of_ble_eq_true rfl) ?_
  show mm_V g l RX0 "at" cX0_at 2 (some .int) [] d 0 0 _ 0 [some (.ref 7), some (.int 0)] [] (M, 1186, false) 0 0
  refine mm_iload_n dX0_at_0 rfl ?_
  refine mm_if_lt 34 dX0_at_1 (by decide) (fun h => absurd h (by decide)) (fun _ => ?_)
  refine mm_iload_n dX0_at_4 rfl ?_
  refine mm_aload_n dX0_at_5 rfl rfl ?_
  refine mm_get3 (ci := 0) in_X0 rfl (k := 1) (by decide) rfl kF_X0_19 dX0_at_6 h7 (Nat.le_of_ble_eq_true rfl) rfl ?_
  refine mm_icmp_ge 34 dX0_at_9 (by decide) (fun _ => ?_) (fun h => absurd (by decide) h)
  refine mm_iconst (v := (-1)) dX0_at_34 (by decide) ?_
  refine mm_iret dX0_at_35 rfl rfl ?_ (by omega) (by omega)
  exact ⟨rfl, rfl⟩

set_option maxHeartbeats 4000000 in
set_option maxRecDepth 100000 in
theorem k28_X10_push {g : mm_G} {l : Launch} (hst : l.stackTraces = false) {d : Nat} (M : Nat → mm_C) (h191 : M 191 = .inr (10, [.ref 7, .ref 192, .ref 193, .ref 194, .ref 195, .int 0, .int 0, .int 0])) (h192 : M 192 = .inl (0, 701, .inl (fun _ => 0))) (h193 : M 193 = .inl (0, 701, .inl (fun _ => 0))) (h194 : M 194 = .inl (0, 701, .inl (fun _ => 0))) (h195 : M 195 = .inl (1, 701, .inr (.inl (fun _ => 0)))) : mm_Cm g l yX10_push (.code yX10_push cX10_push 6 (some .int)) d 0 0 [.ref 191, .int 0, .int 0, .int 0, .long (-1)] (M, 1186, false) (fun v S' => v = some (.int 0) ∧ S'.2 = (1186, false) ∧ S'.1 192 = .inl (0, 701, .inl (upd (fun _ => 0) ((0 : Int32).toNatClampNeg) 0)) ∧ S'.1 193 = .inl (0, 701, .inl (upd (fun _ => 0) ((0 : Int32).toNatClampNeg) 0)) ∧ S'.1 194 = .inl (0, 701, .inl (upd (fun _ => 0) ((0 : Int32).toNatClampNeg) 0)) ∧ S'.1 195 = .inl (1, 701, .inr (.inl (vp_updL (fun _ => 0) ((0 : Int32).toNatClampNeg) (-1)))) ∧ S'.1 191 = .inr (10, [.ref 7, .ref 192, .ref 193, .ref 194, .ref 195, .int (0 + 1), .int 0, .int 0]) ∧ ∀ j, j ≠ 192 → j ≠ 193 → j ≠ 194 → j ≠ 195 → j ≠ 191 → S'.1 j = M j) := by
  refine mm_Cm_of hst (by decide) (Nat.le_of_ble_eq_true rfl) ?_
  show mm_V g l RX10 "push" cX10_push 6 (some .int) [] d 0 0 _ 0 [some (.ref 191), some (.int 0), some (.int 0), some (.int 0), some (.long (-1)), none] [] (M, 1186, false) 0 0
  refine mm_aload_n dX10_push_0 rfl rfl ?_
  refine mm_get3 (ci := 10) in_X10 rfl (k := 5) (by decide) rfl kF_X10_29 dX10_push_1 h191 (Nat.le_of_ble_eq_true rfl) rfl ?_
  refine mm_if_lt 55 dX10_push_4 (by decide) (fun h => absurd h (by decide)) (fun _ => ?_)
  refine mm_aload_n dX10_push_7 rfl rfl ?_
  refine mm_get3 (ci := 10) in_X10 rfl (k := 5) (by decide) rfl kF_X10_29 dX10_push_8 h191 (Nat.le_of_ble_eq_true rfl) rfl ?_
  refine mm_aload_n dX10_push_11 rfl rfl ?_
  refine mm_get3 (ci := 10) in_X10 rfl (k := 1) (by decide) rfl kF_X10_15 dX10_push_12 h191 (Nat.le_of_ble_eq_true rfl) rfl ?_
  refine mm_alen3 (v := 701) (fun _ => rfl) h192 (Nat.le_of_ble_eq_true rfl) rfl dX10_push_15 ?_
  refine mm_icmp_ge 55 dX10_push_16 (by decide) (fun h => absurd h (by decide)) (fun _ => ?_)
  refine mm_aload_n dX10_push_19 rfl rfl ?_
  refine mm_get3 (ci := 10) in_X10 rfl (k := 5) (by decide) rfl kF_X10_29 dX10_push_20 h191 (Nat.le_of_ble_eq_true rfl) rfl ?_
  refine mm_aload_n dX10_push_23 rfl rfl ?_
  refine mm_get3 (ci := 10) in_X10 rfl (k := 2) (by decide) rfl kF_X10_19 dX10_push_24 h191 (Nat.le_of_ble_eq_true rfl) rfl ?_
  refine mm_alen3 (v := 701) (fun _ => rfl) h193 (Nat.le_of_ble_eq_true rfl) rfl dX10_push_27 ?_
  refine mm_icmp_ge 55 dX10_push_28 (by decide) (fun h => absurd h (by decide)) (fun _ => ?_)
  refine mm_aload_n dX10_push_31 rfl rfl ?_
  refine mm_get3 (ci := 10) in_X10 rfl (k := 5) (by decide) rfl kF_X10_29 dX10_push_32 h191 (Nat.le_of_ble_eq_true rfl) rfl ?_
  refine mm_aload_n dX10_push_35 rfl rfl ?_
  refine mm_get3 (ci := 10) in_X10 rfl (k := 3) (by decide) rfl kF_X10_22 dX10_push_36 h191 (Nat.le_of_ble_eq_true rfl) rfl ?_
  refine mm_alen3 (v := 701) (fun _ => rfl) h194 (Nat.le_of_ble_eq_true rfl) rfl dX10_push_39 ?_
  refine mm_icmp_ge 55 dX10_push_40 (by decide) (fun h => absurd h (by decide)) (fun _ => ?_)
  refine mm_aload_n dX10_push_43 rfl rfl ?_
  refine mm_get3 (ci := 10) in_X10 rfl (k := 5) (by decide) rfl kF_X10_29 dX10_push_44 h191 (Nat.le_of_ble_eq_true rfl) rfl ?_
  refine mm_aload_n dX10_push_47 rfl rfl ?_
  refine mm_get3 (ci := 10) in_X10 rfl (k := 4) (by decide) rfl kF_X10_25 dX10_push_48 h191 (Nat.le_of_ble_eq_true rfl) rfl ?_
  refine mm_alen3 (v := 701) (fun _ => rfl) h195 (Nat.le_of_ble_eq_true rfl) rfl dX10_push_51 ?_
  refine mm_icmp_lt 57 dX10_push_52 (by decide) (fun _ => ?_) (fun h => absurd (by decide) h)
  refine mm_aload_n dX10_push_57 rfl rfl ?_
  refine mm_get3 (ci := 10) in_X10 rfl (k := 1) (by decide) rfl kF_X10_15 dX10_push_58 h191 (Nat.le_of_ble_eq_true rfl) rfl ?_
  refine mm_aload_n dX10_push_61 rfl rfl ?_
  refine mm_get3 (ci := 10) in_X10 rfl (k := 5) (by decide) rfl kF_X10_29 dX10_push_62 h191 (Nat.le_of_ble_eq_true rfl) rfl ?_
  refine mm_iload_n dX10_push_65 rfl ?_
  refine mm_iast3 h192 (Nat.le_of_ble_eq_true rfl) (by unfold vp_in; decide) dX10_push_66 ?_
  refine mm_aload_n dX10_push_67 rfl rfl ?_
  refine mm_get3 (ci := 10) in_X10 rfl (k := 2) (by decide) rfl kF_X10_19 dX10_push_68 (mm_upN (by decide) h191) (Nat.le_of_ble_eq_true rfl) rfl ?_
  refine mm_aload_n dX10_push_71 rfl rfl ?_
  refine mm_get3 (ci := 10) in_X10 rfl (k := 5) (by decide) rfl kF_X10_29 dX10_push_72 (mm_upN (by decide) h191) (Nat.le_of_ble_eq_true rfl) rfl ?_
  refine mm_iload_n dX10_push_75 rfl ?_
  refine mm_iast3 (mm_upN (by decide) h193) (Nat.le_of_ble_eq_true rfl) (by unfold vp_in; decide) dX10_push_76 ?_
  refine mm_aload_n dX10_push_77 rfl rfl ?_
  refine mm_get3 (ci := 10) in_X10 rfl (k := 3) (by decide) rfl kF_X10_22 dX10_push_78 (mm_upN (by decide) (mm_upN (by decide) h191)) (Nat.le_of_ble_eq_true rfl) rfl ?_
  refine mm_aload_n dX10_push_81 rfl rfl ?_
  refine mm_get3 (ci := 10) in_X10 rfl (k := 5) (by decide) rfl kF_X10_29 dX10_push_82 (mm_upN (by decide) (mm_upN (by decide) h191)) (Nat.le_of_ble_eq_true rfl) rfl ?_
  refine mm_iload_n dX10_push_85 rfl ?_
  refine mm_iast3 (mm_upN (by decide) (mm_upN (by decide) h194)) (Nat.le_of_ble_eq_true rfl) (by unfold vp_in; decide) dX10_push_86 ?_
  refine mm_aload_n dX10_push_87 rfl rfl ?_
  refine mm_get3 (ci := 10) in_X10 rfl (k := 4) (by decide) rfl kF_X10_25 dX10_push_88 (mm_upN (by decide) (mm_upN (by decide) (mm_upN (by decide) h191))) (Nat.le_of_ble_eq_true rfl) rfl ?_
  refine mm_aload_n dX10_push_91 rfl rfl ?_
  refine mm_get3 (ci := 10) in_X10 rfl (k := 5) (by decide) rfl kF_X10_29 dX10_push_92 (mm_upN (by decide) (mm_upN (by decide) (mm_upN (by decide) h191))) (Nat.le_of_ble_eq_true rfl) rfl ?_
  refine mm_lload dX10_push_95 rfl ?_
  refine mm_last3 (mm_upN (by decide) (mm_upN (by decide) (mm_upN (by decide) h195))) (Nat.le_of_ble_eq_true rfl) (by unfold vp_in; decide) dX10_push_97 ?_
  refine mm_aload_n dX10_push_98 rfl rfl ?_
  refine mm_dup dX10_push_99 rfl ?_
  refine mm_get3 (ci := 10) in_X10 rfl (k := 5) (by decide) rfl kF_X10_29 dX10_push_100 (mm_upN (by decide) (mm_upN (by decide) (mm_upN (by decide) (mm_upN (by decide) h191)))) (Nat.le_of_ble_eq_true rfl) rfl ?_
  refine mm_iconst (v := 1) dX10_push_103 (by decide) ?_
  refine mm_iadd dX10_push_104 ?_
  refine mm_put3 (ci := 10) (fs1 := [.ref 7, .ref 192, .ref 193, .ref 194, .ref 195, .int (0 + 1), .int 0, .int 0]) in_X10 tyX10_ok nmX10 rfl (k := 5) (by decide) rfl rfl kF_X10_29 dX10_push_105 (mm_fit_int _) (mm_upN (by decide) (mm_upN (by decide) (mm_upN (by decide) (mm_upN (by decide) h191)))) (Nat.le_of_ble_eq_true rfl) (Nat.le_of_ble_eq_true rfl) rfl ?_
  refine mm_iload_n dX10_push_108 rfl ?_
  refine mm_iconst (v := 5) dX10_push_109 (by decide) ?_
  refine mm_icmp_ne 117 dX10_push_110 (by decide) (fun _ => ?_) (fun h => absurd h (by decide))
  refine mm_iload_n dX10_push_117 rfl ?_
  refine mm_iret dX10_push_118 rfl rfl ?_ (by omega) (by omega)
  refine ⟨rfl, rfl, ?_⟩
  dsimp only
  exact ⟨(mm_upN (by decide) (mm_upN (by decide) (mm_upN (by decide) (mm_upN (by decide) mm_up_s)))), (mm_upN (by decide) (mm_upN (by decide) (mm_upN (by decide) mm_up_s))), (mm_upN (by decide) (mm_upN (by decide) mm_up_s)), (mm_upN (by decide) mm_up_s), mm_up_s, fun x e192 e193 e194 e195 e191 => mm_upN e191 (mm_upN e195 (mm_upN e194 (mm_upN e193 (mm_upN e192 (rfl)))))⟩

set_option maxHeartbeats 4000000 in
set_option maxRecDepth 100000 in
theorem k25_X10_addWord {g : mm_G} {l : Launch} (hst : l.stackTraces = false) {d : Nat} (M : Nat → mm_C) (h7 : M 7 = .inr (0, [.ref 8, .int 0, .int 0])) (h191 : M 191 = .inr (10, [.ref 7, .ref 192, .ref 193, .ref 194, .ref 195, .int 0, .int 0, .int 0])) (h192 : M 192 = .inl (0, 701, .inl (fun _ => 0))) (h193 : M 193 = .inl (0, 701, .inl (fun _ => 0))) (h194 : M 194 = .inl (0, 701, .inl (fun _ => 0))) (h195 : M 195 = .inl (1, 701, .inr (.inl (fun _ => 0)))) : mm_Cm g l yX10_addWord (.code yX10_addWord cX10_addWord 4 (some .int)) (d + 1) 0 0 [.ref 191, .int 0] (M, 1186, false) (fun v S' => v = some (.int 0) ∧ S'.2 = (1186, false) ∧ S'.1 192 = .inl (0, 701, .inl (upd (fun _ => 0) ((0 : Int32).toNatClampNeg) 0)) ∧ S'.1 193 = .inl (0, 701, .inl (upd (fun _ => 0) ((0 : Int32).toNatClampNeg) 0)) ∧ S'.1 194 = .inl (0, 701, .inl (upd (fun _ => 0) ((0 : Int32).toNatClampNeg) 0)) ∧ S'.1 195 = .inl (1, 701, .inr (.inl (vp_updL (fun _ => 0) ((0 : Int32).toNatClampNeg) (-1)))) ∧ S'.1 191 = .inr (10, [.ref 7, .ref 192, .ref 193, .ref 194, .ref 195, .int (0 + 1), .int 0, .int 0]) ∧ ∀ j, j ≠ 192 → j ≠ 193 → j ≠ 194 → j ≠ 195 → j ≠ 191 → S'.1 j = M j) := by
  refine mm_Cm_of hst (by decide) (Nat.le_of_ble_eq_true rfl) ?_
  show mm_V g l RX10 "addWord" cX10_addWord 4 (some .int) [] (d + 1) 0 0 _ 0 [some (.ref 191), some (.int 0), none, none] [] (M, 1186, false) 0 0
  refine mm_aload_n dX10_addWord_0 rfl rfl ?_
  refine mm_get3 (ci := 10) in_X10 rfl (k := 0) (by decide) rfl kF_X10_9 dX10_addWord_1 h191 (Nat.le_of_ble_eq_true rfl) rfl ?_
  refine mm_iload_n dX10_addWord_4 rfl ?_
  refine mm_callV3 (ci := 0) wM_X0_at kM_X10_55 wI_X0_at wS_X0_at dX10_addWord_5 (k26_X0_at hst _  h7) h7 (Nat.le_of_ble_eq_true rfl) rfl rfl rfl (Nat.le_of_ble_eq_true rfl) (by omega) (by omega) (fun v S9 hq => ?_)
  obtain ⟨rfl, rfl⟩ := hq
  refine ⟨fun h => ⟨h, rfl⟩, ?_⟩
  refine mm_istore_n [some (.ref 191), some (.int 0), some (.int (-1)), none] dX10_addWord_8 (by decide) rfl ?_
  refine mm_iload_n dX10_addWord_9 rfl ?_
  refine mm_if_ge 35 dX10_addWord_10 (by decide) (fun h => absurd h (by decide)) (fun _ => ?_)
  refine mm_aload_n dX10_addWord_13 rfl rfl ?_
  refine mm_aload_n dX10_addWord_14 rfl rfl ?_
  refine mm_get3 (ci := 10) in_X10 rfl (k := 7) (by decide) rfl kF_X10_44 dX10_addWord_15 h191 (Nat.le_of_ble_eq_true rfl) rfl ?_
  refine mm_if_eq 25 dX10_addWord_18 (by decide) (fun _ => ?_) (fun h => absurd (by decide) h)
  refine mm_iconst (v := 0) dX10_addWord_25 (by decide) ?_
  refine mm_iload_n dX10_addWord_26 rfl ?_
  refine mm_iload_n dX10_addWord_27 rfl ?_
  refine mm_ldc2 kL_X10_36 dX10_addWord_28 ?_
  refine mm_callV3 (ci := 10) wM_X10_push kM_X10_58 wI_X10_push wS_X10_push dX10_addWord_31 (k28_X10_push hst _  h191 h192 h193 h194 h195) h191 (Nat.le_of_ble_eq_true rfl) rfl rfl rfl (Nat.le_of_ble_eq_true rfl) (by omega) (by omega) (fun v S9 hq => ?_)
  obtain ⟨M29, z29⟩ := S9
  obtain ⟨rfl, hz29, g29_192, g29_193, g29_194, g29_195, g29_191, g29_F⟩ := hq
  cases hz29
  refine ⟨fun h => ⟨h, rfl⟩, ?_⟩
  refine mm_iret dX10_addWord_34 rfl rfl ?_ (by omega) (by omega)
  refine ⟨rfl, rfl, ?_⟩
  dsimp only
  exact ⟨g29_192, g29_193, g29_194, g29_195, g29_191, fun x e192 e193 e194 e195 e191 => mm_frN (g29_F _ e192 e193 e194 e195 e191 ) (rfl)⟩

set_option maxHeartbeats 4000000 in
set_option maxRecDepth 100000 in
theorem k20_X10_split {g : mm_G} {l : Launch} (hst : l.stackTraces = false) {d : Nat} (M : Nat → mm_C) (h7 : M 7 = .inr (0, [.ref 8, .int 0, .int 0])) (h191 : M 191 = .inr (10, [.ref 7, .ref 192, .ref 193, .ref 194, .ref 195, .int 0, .int 0, .int 0])) (h192 : M 192 = .inl (0, 701, .inl (fun _ => 0))) (h193 : M 193 = .inl (0, 701, .inl (fun _ => 0))) (h194 : M 194 = .inl (0, 701, .inl (fun _ => 0))) (h195 : M 195 = .inl (1, 701, .inr (.inl (fun _ => 0)))) : mm_Cm g l yX10_split (.code yX10_split cX10_split 4 none) (d + 2) 0 0 [.ref 191] (M, 1186, false) (fun v S' => v = none ∧ S'.2 = (1186, false) ∧ S'.1 191 = .inr (10, [.ref 7, .ref 192, .ref 193, .ref 194, .ref 195, .int (0 + 1), .int 0, .int 0]) ∧ S'.1 192 = .inl (0, 701, .inl (upd (fun _ => 0) ((0 : Int32).toNatClampNeg) 0)) ∧ S'.1 193 = .inl (0, 701, .inl (upd (fun _ => 0) ((0 : Int32).toNatClampNeg) 0)) ∧ S'.1 194 = .inl (0, 701, .inl (upd (fun _ => 0) ((0 : Int32).toNatClampNeg) 0)) ∧ S'.1 195 = .inl (1, 701, .inr (.inl (vp_updL (fun _ => 0) ((0 : Int32).toNatClampNeg) (-1)))) ∧ ∀ j, j ≠ 191 → j ≠ 192 → j ≠ 193 → j ≠ 194 → j ≠ 195 → S'.1 j = M j) := by
  refine mm_Cm_of hst (by decide) (Nat.le_of_ble_eq_true rfl) ?_
  show mm_V g l RX10 "split" cX10_split 4 none [] (d + 2) 0 0 _ 0 [some (.ref 191), none, none, none] [] (M, 1186, false) 0 0
  refine mm_aload_n dX10_split_0 rfl rfl ?_
  refine mm_iconst (v := 0) dX10_split_1 (by decide) ?_
  refine mm_put3 (ci := 10) (fs1 := [.ref 7, .ref 192, .ref 193, .ref 194, .ref 195, .int 0, .int 0, .int 0]) in_X10 tyX10_ok nmX10 rfl (k := 5) (by decide) rfl rfl kF_X10_29 dX10_split_2 (mm_fit_int _) h191 (Nat.le_of_ble_eq_true rfl) (Nat.le_of_ble_eq_true rfl) rfl ?_
  refine mm_aload_n dX10_split_5 rfl rfl ?_
  refine mm_aload_n dX10_split_6 rfl rfl ?_
  refine mm_get3 (ci := 10) in_X10 rfl (k := 0) (by decide) rfl kF_X10_9 dX10_split_7 mm_up_s (Nat.le_of_ble_eq_true rfl) rfl ?_
  refine mm_callV3 (ci := 0) wM_X0_size kM_X10_38 wI_X0_size wS_X0_size dX10_split_10 (k21_X0_size hst _  (mm_upN (by decide) h7)) (mm_upN (by decide) h7) (Nat.le_of_ble_eq_true rfl) rfl rfl rfl (Nat.le_of_ble_eq_true rfl) (by omega) (by omega) (fun v S9 hq => ?_)
  obtain ⟨rfl, rfl⟩ := hq
  refine ⟨fun h => ⟨h, rfl⟩, ?_⟩
  refine mm_put3 (ci := 10) (fs1 := [.ref 7, .ref 192, .ref 193, .ref 194, .ref 195, .int 0, .int 0, .int 0]) in_X10 tyX10_ok nmX10 rfl (k := 6) (by decide) rfl rfl kF_X10_33 dX10_split_13 (mm_fit_int _) mm_up_s (Nat.le_of_ble_eq_true rfl) (Nat.le_of_ble_eq_true rfl) rfl ?_
  refine mm_aload_n dX10_split_16 rfl rfl ?_
  refine mm_iconst (v := 0) dX10_split_17 (by decide) ?_
  refine mm_put3 (ci := 10) (fs1 := [.ref 7, .ref 192, .ref 193, .ref 194, .ref 195, .int 0, .int 0, .int 0]) in_X10 tyX10_ok nmX10 rfl (k := 7) (by decide) rfl rfl kF_X10_44 dX10_split_18 mm_fit_z0 mm_up_s (Nat.le_of_ble_eq_true rfl) (Nat.le_of_ble_eq_true rfl) rfl ?_
  refine mm_iconst (v := 0) dX10_split_21 (by decide) ?_
  refine mm_istore_n [some (.ref 191), some (.int 0), none, none] dX10_split_22 (by decide) rfl ?_
  refine mm_iconst (v := 0) dX10_split_23 (by decide) ?_
  refine mm_istore_n [some (.ref 191), some (.int 0), some (.int 0), none] dX10_split_24 (by decide) rfl ?_
  refine mm_iload_n dX10_split_25 rfl ?_
  refine mm_sipush (v := 700) dX10_split_26 (by decide) ?_
  refine mm_icmp_gt 56 dX10_split_29 (by decide) (fun h => absurd h (by decide)) (fun _ => ?_)
  refine mm_aload_n dX10_split_32 rfl rfl ?_
  refine mm_iload_n dX10_split_33 rfl ?_
  refine mm_callV3 (ci := 10) wM_X10_behindBlanks kM_X10_48 wI_X10_behindBlanks wS_X10_behindBlanks dX10_split_34 (k23_X10_behindBlanks hst _  mm_up_s) mm_up_s (Nat.le_of_ble_eq_true rfl) rfl rfl rfl (Nat.le_of_ble_eq_true rfl) (by omega) (by omega) (fun v S9 hq => ?_)
  obtain ⟨rfl, rfl⟩ := hq
  refine ⟨fun h => ⟨h, rfl⟩, ?_⟩
  refine mm_istore_n [some (.ref 191), some (.int 0), some (.int 0), some (.int 0)] dX10_split_37 (by decide) rfl ?_
  refine mm_aload_n dX10_split_38 rfl rfl ?_
  refine mm_iload_n dX10_split_39 rfl ?_
  refine mm_callV3 (ci := 10) wM_X10_addWord kM_X10_52 wI_X10_addWord wS_X10_addWord dX10_split_40 (k25_X10_addWord hst _  (mm_upN (by decide) (mm_upN (by decide) (mm_upN (by decide) h7))) mm_up_s (mm_upN (by decide) (mm_upN (by decide) (mm_upN (by decide) h192))) (mm_upN (by decide) (mm_upN (by decide) (mm_upN (by decide) h193))) (mm_upN (by decide) (mm_upN (by decide) (mm_upN (by decide) h194))) (mm_upN (by decide) (mm_upN (by decide) (mm_upN (by decide) h195)))) mm_up_s (Nat.le_of_ble_eq_true rfl) rfl rfl rfl (Nat.le_of_ble_eq_true rfl) (by omega) (by omega) (fun v S9 hq => ?_)
  obtain ⟨M30, z30⟩ := S9
  obtain ⟨rfl, hz30, g30_192, g30_193, g30_194, g30_195, g30_191, g30_F⟩ := hq
  cases hz30
  refine ⟨fun h => ⟨h, rfl⟩, ?_⟩
  refine mm_istore_n [some (.ref 191), some (.int 0), some (.int 0), some (.int 0)] dX10_split_43 (by decide) rfl ?_
  refine mm_iload_n dX10_split_44 rfl ?_
  refine mm_iload_n dX10_split_45 rfl ?_
  refine mm_icmp_gt 50 dX10_split_46 (by decide) (fun h => absurd h (by decide)) (fun _ => ?_)
  refine mm_vret dX10_split_49 rfl ?_ (by omega) (by omega)
  refine ⟨rfl, rfl, ?_⟩
  dsimp only
  exact ⟨g30_191, g30_192, g30_193, g30_194, g30_195, fun x e191 e192 e193 e194 e195 => mm_frN (g30_F _ e192 e193 e194 e195 e191 ) (mm_upN e191 (mm_upN e191 (mm_upN e191 (rfl))))⟩

set_option maxHeartbeats 4000000 in
set_option maxRecDepth 100000 in
theorem k35_X10_codeOf {g : mm_G} {l : Launch} (hst : l.stackTraces = false) {d : Nat} (M : Nat → mm_C) (h191 : M 191 = .inr (10, [.ref 7, .ref 192, .ref 193, .ref 194, .ref 195, .int (0 + 1), .int 0, .int 0])) (h192 : M 192 = .inl (0, 701, .inl (upd (fun _ => 0) ((0 : Int32).toNatClampNeg) 0))) (h195 : M 195 = .inl (1, 701, .inr (.inl (vp_updL (fun _ => 0) ((0 : Int32).toNatClampNeg) (-1))))) : mm_Cm g l yX10_codeOf (.code yX10_codeOf cX10_codeOf 3 (some .int)) d 0 0 [.ref 191, .int 0] (M, 1186, false) (fun v S' => v = some (.int (-1)) ∧ S' = (M, 1186, false)) := by
  refine mm_Cm_of hst (by decide) (Nat.le_of_ble_eq_true rfl) ?_
  show mm_V g l RX10 "codeOf" cX10_codeOf 3 (some .int) [] d 0 0 _ 0 [some (.ref 191), some (.int 0), none] [] (M, 1186, false) 0 0
  refine mm_iload_n dX10_codeOf_0 rfl ?_
  refine mm_if_lt 44 dX10_codeOf_1 (by decide) (fun h => absurd h (by decide)) (fun _ => ?_)
  refine mm_iload_n dX10_codeOf_4 rfl ?_
  refine mm_aload_n dX10_codeOf_5 rfl rfl ?_
  refine mm_get3 (ci := 10) in_X10 rfl (k := 5) (by decide) rfl kF_X10_29 dX10_codeOf_6 h191 (Nat.le_of_ble_eq_true rfl) rfl ?_
  refine mm_icmp_ge 44 dX10_codeOf_9 (by decide) (fun h => absurd h (by decide)) (fun _ => ?_)
  refine mm_iload_n dX10_codeOf_12 rfl ?_
  refine mm_aload_n dX10_codeOf_13 rfl rfl ?_
  refine mm_get3 (ci := 10) in_X10 rfl (k := 1) (by decide) rfl kF_X10_15 dX10_codeOf_14 h191 (Nat.le_of_ble_eq_true rfl) rfl ?_
  refine mm_alen3 (v := 701) (fun _ => rfl) h192 (Nat.le_of_ble_eq_true rfl) rfl dX10_codeOf_17 ?_
  refine mm_icmp_ge 44 dX10_codeOf_18 (by decide) (fun h => absurd h (by decide)) (fun _ => ?_)
  refine mm_iload_n dX10_codeOf_21 rfl ?_
  refine mm_aload_n dX10_codeOf_22 rfl rfl ?_
  refine mm_get3 (ci := 10) in_X10 rfl (k := 4) (by decide) rfl kF_X10_25 dX10_codeOf_23 h191 (Nat.le_of_ble_eq_true rfl) rfl ?_
  refine mm_alen3 (v := 701) (fun _ => rfl) h195 (Nat.le_of_ble_eq_true rfl) rfl dX10_codeOf_26 ?_
  refine mm_icmp_ge 44 dX10_codeOf_27 (by decide) (fun h => absurd h (by decide)) (fun _ => ?_)
  refine mm_aload_n dX10_codeOf_30 rfl rfl ?_
  refine mm_get3 (ci := 10) in_X10 rfl (k := 1) (by decide) rfl kF_X10_15 dX10_codeOf_31 h191 (Nat.le_of_ble_eq_true rfl) rfl ?_
  refine mm_iload_n dX10_codeOf_34 rfl ?_
  refine mm_iald3 h192 (Nat.le_of_ble_eq_true rfl) (by unfold vp_in; decide) dX10_codeOf_35 ?_
  refine mm_iconst (v := 1) dX10_codeOf_36 (by decide) ?_
  refine mm_icmp_ne 44 dX10_codeOf_37 (by decide) (fun _ => ?_) (fun h => absurd h (by decide))
  refine mm_iconst (v := 0) dX10_codeOf_44 (by decide) ?_
  refine mm_istore_n [some (.ref 191), some (.int 0), some (.int 0)] dX10_codeOf_45 (by decide) rfl ?_
  refine mm_iload_n dX10_codeOf_46 rfl ?_
  refine mm_if_eq 60 dX10_codeOf_47 (by decide) (fun _ => ?_) (fun h => absurd (by decide) h)
  refine mm_iconst (v := (-1)) dX10_codeOf_60 (by decide) ?_
  refine mm_iret dX10_codeOf_61 rfl rfl ?_ (by omega) (by omega)
  exact ⟨rfl, rfl⟩

set_option maxHeartbeats 4000000 in
set_option maxRecDepth 100000 in
theorem k34_X5_takesWord {g : mm_G} {l : Launch} (hst : l.stackTraces = false) {d : Nat} (M : Nat → mm_C) (h191 : M 191 = .inr (10, [.ref 7, .ref 192, .ref 193, .ref 194, .ref 195, .int (0 + 1), .int 0, .int 0])) (h192 : M 192 = .inl (0, 701, .inl (upd (fun _ => 0) ((0 : Int32).toNatClampNeg) 0))) (h195 : M 195 = .inl (1, 701, .inr (.inl (vp_updL (fun _ => 0) ((0 : Int32).toNatClampNeg) (-1))))) (h196 : M 196 = .inr (5, [.ref 6, .ref 191, .null, .null, .null, .int 0, .int 0, .int 1])) : mm_Cm g l yX5_takesWord (.code yX5_takesWord cX5_takesWord 2 (some .boolean)) (d + 1) 0 0 [.ref 196, .int 24] (M, 1186, false) (fun v S' => v = some (.int 0) ∧ S' = (M, 1186, false)) := by
  refine mm_Cm_of hst (by decide) (Nat.le_of_ble_eq_true rfl) ?_
  show mm_V g l RX5 "takesWord" cX5_takesWord 2 (some .boolean) [] (d + 1) 0 0 _ 0 [some (.ref 196), some (.int 24)] [] (M, 1186, false) 0 0
  refine mm_aload_n dX5_takesWord_0 rfl rfl ?_
  refine mm_get3 (ci := 5) in_X5 rfl (k := 1) (by decide) rfl kF_X5_15 dX5_takesWord_1 h196 (Nat.le_of_ble_eq_true rfl) rfl ?_
  refine mm_aload_n dX5_takesWord_4 rfl rfl ?_
  refine mm_get3 (ci := 5) in_X5 rfl (k := 6) (by decide) rfl kF_X5_29 dX5_takesWord_5 h196 (Nat.le_of_ble_eq_true rfl) rfl ?_
  refine mm_callV3 (ci := 10) wM_X10_codeOf kM_X5_69 wI_X10_codeOf wS_X10_codeOf dX5_takesWord_8 (k35_X10_codeOf hst _  h191 h192 h195) h191 (Nat.le_of_ble_eq_true rfl) rfl rfl rfl (Nat.le_of_ble_eq_true rfl) (by omega) (by omega) (fun v S9 hq => ?_)
  obtain ⟨rfl, rfl⟩ := hq
  refine ⟨fun h => ⟨h, rfl⟩, ?_⟩
  refine mm_iload_n dX5_takesWord_11 rfl ?_
  refine mm_icmp_eq 17 dX5_takesWord_12 (by decide) (fun h => absurd h (by decide)) (fun _ => ?_)
  refine mm_iconst (v := 0) dX5_takesWord_15 (by decide) ?_
  refine mm_iret dX5_takesWord_16 rfl rfl ?_ (by omega) (by omega)
  exact ⟨rfl, rfl⟩

set_option maxHeartbeats 4000000 in
set_option maxRecDepth 100000 in
theorem k33_X5_readSyntax {g : mm_G} {l : Launch} (hst : l.stackTraces = false) {d : Nat} (M : Nat → mm_C) (h191 : M 191 = .inr (10, [.ref 7, .ref 192, .ref 193, .ref 194, .ref 195, .int (0 + 1), .int 0, .int 0])) (h192 : M 192 = .inl (0, 701, .inl (upd (fun _ => 0) ((0 : Int32).toNatClampNeg) 0))) (h195 : M 195 = .inl (1, 701, .inr (.inl (vp_updL (fun _ => 0) ((0 : Int32).toNatClampNeg) (-1))))) (h196 : M 196 = .inr (5, [.ref 6, .ref 191, .null, .null, .null, .int 0, .int 0, .int 1])) : mm_Cm g l yX5_readSyntax (.code yX5_readSyntax cX5_readSyntax 1 (some .boolean)) (d + 2) 0 0 [.ref 196] (M, 1186, false) (fun v S' => v = some (.int 0) ∧ S' = (M, 1186, false)) := by
  refine mm_Cm_of hst (by decide) (Nat.le_of_ble_eq_true rfl) ?_
  show mm_V g l RX5 "readSyntax" cX5_readSyntax 1 (some .boolean) [] (d + 2) 0 0 _ 0 [some (.ref 196)] [] (M, 1186, false) 0 0
  refine mm_aload_n dX5_readSyntax_0 rfl rfl ?_
  refine mm_bipush (v := 24) dX5_readSyntax_1 (by decide) ?_
  refine mm_callV3 (ci := 5) wM_X5_takesWord kM_X5_72 wI_X5_takesWord wS_X5_takesWord dX5_readSyntax_3 (k34_X5_takesWord hst _  h191 h192 h195 h196) h196 (Nat.le_of_ble_eq_true rfl) rfl rfl rfl (Nat.le_of_ble_eq_true rfl) (by omega) (by omega) (fun v S9 hq => ?_)
  obtain ⟨rfl, rfl⟩ := hq
  refine ⟨fun h => ⟨h, rfl⟩, ?_⟩
  refine mm_if_eq 18 dX5_readSyntax_6 (by decide) (fun _ => ?_) (fun h => absurd (by decide) h)
  refine mm_iconst (v := 0) dX5_readSyntax_18 (by decide) ?_
  refine mm_iret dX5_readSyntax_19 rfl rfl ?_ (by omega) (by omega)
  exact ⟨rfl, rfl⟩

set_option maxHeartbeats 4000000 in
set_option maxRecDepth 100000 in
theorem k39_X10_count {g : mm_G} {l : Launch} (hst : l.stackTraces = false) {d : Nat} (M : Nat → mm_C) (h191 : M 191 = .inr (10, [.ref 7, .ref 192, .ref 193, .ref 194, .ref 195, .int (0 + 1), .int 0, .int 0])) : mm_Cm g l yX10_count (.code yX10_count cX10_count 1 (some .int)) d 0 0 [.ref 191] (M, 1186, false) (fun v S' => v = some (.int (0 + 1)) ∧ S' = (M, 1186, false)) := by
  refine mm_Cm_of hst (by decide) (Nat.le_of_ble_eq_true rfl) ?_
  show mm_V g l RX10 "count" cX10_count 1 (some .int) [] d 0 0 _ 0 [some (.ref 191)] [] (M, 1186, false) 0 0
  refine mm_aload_n dX10_count_0 rfl rfl ?_
  refine mm_get3 (ci := 10) in_X10 rfl (k := 5) (by decide) rfl kF_X10_29 dX10_count_1 h191 (Nat.le_of_ble_eq_true rfl) rfl ?_
  refine mm_iret dX10_count_4 rfl rfl ?_ (by omega) (by omega)
  exact ⟨rfl, rfl⟩

set_option maxHeartbeats 4000000 in
set_option maxRecDepth 100000 in
theorem k32_X5_read {g : mm_G} {l : Launch} (hst : l.stackTraces = false) {d : Nat} (M : Nat → mm_C) (h191 : M 191 = .inr (10, [.ref 7, .ref 192, .ref 193, .ref 194, .ref 195, .int (0 + 1), .int 0, .int 0])) (h192 : M 192 = .inl (0, 701, .inl (upd (fun _ => 0) ((0 : Int32).toNatClampNeg) 0))) (h195 : M 195 = .inl (1, 701, .inr (.inl (vp_updL (fun _ => 0) ((0 : Int32).toNatClampNeg) (-1))))) (h196 : M 196 = .inr (5, [.ref 6, .ref 191, .null, .null, .null, .int 0, .int 0, .int 0])) : mm_Cm g l yX5_read (.code yX5_read cX5_read 3 (some .int)) (d + 3) 0 0 [.ref 196] (M, 1186, false) (fun v S' => v = some (.int 1) ∧ S'.2 = (1186, false) ∧ S'.1 196 = .inr (5, [.ref 6, .ref 191, .null, .null, .null, .int 0, .int 0, .int 1]) ∧ ∀ j, j ≠ 196 → S'.1 j = M j) := by
  refine mm_Cm_of hst (by decide) (Nat.le_of_ble_eq_true rfl) ?_
  show mm_V g l RX5 "read" cX5_read 3 (some .int) [] (d + 3) 0 0 _ 0 [some (.ref 196), none, none] [] (M, 1186, false) 0 0
  refine mm_aload_n dX5_read_0 rfl rfl ?_
  refine mm_null dX5_read_1 ?_
  refine mm_put3 (ci := 5) (fs1 := [.ref 6, .ref 191, .null, .null, .null, .int 0, .int 0, .int 0]) in_X5 tyX5_ok nmX5 rfl (k := 2) (by decide) rfl rfl kF_X5_19 dX5_read_2 (mm_fit_null _) h196 (Nat.le_of_ble_eq_true rfl) (Nat.le_of_ble_eq_true rfl) rfl ?_
  refine mm_aload_n dX5_read_5 rfl rfl ?_
  refine mm_null dX5_read_6 ?_
  refine mm_put3 (ci := 5) (fs1 := [.ref 6, .ref 191, .null, .null, .null, .int 0, .int 0, .int 0]) in_X5 tyX5_ok nmX5 rfl (k := 3) (by decide) rfl rfl kF_X5_23 dX5_read_7 (mm_fit_null _) mm_up_s (Nat.le_of_ble_eq_true rfl) (Nat.le_of_ble_eq_true rfl) rfl ?_
  refine mm_aload_n dX5_read_10 rfl rfl ?_
  refine mm_null dX5_read_11 ?_
  refine mm_put3 (ci := 5) (fs1 := [.ref 6, .ref 191, .null, .null, .null, .int 0, .int 0, .int 0]) in_X5 tyX5_ok nmX5 rfl (k := 4) (by decide) rfl rfl kF_X5_26 dX5_read_12 (mm_fit_null _) mm_up_s (Nat.le_of_ble_eq_true rfl) (Nat.le_of_ble_eq_true rfl) rfl ?_
  refine mm_aload_n dX5_read_15 rfl rfl ?_
  refine mm_iconst (v := 0) dX5_read_16 (by decide) ?_
  refine mm_put3 (ci := 5) (fs1 := [.ref 6, .ref 191, .null, .null, .null, .int 0, .int 0, .int 0]) in_X5 tyX5_ok nmX5 rfl (k := 6) (by decide) rfl rfl kF_X5_29 dX5_read_17 (mm_fit_int _) mm_up_s (Nat.le_of_ble_eq_true rfl) (Nat.le_of_ble_eq_true rfl) rfl ?_
  refine mm_aload_n dX5_read_20 rfl rfl ?_
  refine mm_iconst (v := 1) dX5_read_21 (by decide) ?_
  refine mm_put3 (ci := 5) (fs1 := [.ref 6, .ref 191, .null, .null, .null, .int 0, .int 0, .int 1]) in_X5 tyX5_ok nmX5 rfl (k := 7) (by decide) rfl rfl kF_X5_33 dX5_read_22 (mm_fit_int _) mm_up_s (Nat.le_of_ble_eq_true rfl) (Nat.le_of_ble_eq_true rfl) rfl ?_
  refine mm_aload_n dX5_read_25 rfl rfl ?_
  refine mm_callV3 (ci := 5) wM_X5_readSyntax kM_X5_36 wI_X5_readSyntax wS_X5_readSyntax dX5_read_26 (k33_X5_readSyntax hst _  (mm_upN (by decide) (mm_upN (by decide) (mm_upN (by decide) (mm_upN (by decide) (mm_upN (by decide) h191))))) (mm_upN (by decide) (mm_upN (by decide) (mm_upN (by decide) (mm_upN (by decide) (mm_upN (by decide) h192))))) (mm_upN (by decide) (mm_upN (by decide) (mm_upN (by decide) (mm_upN (by decide) (mm_upN (by decide) h195))))) mm_up_s) mm_up_s (Nat.le_of_ble_eq_true rfl) rfl rfl rfl (Nat.le_of_ble_eq_true rfl) (by omega) (by omega) (fun v S9 hq => ?_)
  obtain ⟨rfl, rfl⟩ := hq
  refine ⟨fun h => ⟨h, rfl⟩, ?_⟩
  refine mm_istore_n [some (.ref 196), some (.int 0), none] dX5_read_29 (by decide) rfl ?_
  refine mm_iconst (v := 0) dX5_read_30 (by decide) ?_
  refine mm_istore_n [some (.ref 196), some (.int 0), some (.int 0)] dX5_read_31 (by decide) rfl ?_
  refine mm_iload_n dX5_read_32 rfl ?_
  refine mm_aload_n dX5_read_33 rfl rfl ?_
  refine mm_get3 (ci := 5) in_X5 rfl (k := 1) (by decide) rfl kF_X5_15 dX5_read_34 mm_up_s (Nat.le_of_ble_eq_true rfl) rfl ?_
  refine mm_callV3 (ci := 10) wM_X10_count kM_X5_40 wI_X10_count wS_X10_count dX5_read_37 (k39_X10_count hst _  (mm_upN (by decide) (mm_upN (by decide) (mm_upN (by decide) (mm_upN (by decide) (mm_upN (by decide) h191)))))) (mm_upN (by decide) (mm_upN (by decide) (mm_upN (by decide) (mm_upN (by decide) (mm_upN (by decide) h191))))) (Nat.le_of_ble_eq_true rfl) rfl rfl rfl (Nat.le_of_ble_eq_true rfl) (by omega) (by omega) (fun v S9 hq => ?_)
  obtain ⟨rfl, rfl⟩ := hq
  refine ⟨fun h => ⟨h, rfl⟩, ?_⟩
  refine mm_icmp_ge 93 dX5_read_40 (by decide) (fun h => absurd h (by decide)) (fun _ => ?_)
  refine mm_iload_n dX5_read_43 rfl ?_
  refine mm_if_eq 93 dX5_read_44 (by decide) (fun _ => ?_) (fun h => absurd (by decide) h)
  refine mm_iload_n dX5_read_93 rfl ?_
  refine mm_if_eq 108 dX5_read_94 (by decide) (fun _ => ?_) (fun h => absurd (by decide) h)
  refine mm_aload_n dX5_read_108 rfl rfl ?_
  refine mm_get3 (ci := 5) in_X5 rfl (k := 7) (by decide) rfl kF_X5_33 dX5_read_109 mm_up_s (Nat.le_of_ble_eq_true rfl) rfl ?_
  refine mm_iret dX5_read_112 rfl rfl ?_ (by omega) (by omega)
  refine ⟨rfl, rfl, ?_⟩
  dsimp only
  exact ⟨mm_up_s, fun x e196 => mm_upN e196 (mm_upN e196 (mm_upN e196 (mm_upN e196 (mm_upN e196 (rfl)))))⟩

set_option maxHeartbeats 4000000 in
set_option maxRecDepth 100000 in
theorem k43_X10_startOf {g : mm_G} {l : Launch} (hst : l.stackTraces = false) {d : Nat} (M : Nat → mm_C) (h191 : M 191 = .inr (10, [.ref 7, .ref 192, .ref 193, .ref 194, .ref 195, .int (0 + 1), .int 0, .int 0])) (h193 : M 193 = .inl (0, 701, .inl (upd (fun _ => 0) ((0 : Int32).toNatClampNeg) 0))) : mm_Cm g l yX10_startOf (.code yX10_startOf cX10_startOf 2 (some .int)) d 0 0 [.ref 191, .int 0] (M, 1186, false) (fun v S' => v = some (.int ((upd (fun _ => 0) ((0 : Int32).toNatClampNeg) 0) (0 : Int32).toNatClampNeg)) ∧ S' = (M, 1186, false)) := by
  refine mm_Cm_of hst (by decide) (Nat.le_of_ble_eq_true rfl) ?_
  show mm_V g l RX10 "startOf" cX10_startOf 2 (some .int) [] d 0 0 _ 0 [some (.ref 191), some (.int 0)] [] (M, 1186, false) 0 0
  refine mm_iload_n dX10_startOf_0 rfl ?_
  refine mm_if_lt 30 dX10_startOf_1 (by decide) (fun h => absurd h (by decide)) (fun _ => ?_)
  refine mm_iload_n dX10_startOf_4 rfl ?_
  refine mm_aload_n dX10_startOf_5 rfl rfl ?_
  refine mm_get3 (ci := 10) in_X10 rfl (k := 5) (by decide) rfl kF_X10_29 dX10_startOf_6 h191 (Nat.le_of_ble_eq_true rfl) rfl ?_
  refine mm_icmp_ge 30 dX10_startOf_9 (by decide) (fun h => absurd h (by decide)) (fun _ => ?_)
  refine mm_iload_n dX10_startOf_12 rfl ?_
  refine mm_aload_n dX10_startOf_13 rfl rfl ?_
  refine mm_get3 (ci := 10) in_X10 rfl (k := 2) (by decide) rfl kF_X10_19 dX10_startOf_14 h191 (Nat.le_of_ble_eq_true rfl) rfl ?_
  refine mm_alen3 (v := 701) (fun _ => rfl) h193 (Nat.le_of_ble_eq_true rfl) rfl dX10_startOf_17 ?_
  refine mm_icmp_ge 30 dX10_startOf_18 (by decide) (fun h => absurd h (by decide)) (fun _ => ?_)
  refine mm_aload_n dX10_startOf_21 rfl rfl ?_
  refine mm_get3 (ci := 10) in_X10 rfl (k := 2) (by decide) rfl kF_X10_19 dX10_startOf_22 h191 (Nat.le_of_ble_eq_true rfl) rfl ?_
  refine mm_iload_n dX10_startOf_25 rfl ?_
  refine mm_iald3 h193 (Nat.le_of_ble_eq_true rfl) (by unfold vp_in; decide) dX10_startOf_26 ?_
  refine mm_goto 34 dX10_startOf_27 (by decide) ?_
  refine mm_iret dX10_startOf_34 rfl rfl ?_ (by omega) (by omega)
  exact ⟨rfl, rfl⟩

set_option maxHeartbeats 4000000 in
set_option maxRecDepth 100000 in
theorem k42_X5_endPlace {g : mm_G} {l : Launch} (hst : l.stackTraces = false) {d : Nat} (M : Nat → mm_C) (h191 : M 191 = .inr (10, [.ref 7, .ref 192, .ref 193, .ref 194, .ref 195, .int (0 + 1), .int 0, .int 0])) (h193 : M 193 = .inl (0, 701, .inl (upd (fun _ => 0) ((0 : Int32).toNatClampNeg) 0))) (h196 : M 196 = .inr (5, [.ref 6, .ref 191, .null, .null, .null, .int 0, .int 0, .int 1])) : mm_Cm g l yX5_endPlace (.code yX5_endPlace cX5_endPlace 1 (some .int)) (d + 1) 0 0 [.ref 196] (M, 1186, false) (fun v S' => v = some (.int ((upd (fun _ => 0) ((0 : Int32).toNatClampNeg) 0) (0 : Int32).toNatClampNeg)) ∧ S' = (M, 1186, false)) := by
  refine mm_Cm_of hst (by decide) (Nat.le_of_ble_eq_true rfl) ?_
  show mm_V g l RX5 "endPlace" cX5_endPlace 1 (some .int) [] (d + 1) 0 0 _ 0 [some (.ref 196)] [] (M, 1186, false) 0 0
  refine mm_aload_n dX5_endPlace_0 rfl rfl ?_
  refine mm_get3 (ci := 5) in_X5 rfl (k := 1) (by decide) rfl kF_X5_15 dX5_endPlace_1 h196 (Nat.le_of_ble_eq_true rfl) rfl ?_
  refine mm_aload_n dX5_endPlace_4 rfl rfl ?_
  refine mm_get3 (ci := 5) in_X5 rfl (k := 6) (by decide) rfl kF_X5_29 dX5_endPlace_5 h196 (Nat.le_of_ble_eq_true rfl) rfl ?_
  refine mm_callV3 (ci := 10) wM_X10_startOf kM_X5_58 wI_X10_startOf wS_X10_startOf dX5_endPlace_8 (k43_X10_startOf hst _  h191 h193) h191 (Nat.le_of_ble_eq_true rfl) rfl rfl rfl (Nat.le_of_ble_eq_true rfl) (by omega) (by omega) (fun v S9 hq => ?_)
  obtain ⟨rfl, rfl⟩ := hq
  refine ⟨fun h => ⟨h, rfl⟩, ?_⟩
  refine mm_iret dX5_endPlace_11 rfl rfl ?_ (by omega) (by omega)
  exact ⟨rfl, rfl⟩

set_option maxHeartbeats 4000000 in
set_option maxRecDepth 100000 in
theorem k46_X6_used {g : mm_G} {l : Launch} (hst : l.stackTraces = false) {d : Nat} (M : Nat → mm_C) (h6 : M 6 = .inr (6, [.ref 7, .ref 9, .ref 190, .int 0, .int 0])) : mm_Cm g l yX6_used (.code yX6_used cX6_used 1 (some .int)) d 0 0 [.ref 6] (M, 1186, false) (fun v S' => v = some (.int 0) ∧ S' = (M, 1186, false)) := by
  refine mm_Cm_of hst (by decide) (Nat.le_of_ble_eq_true rfl) ?_
  show mm_V g l RX6 "used" cX6_used 1 (some .int) [] d 0 0 _ 0 [some (.ref 6)] [] (M, 1186, false) 0 0
  refine mm_aload_n dX6_used_0 rfl rfl ?_
  refine mm_get3 (ci := 6) in_X6 rfl (k := 3) (by decide) rfl kF_X6_34 dX6_used_1 h6 (Nat.le_of_ble_eq_true rfl) rfl ?_
  refine mm_iret dX6_used_4 rfl rfl ?_ (by omega) (by omega)
  exact ⟨rfl, rfl⟩

set_option maxHeartbeats 4000000 in
set_option maxRecDepth 100000 in
theorem k48_X6_clear {g : mm_G} {l : Launch} (hst : l.stackTraces = false) {d : Nat} (M : Nat → mm_C) (h6 : M 6 = .inr (6, [.ref 7, .ref 9, .ref 190, .int 0, .int 0])) (h7 : M 7 = .inr (0, [.ref 8, .int 0, .int 0])) (h190 : M 190 = .inl (0, 5, .inl (upd (upd (upd (upd (upd (fun _ => 0) ((0 : Int32).toNatClampNeg) 0) ((1 : Int32).toNatClampNeg) 0) ((2 : Int32).toNatClampNeg) 0) ((3 : Int32).toNatClampNeg) 0) ((4 : Int32).toNatClampNeg) 0))) : mm_Cm g l yX6_clear (.code yX6_clear cX6_clear 2 none) (d + 1) 0 0 [.ref 6] (M, 1186, false) (fun v S' => v = none ∧ S'.2 = (1186, false) ∧ S'.1 7 = .inr (0, [.ref 8, .int 0, .int 0]) ∧ S'.1 6 = .inr (6, [.ref 7, .ref 9, .ref 190, .int 0, .int 0]) ∧ S'.1 190 = .inl (0, 5, .inl (upd (upd (upd (upd (upd (upd (upd (upd (upd (upd (fun _ => 0) ((0 : Int32).toNatClampNeg) 0) ((1 : Int32).toNatClampNeg) 0) ((2 : Int32).toNatClampNeg) 0) ((3 : Int32).toNatClampNeg) 0) ((4 : Int32).toNatClampNeg) 0) ((0 : Int32).toNatClampNeg) 0) ((1 : Int32).toNatClampNeg) 0) ((2 : Int32).toNatClampNeg) 0) ((3 : Int32).toNatClampNeg) 0) ((4 : Int32).toNatClampNeg) 0)) ∧ ∀ j, j ≠ 7 → j ≠ 6 → j ≠ 190 → S'.1 j = M j) := by
  refine mm_Cm_of hst (by decide) (Nat.le_of_ble_eq_true rfl) ?_
  show mm_V g l RX6 "clear" cX6_clear 2 none [] (d + 1) 0 0 _ 0 [some (.ref 6), none] [] (M, 1186, false) 0 0
  refine mm_aload_n dX6_clear_0 rfl rfl ?_
  refine mm_get3 (ci := 6) in_X6 rfl (k := 0) (by decide) rfl kF_X6_14 dX6_clear_1 h6 (Nat.le_of_ble_eq_true rfl) rfl ?_
  refine mm_callV3 (ci := 0) wM_X0_clear kM_X6_31 wI_X0_clear wS_X0_clear dX6_clear_4 (k11_X0_clear hst _  h7) h7 (Nat.le_of_ble_eq_true rfl) rfl rfl rfl (Nat.le_of_ble_eq_true rfl) (by omega) (by omega) (fun v S9 hq => ?_)
  obtain ⟨M49, z49⟩ := S9
  obtain ⟨rfl, hz49, g49_7, g49_F⟩ := hq
  cases hz49
  refine ⟨fun h => ⟨h, rfl⟩, ?_⟩
  refine mm_aload_n dX6_clear_7 rfl rfl ?_
  refine mm_iconst (v := 0) dX6_clear_8 (by decide) ?_
  refine mm_put3 (ci := 6) (fs1 := [.ref 7, .ref 9, .ref 190, .int 0, .int 0]) in_X6 tyX6_ok nmX6 rfl (k := 3) (by decide) rfl rfl kF_X6_34 dX6_clear_9 (mm_fit_int _) (mm_frN (g49_F _ (by decide)) h6) (Nat.le_of_ble_eq_true rfl) (Nat.le_of_ble_eq_true rfl) rfl ?_
  refine mm_aload_n dX6_clear_12 rfl rfl ?_
  refine mm_iconst (v := 0) dX6_clear_13 (by decide) ?_
  refine mm_put3 (ci := 6) (fs1 := [.ref 7, .ref 9, .ref 190, .int 0, .int 0]) in_X6 tyX6_ok nmX6 rfl (k := 4) (by decide) rfl rfl kF_X6_38 dX6_clear_14 (mm_fit_int _) mm_up_s (Nat.le_of_ble_eq_true rfl) (Nat.le_of_ble_eq_true rfl) rfl ?_
  refine mm_iconst (v := 0) dX6_clear_17 (by decide) ?_
  refine mm_istore_n [some (.ref 6), some (.int 0)] dX6_clear_18 (by decide) rfl ?_
  refine mm_iload_n dX6_clear_19 rfl ?_
  refine mm_aload_n dX6_clear_20 rfl rfl ?_
  refine mm_get3 (ci := 6) in_X6 rfl (k := 2) (by decide) rfl kF_X6_27 dX6_clear_21 mm_up_s (Nat.le_of_ble_eq_true rfl) rfl ?_
  refine mm_alen3 (v := 5) (fun _ => rfl) (mm_upN (by decide) (mm_upN (by decide) (mm_frN (g49_F _ (by decide)) h190))) (Nat.le_of_ble_eq_true rfl) rfl dX6_clear_24 ?_
  refine mm_icmp_ge 41 dX6_clear_25 (by decide) (fun h => absurd h (by decide)) (fun _ => ?_)
  refine mm_aload_n dX6_clear_28 rfl rfl ?_
  refine mm_get3 (ci := 6) in_X6 rfl (k := 2) (by decide) rfl kF_X6_27 dX6_clear_29 mm_up_s (Nat.le_of_ble_eq_true rfl) rfl ?_
  refine mm_iload_n dX6_clear_32 rfl ?_
  refine mm_iconst (v := 0) dX6_clear_33 (by decide) ?_
  refine mm_iast3 (mm_upN (by decide) (mm_upN (by decide) (mm_frN (g49_F _ (by decide)) h190))) (Nat.le_of_ble_eq_true rfl) (by unfold vp_in; decide) dX6_clear_34 ?_
  refine mm_iinc (v := 1) [some (.ref 6), some (.int 1)] dX6_clear_35 rfl (by decide) (by decide) rfl ?_
  refine mm_goto 19 dX6_clear_38 (by decide) ?_
  refine mm_iload_n dX6_clear_19 rfl ?_
  refine mm_aload_n dX6_clear_20 rfl rfl ?_
  refine mm_get3 (ci := 6) in_X6 rfl (k := 2) (by decide) rfl kF_X6_27 dX6_clear_21 (mm_upN (by decide) mm_up_s) (Nat.le_of_ble_eq_true rfl) rfl ?_
  refine mm_alen3 (v := 5) (fun _ => rfl) mm_up_s (Nat.le_of_ble_eq_true rfl) rfl dX6_clear_24 ?_
  refine mm_icmp_ge 41 dX6_clear_25 (by decide) (fun h => absurd h (by decide)) (fun _ => ?_)
  refine mm_aload_n dX6_clear_28 rfl rfl ?_
  refine mm_get3 (ci := 6) in_X6 rfl (k := 2) (by decide) rfl kF_X6_27 dX6_clear_29 (mm_upN (by decide) mm_up_s) (Nat.le_of_ble_eq_true rfl) rfl ?_
  refine mm_iload_n dX6_clear_32 rfl ?_
  refine mm_iconst (v := 0) dX6_clear_33 (by decide) ?_
  refine mm_iast3 mm_up_s (Nat.le_of_ble_eq_true rfl) (by unfold vp_in; decide) dX6_clear_34 ?_
  refine mm_iinc (v := 2) [some (.ref 6), some (.int 2)] dX6_clear_35 rfl (by decide) (by decide) rfl ?_
  refine mm_goto 19 dX6_clear_38 (by decide) ?_
  refine mm_iload_n dX6_clear_19 rfl ?_
  refine mm_aload_n dX6_clear_20 rfl rfl ?_
  refine mm_get3 (ci := 6) in_X6 rfl (k := 2) (by decide) rfl kF_X6_27 dX6_clear_21 (mm_upN (by decide) (mm_upN (by decide) mm_up_s)) (Nat.le_of_ble_eq_true rfl) rfl ?_
  refine mm_alen3 (v := 5) (fun _ => rfl) mm_up_s (Nat.le_of_ble_eq_true rfl) rfl dX6_clear_24 ?_
  refine mm_icmp_ge 41 dX6_clear_25 (by decide) (fun h => absurd h (by decide)) (fun _ => ?_)
  refine mm_aload_n dX6_clear_28 rfl rfl ?_
  refine mm_get3 (ci := 6) in_X6 rfl (k := 2) (by decide) rfl kF_X6_27 dX6_clear_29 (mm_upN (by decide) (mm_upN (by decide) mm_up_s)) (Nat.le_of_ble_eq_true rfl) rfl ?_
  refine mm_iload_n dX6_clear_32 rfl ?_
  refine mm_iconst (v := 0) dX6_clear_33 (by decide) ?_
  refine mm_iast3 mm_up_s (Nat.le_of_ble_eq_true rfl) (by unfold vp_in; decide) dX6_clear_34 ?_
  refine mm_iinc (v := 3) [some (.ref 6), some (.int 3)] dX6_clear_35 rfl (by decide) (by decide) rfl ?_
  refine mm_goto 19 dX6_clear_38 (by decide) ?_
  refine mm_iload_n dX6_clear_19 rfl ?_
  refine mm_aload_n dX6_clear_20 rfl rfl ?_
  refine mm_get3 (ci := 6) in_X6 rfl (k := 2) (by decide) rfl kF_X6_27 dX6_clear_21 (mm_upN (by decide) (mm_upN (by decide) (mm_upN (by decide) mm_up_s))) (Nat.le_of_ble_eq_true rfl) rfl ?_
  refine mm_alen3 (v := 5) (fun _ => rfl) mm_up_s (Nat.le_of_ble_eq_true rfl) rfl dX6_clear_24 ?_
  refine mm_icmp_ge 41 dX6_clear_25 (by decide) (fun h => absurd h (by decide)) (fun _ => ?_)
  refine mm_aload_n dX6_clear_28 rfl rfl ?_
  refine mm_get3 (ci := 6) in_X6 rfl (k := 2) (by decide) rfl kF_X6_27 dX6_clear_29 (mm_upN (by decide) (mm_upN (by decide) (mm_upN (by decide) mm_up_s))) (Nat.le_of_ble_eq_true rfl) rfl ?_
  refine mm_iload_n dX6_clear_32 rfl ?_
  refine mm_iconst (v := 0) dX6_clear_33 (by decide) ?_
  refine mm_iast3 mm_up_s (Nat.le_of_ble_eq_true rfl) (by unfold vp_in; decide) dX6_clear_34 ?_
  refine mm_iinc (v := 4) [some (.ref 6), some (.int 4)] dX6_clear_35 rfl (by decide) (by decide) rfl ?_
  refine mm_goto 19 dX6_clear_38 (by decide) ?_
  refine mm_iload_n dX6_clear_19 rfl ?_
  refine mm_aload_n dX6_clear_20 rfl rfl ?_
  refine mm_get3 (ci := 6) in_X6 rfl (k := 2) (by decide) rfl kF_X6_27 dX6_clear_21 (mm_upN (by decide) (mm_upN (by decide) (mm_upN (by decide) (mm_upN (by decide) mm_up_s)))) (Nat.le_of_ble_eq_true rfl) rfl ?_
  refine mm_alen3 (v := 5) (fun _ => rfl) mm_up_s (Nat.le_of_ble_eq_true rfl) rfl dX6_clear_24 ?_
  refine mm_icmp_ge 41 dX6_clear_25 (by decide) (fun h => absurd h (by decide)) (fun _ => ?_)
  refine mm_aload_n dX6_clear_28 rfl rfl ?_
  refine mm_get3 (ci := 6) in_X6 rfl (k := 2) (by decide) rfl kF_X6_27 dX6_clear_29 (mm_upN (by decide) (mm_upN (by decide) (mm_upN (by decide) (mm_upN (by decide) mm_up_s)))) (Nat.le_of_ble_eq_true rfl) rfl ?_
  refine mm_iload_n dX6_clear_32 rfl ?_
  refine mm_iconst (v := 0) dX6_clear_33 (by decide) ?_
  refine mm_iast3 mm_up_s (Nat.le_of_ble_eq_true rfl) (by unfold vp_in; decide) dX6_clear_34 ?_
  refine mm_iinc (v := 5) [some (.ref 6), some (.int 5)] dX6_clear_35 rfl (by decide) (by decide) rfl ?_
  refine mm_goto 19 dX6_clear_38 (by decide) ?_
  refine mm_iload_n dX6_clear_19 rfl ?_
  refine mm_aload_n dX6_clear_20 rfl rfl ?_
  refine mm_get3 (ci := 6) in_X6 rfl (k := 2) (by decide) rfl kF_X6_27 dX6_clear_21 (mm_upN (by decide) (mm_upN (by decide) (mm_upN (by decide) (mm_upN (by decide) (mm_upN (by decide) mm_up_s))))) (Nat.le_of_ble_eq_true rfl) rfl ?_
  refine mm_alen3 (v := 5) (fun _ => rfl) mm_up_s (Nat.le_of_ble_eq_true rfl) rfl dX6_clear_24 ?_
  refine mm_icmp_ge 41 dX6_clear_25 (by decide) (fun _ => ?_) (fun h => absurd (by decide) h)
  refine mm_vret dX6_clear_41 rfl ?_ (by omega) (by omega)
  refine ⟨rfl, rfl, ?_⟩
  dsimp only
  exact ⟨(mm_upN (by decide) (mm_upN (by decide) (mm_upN (by decide) (mm_upN (by decide) (mm_upN (by decide) (mm_upN (by decide) (mm_upN (by decide) g49_7))))))), (mm_upN (by decide) (mm_upN (by decide) (mm_upN (by decide) (mm_upN (by decide) (mm_upN (by decide) mm_up_s))))), mm_up_s, fun x e7 e6 e190 => mm_upN e190 (mm_upN e190 (mm_upN e190 (mm_upN e190 (mm_upN e190 (mm_upN e6 (mm_upN e6 (mm_frN (g49_F _ e7 ) (rfl))))))))⟩

set_option maxHeartbeats 4000000 in
set_option maxRecDepth 100000 in
theorem k9_X2_run {g : mm_G} {l : Launch} (hst : l.stackTraces = false) {d : Nat} (M : Nat → mm_C) (h1 : M 1 = .inr (0, [.ref 2, .int 0, .int 0])) (h5 : M 5 = .inr (2, [.ref 6, .ref 191, .ref 196, .int 0, .int 0])) (h6 : M 6 = .inr (6, [.ref 7, .ref 9, .ref 190, .int 0, .int 0])) (h7 : M 7 = .inr (0, [.ref 8, .int 0, .int 0])) (h190 : M 190 = .inl (0, 5, .inl (fun _ => 0))) (h191 : M 191 = .inr (10, [.ref 7, .ref 192, .ref 193, .ref 194, .ref 195, .int 0, .int 0, .int 0])) (h192 : M 192 = .inl (0, 701, .inl (fun _ => 0))) (h193 : M 193 = .inl (0, 701, .inl (fun _ => 0))) (h194 : M 194 = .inl (0, 701, .inl (fun _ => 0))) (h195 : M 195 = .inl (1, 701, .inr (.inl (fun _ => 0)))) (h196 : M 196 = .inr (5, [.ref 6, .ref 191, .null, .null, .null, .int 0, .int 0, .int 0])) : mm_Cm g l yX2_run (.code yX2_run cX2_run 3 (some .int)) (d + 4) 0 0 [.ref 5, .ref 1] (M, 1186, false) (fun v S' => v = some (.int 1) ∧ S'.2 = (1186, false) ∧ S'.1 7 = .inr (0, [.ref 8, .int 0, .int 0]) ∧ S'.1 6 = .inr (6, [.ref 7, .ref 9, .ref 190, .int 0, .int 0]) ∧ S'.1 190 = .inl (0, 5, .inl (upd (upd (upd (upd (upd (upd (upd (upd (upd (upd (fun _ => 0) ((0 : Int32).toNatClampNeg) 0) ((1 : Int32).toNatClampNeg) 0) ((2 : Int32).toNatClampNeg) 0) ((3 : Int32).toNatClampNeg) 0) ((4 : Int32).toNatClampNeg) 0) ((0 : Int32).toNatClampNeg) 0) ((1 : Int32).toNatClampNeg) 0) ((2 : Int32).toNatClampNeg) 0) ((3 : Int32).toNatClampNeg) 0) ((4 : Int32).toNatClampNeg) 0)) ∧ S'.1 191 = .inr (10, [.ref 7, .ref 192, .ref 193, .ref 194, .ref 195, .int (0 + 1), .int 0, .int 0]) ∧ S'.1 192 = .inl (0, 701, .inl (upd (fun _ => 0) ((0 : Int32).toNatClampNeg) 0)) ∧ S'.1 193 = .inl (0, 701, .inl (upd (fun _ => 0) ((0 : Int32).toNatClampNeg) 0)) ∧ S'.1 194 = .inl (0, 701, .inl (upd (fun _ => 0) ((0 : Int32).toNatClampNeg) 0)) ∧ S'.1 195 = .inl (1, 701, .inr (.inl (vp_updL (fun _ => 0) ((0 : Int32).toNatClampNeg) (-1)))) ∧ S'.1 196 = .inr (5, [.ref 6, .ref 191, .null, .null, .null, .int 0, .int 0, .int 1]) ∧ S'.1 5 = .inr (2, [.ref 6, .ref 191, .ref 196, .int 1, .int ((upd (fun _ => 0) ((0 : Int32).toNatClampNeg) 0) (0 : Int32).toNatClampNeg)]) ∧ ∀ j, j ≠ 7 → j ≠ 6 → j ≠ 190 → j ≠ 191 → j ≠ 192 → j ≠ 193 → j ≠ 194 → j ≠ 195 → j ≠ 196 → j ≠ 5 → S'.1 j = M j) := by
  refine mm_Cm_of hst (by decide) (Nat.le_of_ble_eq_true rfl) ?_
  show mm_V g l RX2 "run" cX2_run 3 (some .int) [] (d + 4) 0 0 _ 0 [some (.ref 5), some (.ref 1), none] [] (M, 1186, false) 0 0
  refine mm_aload_n dX2_run_0 rfl rfl ?_
  refine mm_get3 (ci := 2) in_X2 rfl (k := 0) (by decide) rfl kF_X2_12 dX2_run_1 h5 (Nat.le_of_ble_eq_true rfl) rfl ?_
  refine mm_callV3 (ci := 6) wM_X6_clear kM_X2_44 wI_X6_clear wS_X6_clear dX2_run_4 (k10_X6_clear hst _  h6 h7 h190) h6 (Nat.le_of_ble_eq_true rfl) rfl rfl rfl (Nat.le_of_ble_eq_true rfl) (by omega) (by omega) (fun v S9 hq => ?_)
  obtain ⟨M13, z13⟩ := S9
  obtain ⟨rfl, hz13, g13_7, g13_6, g13_190, g13_F⟩ := hq
  cases hz13
  refine ⟨fun h => ⟨h, rfl⟩, ?_⟩
  refine mm_aload_n dX2_run_7 rfl rfl ?_
  refine mm_get3 (ci := 2) in_X2 rfl (k := 0) (by decide) rfl kF_X2_12 dX2_run_8 (mm_frN (g13_F _ (by decide) (by decide) (by decide)) h5) (Nat.le_of_ble_eq_true rfl) rfl ?_
  refine mm_callV3 (ci := 6) wM_X6_text kM_X2_20 wI_X6_text wS_X6_text dX2_run_11 (k14_X6_text hst _  g13_6) g13_6 (Nat.le_of_ble_eq_true rfl) rfl rfl rfl (Nat.le_of_ble_eq_true rfl) (by omega) (by omega) (fun v S9 hq => ?_)
  obtain ⟨rfl, rfl⟩ := hq
  refine ⟨fun h => ⟨h, rfl⟩, ?_⟩
  refine mm_aload_n dX2_run_14 rfl rfl ?_
  refine mm_iconst (v := 0) dX2_run_15 (by decide) ?_
  refine mm_aload_n dX2_run_16 rfl rfl ?_
  refine mm_callV3 (ci := 0) wM_X0_size kM_X2_47 wI_X0_size wS_X0_size dX2_run_17 (k16_X0_size hst _  (mm_frN (g13_F _ (by decide) (by decide) (by decide)) h1)) (mm_frN (g13_F _ (by decide) (by decide) (by decide)) h1) (Nat.le_of_ble_eq_true rfl) rfl rfl rfl (Nat.le_of_ble_eq_true rfl) (by omega) (by omega) (fun v S9 hq => ?_)
  obtain ⟨rfl, rfl⟩ := hq
  refine ⟨fun h => ⟨h, rfl⟩, ?_⟩
  refine mm_callV3 (ci := 0) wM_X0_addAll kM_X2_53 wI_X0_addAll wS_X0_addAll dX2_run_20 (k18_X0_addAll hst _  ) g13_7 (Nat.le_of_ble_eq_true rfl) rfl rfl rfl (Nat.le_of_ble_eq_true rfl) (by omega) (by omega) (fun v S9 hq => ?_)
  obtain ⟨rfl, rfl⟩ := hq
  refine ⟨fun h => ⟨h, rfl⟩, ?_⟩
  refine mm_aload_n dX2_run_23 rfl rfl ?_
  refine mm_get3 (ci := 2) in_X2 rfl (k := 1) (by decide) rfl kF_X2_27 dX2_run_24 (mm_frN (g13_F _ (by decide) (by decide) (by decide)) h5) (Nat.le_of_ble_eq_true rfl) rfl ?_
  refine mm_callV3 (ci := 10) wM_X10_split kM_X2_57 wI_X10_split wS_X10_split dX2_run_27 (k20_X10_split hst _  g13_7 (mm_frN (g13_F _ (by decide) (by decide) (by decide)) h191) (mm_frN (g13_F _ (by decide) (by decide) (by decide)) h192) (mm_frN (g13_F _ (by decide) (by decide) (by decide)) h193) (mm_frN (g13_F _ (by decide) (by decide) (by decide)) h194) (mm_frN (g13_F _ (by decide) (by decide) (by decide)) h195)) (mm_frN (g13_F _ (by decide) (by decide) (by decide)) h191) (Nat.le_of_ble_eq_true rfl) rfl rfl rfl (Nat.le_of_ble_eq_true rfl) (by omega) (by omega) (fun v S9 hq => ?_)
  obtain ⟨M31, z31⟩ := S9
  obtain ⟨rfl, hz31, g31_191, g31_192, g31_193, g31_194, g31_195, g31_F⟩ := hq
  cases hz31
  refine ⟨fun h => ⟨h, rfl⟩, ?_⟩
  refine mm_aload_n dX2_run_30 rfl rfl ?_
  refine mm_aload_n dX2_run_31 rfl rfl ?_
  refine mm_get3 (ci := 2) in_X2 rfl (k := 2) (by decide) rfl kF_X2_36 dX2_run_32 (mm_frN (g31_F _ (by decide) (by decide) (by decide) (by decide) (by decide)) (mm_frN (g13_F _ (by decide) (by decide) (by decide)) h5)) (Nat.le_of_ble_eq_true rfl) rfl ?_
  refine mm_callV3 (ci := 5) wM_X5_read kM_X2_60 wI_X5_read wS_X5_read dX2_run_35 (k32_X5_read hst _  g31_191 g31_192 g31_195 (mm_frN (g31_F _ (by decide) (by decide) (by decide) (by decide) (by decide)) (mm_frN (g13_F _ (by decide) (by decide) (by decide)) h196))) (mm_frN (g31_F _ (by decide) (by decide) (by decide) (by decide) (by decide)) (mm_frN (g13_F _ (by decide) (by decide) (by decide)) h196)) (Nat.le_of_ble_eq_true rfl) rfl rfl rfl (Nat.le_of_ble_eq_true rfl) (by omega) (by omega) (fun v S9 hq => ?_)
  obtain ⟨M41, z41⟩ := S9
  obtain ⟨rfl, hz41, g41_196, g41_F⟩ := hq
  cases hz41
  refine ⟨fun h => ⟨h, rfl⟩, ?_⟩
  refine mm_put3 (ci := 2) (fs1 := [.ref 6, .ref 191, .ref 196, .int 1, .int 0]) in_X2 tyX2_ok nmX2 rfl (k := 3) (by decide) rfl rfl kF_X2_63 dX2_run_38 (mm_fit_int _) (mm_frN (g41_F _ (by decide)) (mm_frN (g31_F _ (by decide) (by decide) (by decide) (by decide) (by decide)) (mm_frN (g13_F _ (by decide) (by decide) (by decide)) h5))) (Nat.le_of_ble_eq_true rfl) (Nat.le_of_ble_eq_true rfl) rfl ?_
  refine mm_aload_n dX2_run_41 rfl rfl ?_
  refine mm_aload_n dX2_run_42 rfl rfl ?_
  refine mm_get3 (ci := 2) in_X2 rfl (k := 3) (by decide) rfl kF_X2_63 dX2_run_43 mm_up_s (Nat.le_of_ble_eq_true rfl) rfl ?_
  refine mm_if_ne 53 dX2_run_46 (by decide) (fun _ => ?_) (fun h => absurd h (by decide))
  refine mm_aload_n dX2_run_53 rfl rfl ?_
  refine mm_get3 (ci := 2) in_X2 rfl (k := 2) (by decide) rfl kF_X2_36 dX2_run_54 mm_up_s (Nat.le_of_ble_eq_true rfl) rfl ?_
  refine mm_callV3 (ci := 5) wM_X5_endPlace kM_X2_66 wI_X5_endPlace wS_X5_endPlace dX2_run_57 (k42_X5_endPlace hst _  (mm_upN (by decide) (mm_frN (g41_F _ (by decide)) g31_191)) (mm_upN (by decide) (mm_frN (g41_F _ (by decide)) g31_193)) (mm_upN (by decide) g41_196)) (mm_upN (by decide) g41_196) (Nat.le_of_ble_eq_true rfl) rfl rfl rfl (Nat.le_of_ble_eq_true rfl) (by omega) (by omega) (fun v S9 hq => ?_)
  obtain ⟨rfl, rfl⟩ := hq
  refine ⟨fun h => ⟨h, rfl⟩, ?_⟩
  refine mm_put3 (ci := 2) (fs1 := [.ref 6, .ref 191, .ref 196, .int 1, .int ((upd (fun _ => 0) ((0 : Int32).toNatClampNeg) 0) (0 : Int32).toNatClampNeg)]) in_X2 tyX2_ok nmX2 rfl (k := 4) (by decide) rfl rfl kF_X2_40 dX2_run_60 (mm_fit_int _) mm_up_s (Nat.le_of_ble_eq_true rfl) (Nat.le_of_ble_eq_true rfl) rfl ?_
  refine mm_iconst (v := 0) dX2_run_63 (by decide) ?_
  refine mm_istore_n [some (.ref 5), some (.ref 1), some (.int 0)] dX2_run_64 (by decide) rfl ?_
  refine mm_iload_n dX2_run_65 rfl ?_
  refine mm_aload_n dX2_run_66 rfl rfl ?_
  refine mm_get3 (ci := 2) in_X2 rfl (k := 0) (by decide) rfl kF_X2_12 dX2_run_67 mm_up_s (Nat.le_of_ble_eq_true rfl) rfl ?_
  refine mm_callV3 (ci := 6) wM_X6_used kM_X2_69 wI_X6_used wS_X6_used dX2_run_70 (k46_X6_used hst _  (mm_upN (by decide) (mm_upN (by decide) (mm_frN (g41_F _ (by decide)) (mm_frN (g31_F _ (by decide) (by decide) (by decide) (by decide) (by decide)) g13_6))))) (mm_upN (by decide) (mm_upN (by decide) (mm_frN (g41_F _ (by decide)) (mm_frN (g31_F _ (by decide) (by decide) (by decide) (by decide) (by decide)) g13_6)))) (Nat.le_of_ble_eq_true rfl) rfl rfl rfl (Nat.le_of_ble_eq_true rfl) (by omega) (by omega) (fun v S9 hq => ?_)
  obtain ⟨rfl, rfl⟩ := hq
  refine ⟨fun h => ⟨h, rfl⟩, ?_⟩
  refine mm_icmp_ge 102 dX2_run_73 (by decide) (fun _ => ?_) (fun h => absurd (by decide) h)
  refine mm_aload_n dX2_run_102 rfl rfl ?_
  refine mm_get3 (ci := 2) in_X2 rfl (k := 3) (by decide) rfl kF_X2_63 dX2_run_103 mm_up_s (Nat.le_of_ble_eq_true rfl) rfl ?_
  refine mm_if_ne 126 dX2_run_106 (by decide) (fun _ => ?_) (fun h => absurd h (by decide))
  refine mm_aload_n dX2_run_126 rfl rfl ?_
  refine mm_get3 (ci := 2) in_X2 rfl (k := 3) (by decide) rfl kF_X2_63 dX2_run_127 mm_up_s (Nat.le_of_ble_eq_true rfl) rfl ?_
  refine mm_if_eq 140 dX2_run_130 (by decide) (fun h => absurd h (by decide)) (fun _ => ?_)
  refine mm_aload_n dX2_run_133 rfl rfl ?_
  refine mm_get3 (ci := 2) in_X2 rfl (k := 0) (by decide) rfl kF_X2_12 dX2_run_134 mm_up_s (Nat.le_of_ble_eq_true rfl) rfl ?_
  refine mm_callV3 (ci := 6) wM_X6_clear kM_X2_44 wI_X6_clear wS_X6_clear dX2_run_137 (k48_X6_clear hst _  (mm_upN (by decide) (mm_upN (by decide) (mm_frN (g41_F _ (by decide)) (mm_frN (g31_F _ (by decide) (by decide) (by decide) (by decide) (by decide)) g13_6)))) (mm_upN (by decide) (mm_upN (by decide) (mm_frN (g41_F _ (by decide)) (mm_frN (g31_F _ (by decide) (by decide) (by decide) (by decide) (by decide)) g13_7)))) (mm_upN (by decide) (mm_upN (by decide) (mm_frN (g41_F _ (by decide)) (mm_frN (g31_F _ (by decide) (by decide) (by decide) (by decide) (by decide)) g13_190))))) (mm_upN (by decide) (mm_upN (by decide) (mm_frN (g41_F _ (by decide)) (mm_frN (g31_F _ (by decide) (by decide) (by decide) (by decide) (by decide)) g13_6)))) (Nat.le_of_ble_eq_true rfl) rfl rfl rfl (Nat.le_of_ble_eq_true rfl) (by omega) (by omega) (fun v S9 hq => ?_)
  obtain ⟨M50, z50⟩ := S9
  obtain ⟨rfl, hz50, g50_7, g50_6, g50_190, g50_F⟩ := hq
  cases hz50
  refine ⟨fun h => ⟨h, rfl⟩, ?_⟩
  refine mm_aload_n dX2_run_140 rfl rfl ?_
  refine mm_get3 (ci := 2) in_X2 rfl (k := 3) (by decide) rfl kF_X2_63 dX2_run_141 (mm_frN (g50_F _ (by decide) (by decide) (by decide)) mm_up_s) (Nat.le_of_ble_eq_true rfl) rfl ?_
  refine mm_iret dX2_run_144 rfl rfl ?_ (by omega) (by omega)
  refine ⟨rfl, rfl, ?_⟩
  dsimp only
  exact ⟨g50_7, g50_6, g50_190, (mm_frN (g50_F _ (by decide) (by decide) (by decide)) (mm_upN (by decide) (mm_upN (by decide) (mm_frN (g41_F _ (by decide)) g31_191)))), (mm_frN (g50_F _ (by decide) (by decide) (by decide)) (mm_upN (by decide) (mm_upN (by decide) (mm_frN (g41_F _ (by decide)) g31_192)))), (mm_frN (g50_F _ (by decide) (by decide) (by decide)) (mm_upN (by decide) (mm_upN (by decide) (mm_frN (g41_F _ (by decide)) g31_193)))), (mm_frN (g50_F _ (by decide) (by decide) (by decide)) (mm_upN (by decide) (mm_upN (by decide) (mm_frN (g41_F _ (by decide)) g31_194)))), (mm_frN (g50_F _ (by decide) (by decide) (by decide)) (mm_upN (by decide) (mm_upN (by decide) (mm_frN (g41_F _ (by decide)) g31_195)))), (mm_frN (g50_F _ (by decide) (by decide) (by decide)) (mm_upN (by decide) (mm_upN (by decide) g41_196))), (mm_frN (g50_F _ (by decide) (by decide) (by decide)) mm_up_s), fun x e7 e6 e190 e191 e192 e193 e194 e195 e196 e5 => mm_frN (g50_F _ e7 e6 e190 ) (mm_upN e5 (mm_upN e5 (mm_frN (g41_F _ e196 ) (mm_frN (g31_F _ e191 e192 e193 e194 e195 ) (mm_frN (g13_F _ e7 e6 e190 ) (rfl))))))⟩

set_option maxHeartbeats 4000000 in
set_option maxRecDepth 100000 in
theorem k52_X0_clear {g : mm_G} {l : Launch} (hst : l.stackTraces = false) {d : Nat} (M : Nat → mm_C) (h1 : M 1 = .inr (0, [.ref 2, .int 0, .int 0])) : mm_Cm g l yX0_clear (.code yX0_clear cX0_clear 1 none) d 0 0 [.ref 1] (M, 1186, false) (fun v S' => v = none ∧ S'.2 = (1186, false) ∧ S'.1 1 = .inr (0, [.ref 2, .int 0, .int 0]) ∧ ∀ j, j ≠ 1 → S'.1 j = M j) := by
  refine mm_Cm_of hst (by decide) (Nat.le_of_ble_eq_true rfl) ?_
  show mm_V g l RX0 "clear" cX0_clear 1 none [] d 0 0 _ 0 [some (.ref 1)] [] (M, 1186, false) 0 0
  refine mm_aload_n dX0_clear_0 rfl rfl ?_
  refine mm_iconst (v := 0) dX0_clear_1 (by decide) ?_
  refine mm_put3 (ci := 0) (fs1 := [.ref 2, .int 0, .int 0]) in_X0 tyX0_ok nmX0 rfl (k := 1) (by decide) rfl rfl kF_X0_19 dX0_clear_2 (mm_fit_int _) h1 (Nat.le_of_ble_eq_true rfl) (Nat.le_of_ble_eq_true rfl) rfl ?_
  refine mm_aload_n dX0_clear_5 rfl rfl ?_
  refine mm_iconst (v := 0) dX0_clear_6 (by decide) ?_
  refine mm_put3 (ci := 0) (fs1 := [.ref 2, .int 0, .int 0]) in_X0 tyX0_ok nmX0 rfl (k := 2) (by decide) rfl rfl kF_X0_23 dX0_clear_7 mm_fit_z0 mm_up_s (Nat.le_of_ble_eq_true rfl) (Nat.le_of_ble_eq_true rfl) rfl ?_
  refine mm_vret dX0_clear_10 rfl ?_ (by omega) (by omega)
  refine ⟨rfl, rfl, ?_⟩
  dsimp only
  exact ⟨mm_up_s, fun x e1 => mm_upN e1 (mm_upN e1 (rfl))⟩

set_option maxHeartbeats 4000000 in
set_option maxRecDepth 100000 in
theorem k54_X2_faultAt {g : mm_G} {l : Launch} (hst : l.stackTraces = false) {d : Nat} (M : Nat → mm_C) (h5 : M 5 = .inr (2, [.ref 6, .ref 191, .ref 196, .int 1, .int ((upd (fun _ => 0) ((0 : Int32).toNatClampNeg) 0) (0 : Int32).toNatClampNeg)])) : mm_Cm g l yX2_faultAt (.code yX2_faultAt cX2_faultAt 1 (some .int)) d 0 0 [.ref 5] (M, 1186, false) (fun v S' => v = some (.int ((upd (fun _ => 0) ((0 : Int32).toNatClampNeg) 0) (0 : Int32).toNatClampNeg)) ∧ S' = (M, 1186, false)) := by
  refine mm_Cm_of hst (by decide) (Nat.le_of_ble_eq_true rfl) ?_
  show mm_V g l RX2 "faultAt" cX2_faultAt 1 (some .int) [] d 0 0 _ 0 [some (.ref 5)] [] (M, 1186, false) 0 0
  refine mm_aload_n dX2_faultAt_0 rfl rfl ?_
  refine mm_get3 (ci := 2) in_X2 rfl (k := 4) (by decide) rfl kF_X2_40 dX2_faultAt_1 h5 (Nat.le_of_ble_eq_true rfl) rfl ?_
  refine mm_iret dX2_faultAt_4 rfl rfl ?_ (by omega) (by omega)
  exact ⟨rfl, rfl⟩

set_option maxHeartbeats 4000000 in
set_option maxRecDepth 100000 in
theorem f_compile_0 {g : mm_G} {l : Launch} (hst : l.stackTraces = false) {d : Nat} (M : Nat → mm_C) (h0 : M 0 = .inr (11, [.ref 1, .ref 3, .ref 5, .ref 197, .ref 389, .ref 1094, .ref 1095, .ref 1097, .int (-1)])) (h1 : M 1 = .inr (0, [.ref 2, .int 0, .int 0])) (h5 : M 5 = .inr (2, [.ref 6, .ref 191, .ref 196, .int 0, .int 0])) (h6 : M 6 = .inr (6, [.ref 7, .ref 9, .ref 190, .int 0, .int 0])) (h7 : M 7 = .inr (0, [.ref 8, .int 0, .int 0])) (h190 : M 190 = .inl (0, 5, .inl (fun _ => 0))) (h191 : M 191 = .inr (10, [.ref 7, .ref 192, .ref 193, .ref 194, .ref 195, .int 0, .int 0, .int 0])) (h192 : M 192 = .inl (0, 701, .inl (fun _ => 0))) (h193 : M 193 = .inl (0, 701, .inl (fun _ => 0))) (h194 : M 194 = .inl (0, 701, .inl (fun _ => 0))) (h195 : M 195 = .inl (1, 701, .inr (.inl (fun _ => 0)))) (h196 : M 196 = .inr (5, [.ref 6, .ref 191, .null, .null, .null, .int 0, .int 0, .int 0])) (h389 : M 389 = .inr (8, [.ref 390, .ref 1091, .ref 1092, .int 0, .null, .null])) (h1091 : M 1091 = .inr (4, [.null, .null, .null, .null, .long 0, .int 0, .int 0])) (h1092 : M 1092 = .inr (0, [.ref 1093, .int 0, .int 0])) : mm_Ct g l yX11_compile (.code yX11_compile cX11_compile 4 (some .int)) (d + 5) 0 0 [.ref 0, .int 0] (M, 1186, false) (fun r S' => r = .inl (some (.int 1)) ∧ S'.2 = (1186, false) ∧ ∀ j, 1101 ≤ j → S'.1 j = M j) := by
  refine mm_Ct_of hst (by decide) (Nat.le_of_ble_eq_true rfl) ?_
  show mm_V g l RX11 "compile" cX11_compile 4 (some .int) [] (d + 5) 0 0 _ 0 [some (.ref 0), some (.int 0), none, none] [] (M, 1186, false) 0 0
  refine mm_aload_n dX11_compile_0 rfl rfl ?_
  refine mm_iload_n dX11_compile_1 rfl ?_
  refine mm_callV3 (ci := 11) wM_X11_compilerOf kM_X11_86 wI_X11_compilerOf wS_X11_compilerOf dX11_compile_2 (k1_X11_compilerOf hst _  h0) h0 (Nat.le_of_ble_eq_true rfl) rfl rfl rfl (Nat.le_of_ble_eq_true rfl) (by omega) (by omega) (fun v S9 hq => ?_)
  obtain ⟨rfl, rfl⟩ := hq
  refine ⟨fun h => ⟨h, rfl⟩, ?_⟩
  refine mm_astore_n [some (.ref 0), some (.int 0), some (.ref 5), none] dX11_compile_5 (by decide) rfl rfl ?_
  refine mm_aload_n dX11_compile_6 rfl rfl ?_
  refine mm_ifnonnull (r := some 5) 20 dX11_compile_7 (by decide) (fun _ => ?_) (fun h => absurd h (by simp))
  refine mm_aload_n dX11_compile_20 rfl rfl ?_
  refine mm_get3 (ci := 11) in_X11 rfl (k := 4) (by decide) rfl kF_X11_34 dX11_compile_21 h0 (Nat.le_of_ble_eq_true rfl) rfl ?_
  refine mm_callV3 (ci := 8) wM_X8_drop kM_X11_92 wI_X8_drop wS_X8_drop dX11_compile_24 (k3_X8_drop hst _  h389 h1091 h1092) h389 (Nat.le_of_ble_eq_true rfl) rfl rfl rfl (Nat.le_of_ble_eq_true rfl) (by omega) (by omega) (fun v S9 hq => ?_)
  obtain ⟨M8, z8⟩ := S9
  obtain ⟨rfl, hz8, g8_389, g8_1092, g8_1091, g8_F⟩ := hq
  cases hz8
  refine ⟨fun h => ⟨h, rfl⟩, ?_⟩
  refine mm_aload_n dX11_compile_27 rfl rfl ?_
  refine mm_aload_n dX11_compile_28 rfl rfl ?_
  refine mm_get3 (ci := 11) in_X11 rfl (k := 0) (by decide) rfl kF_X11_14 dX11_compile_29 (mm_frN (g8_F _ (by decide) (by decide) (by decide)) h0) (Nat.le_of_ble_eq_true rfl) rfl ?_
  refine mm_callV3 (ci := 2) wM_X2_run kM_X11_95 wI_X2_run wS_X2_run dX11_compile_32 (k9_X2_run hst _  (mm_frN (g8_F _ (by decide) (by decide) (by decide)) h1) (mm_frN (g8_F _ (by decide) (by decide) (by decide)) h5) (mm_frN (g8_F _ (by decide) (by decide) (by decide)) h6) (mm_frN (g8_F _ (by decide) (by decide) (by decide)) h7) (mm_frN (g8_F _ (by decide) (by decide) (by decide)) h190) (mm_frN (g8_F _ (by decide) (by decide) (by decide)) h191) (mm_frN (g8_F _ (by decide) (by decide) (by decide)) h192) (mm_frN (g8_F _ (by decide) (by decide) (by decide)) h193) (mm_frN (g8_F _ (by decide) (by decide) (by decide)) h194) (mm_frN (g8_F _ (by decide) (by decide) (by decide)) h195) (mm_frN (g8_F _ (by decide) (by decide) (by decide)) h196)) (mm_frN (g8_F _ (by decide) (by decide) (by decide)) h5) (Nat.le_of_ble_eq_true rfl) rfl rfl rfl (Nat.le_of_ble_eq_true rfl) (by omega) (by omega) (fun v S9 hq => ?_)
  obtain ⟨M51, z51⟩ := S9
  obtain ⟨rfl, hz51, g51_7, g51_6, g51_190, g51_191, g51_192, g51_193, g51_194, g51_195, g51_196, g51_5, g51_F⟩ := hq
  cases hz51
  refine ⟨fun h => ⟨h, rfl⟩, ?_⟩
  refine mm_istore_n [some (.ref 0), some (.int 0), some (.ref 5), some (.int 1)] dX11_compile_35 (by decide) rfl ?_
  refine mm_aload_n dX11_compile_36 rfl rfl ?_
  refine mm_get3 (ci := 11) in_X11 rfl (k := 0) (by decide) rfl kF_X11_14 dX11_compile_37 (mm_frN (g51_F _ (by decide) (by decide) (by decide) (by decide) (by decide) (by decide) (by decide) (by decide) (by decide) (by decide)) (mm_frN (g8_F _ (by decide) (by decide) (by decide)) h0)) (Nat.le_of_ble_eq_true rfl) rfl ?_
  refine mm_callV3 (ci := 0) wM_X0_clear kM_X11_99 wI_X0_clear wS_X0_clear dX11_compile_40 (k52_X0_clear hst _  (mm_frN (g51_F _ (by decide) (by decide) (by decide) (by decide) (by decide) (by decide) (by decide) (by decide) (by decide) (by decide)) (mm_frN (g8_F _ (by decide) (by decide) (by decide)) h1))) (mm_frN (g51_F _ (by decide) (by decide) (by decide) (by decide) (by decide) (by decide) (by decide) (by decide) (by decide) (by decide)) (mm_frN (g8_F _ (by decide) (by decide) (by decide)) h1)) (Nat.le_of_ble_eq_true rfl) rfl rfl rfl (Nat.le_of_ble_eq_true rfl) (by omega) (by omega) (fun v S9 hq => ?_)
  obtain ⟨M53, z53⟩ := S9
  obtain ⟨rfl, hz53, g53_1, g53_F⟩ := hq
  cases hz53
  refine ⟨fun h => ⟨h, rfl⟩, ?_⟩
  refine mm_aload_n dX11_compile_43 rfl rfl ?_
  refine mm_aload_n dX11_compile_44 rfl rfl ?_
  refine mm_callV3 (ci := 2) wM_X2_faultAt kM_X11_102 wI_X2_faultAt wS_X2_faultAt dX11_compile_45 (k54_X2_faultAt hst _  (mm_frN (g53_F _ (by decide)) g51_5)) (mm_frN (g53_F _ (by decide)) g51_5) (Nat.le_of_ble_eq_true rfl) rfl rfl rfl (Nat.le_of_ble_eq_true rfl) (by omega) (by omega) (fun v S9 hq => ?_)
  obtain ⟨rfl, rfl⟩ := hq
  refine ⟨fun h => ⟨h, rfl⟩, ?_⟩
  refine mm_put3 (ci := 11) (fs1 := [.ref 1, .ref 3, .ref 5, .ref 197, .ref 389, .ref 1094, .ref 1095, .ref 1097, .int ((upd (fun _ => 0) ((0 : Int32).toNatClampNeg) 0) (0 : Int32).toNatClampNeg)]) in_X11 tyX11_ok nmX11 rfl (k := 8) (by decide) rfl rfl kF_X11_63 dX11_compile_48 (mm_fit_int _) (mm_frN (g53_F _ (by decide)) (mm_frN (g51_F _ (by decide) (by decide) (by decide) (by decide) (by decide) (by decide) (by decide) (by decide) (by decide) (by decide)) (mm_frN (g8_F _ (by decide) (by decide) (by decide)) h0))) (Nat.le_of_ble_eq_true rfl) (Nat.le_of_ble_eq_true rfl) rfl ?_
  refine mm_iload_n dX11_compile_51 rfl ?_
  refine mm_iret dX11_compile_52 rfl rfl ?_ (by omega) (by omega)
  refine ⟨rfl, rfl, fun x hx => ?_⟩
  dsimp only
  exact mm_upN (by omega) (mm_frN (g53_F _ (by omega) ) (mm_frN (g51_F _ (by omega) (by omega) (by omega) (by omega) (by omega) (by omega) (by omega) (by omega) (by omega) (by omega) ) (mm_frN (g8_F _ (by omega) (by omega) (by omega) ) (rfl))))

set_option maxHeartbeats 4000000 in
set_option maxRecDepth 100000 in
theorem k56_X11_compilerOf {g : mm_G} {l : Launch} (hst : l.stackTraces = false) {d : Nat} (M : Nat → mm_C) (h0 : M 0 = .inr (11, [.ref 1, .ref 3, .ref 5, .ref 197, .ref 389, .ref 1094, .ref 1095, .ref 1097, .int (-1)])) : mm_Cm g l yX11_compilerOf (.code yX11_compilerOf cX11_compilerOf 2 (some (.object "ProtoDesk$Compiler"))) d 0 0 [.ref 0, .int 1] (M, 1186, false) (fun v S' => v = some (.ref 197) ∧ S' = (M, 1186, false)) := by
  refine mm_Cm_of hst (by decide) (Nat.le_of_ble_eq_true rfl) ?_
  show mm_V g l RX11 "compilerOf" cX11_compilerOf 2 (some (.object "ProtoDesk$Compiler")) [] d 0 0 _ 0 [some (.ref 0), some (.int 1)] [] (M, 1186, false) 0 0
  refine mm_iload_n dX11_compilerOf_0 rfl ?_
  refine mm_if_ne 11 dX11_compilerOf_1 (by decide) (fun _ => ?_) (fun h => absurd h (by decide))
  refine mm_iload_n dX11_compilerOf_11 rfl ?_
  refine mm_iconst (v := 1) dX11_compilerOf_12 (by decide) ?_
  refine mm_icmp_ne 23 dX11_compilerOf_13 (by decide) (fun h => absurd (by decide) h) (fun _ => ?_)
  refine mm_aload_n dX11_compilerOf_16 rfl rfl ?_
  refine mm_get3 (ci := 11) in_X11 rfl (k := 3) (by decide) rfl kF_X11_28 dX11_compilerOf_17 h0 (Nat.le_of_ble_eq_true rfl) rfl ?_
  refine mm_goto 24 dX11_compilerOf_20 (by decide) ?_
  refine mm_aret (a := some 197) dX11_compilerOf_24 rfl ?_ (by omega) (by omega)
  exact ⟨rfl, rfl⟩

set_option maxHeartbeats 4000000 in
set_option maxRecDepth 100000 in
theorem k61_X0_clear {g : mm_G} {l : Launch} (hst : l.stackTraces = false) {d : Nat} (M : Nat → mm_C) (h199 : M 199 = .inr (0, [.ref 200, .int 0, .int 0])) : mm_Cm g l yX0_clear (.code yX0_clear cX0_clear 1 none) d 0 0 [.ref 199] (M, 1186, false) (fun v S' => v = none ∧ S'.2 = (1186, false) ∧ S'.1 199 = .inr (0, [.ref 200, .int 0, .int 0]) ∧ ∀ j, j ≠ 199 → S'.1 j = M j) := by
  refine mm_Cm_of hst (by decide) (Nat.le_of_ble_eq_true rfl) ?_
  show mm_V g l RX0 "clear" cX0_clear 1 none [] d 0 0 _ 0 [some (.ref 199)] [] (M, 1186, false) 0 0
  refine mm_aload_n dX0_clear_0 rfl rfl ?_
  refine mm_iconst (v := 0) dX0_clear_1 (by decide) ?_
  refine mm_put3 (ci := 0) (fs1 := [.ref 200, .int 0, .int 0]) in_X0 tyX0_ok nmX0 rfl (k := 1) (by decide) rfl rfl kF_X0_19 dX0_clear_2 (mm_fit_int _) h199 (Nat.le_of_ble_eq_true rfl) (Nat.le_of_ble_eq_true rfl) rfl ?_
  refine mm_aload_n dX0_clear_5 rfl rfl ?_
  refine mm_iconst (v := 0) dX0_clear_6 (by decide) ?_
  refine mm_put3 (ci := 0) (fs1 := [.ref 200, .int 0, .int 0]) in_X0 tyX0_ok nmX0 rfl (k := 2) (by decide) rfl rfl kF_X0_23 dX0_clear_7 mm_fit_z0 mm_up_s (Nat.le_of_ble_eq_true rfl) (Nat.le_of_ble_eq_true rfl) rfl ?_
  refine mm_vret dX0_clear_10 rfl ?_ (by omega) (by omega)
  refine ⟨rfl, rfl, ?_⟩
  dsimp only
  exact ⟨mm_up_s, fun x e199 => mm_upN e199 (mm_upN e199 (rfl))⟩

set_option maxHeartbeats 4000000 in
set_option maxRecDepth 100000 in
theorem k60_X6_clear {g : mm_G} {l : Launch} (hst : l.stackTraces = false) {d : Nat} (M : Nat → mm_C) (h198 : M 198 = .inr (6, [.ref 199, .ref 201, .ref 382, .int 0, .int 0])) (h199 : M 199 = .inr (0, [.ref 200, .int 0, .int 0])) (h382 : M 382 = .inl (0, 5, .inl (fun _ => 0))) : mm_Cm g l yX6_clear (.code yX6_clear cX6_clear 2 none) (d + 1) 0 0 [.ref 198] (M, 1186, false) (fun v S' => v = none ∧ S'.2 = (1186, false) ∧ S'.1 199 = .inr (0, [.ref 200, .int 0, .int 0]) ∧ S'.1 198 = .inr (6, [.ref 199, .ref 201, .ref 382, .int 0, .int 0]) ∧ S'.1 382 = .inl (0, 5, .inl (upd (upd (upd (upd (upd (fun _ => 0) ((0 : Int32).toNatClampNeg) 0) ((1 : Int32).toNatClampNeg) 0) ((2 : Int32).toNatClampNeg) 0) ((3 : Int32).toNatClampNeg) 0) ((4 : Int32).toNatClampNeg) 0)) ∧ ∀ j, j ≠ 199 → j ≠ 198 → j ≠ 382 → S'.1 j = M j) := by
  refine mm_Cm_of hst (by decide) (Nat.le_of_ble_eq_true rfl) ?_
  show mm_V g l RX6 "clear" cX6_clear 2 none [] (d + 1) 0 0 _ 0 [some (.ref 198), none] [] (M, 1186, false) 0 0
  refine mm_aload_n dX6_clear_0 rfl rfl ?_
  refine mm_get3 (ci := 6) in_X6 rfl (k := 0) (by decide) rfl kF_X6_14 dX6_clear_1 h198 (Nat.le_of_ble_eq_true rfl) rfl ?_
  refine mm_callV3 (ci := 0) wM_X0_clear kM_X6_31 wI_X0_clear wS_X0_clear dX6_clear_4 (k61_X0_clear hst _  h199) h199 (Nat.le_of_ble_eq_true rfl) rfl rfl rfl (Nat.le_of_ble_eq_true rfl) (by omega) (by omega) (fun v S9 hq => ?_)
  obtain ⟨M62, z62⟩ := S9
  obtain ⟨rfl, hz62, g62_199, g62_F⟩ := hq
  cases hz62
  refine ⟨fun h => ⟨h, rfl⟩, ?_⟩
  refine mm_aload_n dX6_clear_7 rfl rfl ?_
  refine mm_iconst (v := 0) dX6_clear_8 (by decide) ?_
  refine mm_put3 (ci := 6) (fs1 := [.ref 199, .ref 201, .ref 382, .int 0, .int 0]) in_X6 tyX6_ok nmX6 rfl (k := 3) (by decide) rfl rfl kF_X6_34 dX6_clear_9 (mm_fit_int _) (mm_frN (g62_F _ (by decide)) h198) (Nat.le_of_ble_eq_true rfl) (Nat.le_of_ble_eq_true rfl) rfl ?_
  refine mm_aload_n dX6_clear_12 rfl rfl ?_
  refine mm_iconst (v := 0) dX6_clear_13 (by decide) ?_
  refine mm_put3 (ci := 6) (fs1 := [.ref 199, .ref 201, .ref 382, .int 0, .int 0]) in_X6 tyX6_ok nmX6 rfl (k := 4) (by decide) rfl rfl kF_X6_38 dX6_clear_14 (mm_fit_int _) mm_up_s (Nat.le_of_ble_eq_true rfl) (Nat.le_of_ble_eq_true rfl) rfl ?_
  refine mm_iconst (v := 0) dX6_clear_17 (by decide) ?_
  refine mm_istore_n [some (.ref 198), some (.int 0)] dX6_clear_18 (by decide) rfl ?_
  refine mm_iload_n dX6_clear_19 rfl ?_
  refine mm_aload_n dX6_clear_20 rfl rfl ?_
  refine mm_get3 (ci := 6) in_X6 rfl (k := 2) (by decide) rfl kF_X6_27 dX6_clear_21 mm_up_s (Nat.le_of_ble_eq_true rfl) rfl ?_
  refine mm_alen3 (v := 5) (fun _ => rfl) (mm_upN (by decide) (mm_upN (by decide) (mm_frN (g62_F _ (by decide)) h382))) (Nat.le_of_ble_eq_true rfl) rfl dX6_clear_24 ?_
  refine mm_icmp_ge 41 dX6_clear_25 (by decide) (fun h => absurd h (by decide)) (fun _ => ?_)
  refine mm_aload_n dX6_clear_28 rfl rfl ?_
  refine mm_get3 (ci := 6) in_X6 rfl (k := 2) (by decide) rfl kF_X6_27 dX6_clear_29 mm_up_s (Nat.le_of_ble_eq_true rfl) rfl ?_
  refine mm_iload_n dX6_clear_32 rfl ?_
  refine mm_iconst (v := 0) dX6_clear_33 (by decide) ?_
  refine mm_iast3 (mm_upN (by decide) (mm_upN (by decide) (mm_frN (g62_F _ (by decide)) h382))) (Nat.le_of_ble_eq_true rfl) (by unfold vp_in; decide) dX6_clear_34 ?_
  refine mm_iinc (v := 1) [some (.ref 198), some (.int 1)] dX6_clear_35 rfl (by decide) (by decide) rfl ?_
  refine mm_goto 19 dX6_clear_38 (by decide) ?_
  refine mm_iload_n dX6_clear_19 rfl ?_
  refine mm_aload_n dX6_clear_20 rfl rfl ?_
  refine mm_get3 (ci := 6) in_X6 rfl (k := 2) (by decide) rfl kF_X6_27 dX6_clear_21 (mm_upN (by decide) mm_up_s) (Nat.le_of_ble_eq_true rfl) rfl ?_
  refine mm_alen3 (v := 5) (fun _ => rfl) mm_up_s (Nat.le_of_ble_eq_true rfl) rfl dX6_clear_24 ?_
  refine mm_icmp_ge 41 dX6_clear_25 (by decide) (fun h => absurd h (by decide)) (fun _ => ?_)
  refine mm_aload_n dX6_clear_28 rfl rfl ?_
  refine mm_get3 (ci := 6) in_X6 rfl (k := 2) (by decide) rfl kF_X6_27 dX6_clear_29 (mm_upN (by decide) mm_up_s) (Nat.le_of_ble_eq_true rfl) rfl ?_
  refine mm_iload_n dX6_clear_32 rfl ?_
  refine mm_iconst (v := 0) dX6_clear_33 (by decide) ?_
  refine mm_iast3 mm_up_s (Nat.le_of_ble_eq_true rfl) (by unfold vp_in; decide) dX6_clear_34 ?_
  refine mm_iinc (v := 2) [some (.ref 198), some (.int 2)] dX6_clear_35 rfl (by decide) (by decide) rfl ?_
  refine mm_goto 19 dX6_clear_38 (by decide) ?_
  refine mm_iload_n dX6_clear_19 rfl ?_
  refine mm_aload_n dX6_clear_20 rfl rfl ?_
  refine mm_get3 (ci := 6) in_X6 rfl (k := 2) (by decide) rfl kF_X6_27 dX6_clear_21 (mm_upN (by decide) (mm_upN (by decide) mm_up_s)) (Nat.le_of_ble_eq_true rfl) rfl ?_
  refine mm_alen3 (v := 5) (fun _ => rfl) mm_up_s (Nat.le_of_ble_eq_true rfl) rfl dX6_clear_24 ?_
  refine mm_icmp_ge 41 dX6_clear_25 (by decide) (fun h => absurd h (by decide)) (fun _ => ?_)
  refine mm_aload_n dX6_clear_28 rfl rfl ?_
  refine mm_get3 (ci := 6) in_X6 rfl (k := 2) (by decide) rfl kF_X6_27 dX6_clear_29 (mm_upN (by decide) (mm_upN (by decide) mm_up_s)) (Nat.le_of_ble_eq_true rfl) rfl ?_
  refine mm_iload_n dX6_clear_32 rfl ?_
  refine mm_iconst (v := 0) dX6_clear_33 (by decide) ?_
  refine mm_iast3 mm_up_s (Nat.le_of_ble_eq_true rfl) (by unfold vp_in; decide) dX6_clear_34 ?_
  refine mm_iinc (v := 3) [some (.ref 198), some (.int 3)] dX6_clear_35 rfl (by decide) (by decide) rfl ?_
  refine mm_goto 19 dX6_clear_38 (by decide) ?_
  refine mm_iload_n dX6_clear_19 rfl ?_
  refine mm_aload_n dX6_clear_20 rfl rfl ?_
  refine mm_get3 (ci := 6) in_X6 rfl (k := 2) (by decide) rfl kF_X6_27 dX6_clear_21 (mm_upN (by decide) (mm_upN (by decide) (mm_upN (by decide) mm_up_s))) (Nat.le_of_ble_eq_true rfl) rfl ?_
  refine mm_alen3 (v := 5) (fun _ => rfl) mm_up_s (Nat.le_of_ble_eq_true rfl) rfl dX6_clear_24 ?_
  refine mm_icmp_ge 41 dX6_clear_25 (by decide) (fun h => absurd h (by decide)) (fun _ => ?_)
  refine mm_aload_n dX6_clear_28 rfl rfl ?_
  refine mm_get3 (ci := 6) in_X6 rfl (k := 2) (by decide) rfl kF_X6_27 dX6_clear_29 (mm_upN (by decide) (mm_upN (by decide) (mm_upN (by decide) mm_up_s))) (Nat.le_of_ble_eq_true rfl) rfl ?_
  refine mm_iload_n dX6_clear_32 rfl ?_
  refine mm_iconst (v := 0) dX6_clear_33 (by decide) ?_
  refine mm_iast3 mm_up_s (Nat.le_of_ble_eq_true rfl) (by unfold vp_in; decide) dX6_clear_34 ?_
  refine mm_iinc (v := 4) [some (.ref 198), some (.int 4)] dX6_clear_35 rfl (by decide) (by decide) rfl ?_
  refine mm_goto 19 dX6_clear_38 (by decide) ?_
  refine mm_iload_n dX6_clear_19 rfl ?_
  refine mm_aload_n dX6_clear_20 rfl rfl ?_
  refine mm_get3 (ci := 6) in_X6 rfl (k := 2) (by decide) rfl kF_X6_27 dX6_clear_21 (mm_upN (by decide) (mm_upN (by decide) (mm_upN (by decide) (mm_upN (by decide) mm_up_s)))) (Nat.le_of_ble_eq_true rfl) rfl ?_
  refine mm_alen3 (v := 5) (fun _ => rfl) mm_up_s (Nat.le_of_ble_eq_true rfl) rfl dX6_clear_24 ?_
  refine mm_icmp_ge 41 dX6_clear_25 (by decide) (fun h => absurd h (by decide)) (fun _ => ?_)
  refine mm_aload_n dX6_clear_28 rfl rfl ?_
  refine mm_get3 (ci := 6) in_X6 rfl (k := 2) (by decide) rfl kF_X6_27 dX6_clear_29 (mm_upN (by decide) (mm_upN (by decide) (mm_upN (by decide) (mm_upN (by decide) mm_up_s)))) (Nat.le_of_ble_eq_true rfl) rfl ?_
  refine mm_iload_n dX6_clear_32 rfl ?_
  refine mm_iconst (v := 0) dX6_clear_33 (by decide) ?_
  refine mm_iast3 mm_up_s (Nat.le_of_ble_eq_true rfl) (by unfold vp_in; decide) dX6_clear_34 ?_
  refine mm_iinc (v := 5) [some (.ref 198), some (.int 5)] dX6_clear_35 rfl (by decide) (by decide) rfl ?_
  refine mm_goto 19 dX6_clear_38 (by decide) ?_
  refine mm_iload_n dX6_clear_19 rfl ?_
  refine mm_aload_n dX6_clear_20 rfl rfl ?_
  refine mm_get3 (ci := 6) in_X6 rfl (k := 2) (by decide) rfl kF_X6_27 dX6_clear_21 (mm_upN (by decide) (mm_upN (by decide) (mm_upN (by decide) (mm_upN (by decide) (mm_upN (by decide) mm_up_s))))) (Nat.le_of_ble_eq_true rfl) rfl ?_
  refine mm_alen3 (v := 5) (fun _ => rfl) mm_up_s (Nat.le_of_ble_eq_true rfl) rfl dX6_clear_24 ?_
  refine mm_icmp_ge 41 dX6_clear_25 (by decide) (fun _ => ?_) (fun h => absurd (by decide) h)
  refine mm_vret dX6_clear_41 rfl ?_ (by omega) (by omega)
  refine ⟨rfl, rfl, ?_⟩
  dsimp only
  exact ⟨(mm_upN (by decide) (mm_upN (by decide) (mm_upN (by decide) (mm_upN (by decide) (mm_upN (by decide) (mm_upN (by decide) (mm_upN (by decide) g62_199))))))), (mm_upN (by decide) (mm_upN (by decide) (mm_upN (by decide) (mm_upN (by decide) (mm_upN (by decide) mm_up_s))))), mm_up_s, fun x e199 e198 e382 => mm_upN e382 (mm_upN e382 (mm_upN e382 (mm_upN e382 (mm_upN e382 (mm_upN e198 (mm_upN e198 (mm_frN (g62_F _ e199 ) (rfl))))))))⟩

set_option maxHeartbeats 4000000 in
set_option maxRecDepth 100000 in
theorem k64_X6_text {g : mm_G} {l : Launch} (hst : l.stackTraces = false) {d : Nat} (M : Nat → mm_C) (h198 : M 198 = .inr (6, [.ref 199, .ref 201, .ref 382, .int 0, .int 0])) : mm_Cm g l yX6_text (.code yX6_text cX6_text 1 (some (.object "ProtoDesk$Bytes"))) d 0 0 [.ref 198] (M, 1186, false) (fun v S' => v = some (.ref 199) ∧ S' = (M, 1186, false)) := by
  refine mm_Cm_of hst (by decide) (Nat.le_of_ble_eq_true rfl) ?_
  show mm_V g l RX6 "text" cX6_text 1 (some (.object "ProtoDesk$Bytes")) [] d 0 0 _ 0 [some (.ref 198)] [] (M, 1186, false) 0 0
  refine mm_aload_n dX6_text_0 rfl rfl ?_
  refine mm_get3 (ci := 6) in_X6 rfl (k := 0) (by decide) rfl kF_X6_14 dX6_text_1 h198 (Nat.le_of_ble_eq_true rfl) rfl ?_
  refine mm_aret (a := some 199) dX6_text_4 rfl ?_ (by omega) (by omega)
  exact ⟨rfl, rfl⟩

set_option maxHeartbeats 4000000 in
set_option maxRecDepth 100000 in
theorem k67_X0_addAll {g : mm_G} {l : Launch} (hst : l.stackTraces = false) {d : Nat} (M : Nat → mm_C) : mm_Cm g l yX0_addAll (.code yX0_addAll cX0_addAll 5 none) d 0 0 [.ref 199, .ref 1, .int 0, .int 0] (M, 1186, false) (fun v S' => v = none ∧ S' = (M, 1186, false)) := by
  refine mm_Cm_of hst (by decide) (Nat.le_of_ble_eq_true rfl) ?_
  show mm_V g l RX0 "addAll" cX0_addAll 5 none [] d 0 0 _ 0 [some (.ref 199), some (.ref 1), some (.int 0), some (.int 0), none] [] (M, 1186, false) 0 0
  refine mm_iload_n dX0_addAll_0 rfl ?_
  refine mm_istore [some (.ref 199), some (.ref 1), some (.int 0), some (.int 0), some (.int 0)] dX0_addAll_1 (by decide) rfl ?_
  refine mm_iload dX0_addAll_3 rfl ?_
  refine mm_iload_n dX0_addAll_5 rfl ?_
  refine mm_icmp_ge 25 dX0_addAll_6 (by decide) (fun _ => ?_) (fun h => absurd (by decide) h)
  refine mm_vret dX0_addAll_25 rfl ?_ (by omega) (by omega)
  exact ⟨rfl, rfl⟩

set_option maxHeartbeats 4000000 in
set_option maxRecDepth 100000 in
theorem k70_X0_size {g : mm_G} {l : Launch} (hst : l.stackTraces = false) {d : Nat} (M : Nat → mm_C) (h199 : M 199 = .inr (0, [.ref 200, .int 0, .int 0])) : mm_Cm g l yX0_size (.code yX0_size cX0_size 1 (some .int)) d 0 0 [.ref 199] (M, 1186, false) (fun v S' => v = some (.int 0) ∧ S' = (M, 1186, false)) := by
  refine mm_Cm_of hst (by decide) (Nat.le_of_ble_eq_true rfl) ?_
  show mm_V g l RX0 "size" cX0_size 1 (some .int) [] d 0 0 _ 0 [some (.ref 199)] [] (M, 1186, false) 0 0
  refine mm_aload_n dX0_size_0 rfl rfl ?_
  refine mm_get3 (ci := 0) in_X0 rfl (k := 1) (by decide) rfl kF_X0_19 dX0_size_1 h199 (Nat.le_of_ble_eq_true rfl) rfl ?_
  refine mm_iret dX0_size_4 rfl rfl ?_ (by omega) (by omega)
  exact ⟨rfl, rfl⟩

set_option maxHeartbeats 4000000 in
set_option maxRecDepth 100000 in
theorem k72_X10_behindBlanks {g : mm_G} {l : Launch} (hst : l.stackTraces = false) {d : Nat} (M : Nat → mm_C) (h383 : M 383 = .inr (10, [.ref 199, .ref 384, .ref 385, .ref 386, .ref 387, .int 0, .int 0, .int 0])) : mm_Cm g l yX10_behindBlanks (.code yX10_behindBlanks cX10_behindBlanks 5 (some .int)) d 0 0 [.ref 383, .int 0] (M, 1186, false) (fun v S' => v = some (.int 0) ∧ S' = (M, 1186, false)) := by
  refine mm_Cm_of hst (by decide) (Nat.le_of_ble_eq_true rfl) ?_
  show mm_V g l RX10 "behindBlanks" cX10_behindBlanks 5 (some .int) [] d 0 0 _ 0 [some (.ref 383), some (.int 0), none, none, none] [] (M, 1186, false) 0 0
  refine mm_iload_n dX10_behindBlanks_0 rfl ?_
  refine mm_istore_n [some (.ref 383), some (.int 0), some (.int 0), none, none] dX10_behindBlanks_1 (by decide) rfl ?_
  refine mm_iload_n dX10_behindBlanks_2 rfl ?_
  refine mm_aload_n dX10_behindBlanks_3 rfl rfl ?_
  refine mm_get3 (ci := 10) in_X10 rfl (k := 6) (by decide) rfl kF_X10_33 dX10_behindBlanks_4 h383 (Nat.le_of_ble_eq_true rfl) rfl ?_
  refine mm_icmp_ge 92 dX10_behindBlanks_7 (by decide) (fun _ => ?_) (fun h => absurd (by decide) h)
  refine mm_aload_n dX10_behindBlanks_92 rfl rfl ?_
  refine mm_get3 (ci := 10) in_X10 rfl (k := 6) (by decide) rfl kF_X10_33 dX10_behindBlanks_93 h383 (Nat.le_of_ble_eq_true rfl) rfl ?_
  refine mm_iret dX10_behindBlanks_96 rfl rfl ?_ (by omega) (by omega)
  exact ⟨rfl, rfl⟩

set_option maxHeartbeats 4000000 in
set_option maxRecDepth 100000 in
theorem k75_X0_at {g : mm_G} {l : Launch} (hst : l.stackTraces = false) {d : Nat} (M : Nat → mm_C) (h199 : M 199 = .inr (0, [.ref 200, .int 0, .int 0])) : mm_Cm g l yX0_at (.code yX0_at cX0_at 2 (some .int)) d 0 0 [.ref 199, .int 0] (M, 1186, false) (fun v S' => v = some (.int (-1)) ∧ S' = (M, 1186, false)) := by
  refine mm_Cm_of hst (by decide) (Nat.le_of_ble_eq_true rfl) ?_
  show mm_V g l RX0 "at" cX0_at 2 (some .int) [] d 0 0 _ 0 [some (.ref 199), some (.int 0)] [] (M, 1186, false) 0 0
  refine mm_iload_n dX0_at_0 rfl ?_
  refine mm_if_lt 34 dX0_at_1 (by decide) (fun h => absurd h (by decide)) (fun _ => ?_)
  refine mm_iload_n dX0_at_4 rfl ?_
  refine mm_aload_n dX0_at_5 rfl rfl ?_
  refine mm_get3 (ci := 0) in_X0 rfl (k := 1) (by decide) rfl kF_X0_19 dX0_at_6 h199 (Nat.le_of_ble_eq_true rfl) rfl ?_
  refine mm_icmp_ge 34 dX0_at_9 (by decide) (fun _ => ?_) (fun h => absurd (by decide) h)
  refine mm_iconst (v := (-1)) dX0_at_34 (by decide) ?_
  refine mm_iret dX0_at_35 rfl rfl ?_ (by omega) (by omega)
  exact ⟨rfl, rfl⟩

set_option maxHeartbeats 4000000 in
set_option maxRecDepth 100000 in
theorem k77_X10_push {g : mm_G} {l : Launch} (hst : l.stackTraces = false) {d : Nat} (M : Nat → mm_C) (h383 : M 383 = .inr (10, [.ref 199, .ref 384, .ref 385, .ref 386, .ref 387, .int 0, .int 0, .int 0])) (h384 : M 384 = .inl (0, 701, .inl (fun _ => 0))) (h385 : M 385 = .inl (0, 701, .inl (fun _ => 0))) (h386 : M 386 = .inl (0, 701, .inl (fun _ => 0))) (h387 : M 387 = .inl (1, 701, .inr (.inl (fun _ => 0)))) : mm_Cm g l yX10_push (.code yX10_push cX10_push 6 (some .int)) d 0 0 [.ref 383, .int 0, .int 0, .int 0, .long (-1)] (M, 1186, false) (fun v S' => v = some (.int 0) ∧ S'.2 = (1186, false) ∧ S'.1 384 = .inl (0, 701, .inl (upd (fun _ => 0) ((0 : Int32).toNatClampNeg) 0)) ∧ S'.1 385 = .inl (0, 701, .inl (upd (fun _ => 0) ((0 : Int32).toNatClampNeg) 0)) ∧ S'.1 386 = .inl (0, 701, .inl (upd (fun _ => 0) ((0 : Int32).toNatClampNeg) 0)) ∧ S'.1 387 = .inl (1, 701, .inr (.inl (vp_updL (fun _ => 0) ((0 : Int32).toNatClampNeg) (-1)))) ∧ S'.1 383 = .inr (10, [.ref 199, .ref 384, .ref 385, .ref 386, .ref 387, .int (0 + 1), .int 0, .int 0]) ∧ ∀ j, j ≠ 384 → j ≠ 385 → j ≠ 386 → j ≠ 387 → j ≠ 383 → S'.1 j = M j) := by
  refine mm_Cm_of hst (by decide) (Nat.le_of_ble_eq_true rfl) ?_
  show mm_V g l RX10 "push" cX10_push 6 (some .int) [] d 0 0 _ 0 [some (.ref 383), some (.int 0), some (.int 0), some (.int 0), some (.long (-1)), none] [] (M, 1186, false) 0 0
  refine mm_aload_n dX10_push_0 rfl rfl ?_
  refine mm_get3 (ci := 10) in_X10 rfl (k := 5) (by decide) rfl kF_X10_29 dX10_push_1 h383 (Nat.le_of_ble_eq_true rfl) rfl ?_
  refine mm_if_lt 55 dX10_push_4 (by decide) (fun h => absurd h (by decide)) (fun _ => ?_)
  refine mm_aload_n dX10_push_7 rfl rfl ?_
  refine mm_get3 (ci := 10) in_X10 rfl (k := 5) (by decide) rfl kF_X10_29 dX10_push_8 h383 (Nat.le_of_ble_eq_true rfl) rfl ?_
  refine mm_aload_n dX10_push_11 rfl rfl ?_
  refine mm_get3 (ci := 10) in_X10 rfl (k := 1) (by decide) rfl kF_X10_15 dX10_push_12 h383 (Nat.le_of_ble_eq_true rfl) rfl ?_
  refine mm_alen3 (v := 701) (fun _ => rfl) h384 (Nat.le_of_ble_eq_true rfl) rfl dX10_push_15 ?_
  refine mm_icmp_ge 55 dX10_push_16 (by decide) (fun h => absurd h (by decide)) (fun _ => ?_)
  refine mm_aload_n dX10_push_19 rfl rfl ?_
  refine mm_get3 (ci := 10) in_X10 rfl (k := 5) (by decide) rfl kF_X10_29 dX10_push_20 h383 (Nat.le_of_ble_eq_true rfl) rfl ?_
  refine mm_aload_n dX10_push_23 rfl rfl ?_
  refine mm_get3 (ci := 10) in_X10 rfl (k := 2) (by decide) rfl kF_X10_19 dX10_push_24 h383 (Nat.le_of_ble_eq_true rfl) rfl ?_
  refine mm_alen3 (v := 701) (fun _ => rfl) h385 (Nat.le_of_ble_eq_true rfl) rfl dX10_push_27 ?_
  refine mm_icmp_ge 55 dX10_push_28 (by decide) (fun h => absurd h (by decide)) (fun _ => ?_)
  refine mm_aload_n dX10_push_31 rfl rfl ?_
  refine mm_get3 (ci := 10) in_X10 rfl (k := 5) (by decide) rfl kF_X10_29 dX10_push_32 h383 (Nat.le_of_ble_eq_true rfl) rfl ?_
  refine mm_aload_n dX10_push_35 rfl rfl ?_
  refine mm_get3 (ci := 10) in_X10 rfl (k := 3) (by decide) rfl kF_X10_22 dX10_push_36 h383 (Nat.le_of_ble_eq_true rfl) rfl ?_
  refine mm_alen3 (v := 701) (fun _ => rfl) h386 (Nat.le_of_ble_eq_true rfl) rfl dX10_push_39 ?_
  refine mm_icmp_ge 55 dX10_push_40 (by decide) (fun h => absurd h (by decide)) (fun _ => ?_)
  refine mm_aload_n dX10_push_43 rfl rfl ?_
  refine mm_get3 (ci := 10) in_X10 rfl (k := 5) (by decide) rfl kF_X10_29 dX10_push_44 h383 (Nat.le_of_ble_eq_true rfl) rfl ?_
  refine mm_aload_n dX10_push_47 rfl rfl ?_
  refine mm_get3 (ci := 10) in_X10 rfl (k := 4) (by decide) rfl kF_X10_25 dX10_push_48 h383 (Nat.le_of_ble_eq_true rfl) rfl ?_
  refine mm_alen3 (v := 701) (fun _ => rfl) h387 (Nat.le_of_ble_eq_true rfl) rfl dX10_push_51 ?_
  refine mm_icmp_lt 57 dX10_push_52 (by decide) (fun _ => ?_) (fun h => absurd (by decide) h)
  refine mm_aload_n dX10_push_57 rfl rfl ?_
  refine mm_get3 (ci := 10) in_X10 rfl (k := 1) (by decide) rfl kF_X10_15 dX10_push_58 h383 (Nat.le_of_ble_eq_true rfl) rfl ?_
  refine mm_aload_n dX10_push_61 rfl rfl ?_
  refine mm_get3 (ci := 10) in_X10 rfl (k := 5) (by decide) rfl kF_X10_29 dX10_push_62 h383 (Nat.le_of_ble_eq_true rfl) rfl ?_
  refine mm_iload_n dX10_push_65 rfl ?_
  refine mm_iast3 h384 (Nat.le_of_ble_eq_true rfl) (by unfold vp_in; decide) dX10_push_66 ?_
  refine mm_aload_n dX10_push_67 rfl rfl ?_
  refine mm_get3 (ci := 10) in_X10 rfl (k := 2) (by decide) rfl kF_X10_19 dX10_push_68 (mm_upN (by decide) h383) (Nat.le_of_ble_eq_true rfl) rfl ?_
  refine mm_aload_n dX10_push_71 rfl rfl ?_
  refine mm_get3 (ci := 10) in_X10 rfl (k := 5) (by decide) rfl kF_X10_29 dX10_push_72 (mm_upN (by decide) h383) (Nat.le_of_ble_eq_true rfl) rfl ?_
  refine mm_iload_n dX10_push_75 rfl ?_
  refine mm_iast3 (mm_upN (by decide) h385) (Nat.le_of_ble_eq_true rfl) (by unfold vp_in; decide) dX10_push_76 ?_
  refine mm_aload_n dX10_push_77 rfl rfl ?_
  refine mm_get3 (ci := 10) in_X10 rfl (k := 3) (by decide) rfl kF_X10_22 dX10_push_78 (mm_upN (by decide) (mm_upN (by decide) h383)) (Nat.le_of_ble_eq_true rfl) rfl ?_
  refine mm_aload_n dX10_push_81 rfl rfl ?_
  refine mm_get3 (ci := 10) in_X10 rfl (k := 5) (by decide) rfl kF_X10_29 dX10_push_82 (mm_upN (by decide) (mm_upN (by decide) h383)) (Nat.le_of_ble_eq_true rfl) rfl ?_
  refine mm_iload_n dX10_push_85 rfl ?_
  refine mm_iast3 (mm_upN (by decide) (mm_upN (by decide) h386)) (Nat.le_of_ble_eq_true rfl) (by unfold vp_in; decide) dX10_push_86 ?_
  refine mm_aload_n dX10_push_87 rfl rfl ?_
  refine mm_get3 (ci := 10) in_X10 rfl (k := 4) (by decide) rfl kF_X10_25 dX10_push_88 (mm_upN (by decide) (mm_upN (by decide) (mm_upN (by decide) h383))) (Nat.le_of_ble_eq_true rfl) rfl ?_
  refine mm_aload_n dX10_push_91 rfl rfl ?_
  refine mm_get3 (ci := 10) in_X10 rfl (k := 5) (by decide) rfl kF_X10_29 dX10_push_92 (mm_upN (by decide) (mm_upN (by decide) (mm_upN (by decide) h383))) (Nat.le_of_ble_eq_true rfl) rfl ?_
  refine mm_lload dX10_push_95 rfl ?_
  refine mm_last3 (mm_upN (by decide) (mm_upN (by decide) (mm_upN (by decide) h387))) (Nat.le_of_ble_eq_true rfl) (by unfold vp_in; decide) dX10_push_97 ?_
  refine mm_aload_n dX10_push_98 rfl rfl ?_
  refine mm_dup dX10_push_99 rfl ?_
  refine mm_get3 (ci := 10) in_X10 rfl (k := 5) (by decide) rfl kF_X10_29 dX10_push_100 (mm_upN (by decide) (mm_upN (by decide) (mm_upN (by decide) (mm_upN (by decide) h383)))) (Nat.le_of_ble_eq_true rfl) rfl ?_
  refine mm_iconst (v := 1) dX10_push_103 (by decide) ?_
  refine mm_iadd dX10_push_104 ?_
  refine mm_put3 (ci := 10) (fs1 := [.ref 199, .ref 384, .ref 385, .ref 386, .ref 387, .int (0 + 1), .int 0, .int 0]) in_X10 tyX10_ok nmX10 rfl (k := 5) (by decide) rfl rfl kF_X10_29 dX10_push_105 (mm_fit_int _) (mm_upN (by decide) (mm_upN (by decide) (mm_upN (by decide) (mm_upN (by decide) h383)))) (Nat.le_of_ble_eq_true rfl) (Nat.le_of_ble_eq_true rfl) rfl ?_
  refine mm_iload_n dX10_push_108 rfl ?_
  refine mm_iconst (v := 5) dX10_push_109 (by decide) ?_
  refine mm_icmp_ne 117 dX10_push_110 (by decide) (fun _ => ?_) (fun h => absurd h (by decide))
  refine mm_iload_n dX10_push_117 rfl ?_
  refine mm_iret dX10_push_118 rfl rfl ?_ (by omega) (by omega)
  refine ⟨rfl, rfl, ?_⟩
  dsimp only
  exact ⟨(mm_upN (by decide) (mm_upN (by decide) (mm_upN (by decide) (mm_upN (by decide) mm_up_s)))), (mm_upN (by decide) (mm_upN (by decide) (mm_upN (by decide) mm_up_s))), (mm_upN (by decide) (mm_upN (by decide) mm_up_s)), (mm_upN (by decide) mm_up_s), mm_up_s, fun x e384 e385 e386 e387 e383 => mm_upN e383 (mm_upN e387 (mm_upN e386 (mm_upN e385 (mm_upN e384 (rfl)))))⟩

set_option maxHeartbeats 4000000 in
set_option maxRecDepth 100000 in
theorem k74_X10_addWord {g : mm_G} {l : Launch} (hst : l.stackTraces = false) {d : Nat} (M : Nat → mm_C) (h199 : M 199 = .inr (0, [.ref 200, .int 0, .int 0])) (h383 : M 383 = .inr (10, [.ref 199, .ref 384, .ref 385, .ref 386, .ref 387, .int 0, .int 0, .int 0])) (h384 : M 384 = .inl (0, 701, .inl (fun _ => 0))) (h385 : M 385 = .inl (0, 701, .inl (fun _ => 0))) (h386 : M 386 = .inl (0, 701, .inl (fun _ => 0))) (h387 : M 387 = .inl (1, 701, .inr (.inl (fun _ => 0)))) : mm_Cm g l yX10_addWord (.code yX10_addWord cX10_addWord 4 (some .int)) (d + 1) 0 0 [.ref 383, .int 0] (M, 1186, false) (fun v S' => v = some (.int 0) ∧ S'.2 = (1186, false) ∧ S'.1 384 = .inl (0, 701, .inl (upd (fun _ => 0) ((0 : Int32).toNatClampNeg) 0)) ∧ S'.1 385 = .inl (0, 701, .inl (upd (fun _ => 0) ((0 : Int32).toNatClampNeg) 0)) ∧ S'.1 386 = .inl (0, 701, .inl (upd (fun _ => 0) ((0 : Int32).toNatClampNeg) 0)) ∧ S'.1 387 = .inl (1, 701, .inr (.inl (vp_updL (fun _ => 0) ((0 : Int32).toNatClampNeg) (-1)))) ∧ S'.1 383 = .inr (10, [.ref 199, .ref 384, .ref 385, .ref 386, .ref 387, .int (0 + 1), .int 0, .int 0]) ∧ ∀ j, j ≠ 384 → j ≠ 385 → j ≠ 386 → j ≠ 387 → j ≠ 383 → S'.1 j = M j) := by
  refine mm_Cm_of hst (by decide) (Nat.le_of_ble_eq_true rfl) ?_
  show mm_V g l RX10 "addWord" cX10_addWord 4 (some .int) [] (d + 1) 0 0 _ 0 [some (.ref 383), some (.int 0), none, none] [] (M, 1186, false) 0 0
  refine mm_aload_n dX10_addWord_0 rfl rfl ?_
  refine mm_get3 (ci := 10) in_X10 rfl (k := 0) (by decide) rfl kF_X10_9 dX10_addWord_1 h383 (Nat.le_of_ble_eq_true rfl) rfl ?_
  refine mm_iload_n dX10_addWord_4 rfl ?_
  refine mm_callV3 (ci := 0) wM_X0_at kM_X10_55 wI_X0_at wS_X0_at dX10_addWord_5 (k75_X0_at hst _  h199) h199 (Nat.le_of_ble_eq_true rfl) rfl rfl rfl (Nat.le_of_ble_eq_true rfl) (by omega) (by omega) (fun v S9 hq => ?_)
  obtain ⟨rfl, rfl⟩ := hq
  refine ⟨fun h => ⟨h, rfl⟩, ?_⟩
  refine mm_istore_n [some (.ref 383), some (.int 0), some (.int (-1)), none] dX10_addWord_8 (by decide) rfl ?_
  refine mm_iload_n dX10_addWord_9 rfl ?_
  refine mm_if_ge 35 dX10_addWord_10 (by decide) (fun h => absurd h (by decide)) (fun _ => ?_)
  refine mm_aload_n dX10_addWord_13 rfl rfl ?_
  refine mm_aload_n dX10_addWord_14 rfl rfl ?_
  refine mm_get3 (ci := 10) in_X10 rfl (k := 7) (by decide) rfl kF_X10_44 dX10_addWord_15 h383 (Nat.le_of_ble_eq_true rfl) rfl ?_
  refine mm_if_eq 25 dX10_addWord_18 (by decide) (fun _ => ?_) (fun h => absurd (by decide) h)
  refine mm_iconst (v := 0) dX10_addWord_25 (by decide) ?_
  refine mm_iload_n dX10_addWord_26 rfl ?_
  refine mm_iload_n dX10_addWord_27 rfl ?_
  refine mm_ldc2 kL_X10_36 dX10_addWord_28 ?_
  refine mm_callV3 (ci := 10) wM_X10_push kM_X10_58 wI_X10_push wS_X10_push dX10_addWord_31 (k77_X10_push hst _  h383 h384 h385 h386 h387) h383 (Nat.le_of_ble_eq_true rfl) rfl rfl rfl (Nat.le_of_ble_eq_true rfl) (by omega) (by omega) (fun v S9 hq => ?_)
  obtain ⟨M78, z78⟩ := S9
  obtain ⟨rfl, hz78, g78_384, g78_385, g78_386, g78_387, g78_383, g78_F⟩ := hq
  cases hz78
  refine ⟨fun h => ⟨h, rfl⟩, ?_⟩
  refine mm_iret dX10_addWord_34 rfl rfl ?_ (by omega) (by omega)
  refine ⟨rfl, rfl, ?_⟩
  dsimp only
  exact ⟨g78_384, g78_385, g78_386, g78_387, g78_383, fun x e384 e385 e386 e387 e383 => mm_frN (g78_F _ e384 e385 e386 e387 e383 ) (rfl)⟩

set_option maxHeartbeats 4000000 in
set_option maxRecDepth 100000 in
theorem k69_X10_split {g : mm_G} {l : Launch} (hst : l.stackTraces = false) {d : Nat} (M : Nat → mm_C) (h199 : M 199 = .inr (0, [.ref 200, .int 0, .int 0])) (h383 : M 383 = .inr (10, [.ref 199, .ref 384, .ref 385, .ref 386, .ref 387, .int 0, .int 0, .int 0])) (h384 : M 384 = .inl (0, 701, .inl (fun _ => 0))) (h385 : M 385 = .inl (0, 701, .inl (fun _ => 0))) (h386 : M 386 = .inl (0, 701, .inl (fun _ => 0))) (h387 : M 387 = .inl (1, 701, .inr (.inl (fun _ => 0)))) : mm_Cm g l yX10_split (.code yX10_split cX10_split 4 none) (d + 2) 0 0 [.ref 383] (M, 1186, false) (fun v S' => v = none ∧ S'.2 = (1186, false) ∧ S'.1 383 = .inr (10, [.ref 199, .ref 384, .ref 385, .ref 386, .ref 387, .int (0 + 1), .int 0, .int 0]) ∧ S'.1 384 = .inl (0, 701, .inl (upd (fun _ => 0) ((0 : Int32).toNatClampNeg) 0)) ∧ S'.1 385 = .inl (0, 701, .inl (upd (fun _ => 0) ((0 : Int32).toNatClampNeg) 0)) ∧ S'.1 386 = .inl (0, 701, .inl (upd (fun _ => 0) ((0 : Int32).toNatClampNeg) 0)) ∧ S'.1 387 = .inl (1, 701, .inr (.inl (vp_updL (fun _ => 0) ((0 : Int32).toNatClampNeg) (-1)))) ∧ ∀ j, j ≠ 383 → j ≠ 384 → j ≠ 385 → j ≠ 386 → j ≠ 387 → S'.1 j = M j) := by
  refine mm_Cm_of hst (by decide) (Nat.le_of_ble_eq_true rfl) ?_
  show mm_V g l RX10 "split" cX10_split 4 none [] (d + 2) 0 0 _ 0 [some (.ref 383), none, none, none] [] (M, 1186, false) 0 0
  refine mm_aload_n dX10_split_0 rfl rfl ?_
  refine mm_iconst (v := 0) dX10_split_1 (by decide) ?_
  refine mm_put3 (ci := 10) (fs1 := [.ref 199, .ref 384, .ref 385, .ref 386, .ref 387, .int 0, .int 0, .int 0]) in_X10 tyX10_ok nmX10 rfl (k := 5) (by decide) rfl rfl kF_X10_29 dX10_split_2 (mm_fit_int _) h383 (Nat.le_of_ble_eq_true rfl) (Nat.le_of_ble_eq_true rfl) rfl ?_
  refine mm_aload_n dX10_split_5 rfl rfl ?_
  refine mm_aload_n dX10_split_6 rfl rfl ?_
  refine mm_get3 (ci := 10) in_X10 rfl (k := 0) (by decide) rfl kF_X10_9 dX10_split_7 mm_up_s (Nat.le_of_ble_eq_true rfl) rfl ?_
  refine mm_callV3 (ci := 0) wM_X0_size kM_X10_38 wI_X0_size wS_X0_size dX10_split_10 (k70_X0_size hst _  (mm_upN (by decide) h199)) (mm_upN (by decide) h199) (Nat.le_of_ble_eq_true rfl) rfl rfl rfl (Nat.le_of_ble_eq_true rfl) (by omega) (by omega) (fun v S9 hq => ?_)
  obtain ⟨rfl, rfl⟩ := hq
  refine ⟨fun h => ⟨h, rfl⟩, ?_⟩
  refine mm_put3 (ci := 10) (fs1 := [.ref 199, .ref 384, .ref 385, .ref 386, .ref 387, .int 0, .int 0, .int 0]) in_X10 tyX10_ok nmX10 rfl (k := 6) (by decide) rfl rfl kF_X10_33 dX10_split_13 (mm_fit_int _) mm_up_s (Nat.le_of_ble_eq_true rfl) (Nat.le_of_ble_eq_true rfl) rfl ?_
  refine mm_aload_n dX10_split_16 rfl rfl ?_
  refine mm_iconst (v := 0) dX10_split_17 (by decide) ?_
  refine mm_put3 (ci := 10) (fs1 := [.ref 199, .ref 384, .ref 385, .ref 386, .ref 387, .int 0, .int 0, .int 0]) in_X10 tyX10_ok nmX10 rfl (k := 7) (by decide) rfl rfl kF_X10_44 dX10_split_18 mm_fit_z0 mm_up_s (Nat.le_of_ble_eq_true rfl) (Nat.le_of_ble_eq_true rfl) rfl ?_
  refine mm_iconst (v := 0) dX10_split_21 (by decide) ?_
  refine mm_istore_n [some (.ref 383), some (.int 0), none, none] dX10_split_22 (by decide) rfl ?_
  refine mm_iconst (v := 0) dX10_split_23 (by decide) ?_
  refine mm_istore_n [some (.ref 383), some (.int 0), some (.int 0), none] dX10_split_24 (by decide) rfl ?_
  refine mm_iload_n dX10_split_25 rfl ?_
  refine mm_sipush (v := 700) dX10_split_26 (by decide) ?_
  refine mm_icmp_gt 56 dX10_split_29 (by decide) (fun h => absurd h (by decide)) (fun _ => ?_)
  refine mm_aload_n dX10_split_32 rfl rfl ?_
  refine mm_iload_n dX10_split_33 rfl ?_
  refine mm_callV3 (ci := 10) wM_X10_behindBlanks kM_X10_48 wI_X10_behindBlanks wS_X10_behindBlanks dX10_split_34 (k72_X10_behindBlanks hst _  mm_up_s) mm_up_s (Nat.le_of_ble_eq_true rfl) rfl rfl rfl (Nat.le_of_ble_eq_true rfl) (by omega) (by omega) (fun v S9 hq => ?_)
  obtain ⟨rfl, rfl⟩ := hq
  refine ⟨fun h => ⟨h, rfl⟩, ?_⟩
  refine mm_istore_n [some (.ref 383), some (.int 0), some (.int 0), some (.int 0)] dX10_split_37 (by decide) rfl ?_
  refine mm_aload_n dX10_split_38 rfl rfl ?_
  refine mm_iload_n dX10_split_39 rfl ?_
  refine mm_callV3 (ci := 10) wM_X10_addWord kM_X10_52 wI_X10_addWord wS_X10_addWord dX10_split_40 (k74_X10_addWord hst _  (mm_upN (by decide) (mm_upN (by decide) (mm_upN (by decide) h199))) mm_up_s (mm_upN (by decide) (mm_upN (by decide) (mm_upN (by decide) h384))) (mm_upN (by decide) (mm_upN (by decide) (mm_upN (by decide) h385))) (mm_upN (by decide) (mm_upN (by decide) (mm_upN (by decide) h386))) (mm_upN (by decide) (mm_upN (by decide) (mm_upN (by decide) h387)))) mm_up_s (Nat.le_of_ble_eq_true rfl) rfl rfl rfl (Nat.le_of_ble_eq_true rfl) (by omega) (by omega) (fun v S9 hq => ?_)
  obtain ⟨M79, z79⟩ := S9
  obtain ⟨rfl, hz79, g79_384, g79_385, g79_386, g79_387, g79_383, g79_F⟩ := hq
  cases hz79
  refine ⟨fun h => ⟨h, rfl⟩, ?_⟩
  refine mm_istore_n [some (.ref 383), some (.int 0), some (.int 0), some (.int 0)] dX10_split_43 (by decide) rfl ?_
  refine mm_iload_n dX10_split_44 rfl ?_
  refine mm_iload_n dX10_split_45 rfl ?_
  refine mm_icmp_gt 50 dX10_split_46 (by decide) (fun h => absurd h (by decide)) (fun _ => ?_)
  refine mm_vret dX10_split_49 rfl ?_ (by omega) (by omega)
  refine ⟨rfl, rfl, ?_⟩
  dsimp only
  exact ⟨g79_383, g79_384, g79_385, g79_386, g79_387, fun x e383 e384 e385 e386 e387 => mm_frN (g79_F _ e384 e385 e386 e387 e383 ) (mm_upN e383 (mm_upN e383 (mm_upN e383 (rfl))))⟩

set_option maxHeartbeats 4000000 in
set_option maxRecDepth 100000 in
theorem k84_X10_codeOf {g : mm_G} {l : Launch} (hst : l.stackTraces = false) {d : Nat} (M : Nat → mm_C) (h383 : M 383 = .inr (10, [.ref 199, .ref 384, .ref 385, .ref 386, .ref 387, .int (0 + 1), .int 0, .int 0])) (h384 : M 384 = .inl (0, 701, .inl (upd (fun _ => 0) ((0 : Int32).toNatClampNeg) 0))) (h387 : M 387 = .inl (1, 701, .inr (.inl (vp_updL (fun _ => 0) ((0 : Int32).toNatClampNeg) (-1))))) : mm_Cm g l yX10_codeOf (.code yX10_codeOf cX10_codeOf 3 (some .int)) d 0 0 [.ref 383, .int 0] (M, 1186, false) (fun v S' => v = some (.int (-1)) ∧ S' = (M, 1186, false)) := by
  refine mm_Cm_of hst (by decide) (Nat.le_of_ble_eq_true rfl) ?_
  show mm_V g l RX10 "codeOf" cX10_codeOf 3 (some .int) [] d 0 0 _ 0 [some (.ref 383), some (.int 0), none] [] (M, 1186, false) 0 0
  refine mm_iload_n dX10_codeOf_0 rfl ?_
  refine mm_if_lt 44 dX10_codeOf_1 (by decide) (fun h => absurd h (by decide)) (fun _ => ?_)
  refine mm_iload_n dX10_codeOf_4 rfl ?_
  refine mm_aload_n dX10_codeOf_5 rfl rfl ?_
  refine mm_get3 (ci := 10) in_X10 rfl (k := 5) (by decide) rfl kF_X10_29 dX10_codeOf_6 h383 (Nat.le_of_ble_eq_true rfl) rfl ?_
  refine mm_icmp_ge 44 dX10_codeOf_9 (by decide) (fun h => absurd h (by decide)) (fun _ => ?_)
  refine mm_iload_n dX10_codeOf_12 rfl ?_
  refine mm_aload_n dX10_codeOf_13 rfl rfl ?_
  refine mm_get3 (ci := 10) in_X10 rfl (k := 1) (by decide) rfl kF_X10_15 dX10_codeOf_14 h383 (Nat.le_of_ble_eq_true rfl) rfl ?_
  refine mm_alen3 (v := 701) (fun _ => rfl) h384 (Nat.le_of_ble_eq_true rfl) rfl dX10_codeOf_17 ?_
  refine mm_icmp_ge 44 dX10_codeOf_18 (by decide) (fun h => absurd h (by decide)) (fun _ => ?_)
  refine mm_iload_n dX10_codeOf_21 rfl ?_
  refine mm_aload_n dX10_codeOf_22 rfl rfl ?_
  refine mm_get3 (ci := 10) in_X10 rfl (k := 4) (by decide) rfl kF_X10_25 dX10_codeOf_23 h383 (Nat.le_of_ble_eq_true rfl) rfl ?_
  refine mm_alen3 (v := 701) (fun _ => rfl) h387 (Nat.le_of_ble_eq_true rfl) rfl dX10_codeOf_26 ?_
  refine mm_icmp_ge 44 dX10_codeOf_27 (by decide) (fun h => absurd h (by decide)) (fun _ => ?_)
  refine mm_aload_n dX10_codeOf_30 rfl rfl ?_
  refine mm_get3 (ci := 10) in_X10 rfl (k := 1) (by decide) rfl kF_X10_15 dX10_codeOf_31 h383 (Nat.le_of_ble_eq_true rfl) rfl ?_
  refine mm_iload_n dX10_codeOf_34 rfl ?_
  refine mm_iald3 h384 (Nat.le_of_ble_eq_true rfl) (by unfold vp_in; decide) dX10_codeOf_35 ?_
  refine mm_iconst (v := 1) dX10_codeOf_36 (by decide) ?_
  refine mm_icmp_ne 44 dX10_codeOf_37 (by decide) (fun _ => ?_) (fun h => absurd h (by decide))
  refine mm_iconst (v := 0) dX10_codeOf_44 (by decide) ?_
  refine mm_istore_n [some (.ref 383), some (.int 0), some (.int 0)] dX10_codeOf_45 (by decide) rfl ?_
  refine mm_iload_n dX10_codeOf_46 rfl ?_
  refine mm_if_eq 60 dX10_codeOf_47 (by decide) (fun _ => ?_) (fun h => absurd (by decide) h)
  refine mm_iconst (v := (-1)) dX10_codeOf_60 (by decide) ?_
  refine mm_iret dX10_codeOf_61 rfl rfl ?_ (by omega) (by omega)
  exact ⟨rfl, rfl⟩

set_option maxHeartbeats 4000000 in
set_option maxRecDepth 100000 in
theorem k83_X5_takesWord {g : mm_G} {l : Launch} (hst : l.stackTraces = false) {d : Nat} (M : Nat → mm_C) (h383 : M 383 = .inr (10, [.ref 199, .ref 384, .ref 385, .ref 386, .ref 387, .int (0 + 1), .int 0, .int 0])) (h384 : M 384 = .inl (0, 701, .inl (upd (fun _ => 0) ((0 : Int32).toNatClampNeg) 0))) (h387 : M 387 = .inl (1, 701, .inr (.inl (vp_updL (fun _ => 0) ((0 : Int32).toNatClampNeg) (-1))))) (h388 : M 388 = .inr (5, [.ref 198, .ref 383, .null, .null, .null, .int 0, .int 0, .int 1])) : mm_Cm g l yX5_takesWord (.code yX5_takesWord cX5_takesWord 2 (some .boolean)) (d + 1) 0 0 [.ref 388, .int 24] (M, 1186, false) (fun v S' => v = some (.int 0) ∧ S' = (M, 1186, false)) := by
  refine mm_Cm_of hst (by decide) (Nat.le_of_ble_eq_true rfl) ?_
  show mm_V g l RX5 "takesWord" cX5_takesWord 2 (some .boolean) [] (d + 1) 0 0 _ 0 [some (.ref 388), some (.int 24)] [] (M, 1186, false) 0 0
  refine mm_aload_n dX5_takesWord_0 rfl rfl ?_
  refine mm_get3 (ci := 5) in_X5 rfl (k := 1) (by decide) rfl kF_X5_15 dX5_takesWord_1 h388 (Nat.le_of_ble_eq_true rfl) rfl ?_
  refine mm_aload_n dX5_takesWord_4 rfl rfl ?_
  refine mm_get3 (ci := 5) in_X5 rfl (k := 6) (by decide) rfl kF_X5_29 dX5_takesWord_5 h388 (Nat.le_of_ble_eq_true rfl) rfl ?_
  refine mm_callV3 (ci := 10) wM_X10_codeOf kM_X5_69 wI_X10_codeOf wS_X10_codeOf dX5_takesWord_8 (k84_X10_codeOf hst _  h383 h384 h387) h383 (Nat.le_of_ble_eq_true rfl) rfl rfl rfl (Nat.le_of_ble_eq_true rfl) (by omega) (by omega) (fun v S9 hq => ?_)
  obtain ⟨rfl, rfl⟩ := hq
  refine ⟨fun h => ⟨h, rfl⟩, ?_⟩
  refine mm_iload_n dX5_takesWord_11 rfl ?_
  refine mm_icmp_eq 17 dX5_takesWord_12 (by decide) (fun h => absurd h (by decide)) (fun _ => ?_)
  refine mm_iconst (v := 0) dX5_takesWord_15 (by decide) ?_
  refine mm_iret dX5_takesWord_16 rfl rfl ?_ (by omega) (by omega)
  exact ⟨rfl, rfl⟩

set_option maxHeartbeats 4000000 in
set_option maxRecDepth 100000 in
theorem k82_X5_readSyntax {g : mm_G} {l : Launch} (hst : l.stackTraces = false) {d : Nat} (M : Nat → mm_C) (h383 : M 383 = .inr (10, [.ref 199, .ref 384, .ref 385, .ref 386, .ref 387, .int (0 + 1), .int 0, .int 0])) (h384 : M 384 = .inl (0, 701, .inl (upd (fun _ => 0) ((0 : Int32).toNatClampNeg) 0))) (h387 : M 387 = .inl (1, 701, .inr (.inl (vp_updL (fun _ => 0) ((0 : Int32).toNatClampNeg) (-1))))) (h388 : M 388 = .inr (5, [.ref 198, .ref 383, .null, .null, .null, .int 0, .int 0, .int 1])) : mm_Cm g l yX5_readSyntax (.code yX5_readSyntax cX5_readSyntax 1 (some .boolean)) (d + 2) 0 0 [.ref 388] (M, 1186, false) (fun v S' => v = some (.int 0) ∧ S' = (M, 1186, false)) := by
  refine mm_Cm_of hst (by decide) (Nat.le_of_ble_eq_true rfl) ?_
  show mm_V g l RX5 "readSyntax" cX5_readSyntax 1 (some .boolean) [] (d + 2) 0 0 _ 0 [some (.ref 388)] [] (M, 1186, false) 0 0
  refine mm_aload_n dX5_readSyntax_0 rfl rfl ?_
  refine mm_bipush (v := 24) dX5_readSyntax_1 (by decide) ?_
  refine mm_callV3 (ci := 5) wM_X5_takesWord kM_X5_72 wI_X5_takesWord wS_X5_takesWord dX5_readSyntax_3 (k83_X5_takesWord hst _  h383 h384 h387 h388) h388 (Nat.le_of_ble_eq_true rfl) rfl rfl rfl (Nat.le_of_ble_eq_true rfl) (by omega) (by omega) (fun v S9 hq => ?_)
  obtain ⟨rfl, rfl⟩ := hq
  refine ⟨fun h => ⟨h, rfl⟩, ?_⟩
  refine mm_if_eq 18 dX5_readSyntax_6 (by decide) (fun _ => ?_) (fun h => absurd (by decide) h)
  refine mm_iconst (v := 0) dX5_readSyntax_18 (by decide) ?_
  refine mm_iret dX5_readSyntax_19 rfl rfl ?_ (by omega) (by omega)
  exact ⟨rfl, rfl⟩

set_option maxHeartbeats 4000000 in
set_option maxRecDepth 100000 in
theorem k88_X10_count {g : mm_G} {l : Launch} (hst : l.stackTraces = false) {d : Nat} (M : Nat → mm_C) (h383 : M 383 = .inr (10, [.ref 199, .ref 384, .ref 385, .ref 386, .ref 387, .int (0 + 1), .int 0, .int 0])) : mm_Cm g l yX10_count (.code yX10_count cX10_count 1 (some .int)) d 0 0 [.ref 383] (M, 1186, false) (fun v S' => v = some (.int (0 + 1)) ∧ S' = (M, 1186, false)) := by
  refine mm_Cm_of hst (by decide) (Nat.le_of_ble_eq_true rfl) ?_
  show mm_V g l RX10 "count" cX10_count 1 (some .int) [] d 0 0 _ 0 [some (.ref 383)] [] (M, 1186, false) 0 0
  refine mm_aload_n dX10_count_0 rfl rfl ?_
  refine mm_get3 (ci := 10) in_X10 rfl (k := 5) (by decide) rfl kF_X10_29 dX10_count_1 h383 (Nat.le_of_ble_eq_true rfl) rfl ?_
  refine mm_iret dX10_count_4 rfl rfl ?_ (by omega) (by omega)
  exact ⟨rfl, rfl⟩

set_option maxHeartbeats 4000000 in
set_option maxRecDepth 100000 in
theorem k81_X5_read {g : mm_G} {l : Launch} (hst : l.stackTraces = false) {d : Nat} (M : Nat → mm_C) (h383 : M 383 = .inr (10, [.ref 199, .ref 384, .ref 385, .ref 386, .ref 387, .int (0 + 1), .int 0, .int 0])) (h384 : M 384 = .inl (0, 701, .inl (upd (fun _ => 0) ((0 : Int32).toNatClampNeg) 0))) (h387 : M 387 = .inl (1, 701, .inr (.inl (vp_updL (fun _ => 0) ((0 : Int32).toNatClampNeg) (-1))))) (h388 : M 388 = .inr (5, [.ref 198, .ref 383, .null, .null, .null, .int 0, .int 0, .int 0])) : mm_Cm g l yX5_read (.code yX5_read cX5_read 3 (some .int)) (d + 3) 0 0 [.ref 388] (M, 1186, false) (fun v S' => v = some (.int 1) ∧ S'.2 = (1186, false) ∧ S'.1 388 = .inr (5, [.ref 198, .ref 383, .null, .null, .null, .int 0, .int 0, .int 1]) ∧ ∀ j, j ≠ 388 → S'.1 j = M j) := by
  refine mm_Cm_of hst (by decide) (Nat.le_of_ble_eq_true rfl) ?_
  show mm_V g l RX5 "read" cX5_read 3 (some .int) [] (d + 3) 0 0 _ 0 [some (.ref 388), none, none] [] (M, 1186, false) 0 0
  refine mm_aload_n dX5_read_0 rfl rfl ?_
  refine mm_null dX5_read_1 ?_
  refine mm_put3 (ci := 5) (fs1 := [.ref 198, .ref 383, .null, .null, .null, .int 0, .int 0, .int 0]) in_X5 tyX5_ok nmX5 rfl (k := 2) (by decide) rfl rfl kF_X5_19 dX5_read_2 (mm_fit_null _) h388 (Nat.le_of_ble_eq_true rfl) (Nat.le_of_ble_eq_true rfl) rfl ?_
  refine mm_aload_n dX5_read_5 rfl rfl ?_
  refine mm_null dX5_read_6 ?_
  refine mm_put3 (ci := 5) (fs1 := [.ref 198, .ref 383, .null, .null, .null, .int 0, .int 0, .int 0]) in_X5 tyX5_ok nmX5 rfl (k := 3) (by decide) rfl rfl kF_X5_23 dX5_read_7 (mm_fit_null _) mm_up_s (Nat.le_of_ble_eq_true rfl) (Nat.le_of_ble_eq_true rfl) rfl ?_
  refine mm_aload_n dX5_read_10 rfl rfl ?_
  refine mm_null dX5_read_11 ?_
  refine mm_put3 (ci := 5) (fs1 := [.ref 198, .ref 383, .null, .null, .null, .int 0, .int 0, .int 0]) in_X5 tyX5_ok nmX5 rfl (k := 4) (by decide) rfl rfl kF_X5_26 dX5_read_12 (mm_fit_null _) mm_up_s (Nat.le_of_ble_eq_true rfl) (Nat.le_of_ble_eq_true rfl) rfl ?_
  refine mm_aload_n dX5_read_15 rfl rfl ?_
  refine mm_iconst (v := 0) dX5_read_16 (by decide) ?_
  refine mm_put3 (ci := 5) (fs1 := [.ref 198, .ref 383, .null, .null, .null, .int 0, .int 0, .int 0]) in_X5 tyX5_ok nmX5 rfl (k := 6) (by decide) rfl rfl kF_X5_29 dX5_read_17 (mm_fit_int _) mm_up_s (Nat.le_of_ble_eq_true rfl) (Nat.le_of_ble_eq_true rfl) rfl ?_
  refine mm_aload_n dX5_read_20 rfl rfl ?_
  refine mm_iconst (v := 1) dX5_read_21 (by decide) ?_
  refine mm_put3 (ci := 5) (fs1 := [.ref 198, .ref 383, .null, .null, .null, .int 0, .int 0, .int 1]) in_X5 tyX5_ok nmX5 rfl (k := 7) (by decide) rfl rfl kF_X5_33 dX5_read_22 (mm_fit_int _) mm_up_s (Nat.le_of_ble_eq_true rfl) (Nat.le_of_ble_eq_true rfl) rfl ?_
  refine mm_aload_n dX5_read_25 rfl rfl ?_
  refine mm_callV3 (ci := 5) wM_X5_readSyntax kM_X5_36 wI_X5_readSyntax wS_X5_readSyntax dX5_read_26 (k82_X5_readSyntax hst _  (mm_upN (by decide) (mm_upN (by decide) (mm_upN (by decide) (mm_upN (by decide) (mm_upN (by decide) h383))))) (mm_upN (by decide) (mm_upN (by decide) (mm_upN (by decide) (mm_upN (by decide) (mm_upN (by decide) h384))))) (mm_upN (by decide) (mm_upN (by decide) (mm_upN (by decide) (mm_upN (by decide) (mm_upN (by decide) h387))))) mm_up_s) mm_up_s (Nat.le_of_ble_eq_true rfl) rfl rfl rfl (Nat.le_of_ble_eq_true rfl) (by omega) (by omega) (fun v S9 hq => ?_)
  obtain ⟨rfl, rfl⟩ := hq
  refine ⟨fun h => ⟨h, rfl⟩, ?_⟩
  refine mm_istore_n [some (.ref 388), some (.int 0), none] dX5_read_29 (by decide) rfl ?_
  refine mm_iconst (v := 0) dX5_read_30 (by decide) ?_
  refine mm_istore_n [some (.ref 388), some (.int 0), some (.int 0)] dX5_read_31 (by decide) rfl ?_
  refine mm_iload_n dX5_read_32 rfl ?_
  refine mm_aload_n dX5_read_33 rfl rfl ?_
  refine mm_get3 (ci := 5) in_X5 rfl (k := 1) (by decide) rfl kF_X5_15 dX5_read_34 mm_up_s (Nat.le_of_ble_eq_true rfl) rfl ?_
  refine mm_callV3 (ci := 10) wM_X10_count kM_X5_40 wI_X10_count wS_X10_count dX5_read_37 (k88_X10_count hst _  (mm_upN (by decide) (mm_upN (by decide) (mm_upN (by decide) (mm_upN (by decide) (mm_upN (by decide) h383)))))) (mm_upN (by decide) (mm_upN (by decide) (mm_upN (by decide) (mm_upN (by decide) (mm_upN (by decide) h383))))) (Nat.le_of_ble_eq_true rfl) rfl rfl rfl (Nat.le_of_ble_eq_true rfl) (by omega) (by omega) (fun v S9 hq => ?_)
  obtain ⟨rfl, rfl⟩ := hq
  refine ⟨fun h => ⟨h, rfl⟩, ?_⟩
  refine mm_icmp_ge 93 dX5_read_40 (by decide) (fun h => absurd h (by decide)) (fun _ => ?_)
  refine mm_iload_n dX5_read_43 rfl ?_
  refine mm_if_eq 93 dX5_read_44 (by decide) (fun _ => ?_) (fun h => absurd (by decide) h)
  refine mm_iload_n dX5_read_93 rfl ?_
  refine mm_if_eq 108 dX5_read_94 (by decide) (fun _ => ?_) (fun h => absurd (by decide) h)
  refine mm_aload_n dX5_read_108 rfl rfl ?_
  refine mm_get3 (ci := 5) in_X5 rfl (k := 7) (by decide) rfl kF_X5_33 dX5_read_109 mm_up_s (Nat.le_of_ble_eq_true rfl) rfl ?_
  refine mm_iret dX5_read_112 rfl rfl ?_ (by omega) (by omega)
  refine ⟨rfl, rfl, ?_⟩
  dsimp only
  exact ⟨mm_up_s, fun x e388 => mm_upN e388 (mm_upN e388 (mm_upN e388 (mm_upN e388 (mm_upN e388 (rfl)))))⟩

set_option maxHeartbeats 4000000 in
set_option maxRecDepth 100000 in
theorem k92_X10_startOf {g : mm_G} {l : Launch} (hst : l.stackTraces = false) {d : Nat} (M : Nat → mm_C) (h383 : M 383 = .inr (10, [.ref 199, .ref 384, .ref 385, .ref 386, .ref 387, .int (0 + 1), .int 0, .int 0])) (h385 : M 385 = .inl (0, 701, .inl (upd (fun _ => 0) ((0 : Int32).toNatClampNeg) 0))) : mm_Cm g l yX10_startOf (.code yX10_startOf cX10_startOf 2 (some .int)) d 0 0 [.ref 383, .int 0] (M, 1186, false) (fun v S' => v = some (.int ((upd (fun _ => 0) ((0 : Int32).toNatClampNeg) 0) (0 : Int32).toNatClampNeg)) ∧ S' = (M, 1186, false)) := by
  refine mm_Cm_of hst (by decide) (Nat.le_of_ble_eq_true rfl) ?_
  show mm_V g l RX10 "startOf" cX10_startOf 2 (some .int) [] d 0 0 _ 0 [some (.ref 383), some (.int 0)] [] (M, 1186, false) 0 0
  refine mm_iload_n dX10_startOf_0 rfl ?_
  refine mm_if_lt 30 dX10_startOf_1 (by decide) (fun h => absurd h (by decide)) (fun _ => ?_)
  refine mm_iload_n dX10_startOf_4 rfl ?_
  refine mm_aload_n dX10_startOf_5 rfl rfl ?_
  refine mm_get3 (ci := 10) in_X10 rfl (k := 5) (by decide) rfl kF_X10_29 dX10_startOf_6 h383 (Nat.le_of_ble_eq_true rfl) rfl ?_
  refine mm_icmp_ge 30 dX10_startOf_9 (by decide) (fun h => absurd h (by decide)) (fun _ => ?_)
  refine mm_iload_n dX10_startOf_12 rfl ?_
  refine mm_aload_n dX10_startOf_13 rfl rfl ?_
  refine mm_get3 (ci := 10) in_X10 rfl (k := 2) (by decide) rfl kF_X10_19 dX10_startOf_14 h383 (Nat.le_of_ble_eq_true rfl) rfl ?_
  refine mm_alen3 (v := 701) (fun _ => rfl) h385 (Nat.le_of_ble_eq_true rfl) rfl dX10_startOf_17 ?_
  refine mm_icmp_ge 30 dX10_startOf_18 (by decide) (fun h => absurd h (by decide)) (fun _ => ?_)
  refine mm_aload_n dX10_startOf_21 rfl rfl ?_
  refine mm_get3 (ci := 10) in_X10 rfl (k := 2) (by decide) rfl kF_X10_19 dX10_startOf_22 h383 (Nat.le_of_ble_eq_true rfl) rfl ?_
  refine mm_iload_n dX10_startOf_25 rfl ?_
  refine mm_iald3 h385 (Nat.le_of_ble_eq_true rfl) (by unfold vp_in; decide) dX10_startOf_26 ?_
  refine mm_goto 34 dX10_startOf_27 (by decide) ?_
  refine mm_iret dX10_startOf_34 rfl rfl ?_ (by omega) (by omega)
  exact ⟨rfl, rfl⟩

set_option maxHeartbeats 4000000 in
set_option maxRecDepth 100000 in
theorem k91_X5_endPlace {g : mm_G} {l : Launch} (hst : l.stackTraces = false) {d : Nat} (M : Nat → mm_C) (h383 : M 383 = .inr (10, [.ref 199, .ref 384, .ref 385, .ref 386, .ref 387, .int (0 + 1), .int 0, .int 0])) (h385 : M 385 = .inl (0, 701, .inl (upd (fun _ => 0) ((0 : Int32).toNatClampNeg) 0))) (h388 : M 388 = .inr (5, [.ref 198, .ref 383, .null, .null, .null, .int 0, .int 0, .int 1])) : mm_Cm g l yX5_endPlace (.code yX5_endPlace cX5_endPlace 1 (some .int)) (d + 1) 0 0 [.ref 388] (M, 1186, false) (fun v S' => v = some (.int ((upd (fun _ => 0) ((0 : Int32).toNatClampNeg) 0) (0 : Int32).toNatClampNeg)) ∧ S' = (M, 1186, false)) := by
  refine mm_Cm_of hst (by decide) (Nat.le_of_ble_eq_true rfl) ?_
  show mm_V g l RX5 "endPlace" cX5_endPlace 1 (some .int) [] (d + 1) 0 0 _ 0 [some (.ref 388)] [] (M, 1186, false) 0 0
  refine mm_aload_n dX5_endPlace_0 rfl rfl ?_
  refine mm_get3 (ci := 5) in_X5 rfl (k := 1) (by decide) rfl kF_X5_15 dX5_endPlace_1 h388 (Nat.le_of_ble_eq_true rfl) rfl ?_
  refine mm_aload_n dX5_endPlace_4 rfl rfl ?_
  refine mm_get3 (ci := 5) in_X5 rfl (k := 6) (by decide) rfl kF_X5_29 dX5_endPlace_5 h388 (Nat.le_of_ble_eq_true rfl) rfl ?_
  refine mm_callV3 (ci := 10) wM_X10_startOf kM_X5_58 wI_X10_startOf wS_X10_startOf dX5_endPlace_8 (k92_X10_startOf hst _  h383 h385) h383 (Nat.le_of_ble_eq_true rfl) rfl rfl rfl (Nat.le_of_ble_eq_true rfl) (by omega) (by omega) (fun v S9 hq => ?_)
  obtain ⟨rfl, rfl⟩ := hq
  refine ⟨fun h => ⟨h, rfl⟩, ?_⟩
  refine mm_iret dX5_endPlace_11 rfl rfl ?_ (by omega) (by omega)
  exact ⟨rfl, rfl⟩

set_option maxHeartbeats 4000000 in
set_option maxRecDepth 100000 in
theorem k95_X6_used {g : mm_G} {l : Launch} (hst : l.stackTraces = false) {d : Nat} (M : Nat → mm_C) (h198 : M 198 = .inr (6, [.ref 199, .ref 201, .ref 382, .int 0, .int 0])) : mm_Cm g l yX6_used (.code yX6_used cX6_used 1 (some .int)) d 0 0 [.ref 198] (M, 1186, false) (fun v S' => v = some (.int 0) ∧ S' = (M, 1186, false)) := by
  refine mm_Cm_of hst (by decide) (Nat.le_of_ble_eq_true rfl) ?_
  show mm_V g l RX6 "used" cX6_used 1 (some .int) [] d 0 0 _ 0 [some (.ref 198)] [] (M, 1186, false) 0 0
  refine mm_aload_n dX6_used_0 rfl rfl ?_
  refine mm_get3 (ci := 6) in_X6 rfl (k := 3) (by decide) rfl kF_X6_34 dX6_used_1 h198 (Nat.le_of_ble_eq_true rfl) rfl ?_
  refine mm_iret dX6_used_4 rfl rfl ?_ (by omega) (by omega)
  exact ⟨rfl, rfl⟩

set_option maxHeartbeats 4000000 in
set_option maxRecDepth 100000 in
theorem k97_X6_clear {g : mm_G} {l : Launch} (hst : l.stackTraces = false) {d : Nat} (M : Nat → mm_C) (h198 : M 198 = .inr (6, [.ref 199, .ref 201, .ref 382, .int 0, .int 0])) (h199 : M 199 = .inr (0, [.ref 200, .int 0, .int 0])) (h382 : M 382 = .inl (0, 5, .inl (upd (upd (upd (upd (upd (fun _ => 0) ((0 : Int32).toNatClampNeg) 0) ((1 : Int32).toNatClampNeg) 0) ((2 : Int32).toNatClampNeg) 0) ((3 : Int32).toNatClampNeg) 0) ((4 : Int32).toNatClampNeg) 0))) : mm_Cm g l yX6_clear (.code yX6_clear cX6_clear 2 none) (d + 1) 0 0 [.ref 198] (M, 1186, false) (fun v S' => v = none ∧ S'.2 = (1186, false) ∧ S'.1 199 = .inr (0, [.ref 200, .int 0, .int 0]) ∧ S'.1 198 = .inr (6, [.ref 199, .ref 201, .ref 382, .int 0, .int 0]) ∧ S'.1 382 = .inl (0, 5, .inl (upd (upd (upd (upd (upd (upd (upd (upd (upd (upd (fun _ => 0) ((0 : Int32).toNatClampNeg) 0) ((1 : Int32).toNatClampNeg) 0) ((2 : Int32).toNatClampNeg) 0) ((3 : Int32).toNatClampNeg) 0) ((4 : Int32).toNatClampNeg) 0) ((0 : Int32).toNatClampNeg) 0) ((1 : Int32).toNatClampNeg) 0) ((2 : Int32).toNatClampNeg) 0) ((3 : Int32).toNatClampNeg) 0) ((4 : Int32).toNatClampNeg) 0)) ∧ ∀ j, j ≠ 199 → j ≠ 198 → j ≠ 382 → S'.1 j = M j) := by
  refine mm_Cm_of hst (by decide) (Nat.le_of_ble_eq_true rfl) ?_
  show mm_V g l RX6 "clear" cX6_clear 2 none [] (d + 1) 0 0 _ 0 [some (.ref 198), none] [] (M, 1186, false) 0 0
  refine mm_aload_n dX6_clear_0 rfl rfl ?_
  refine mm_get3 (ci := 6) in_X6 rfl (k := 0) (by decide) rfl kF_X6_14 dX6_clear_1 h198 (Nat.le_of_ble_eq_true rfl) rfl ?_
  refine mm_callV3 (ci := 0) wM_X0_clear kM_X6_31 wI_X0_clear wS_X0_clear dX6_clear_4 (k61_X0_clear hst _  h199) h199 (Nat.le_of_ble_eq_true rfl) rfl rfl rfl (Nat.le_of_ble_eq_true rfl) (by omega) (by omega) (fun v S9 hq => ?_)
  obtain ⟨M98, z98⟩ := S9
  obtain ⟨rfl, hz98, g98_199, g98_F⟩ := hq
  cases hz98
  refine ⟨fun h => ⟨h, rfl⟩, ?_⟩
  refine mm_aload_n dX6_clear_7 rfl rfl ?_
  refine mm_iconst (v := 0) dX6_clear_8 (by decide) ?_
  refine mm_put3 (ci := 6) (fs1 := [.ref 199, .ref 201, .ref 382, .int 0, .int 0]) in_X6 tyX6_ok nmX6 rfl (k := 3) (by decide) rfl rfl kF_X6_34 dX6_clear_9 (mm_fit_int _) (mm_frN (g98_F _ (by decide)) h198) (Nat.le_of_ble_eq_true rfl) (Nat.le_of_ble_eq_true rfl) rfl ?_
  refine mm_aload_n dX6_clear_12 rfl rfl ?_
  refine mm_iconst (v := 0) dX6_clear_13 (by decide) ?_
  refine mm_put3 (ci := 6) (fs1 := [.ref 199, .ref 201, .ref 382, .int 0, .int 0]) in_X6 tyX6_ok nmX6 rfl (k := 4) (by decide) rfl rfl kF_X6_38 dX6_clear_14 (mm_fit_int _) mm_up_s (Nat.le_of_ble_eq_true rfl) (Nat.le_of_ble_eq_true rfl) rfl ?_
  refine mm_iconst (v := 0) dX6_clear_17 (by decide) ?_
  refine mm_istore_n [some (.ref 198), some (.int 0)] dX6_clear_18 (by decide) rfl ?_
  refine mm_iload_n dX6_clear_19 rfl ?_
  refine mm_aload_n dX6_clear_20 rfl rfl ?_
  refine mm_get3 (ci := 6) in_X6 rfl (k := 2) (by decide) rfl kF_X6_27 dX6_clear_21 mm_up_s (Nat.le_of_ble_eq_true rfl) rfl ?_
  refine mm_alen3 (v := 5) (fun _ => rfl) (mm_upN (by decide) (mm_upN (by decide) (mm_frN (g98_F _ (by decide)) h382))) (Nat.le_of_ble_eq_true rfl) rfl dX6_clear_24 ?_
  refine mm_icmp_ge 41 dX6_clear_25 (by decide) (fun h => absurd h (by decide)) (fun _ => ?_)
  refine mm_aload_n dX6_clear_28 rfl rfl ?_
  refine mm_get3 (ci := 6) in_X6 rfl (k := 2) (by decide) rfl kF_X6_27 dX6_clear_29 mm_up_s (Nat.le_of_ble_eq_true rfl) rfl ?_
  refine mm_iload_n dX6_clear_32 rfl ?_
  refine mm_iconst (v := 0) dX6_clear_33 (by decide) ?_
  refine mm_iast3 (mm_upN (by decide) (mm_upN (by decide) (mm_frN (g98_F _ (by decide)) h382))) (Nat.le_of_ble_eq_true rfl) (by unfold vp_in; decide) dX6_clear_34 ?_
  refine mm_iinc (v := 1) [some (.ref 198), some (.int 1)] dX6_clear_35 rfl (by decide) (by decide) rfl ?_
  refine mm_goto 19 dX6_clear_38 (by decide) ?_
  refine mm_iload_n dX6_clear_19 rfl ?_
  refine mm_aload_n dX6_clear_20 rfl rfl ?_
  refine mm_get3 (ci := 6) in_X6 rfl (k := 2) (by decide) rfl kF_X6_27 dX6_clear_21 (mm_upN (by decide) mm_up_s) (Nat.le_of_ble_eq_true rfl) rfl ?_
  refine mm_alen3 (v := 5) (fun _ => rfl) mm_up_s (Nat.le_of_ble_eq_true rfl) rfl dX6_clear_24 ?_
  refine mm_icmp_ge 41 dX6_clear_25 (by decide) (fun h => absurd h (by decide)) (fun _ => ?_)
  refine mm_aload_n dX6_clear_28 rfl rfl ?_
  refine mm_get3 (ci := 6) in_X6 rfl (k := 2) (by decide) rfl kF_X6_27 dX6_clear_29 (mm_upN (by decide) mm_up_s) (Nat.le_of_ble_eq_true rfl) rfl ?_
  refine mm_iload_n dX6_clear_32 rfl ?_
  refine mm_iconst (v := 0) dX6_clear_33 (by decide) ?_
  refine mm_iast3 mm_up_s (Nat.le_of_ble_eq_true rfl) (by unfold vp_in; decide) dX6_clear_34 ?_
  refine mm_iinc (v := 2) [some (.ref 198), some (.int 2)] dX6_clear_35 rfl (by decide) (by decide) rfl ?_
  refine mm_goto 19 dX6_clear_38 (by decide) ?_
  refine mm_iload_n dX6_clear_19 rfl ?_
  refine mm_aload_n dX6_clear_20 rfl rfl ?_
  refine mm_get3 (ci := 6) in_X6 rfl (k := 2) (by decide) rfl kF_X6_27 dX6_clear_21 (mm_upN (by decide) (mm_upN (by decide) mm_up_s)) (Nat.le_of_ble_eq_true rfl) rfl ?_
  refine mm_alen3 (v := 5) (fun _ => rfl) mm_up_s (Nat.le_of_ble_eq_true rfl) rfl dX6_clear_24 ?_
  refine mm_icmp_ge 41 dX6_clear_25 (by decide) (fun h => absurd h (by decide)) (fun _ => ?_)
  refine mm_aload_n dX6_clear_28 rfl rfl ?_
  refine mm_get3 (ci := 6) in_X6 rfl (k := 2) (by decide) rfl kF_X6_27 dX6_clear_29 (mm_upN (by decide) (mm_upN (by decide) mm_up_s)) (Nat.le_of_ble_eq_true rfl) rfl ?_
  refine mm_iload_n dX6_clear_32 rfl ?_
  refine mm_iconst (v := 0) dX6_clear_33 (by decide) ?_
  refine mm_iast3 mm_up_s (Nat.le_of_ble_eq_true rfl) (by unfold vp_in; decide) dX6_clear_34 ?_
  refine mm_iinc (v := 3) [some (.ref 198), some (.int 3)] dX6_clear_35 rfl (by decide) (by decide) rfl ?_
  refine mm_goto 19 dX6_clear_38 (by decide) ?_
  refine mm_iload_n dX6_clear_19 rfl ?_
  refine mm_aload_n dX6_clear_20 rfl rfl ?_
  refine mm_get3 (ci := 6) in_X6 rfl (k := 2) (by decide) rfl kF_X6_27 dX6_clear_21 (mm_upN (by decide) (mm_upN (by decide) (mm_upN (by decide) mm_up_s))) (Nat.le_of_ble_eq_true rfl) rfl ?_
  refine mm_alen3 (v := 5) (fun _ => rfl) mm_up_s (Nat.le_of_ble_eq_true rfl) rfl dX6_clear_24 ?_
  refine mm_icmp_ge 41 dX6_clear_25 (by decide) (fun h => absurd h (by decide)) (fun _ => ?_)
  refine mm_aload_n dX6_clear_28 rfl rfl ?_
  refine mm_get3 (ci := 6) in_X6 rfl (k := 2) (by decide) rfl kF_X6_27 dX6_clear_29 (mm_upN (by decide) (mm_upN (by decide) (mm_upN (by decide) mm_up_s))) (Nat.le_of_ble_eq_true rfl) rfl ?_
  refine mm_iload_n dX6_clear_32 rfl ?_
  refine mm_iconst (v := 0) dX6_clear_33 (by decide) ?_
  refine mm_iast3 mm_up_s (Nat.le_of_ble_eq_true rfl) (by unfold vp_in; decide) dX6_clear_34 ?_
  refine mm_iinc (v := 4) [some (.ref 198), some (.int 4)] dX6_clear_35 rfl (by decide) (by decide) rfl ?_
  refine mm_goto 19 dX6_clear_38 (by decide) ?_
  refine mm_iload_n dX6_clear_19 rfl ?_
  refine mm_aload_n dX6_clear_20 rfl rfl ?_
  refine mm_get3 (ci := 6) in_X6 rfl (k := 2) (by decide) rfl kF_X6_27 dX6_clear_21 (mm_upN (by decide) (mm_upN (by decide) (mm_upN (by decide) (mm_upN (by decide) mm_up_s)))) (Nat.le_of_ble_eq_true rfl) rfl ?_
  refine mm_alen3 (v := 5) (fun _ => rfl) mm_up_s (Nat.le_of_ble_eq_true rfl) rfl dX6_clear_24 ?_
  refine mm_icmp_ge 41 dX6_clear_25 (by decide) (fun h => absurd h (by decide)) (fun _ => ?_)
  refine mm_aload_n dX6_clear_28 rfl rfl ?_
  refine mm_get3 (ci := 6) in_X6 rfl (k := 2) (by decide) rfl kF_X6_27 dX6_clear_29 (mm_upN (by decide) (mm_upN (by decide) (mm_upN (by decide) (mm_upN (by decide) mm_up_s)))) (Nat.le_of_ble_eq_true rfl) rfl ?_
  refine mm_iload_n dX6_clear_32 rfl ?_
  refine mm_iconst (v := 0) dX6_clear_33 (by decide) ?_
  refine mm_iast3 mm_up_s (Nat.le_of_ble_eq_true rfl) (by unfold vp_in; decide) dX6_clear_34 ?_
  refine mm_iinc (v := 5) [some (.ref 198), some (.int 5)] dX6_clear_35 rfl (by decide) (by decide) rfl ?_
  refine mm_goto 19 dX6_clear_38 (by decide) ?_
  refine mm_iload_n dX6_clear_19 rfl ?_
  refine mm_aload_n dX6_clear_20 rfl rfl ?_
  refine mm_get3 (ci := 6) in_X6 rfl (k := 2) (by decide) rfl kF_X6_27 dX6_clear_21 (mm_upN (by decide) (mm_upN (by decide) (mm_upN (by decide) (mm_upN (by decide) (mm_upN (by decide) mm_up_s))))) (Nat.le_of_ble_eq_true rfl) rfl ?_
  refine mm_alen3 (v := 5) (fun _ => rfl) mm_up_s (Nat.le_of_ble_eq_true rfl) rfl dX6_clear_24 ?_
  refine mm_icmp_ge 41 dX6_clear_25 (by decide) (fun _ => ?_) (fun h => absurd (by decide) h)
  refine mm_vret dX6_clear_41 rfl ?_ (by omega) (by omega)
  refine ⟨rfl, rfl, ?_⟩
  dsimp only
  exact ⟨(mm_upN (by decide) (mm_upN (by decide) (mm_upN (by decide) (mm_upN (by decide) (mm_upN (by decide) (mm_upN (by decide) (mm_upN (by decide) g98_199))))))), (mm_upN (by decide) (mm_upN (by decide) (mm_upN (by decide) (mm_upN (by decide) (mm_upN (by decide) mm_up_s))))), mm_up_s, fun x e199 e198 e382 => mm_upN e382 (mm_upN e382 (mm_upN e382 (mm_upN e382 (mm_upN e382 (mm_upN e198 (mm_upN e198 (mm_frN (g98_F _ e199 ) (rfl))))))))⟩

set_option maxHeartbeats 4000000 in
set_option maxRecDepth 100000 in
theorem k59_X2_run {g : mm_G} {l : Launch} (hst : l.stackTraces = false) {d : Nat} (M : Nat → mm_C) (h1 : M 1 = .inr (0, [.ref 2, .int 0, .int 0])) (h197 : M 197 = .inr (2, [.ref 198, .ref 383, .ref 388, .int 0, .int 0])) (h198 : M 198 = .inr (6, [.ref 199, .ref 201, .ref 382, .int 0, .int 0])) (h199 : M 199 = .inr (0, [.ref 200, .int 0, .int 0])) (h382 : M 382 = .inl (0, 5, .inl (fun _ => 0))) (h383 : M 383 = .inr (10, [.ref 199, .ref 384, .ref 385, .ref 386, .ref 387, .int 0, .int 0, .int 0])) (h384 : M 384 = .inl (0, 701, .inl (fun _ => 0))) (h385 : M 385 = .inl (0, 701, .inl (fun _ => 0))) (h386 : M 386 = .inl (0, 701, .inl (fun _ => 0))) (h387 : M 387 = .inl (1, 701, .inr (.inl (fun _ => 0)))) (h388 : M 388 = .inr (5, [.ref 198, .ref 383, .null, .null, .null, .int 0, .int 0, .int 0])) : mm_Cm g l yX2_run (.code yX2_run cX2_run 3 (some .int)) (d + 4) 0 0 [.ref 197, .ref 1] (M, 1186, false) (fun v S' => v = some (.int 1) ∧ S'.2 = (1186, false) ∧ S'.1 199 = .inr (0, [.ref 200, .int 0, .int 0]) ∧ S'.1 198 = .inr (6, [.ref 199, .ref 201, .ref 382, .int 0, .int 0]) ∧ S'.1 382 = .inl (0, 5, .inl (upd (upd (upd (upd (upd (upd (upd (upd (upd (upd (fun _ => 0) ((0 : Int32).toNatClampNeg) 0) ((1 : Int32).toNatClampNeg) 0) ((2 : Int32).toNatClampNeg) 0) ((3 : Int32).toNatClampNeg) 0) ((4 : Int32).toNatClampNeg) 0) ((0 : Int32).toNatClampNeg) 0) ((1 : Int32).toNatClampNeg) 0) ((2 : Int32).toNatClampNeg) 0) ((3 : Int32).toNatClampNeg) 0) ((4 : Int32).toNatClampNeg) 0)) ∧ S'.1 383 = .inr (10, [.ref 199, .ref 384, .ref 385, .ref 386, .ref 387, .int (0 + 1), .int 0, .int 0]) ∧ S'.1 384 = .inl (0, 701, .inl (upd (fun _ => 0) ((0 : Int32).toNatClampNeg) 0)) ∧ S'.1 385 = .inl (0, 701, .inl (upd (fun _ => 0) ((0 : Int32).toNatClampNeg) 0)) ∧ S'.1 386 = .inl (0, 701, .inl (upd (fun _ => 0) ((0 : Int32).toNatClampNeg) 0)) ∧ S'.1 387 = .inl (1, 701, .inr (.inl (vp_updL (fun _ => 0) ((0 : Int32).toNatClampNeg) (-1)))) ∧ S'.1 388 = .inr (5, [.ref 198, .ref 383, .null, .null, .null, .int 0, .int 0, .int 1]) ∧ S'.1 197 = .inr (2, [.ref 198, .ref 383, .ref 388, .int 1, .int ((upd (fun _ => 0) ((0 : Int32).toNatClampNeg) 0) (0 : Int32).toNatClampNeg)]) ∧ ∀ j, j ≠ 199 → j ≠ 198 → j ≠ 382 → j ≠ 383 → j ≠ 384 → j ≠ 385 → j ≠ 386 → j ≠ 387 → j ≠ 388 → j ≠ 197 → S'.1 j = M j) := by
  refine mm_Cm_of hst (by decide) (Nat.le_of_ble_eq_true rfl) ?_
  show mm_V g l RX2 "run" cX2_run 3 (some .int) [] (d + 4) 0 0 _ 0 [some (.ref 197), some (.ref 1), none] [] (M, 1186, false) 0 0
  refine mm_aload_n dX2_run_0 rfl rfl ?_
  refine mm_get3 (ci := 2) in_X2 rfl (k := 0) (by decide) rfl kF_X2_12 dX2_run_1 h197 (Nat.le_of_ble_eq_true rfl) rfl ?_
  refine mm_callV3 (ci := 6) wM_X6_clear kM_X2_44 wI_X6_clear wS_X6_clear dX2_run_4 (k60_X6_clear hst _  h198 h199 h382) h198 (Nat.le_of_ble_eq_true rfl) rfl rfl rfl (Nat.le_of_ble_eq_true rfl) (by omega) (by omega) (fun v S9 hq => ?_)
  obtain ⟨M63, z63⟩ := S9
  obtain ⟨rfl, hz63, g63_199, g63_198, g63_382, g63_F⟩ := hq
  cases hz63
  refine ⟨fun h => ⟨h, rfl⟩, ?_⟩
  refine mm_aload_n dX2_run_7 rfl rfl ?_
  refine mm_get3 (ci := 2) in_X2 rfl (k := 0) (by decide) rfl kF_X2_12 dX2_run_8 (mm_frN (g63_F _ (by decide) (by decide) (by decide)) h197) (Nat.le_of_ble_eq_true rfl) rfl ?_
  refine mm_callV3 (ci := 6) wM_X6_text kM_X2_20 wI_X6_text wS_X6_text dX2_run_11 (k64_X6_text hst _  g63_198) g63_198 (Nat.le_of_ble_eq_true rfl) rfl rfl rfl (Nat.le_of_ble_eq_true rfl) (by omega) (by omega) (fun v S9 hq => ?_)
  obtain ⟨rfl, rfl⟩ := hq
  refine ⟨fun h => ⟨h, rfl⟩, ?_⟩
  refine mm_aload_n dX2_run_14 rfl rfl ?_
  refine mm_iconst (v := 0) dX2_run_15 (by decide) ?_
  refine mm_aload_n dX2_run_16 rfl rfl ?_
  refine mm_callV3 (ci := 0) wM_X0_size kM_X2_47 wI_X0_size wS_X0_size dX2_run_17 (k16_X0_size hst _  (mm_frN (g63_F _ (by decide) (by decide) (by decide)) h1)) (mm_frN (g63_F _ (by decide) (by decide) (by decide)) h1) (Nat.le_of_ble_eq_true rfl) rfl rfl rfl (Nat.le_of_ble_eq_true rfl) (by omega) (by omega) (fun v S9 hq => ?_)
  obtain ⟨rfl, rfl⟩ := hq
  refine ⟨fun h => ⟨h, rfl⟩, ?_⟩
  refine mm_callV3 (ci := 0) wM_X0_addAll kM_X2_53 wI_X0_addAll wS_X0_addAll dX2_run_20 (k67_X0_addAll hst _  ) g63_199 (Nat.le_of_ble_eq_true rfl) rfl rfl rfl (Nat.le_of_ble_eq_true rfl) (by omega) (by omega) (fun v S9 hq => ?_)
  obtain ⟨rfl, rfl⟩ := hq
  refine ⟨fun h => ⟨h, rfl⟩, ?_⟩
  refine mm_aload_n dX2_run_23 rfl rfl ?_
  refine mm_get3 (ci := 2) in_X2 rfl (k := 1) (by decide) rfl kF_X2_27 dX2_run_24 (mm_frN (g63_F _ (by decide) (by decide) (by decide)) h197) (Nat.le_of_ble_eq_true rfl) rfl ?_
  refine mm_callV3 (ci := 10) wM_X10_split kM_X2_57 wI_X10_split wS_X10_split dX2_run_27 (k69_X10_split hst _  g63_199 (mm_frN (g63_F _ (by decide) (by decide) (by decide)) h383) (mm_frN (g63_F _ (by decide) (by decide) (by decide)) h384) (mm_frN (g63_F _ (by decide) (by decide) (by decide)) h385) (mm_frN (g63_F _ (by decide) (by decide) (by decide)) h386) (mm_frN (g63_F _ (by decide) (by decide) (by decide)) h387)) (mm_frN (g63_F _ (by decide) (by decide) (by decide)) h383) (Nat.le_of_ble_eq_true rfl) rfl rfl rfl (Nat.le_of_ble_eq_true rfl) (by omega) (by omega) (fun v S9 hq => ?_)
  obtain ⟨M80, z80⟩ := S9
  obtain ⟨rfl, hz80, g80_383, g80_384, g80_385, g80_386, g80_387, g80_F⟩ := hq
  cases hz80
  refine ⟨fun h => ⟨h, rfl⟩, ?_⟩
  refine mm_aload_n dX2_run_30 rfl rfl ?_
  refine mm_aload_n dX2_run_31 rfl rfl ?_
  refine mm_get3 (ci := 2) in_X2 rfl (k := 2) (by decide) rfl kF_X2_36 dX2_run_32 (mm_frN (g80_F _ (by decide) (by decide) (by decide) (by decide) (by decide)) (mm_frN (g63_F _ (by decide) (by decide) (by decide)) h197)) (Nat.le_of_ble_eq_true rfl) rfl ?_
  refine mm_callV3 (ci := 5) wM_X5_read kM_X2_60 wI_X5_read wS_X5_read dX2_run_35 (k81_X5_read hst _  g80_383 g80_384 g80_387 (mm_frN (g80_F _ (by decide) (by decide) (by decide) (by decide) (by decide)) (mm_frN (g63_F _ (by decide) (by decide) (by decide)) h388))) (mm_frN (g80_F _ (by decide) (by decide) (by decide) (by decide) (by decide)) (mm_frN (g63_F _ (by decide) (by decide) (by decide)) h388)) (Nat.le_of_ble_eq_true rfl) rfl rfl rfl (Nat.le_of_ble_eq_true rfl) (by omega) (by omega) (fun v S9 hq => ?_)
  obtain ⟨M90, z90⟩ := S9
  obtain ⟨rfl, hz90, g90_388, g90_F⟩ := hq
  cases hz90
  refine ⟨fun h => ⟨h, rfl⟩, ?_⟩
  refine mm_put3 (ci := 2) (fs1 := [.ref 198, .ref 383, .ref 388, .int 1, .int 0]) in_X2 tyX2_ok nmX2 rfl (k := 3) (by decide) rfl rfl kF_X2_63 dX2_run_38 (mm_fit_int _) (mm_frN (g90_F _ (by decide)) (mm_frN (g80_F _ (by decide) (by decide) (by decide) (by decide) (by decide)) (mm_frN (g63_F _ (by decide) (by decide) (by decide)) h197))) (Nat.le_of_ble_eq_true rfl) (Nat.le_of_ble_eq_true rfl) rfl ?_
  refine mm_aload_n dX2_run_41 rfl rfl ?_
  refine mm_aload_n dX2_run_42 rfl rfl ?_
  refine mm_get3 (ci := 2) in_X2 rfl (k := 3) (by decide) rfl kF_X2_63 dX2_run_43 mm_up_s (Nat.le_of_ble_eq_true rfl) rfl ?_
  refine mm_if_ne 53 dX2_run_46 (by decide) (fun _ => ?_) (fun h => absurd h (by decide))
  refine mm_aload_n dX2_run_53 rfl rfl ?_
  refine mm_get3 (ci := 2) in_X2 rfl (k := 2) (by decide) rfl kF_X2_36 dX2_run_54 mm_up_s (Nat.le_of_ble_eq_true rfl) rfl ?_
  refine mm_callV3 (ci := 5) wM_X5_endPlace kM_X2_66 wI_X5_endPlace wS_X5_endPlace dX2_run_57 (k91_X5_endPlace hst _  (mm_upN (by decide) (mm_frN (g90_F _ (by decide)) g80_383)) (mm_upN (by decide) (mm_frN (g90_F _ (by decide)) g80_385)) (mm_upN (by decide) g90_388)) (mm_upN (by decide) g90_388) (Nat.le_of_ble_eq_true rfl) rfl rfl rfl (Nat.le_of_ble_eq_true rfl) (by omega) (by omega) (fun v S9 hq => ?_)
  obtain ⟨rfl, rfl⟩ := hq
  refine ⟨fun h => ⟨h, rfl⟩, ?_⟩
  refine mm_put3 (ci := 2) (fs1 := [.ref 198, .ref 383, .ref 388, .int 1, .int ((upd (fun _ => 0) ((0 : Int32).toNatClampNeg) 0) (0 : Int32).toNatClampNeg)]) in_X2 tyX2_ok nmX2 rfl (k := 4) (by decide) rfl rfl kF_X2_40 dX2_run_60 (mm_fit_int _) mm_up_s (Nat.le_of_ble_eq_true rfl) (Nat.le_of_ble_eq_true rfl) rfl ?_
  refine mm_iconst (v := 0) dX2_run_63 (by decide) ?_
  refine mm_istore_n [some (.ref 197), some (.ref 1), some (.int 0)] dX2_run_64 (by decide) rfl ?_
  refine mm_iload_n dX2_run_65 rfl ?_
  refine mm_aload_n dX2_run_66 rfl rfl ?_
  refine mm_get3 (ci := 2) in_X2 rfl (k := 0) (by decide) rfl kF_X2_12 dX2_run_67 mm_up_s (Nat.le_of_ble_eq_true rfl) rfl ?_
  refine mm_callV3 (ci := 6) wM_X6_used kM_X2_69 wI_X6_used wS_X6_used dX2_run_70 (k95_X6_used hst _  (mm_upN (by decide) (mm_upN (by decide) (mm_frN (g90_F _ (by decide)) (mm_frN (g80_F _ (by decide) (by decide) (by decide) (by decide) (by decide)) g63_198))))) (mm_upN (by decide) (mm_upN (by decide) (mm_frN (g90_F _ (by decide)) (mm_frN (g80_F _ (by decide) (by decide) (by decide) (by decide) (by decide)) g63_198)))) (Nat.le_of_ble_eq_true rfl) rfl rfl rfl (Nat.le_of_ble_eq_true rfl) (by omega) (by omega) (fun v S9 hq => ?_)
  obtain ⟨rfl, rfl⟩ := hq
  refine ⟨fun h => ⟨h, rfl⟩, ?_⟩
  refine mm_icmp_ge 102 dX2_run_73 (by decide) (fun _ => ?_) (fun h => absurd (by decide) h)
  refine mm_aload_n dX2_run_102 rfl rfl ?_
  refine mm_get3 (ci := 2) in_X2 rfl (k := 3) (by decide) rfl kF_X2_63 dX2_run_103 mm_up_s (Nat.le_of_ble_eq_true rfl) rfl ?_
  refine mm_if_ne 126 dX2_run_106 (by decide) (fun _ => ?_) (fun h => absurd h (by decide))
  refine mm_aload_n dX2_run_126 rfl rfl ?_
  refine mm_get3 (ci := 2) in_X2 rfl (k := 3) (by decide) rfl kF_X2_63 dX2_run_127 mm_up_s (Nat.le_of_ble_eq_true rfl) rfl ?_
  refine mm_if_eq 140 dX2_run_130 (by decide) (fun h => absurd h (by decide)) (fun _ => ?_)
  refine mm_aload_n dX2_run_133 rfl rfl ?_
  refine mm_get3 (ci := 2) in_X2 rfl (k := 0) (by decide) rfl kF_X2_12 dX2_run_134 mm_up_s (Nat.le_of_ble_eq_true rfl) rfl ?_
  refine mm_callV3 (ci := 6) wM_X6_clear kM_X2_44 wI_X6_clear wS_X6_clear dX2_run_137 (k97_X6_clear hst _  (mm_upN (by decide) (mm_upN (by decide) (mm_frN (g90_F _ (by decide)) (mm_frN (g80_F _ (by decide) (by decide) (by decide) (by decide) (by decide)) g63_198)))) (mm_upN (by decide) (mm_upN (by decide) (mm_frN (g90_F _ (by decide)) (mm_frN (g80_F _ (by decide) (by decide) (by decide) (by decide) (by decide)) g63_199)))) (mm_upN (by decide) (mm_upN (by decide) (mm_frN (g90_F _ (by decide)) (mm_frN (g80_F _ (by decide) (by decide) (by decide) (by decide) (by decide)) g63_382))))) (mm_upN (by decide) (mm_upN (by decide) (mm_frN (g90_F _ (by decide)) (mm_frN (g80_F _ (by decide) (by decide) (by decide) (by decide) (by decide)) g63_198)))) (Nat.le_of_ble_eq_true rfl) rfl rfl rfl (Nat.le_of_ble_eq_true rfl) (by omega) (by omega) (fun v S9 hq => ?_)
  obtain ⟨M99, z99⟩ := S9
  obtain ⟨rfl, hz99, g99_199, g99_198, g99_382, g99_F⟩ := hq
  cases hz99
  refine ⟨fun h => ⟨h, rfl⟩, ?_⟩
  refine mm_aload_n dX2_run_140 rfl rfl ?_
  refine mm_get3 (ci := 2) in_X2 rfl (k := 3) (by decide) rfl kF_X2_63 dX2_run_141 (mm_frN (g99_F _ (by decide) (by decide) (by decide)) mm_up_s) (Nat.le_of_ble_eq_true rfl) rfl ?_
  refine mm_iret dX2_run_144 rfl rfl ?_ (by omega) (by omega)
  refine ⟨rfl, rfl, ?_⟩
  dsimp only
  exact ⟨g99_199, g99_198, g99_382, (mm_frN (g99_F _ (by decide) (by decide) (by decide)) (mm_upN (by decide) (mm_upN (by decide) (mm_frN (g90_F _ (by decide)) g80_383)))), (mm_frN (g99_F _ (by decide) (by decide) (by decide)) (mm_upN (by decide) (mm_upN (by decide) (mm_frN (g90_F _ (by decide)) g80_384)))), (mm_frN (g99_F _ (by decide) (by decide) (by decide)) (mm_upN (by decide) (mm_upN (by decide) (mm_frN (g90_F _ (by decide)) g80_385)))), (mm_frN (g99_F _ (by decide) (by decide) (by decide)) (mm_upN (by decide) (mm_upN (by decide) (mm_frN (g90_F _ (by decide)) g80_386)))), (mm_frN (g99_F _ (by decide) (by decide) (by decide)) (mm_upN (by decide) (mm_upN (by decide) (mm_frN (g90_F _ (by decide)) g80_387)))), (mm_frN (g99_F _ (by decide) (by decide) (by decide)) (mm_upN (by decide) (mm_upN (by decide) g90_388))), (mm_frN (g99_F _ (by decide) (by decide) (by decide)) mm_up_s), fun x e199 e198 e382 e383 e384 e385 e386 e387 e388 e197 => mm_frN (g99_F _ e199 e198 e382 ) (mm_upN e197 (mm_upN e197 (mm_frN (g90_F _ e388 ) (mm_frN (g80_F _ e383 e384 e385 e386 e387 ) (mm_frN (g63_F _ e199 e198 e382 ) (rfl))))))⟩

set_option maxHeartbeats 4000000 in
set_option maxRecDepth 100000 in
theorem k102_X2_faultAt {g : mm_G} {l : Launch} (hst : l.stackTraces = false) {d : Nat} (M : Nat → mm_C) (h197 : M 197 = .inr (2, [.ref 198, .ref 383, .ref 388, .int 1, .int ((upd (fun _ => 0) ((0 : Int32).toNatClampNeg) 0) (0 : Int32).toNatClampNeg)])) : mm_Cm g l yX2_faultAt (.code yX2_faultAt cX2_faultAt 1 (some .int)) d 0 0 [.ref 197] (M, 1186, false) (fun v S' => v = some (.int ((upd (fun _ => 0) ((0 : Int32).toNatClampNeg) 0) (0 : Int32).toNatClampNeg)) ∧ S' = (M, 1186, false)) := by
  refine mm_Cm_of hst (by decide) (Nat.le_of_ble_eq_true rfl) ?_
  show mm_V g l RX2 "faultAt" cX2_faultAt 1 (some .int) [] d 0 0 _ 0 [some (.ref 197)] [] (M, 1186, false) 0 0
  refine mm_aload_n dX2_faultAt_0 rfl rfl ?_
  refine mm_get3 (ci := 2) in_X2 rfl (k := 4) (by decide) rfl kF_X2_40 dX2_faultAt_1 h197 (Nat.le_of_ble_eq_true rfl) rfl ?_
  refine mm_iret dX2_faultAt_4 rfl rfl ?_ (by omega) (by omega)
  exact ⟨rfl, rfl⟩

set_option maxHeartbeats 4000000 in
set_option maxRecDepth 100000 in
theorem f_compile_1 {g : mm_G} {l : Launch} (hst : l.stackTraces = false) {d : Nat} (M : Nat → mm_C) (h0 : M 0 = .inr (11, [.ref 1, .ref 3, .ref 5, .ref 197, .ref 389, .ref 1094, .ref 1095, .ref 1097, .int (-1)])) (h1 : M 1 = .inr (0, [.ref 2, .int 0, .int 0])) (h197 : M 197 = .inr (2, [.ref 198, .ref 383, .ref 388, .int 0, .int 0])) (h198 : M 198 = .inr (6, [.ref 199, .ref 201, .ref 382, .int 0, .int 0])) (h199 : M 199 = .inr (0, [.ref 200, .int 0, .int 0])) (h382 : M 382 = .inl (0, 5, .inl (fun _ => 0))) (h383 : M 383 = .inr (10, [.ref 199, .ref 384, .ref 385, .ref 386, .ref 387, .int 0, .int 0, .int 0])) (h384 : M 384 = .inl (0, 701, .inl (fun _ => 0))) (h385 : M 385 = .inl (0, 701, .inl (fun _ => 0))) (h386 : M 386 = .inl (0, 701, .inl (fun _ => 0))) (h387 : M 387 = .inl (1, 701, .inr (.inl (fun _ => 0)))) (h388 : M 388 = .inr (5, [.ref 198, .ref 383, .null, .null, .null, .int 0, .int 0, .int 0])) (h389 : M 389 = .inr (8, [.ref 390, .ref 1091, .ref 1092, .int 0, .null, .null])) (h1091 : M 1091 = .inr (4, [.null, .null, .null, .null, .long 0, .int 0, .int 0])) (h1092 : M 1092 = .inr (0, [.ref 1093, .int 0, .int 0])) : mm_Ct g l yX11_compile (.code yX11_compile cX11_compile 4 (some .int)) (d + 5) 0 0 [.ref 0, .int 1] (M, 1186, false) (fun r S' => r = .inl (some (.int 1)) ∧ S'.2 = (1186, false) ∧ ∀ j, 1101 ≤ j → S'.1 j = M j) := by
  refine mm_Ct_of hst (by decide) (Nat.le_of_ble_eq_true rfl) ?_
  show mm_V g l RX11 "compile" cX11_compile 4 (some .int) [] (d + 5) 0 0 _ 0 [some (.ref 0), some (.int 1), none, none] [] (M, 1186, false) 0 0
  refine mm_aload_n dX11_compile_0 rfl rfl ?_
  refine mm_iload_n dX11_compile_1 rfl ?_
  refine mm_callV3 (ci := 11) wM_X11_compilerOf kM_X11_86 wI_X11_compilerOf wS_X11_compilerOf dX11_compile_2 (k56_X11_compilerOf hst _  h0) h0 (Nat.le_of_ble_eq_true rfl) rfl rfl rfl (Nat.le_of_ble_eq_true rfl) (by omega) (by omega) (fun v S9 hq => ?_)
  obtain ⟨rfl, rfl⟩ := hq
  refine ⟨fun h => ⟨h, rfl⟩, ?_⟩
  refine mm_astore_n [some (.ref 0), some (.int 1), some (.ref 197), none] dX11_compile_5 (by decide) rfl rfl ?_
  refine mm_aload_n dX11_compile_6 rfl rfl ?_
  refine mm_ifnonnull (r := some 197) 20 dX11_compile_7 (by decide) (fun _ => ?_) (fun h => absurd h (by simp))
  refine mm_aload_n dX11_compile_20 rfl rfl ?_
  refine mm_get3 (ci := 11) in_X11 rfl (k := 4) (by decide) rfl kF_X11_34 dX11_compile_21 h0 (Nat.le_of_ble_eq_true rfl) rfl ?_
  refine mm_callV3 (ci := 8) wM_X8_drop kM_X11_92 wI_X8_drop wS_X8_drop dX11_compile_24 (k3_X8_drop hst _  h389 h1091 h1092) h389 (Nat.le_of_ble_eq_true rfl) rfl rfl rfl (Nat.le_of_ble_eq_true rfl) (by omega) (by omega) (fun v S9 hq => ?_)
  obtain ⟨M58, z58⟩ := S9
  obtain ⟨rfl, hz58, g58_389, g58_1092, g58_1091, g58_F⟩ := hq
  cases hz58
  refine ⟨fun h => ⟨h, rfl⟩, ?_⟩
  refine mm_aload_n dX11_compile_27 rfl rfl ?_
  refine mm_aload_n dX11_compile_28 rfl rfl ?_
  refine mm_get3 (ci := 11) in_X11 rfl (k := 0) (by decide) rfl kF_X11_14 dX11_compile_29 (mm_frN (g58_F _ (by decide) (by decide) (by decide)) h0) (Nat.le_of_ble_eq_true rfl) rfl ?_
  refine mm_callV3 (ci := 2) wM_X2_run kM_X11_95 wI_X2_run wS_X2_run dX11_compile_32 (k59_X2_run hst _  (mm_frN (g58_F _ (by decide) (by decide) (by decide)) h1) (mm_frN (g58_F _ (by decide) (by decide) (by decide)) h197) (mm_frN (g58_F _ (by decide) (by decide) (by decide)) h198) (mm_frN (g58_F _ (by decide) (by decide) (by decide)) h199) (mm_frN (g58_F _ (by decide) (by decide) (by decide)) h382) (mm_frN (g58_F _ (by decide) (by decide) (by decide)) h383) (mm_frN (g58_F _ (by decide) (by decide) (by decide)) h384) (mm_frN (g58_F _ (by decide) (by decide) (by decide)) h385) (mm_frN (g58_F _ (by decide) (by decide) (by decide)) h386) (mm_frN (g58_F _ (by decide) (by decide) (by decide)) h387) (mm_frN (g58_F _ (by decide) (by decide) (by decide)) h388)) (mm_frN (g58_F _ (by decide) (by decide) (by decide)) h197) (Nat.le_of_ble_eq_true rfl) rfl rfl rfl (Nat.le_of_ble_eq_true rfl) (by omega) (by omega) (fun v S9 hq => ?_)
  obtain ⟨M100, z100⟩ := S9
  obtain ⟨rfl, hz100, g100_199, g100_198, g100_382, g100_383, g100_384, g100_385, g100_386, g100_387, g100_388, g100_197, g100_F⟩ := hq
  cases hz100
  refine ⟨fun h => ⟨h, rfl⟩, ?_⟩
  refine mm_istore_n [some (.ref 0), some (.int 1), some (.ref 197), some (.int 1)] dX11_compile_35 (by decide) rfl ?_
  refine mm_aload_n dX11_compile_36 rfl rfl ?_
  refine mm_get3 (ci := 11) in_X11 rfl (k := 0) (by decide) rfl kF_X11_14 dX11_compile_37 (mm_frN (g100_F _ (by decide) (by decide) (by decide) (by decide) (by decide) (by decide) (by decide) (by decide) (by decide) (by decide)) (mm_frN (g58_F _ (by decide) (by decide) (by decide)) h0)) (Nat.le_of_ble_eq_true rfl) rfl ?_
  refine mm_callV3 (ci := 0) wM_X0_clear kM_X11_99 wI_X0_clear wS_X0_clear dX11_compile_40 (k52_X0_clear hst _  (mm_frN (g100_F _ (by decide) (by decide) (by decide) (by decide) (by decide) (by decide) (by decide) (by decide) (by decide) (by decide)) (mm_frN (g58_F _ (by decide) (by decide) (by decide)) h1))) (mm_frN (g100_F _ (by decide) (by decide) (by decide) (by decide) (by decide) (by decide) (by decide) (by decide) (by decide) (by decide)) (mm_frN (g58_F _ (by decide) (by decide) (by decide)) h1)) (Nat.le_of_ble_eq_true rfl) rfl rfl rfl (Nat.le_of_ble_eq_true rfl) (by omega) (by omega) (fun v S9 hq => ?_)
  obtain ⟨M101, z101⟩ := S9
  obtain ⟨rfl, hz101, g101_1, g101_F⟩ := hq
  cases hz101
  refine ⟨fun h => ⟨h, rfl⟩, ?_⟩
  refine mm_aload_n dX11_compile_43 rfl rfl ?_
  refine mm_aload_n dX11_compile_44 rfl rfl ?_
  refine mm_callV3 (ci := 2) wM_X2_faultAt kM_X11_102 wI_X2_faultAt wS_X2_faultAt dX11_compile_45 (k102_X2_faultAt hst _  (mm_frN (g101_F _ (by decide)) g100_197)) (mm_frN (g101_F _ (by decide)) g100_197) (Nat.le_of_ble_eq_true rfl) rfl rfl rfl (Nat.le_of_ble_eq_true rfl) (by omega) (by omega) (fun v S9 hq => ?_)
  obtain ⟨rfl, rfl⟩ := hq
  refine ⟨fun h => ⟨h, rfl⟩, ?_⟩
  refine mm_put3 (ci := 11) (fs1 := [.ref 1, .ref 3, .ref 5, .ref 197, .ref 389, .ref 1094, .ref 1095, .ref 1097, .int ((upd (fun _ => 0) ((0 : Int32).toNatClampNeg) 0) (0 : Int32).toNatClampNeg)]) in_X11 tyX11_ok nmX11 rfl (k := 8) (by decide) rfl rfl kF_X11_63 dX11_compile_48 (mm_fit_int _) (mm_frN (g101_F _ (by decide)) (mm_frN (g100_F _ (by decide) (by decide) (by decide) (by decide) (by decide) (by decide) (by decide) (by decide) (by decide) (by decide)) (mm_frN (g58_F _ (by decide) (by decide) (by decide)) h0))) (Nat.le_of_ble_eq_true rfl) (Nat.le_of_ble_eq_true rfl) rfl ?_
  refine mm_iload_n dX11_compile_51 rfl ?_
  refine mm_iret dX11_compile_52 rfl rfl ?_ (by omega) (by omega)
  refine ⟨rfl, rfl, fun x hx => ?_⟩
  dsimp only
  exact mm_upN (by omega) (mm_frN (g101_F _ (by omega) ) (mm_frN (g100_F _ (by omega) (by omega) (by omega) (by omega) (by omega) (by omega) (by omega) (by omega) (by omega) (by omega) ) (mm_frN (g58_F _ (by omega) (by omega) (by omega) ) (rfl))))

set_option maxHeartbeats 4000000 in
set_option maxRecDepth 100000 in
theorem k104_X11_compilerOf {g : mm_G} {l : Launch} (hst : l.stackTraces = false) {d : Nat} (M : Nat → mm_C) (p : Int32) (hp0 : ¬ p = 0) (hp1 : ¬ p = 1) : mm_Cm g l yX11_compilerOf (.code yX11_compilerOf cX11_compilerOf 2 (some (.object "ProtoDesk$Compiler"))) d 0 0 [.ref 0, .int p] (M, 1186, false) (fun v S' => v = some (.null) ∧ S' = (M, 1186, false)) := by
  refine mm_Cm_of hst (by decide) (Nat.le_of_ble_eq_true rfl) ?_
  show mm_V g l RX11 "compilerOf" cX11_compilerOf 2 (some (.object "ProtoDesk$Compiler")) [] d 0 0 _ 0 [some (.ref 0), some (.int p)] [] (M, 1186, false) 0 0
  refine mm_iload_n dX11_compilerOf_0 rfl ?_
  refine mm_if_ne 11 dX11_compilerOf_1 (by decide) (fun _ => ?_) (fun h => absurd h hp0)
  refine mm_iload_n dX11_compilerOf_11 rfl ?_
  refine mm_iconst (v := 1) dX11_compilerOf_12 (by decide) ?_
  refine mm_icmp_ne 23 dX11_compilerOf_13 (by decide) (fun _ => ?_) (fun h => absurd h hp1)
  refine mm_null dX11_compilerOf_23 ?_
  refine mm_aret (a := none) dX11_compilerOf_24 rfl ?_ (by omega) (by omega)
  exact ⟨rfl, rfl⟩

set_option maxHeartbeats 4000000 in
set_option maxRecDepth 100000 in
theorem f_compile_x {g : mm_G} {l : Launch} (hst : l.stackTraces = false) {d : Nat} (M : Nat → mm_C) (p : Int32) (hp0 : ¬ p = 0) (hp1 : ¬ p = 1) (h0 : M 0 = .inr (11, [.ref 1, .ref 3, .ref 5, .ref 197, .ref 389, .ref 1094, .ref 1095, .ref 1097, .int (-1)])) : mm_Ct g l yX11_compile (.code yX11_compile cX11_compile 4 (some .int)) (d + 1) 1 6 [.ref 0, .int p] (M, 1186, false) (fun r S' => r = .inr "java/lang/IllegalArgumentException" ∧ S'.2 = (1186, true) ∧ ∀ j, 1101 ≤ j → S'.1 j = M j) := by
  refine mm_Ct_of hst (by decide) (Nat.le_of_ble_eq_true rfl) ?_
  show mm_V g l RX11 "compile" cX11_compile 4 (some .int) [] (d + 1) 1 6 _ 0 [some (.ref 0), some (.int p), none, none] [] (M, 1186, false) 0 0
  refine mm_aload_n dX11_compile_0 rfl rfl ?_
  refine mm_iload_n dX11_compile_1 rfl ?_
  refine mm_callV3 (ci := 11) wM_X11_compilerOf kM_X11_86 wI_X11_compilerOf wS_X11_compilerOf dX11_compile_2 (k104_X11_compilerOf hst _ p hp0 hp1 ) h0 (Nat.le_of_ble_eq_true rfl) rfl rfl rfl (Nat.le_of_ble_eq_true rfl) (by omega) (by omega) (fun v S9 hq => ?_)
  obtain ⟨rfl, rfl⟩ := hq
  refine ⟨fun h => ⟨h, rfl⟩, ?_⟩
  refine mm_astore_n [some (.ref 0), some (.int p), some (.null), none] dX11_compile_5 (by decide) rfl rfl ?_
  refine mm_aload_n dX11_compile_6 rfl rfl ?_
  refine mm_ifnonnull (r := none) 20 dX11_compile_7 (by decide) (fun h => absurd (by simp) h) (fun _ => ?_)
  refine mm_throw (k := 2) (text := "no such schema") (by decide) kC_X11_67 wj_IllegalArgumentException rfl at_71 rfl dX11_compile_10 dX11_compile_13 dX11_compile_14 dX11_compile_16 dX11_compile_19 (Nat.le_of_ble_eq_true rfl) (by omega) (by omega) ?_
  exact ⟨rfl, rfl, fun x hx => rfl⟩

set_option maxHeartbeats 4000000 in
set_option maxRecDepth 100000 in
theorem f_place {g : mm_G} {l : Launch} (hst : l.stackTraces = false) {d : Nat} (M : Nat → mm_C) (h0 : M 0 = .inr (11, [.ref 1, .ref 3, .ref 5, .ref 197, .ref 389, .ref 1094, .ref 1095, .ref 1097, .int (-1)])) : mm_Ct g l yX11_place (.code yX11_place cX11_place 1 (some .int)) d 0 0 [.ref 0] (M, 1186, false) (fun r S' => r = .inl (some (.int (-1))) ∧ S'.2 = (1186, false) ∧ ∀ j, 1101 ≤ j → S'.1 j = M j) := by
  refine mm_Ct_of hst (by decide) (Nat.le_of_ble_eq_true rfl) ?_
  show mm_V g l RX11 "place" cX11_place 1 (some .int) [] d 0 0 _ 0 [some (.ref 0)] [] (M, 1186, false) 0 0
  refine mm_aload_n dX11_place_0 rfl rfl ?_
  refine mm_get3 (ci := 11) in_X11 rfl (k := 8) (by decide) rfl kF_X11_63 dX11_place_1 h0 (Nat.le_of_ble_eq_true rfl) rfl ?_
  refine mm_iret dX11_place_4 rfl rfl ?_ (by omega) (by omega)
  exact ⟨rfl, rfl, fun x hx => rfl⟩

set_option maxHeartbeats 4000000 in
set_option maxRecDepth 100000 in
theorem k107_X2_schema {g : mm_G} {l : Launch} (hst : l.stackTraces = false) {d : Nat} (M : Nat → mm_C) (h5 : M 5 = .inr (2, [.ref 6, .ref 191, .ref 196, .int 0, .int 0])) : mm_Cm g l yX2_schema (.code yX2_schema cX2_schema 1 (some (.object "ProtoDesk$Schema"))) d 0 0 [.ref 5] (M, 1186, false) (fun v S' => v = some (.ref 6) ∧ S' = (M, 1186, false)) := by
  refine mm_Cm_of hst (by decide) (Nat.le_of_ble_eq_true rfl) ?_
  show mm_V g l RX2 "schema" cX2_schema 1 (some (.object "ProtoDesk$Schema")) [] d 0 0 _ 0 [some (.ref 5)] [] (M, 1186, false) 0 0
  refine mm_aload_n dX2_schema_0 rfl rfl ?_
  refine mm_get3 (ci := 2) in_X2 rfl (k := 0) (by decide) rfl kF_X2_12 dX2_schema_1 h5 (Nat.le_of_ble_eq_true rfl) rfl ?_
  refine mm_aret (a := some 6) dX2_schema_4 rfl ?_ (by omega) (by omega)
  exact ⟨rfl, rfl⟩

set_option maxHeartbeats 4000000 in
set_option maxRecDepth 100000 in
theorem k109_X6_count {g : mm_G} {l : Launch} (hst : l.stackTraces = false) {d : Nat} (M : Nat → mm_C) (h6 : M 6 = .inr (6, [.ref 7, .ref 9, .ref 190, .int 0, .int 0])) (h190 : M 190 = .inl (0, 5, .inl (fun _ => 0))) : mm_Cm g l yX6_count (.code yX6_count cX6_count 2 (some .int)) d 0 0 [.ref 6, .int 0] (M, 1186, false) (fun v S' => v = some (.int ((fun _ => 0) (0 : Int32).toNatClampNeg)) ∧ S' = (M, 1186, false)) := by
  refine mm_Cm_of hst (by decide) (Nat.le_of_ble_eq_true rfl) ?_
  show mm_V g l RX6 "count" cX6_count 2 (some .int) [] d 0 0 _ 0 [some (.ref 6), some (.int 0)] [] (M, 1186, false) 0 0
  refine mm_iload_n dX6_count_0 rfl ?_
  refine mm_if_lt 22 dX6_count_1 (by decide) (fun h => absurd h (by decide)) (fun _ => ?_)
  refine mm_iload_n dX6_count_4 rfl ?_
  refine mm_aload_n dX6_count_5 rfl rfl ?_
  refine mm_get3 (ci := 6) in_X6 rfl (k := 2) (by decide) rfl kF_X6_27 dX6_count_6 h6 (Nat.le_of_ble_eq_true rfl) rfl ?_
  refine mm_alen3 (v := 5) (fun _ => rfl) h190 (Nat.le_of_ble_eq_true rfl) rfl dX6_count_9 ?_
  refine mm_icmp_ge 22 dX6_count_10 (by decide) (fun h => absurd h (by decide)) (fun _ => ?_)
  refine mm_aload_n dX6_count_13 rfl rfl ?_
  refine mm_get3 (ci := 6) in_X6 rfl (k := 2) (by decide) rfl kF_X6_27 dX6_count_14 h6 (Nat.le_of_ble_eq_true rfl) rfl ?_
  refine mm_iload_n dX6_count_17 rfl ?_
  refine mm_iald3 h190 (Nat.le_of_ble_eq_true rfl) (by unfold vp_in; decide) dX6_count_18 ?_
  refine mm_goto 23 dX6_count_19 (by decide) ?_
  refine mm_iret dX6_count_23 rfl rfl ?_ (by omega) (by omega)
  exact ⟨rfl, rfl⟩

set_option maxHeartbeats 4000000 in
set_option maxRecDepth 100000 in
theorem f_many_0_0 {g : mm_G} {l : Launch} (hst : l.stackTraces = false) {d : Nat} (M : Nat → mm_C) (h0 : M 0 = .inr (11, [.ref 1, .ref 3, .ref 5, .ref 197, .ref 389, .ref 1094, .ref 1095, .ref 1097, .int (-1)])) (h5 : M 5 = .inr (2, [.ref 6, .ref 191, .ref 196, .int 0, .int 0])) (h6 : M 6 = .inr (6, [.ref 7, .ref 9, .ref 190, .int 0, .int 0])) (h190 : M 190 = .inl (0, 5, .inl (fun _ => 0))) : mm_Ct g l yX11_many (.code yX11_many cX11_many 5 (some .int)) (d + 1) 0 0 [.ref 0, .int 0, .int 0] (M, 1186, false) (fun r S' => r = .inl (some (.int ((fun _ => 0) (0 : Int32).toNatClampNeg))) ∧ S'.2 = (1186, false) ∧ ∀ j, 1101 ≤ j → S'.1 j = M j) := by
  refine mm_Ct_of hst (by decide) (Nat.le_of_ble_eq_true rfl) ?_
  show mm_V g l RX11 "many" cX11_many 5 (some .int) [] (d + 1) 0 0 _ 0 [some (.ref 0), some (.int 0), some (.int 0), none, none] [] (M, 1186, false) 0 0
  refine mm_aload_n dX11_many_0 rfl rfl ?_
  refine mm_iload_n dX11_many_1 rfl ?_
  refine mm_callV3 (ci := 11) wM_X11_compilerOf kM_X11_86 wI_X11_compilerOf wS_X11_compilerOf dX11_many_2 (k1_X11_compilerOf hst _  h0) h0 (Nat.le_of_ble_eq_true rfl) rfl rfl rfl (Nat.le_of_ble_eq_true rfl) (by omega) (by omega) (fun v S9 hq => ?_)
  obtain ⟨rfl, rfl⟩ := hq
  refine ⟨fun h => ⟨h, rfl⟩, ?_⟩
  refine mm_astore_n [some (.ref 0), some (.int 0), some (.int 0), some (.ref 5), none] dX11_many_5 (by decide) rfl rfl ?_
  refine mm_aload_n dX11_many_6 rfl rfl ?_
  refine mm_ifnull (r := some 5) 19 dX11_many_7 (by decide) (fun h => absurd h (by simp)) (fun _ => ?_)
  refine mm_iload_n dX11_many_10 rfl ?_
  refine mm_if_lt 19 dX11_many_11 (by decide) (fun h => absurd h (by decide)) (fun _ => ?_)
  refine mm_iload_n dX11_many_14 rfl ?_
  refine mm_iconst (v := 2) dX11_many_15 (by decide) ?_
  refine mm_icmp_le 29 dX11_many_16 (by decide) (fun _ => ?_) (fun h => absurd (by decide) h)
  refine mm_iload_n dX11_many_29 rfl ?_
  refine mm_if_ne 37 dX11_many_30 (by decide) (fun h => absurd (by decide) h) (fun _ => ?_)
  refine mm_iconst (v := 0) dX11_many_33 (by decide) ?_
  refine mm_goto 47 dX11_many_34 (by decide) ?_
  refine mm_istore [some (.ref 0), some (.int 0), some (.int 0), some (.ref 5), some (.int 0)] dX11_many_47 (by decide) rfl ?_
  refine mm_aload_n dX11_many_49 rfl rfl ?_
  refine mm_callV3 (ci := 2) wM_X2_schema kM_X11_109 wI_X2_schema wS_X2_schema dX11_many_50 (k107_X2_schema hst _  h5) h5 (Nat.le_of_ble_eq_true rfl) rfl rfl rfl (Nat.le_of_ble_eq_true rfl) (by omega) (by omega) (fun v S9 hq => ?_)
  obtain ⟨rfl, rfl⟩ := hq
  refine ⟨fun h => ⟨h, rfl⟩, ?_⟩
  refine mm_iload dX11_many_53 rfl ?_
  refine mm_callV3 (ci := 6) wM_X6_count kM_X11_113 wI_X6_count wS_X6_count dX11_many_55 (k109_X6_count hst _  h6 h190) h6 (Nat.le_of_ble_eq_true rfl) rfl rfl rfl (Nat.le_of_ble_eq_true rfl) (by omega) (by omega) (fun v S9 hq => ?_)
  obtain ⟨rfl, rfl⟩ := hq
  refine ⟨fun h => ⟨h, rfl⟩, ?_⟩
  refine mm_iret dX11_many_58 rfl rfl ?_ (by omega) (by omega)
  exact ⟨rfl, rfl, fun x hx => rfl⟩

set_option maxHeartbeats 4000000 in
set_option maxRecDepth 100000 in
theorem k113_X6_count {g : mm_G} {l : Launch} (hst : l.stackTraces = false) {d : Nat} (M : Nat → mm_C) (h6 : M 6 = .inr (6, [.ref 7, .ref 9, .ref 190, .int 0, .int 0])) (h190 : M 190 = .inl (0, 5, .inl (fun _ => 0))) : mm_Cm g l yX6_count (.code yX6_count cX6_count 2 (some .int)) d 0 0 [.ref 6, .int 1] (M, 1186, false) (fun v S' => v = some (.int ((fun _ => 0) (1 : Int32).toNatClampNeg)) ∧ S' = (M, 1186, false)) := by
  refine mm_Cm_of hst (by decide) (Nat.le_of_ble_eq_true rfl) ?_
  show mm_V g l RX6 "count" cX6_count 2 (some .int) [] d 0 0 _ 0 [some (.ref 6), some (.int 1)] [] (M, 1186, false) 0 0
  refine mm_iload_n dX6_count_0 rfl ?_
  refine mm_if_lt 22 dX6_count_1 (by decide) (fun h => absurd h (by decide)) (fun _ => ?_)
  refine mm_iload_n dX6_count_4 rfl ?_
  refine mm_aload_n dX6_count_5 rfl rfl ?_
  refine mm_get3 (ci := 6) in_X6 rfl (k := 2) (by decide) rfl kF_X6_27 dX6_count_6 h6 (Nat.le_of_ble_eq_true rfl) rfl ?_
  refine mm_alen3 (v := 5) (fun _ => rfl) h190 (Nat.le_of_ble_eq_true rfl) rfl dX6_count_9 ?_
  refine mm_icmp_ge 22 dX6_count_10 (by decide) (fun h => absurd h (by decide)) (fun _ => ?_)
  refine mm_aload_n dX6_count_13 rfl rfl ?_
  refine mm_get3 (ci := 6) in_X6 rfl (k := 2) (by decide) rfl kF_X6_27 dX6_count_14 h6 (Nat.le_of_ble_eq_true rfl) rfl ?_
  refine mm_iload_n dX6_count_17 rfl ?_
  refine mm_iald3 h190 (Nat.le_of_ble_eq_true rfl) (by unfold vp_in; decide) dX6_count_18 ?_
  refine mm_goto 23 dX6_count_19 (by decide) ?_
  refine mm_iret dX6_count_23 rfl rfl ?_ (by omega) (by omega)
  exact ⟨rfl, rfl⟩

set_option maxHeartbeats 4000000 in
set_option maxRecDepth 100000 in
theorem f_many_0_1 {g : mm_G} {l : Launch} (hst : l.stackTraces = false) {d : Nat} (M : Nat → mm_C) (h0 : M 0 = .inr (11, [.ref 1, .ref 3, .ref 5, .ref 197, .ref 389, .ref 1094, .ref 1095, .ref 1097, .int (-1)])) (h5 : M 5 = .inr (2, [.ref 6, .ref 191, .ref 196, .int 0, .int 0])) (h6 : M 6 = .inr (6, [.ref 7, .ref 9, .ref 190, .int 0, .int 0])) (h190 : M 190 = .inl (0, 5, .inl (fun _ => 0))) : mm_Ct g l yX11_many (.code yX11_many cX11_many 5 (some .int)) (d + 1) 0 0 [.ref 0, .int 0, .int 1] (M, 1186, false) (fun r S' => r = .inl (some (.int ((fun _ => 0) (1 : Int32).toNatClampNeg))) ∧ S'.2 = (1186, false) ∧ ∀ j, 1101 ≤ j → S'.1 j = M j) := by
  refine mm_Ct_of hst (by decide) (Nat.le_of_ble_eq_true rfl) ?_
  show mm_V g l RX11 "many" cX11_many 5 (some .int) [] (d + 1) 0 0 _ 0 [some (.ref 0), some (.int 0), some (.int 1), none, none] [] (M, 1186, false) 0 0
  refine mm_aload_n dX11_many_0 rfl rfl ?_
  refine mm_iload_n dX11_many_1 rfl ?_
  refine mm_callV3 (ci := 11) wM_X11_compilerOf kM_X11_86 wI_X11_compilerOf wS_X11_compilerOf dX11_many_2 (k1_X11_compilerOf hst _  h0) h0 (Nat.le_of_ble_eq_true rfl) rfl rfl rfl (Nat.le_of_ble_eq_true rfl) (by omega) (by omega) (fun v S9 hq => ?_)
  obtain ⟨rfl, rfl⟩ := hq
  refine ⟨fun h => ⟨h, rfl⟩, ?_⟩
  refine mm_astore_n [some (.ref 0), some (.int 0), some (.int 1), some (.ref 5), none] dX11_many_5 (by decide) rfl rfl ?_
  refine mm_aload_n dX11_many_6 rfl rfl ?_
  refine mm_ifnull (r := some 5) 19 dX11_many_7 (by decide) (fun h => absurd h (by simp)) (fun _ => ?_)
  refine mm_iload_n dX11_many_10 rfl ?_
  refine mm_if_lt 19 dX11_many_11 (by decide) (fun h => absurd h (by decide)) (fun _ => ?_)
  refine mm_iload_n dX11_many_14 rfl ?_
  refine mm_iconst (v := 2) dX11_many_15 (by decide) ?_
  refine mm_icmp_le 29 dX11_many_16 (by decide) (fun _ => ?_) (fun h => absurd (by decide) h)
  refine mm_iload_n dX11_many_29 rfl ?_
  refine mm_if_ne 37 dX11_many_30 (by decide) (fun _ => ?_) (fun h => absurd h (by decide))
  refine mm_iload_n dX11_many_37 rfl ?_
  refine mm_iconst (v := 1) dX11_many_38 (by decide) ?_
  refine mm_icmp_ne 46 dX11_many_39 (by decide) (fun h => absurd (by decide) h) (fun _ => ?_)
  refine mm_iconst (v := 1) dX11_many_42 (by decide) ?_
  refine mm_goto 47 dX11_many_43 (by decide) ?_
  refine mm_istore [some (.ref 0), some (.int 0), some (.int 1), some (.ref 5), some (.int 1)] dX11_many_47 (by decide) rfl ?_
  refine mm_aload_n dX11_many_49 rfl rfl ?_
  refine mm_callV3 (ci := 2) wM_X2_schema kM_X11_109 wI_X2_schema wS_X2_schema dX11_many_50 (k107_X2_schema hst _  h5) h5 (Nat.le_of_ble_eq_true rfl) rfl rfl rfl (Nat.le_of_ble_eq_true rfl) (by omega) (by omega) (fun v S9 hq => ?_)
  obtain ⟨rfl, rfl⟩ := hq
  refine ⟨fun h => ⟨h, rfl⟩, ?_⟩
  refine mm_iload dX11_many_53 rfl ?_
  refine mm_callV3 (ci := 6) wM_X6_count kM_X11_113 wI_X6_count wS_X6_count dX11_many_55 (k113_X6_count hst _  h6 h190) h6 (Nat.le_of_ble_eq_true rfl) rfl rfl rfl (Nat.le_of_ble_eq_true rfl) (by omega) (by omega) (fun v S9 hq => ?_)
  obtain ⟨rfl, rfl⟩ := hq
  refine ⟨fun h => ⟨h, rfl⟩, ?_⟩
  refine mm_iret dX11_many_58 rfl rfl ?_ (by omega) (by omega)
  exact ⟨rfl, rfl, fun x hx => rfl⟩

set_option maxHeartbeats 4000000 in
set_option maxRecDepth 100000 in
theorem k117_X6_count {g : mm_G} {l : Launch} (hst : l.stackTraces = false) {d : Nat} (M : Nat → mm_C) (h6 : M 6 = .inr (6, [.ref 7, .ref 9, .ref 190, .int 0, .int 0])) (h190 : M 190 = .inl (0, 5, .inl (fun _ => 0))) : mm_Cm g l yX6_count (.code yX6_count cX6_count 2 (some .int)) d 0 0 [.ref 6, .int 2] (M, 1186, false) (fun v S' => v = some (.int ((fun _ => 0) (2 : Int32).toNatClampNeg)) ∧ S' = (M, 1186, false)) := by
  refine mm_Cm_of hst (by decide) (Nat.le_of_ble_eq_true rfl) ?_
  show mm_V g l RX6 "count" cX6_count 2 (some .int) [] d 0 0 _ 0 [some (.ref 6), some (.int 2)] [] (M, 1186, false) 0 0
  refine mm_iload_n dX6_count_0 rfl ?_
  refine mm_if_lt 22 dX6_count_1 (by decide) (fun h => absurd h (by decide)) (fun _ => ?_)
  refine mm_iload_n dX6_count_4 rfl ?_
  refine mm_aload_n dX6_count_5 rfl rfl ?_
  refine mm_get3 (ci := 6) in_X6 rfl (k := 2) (by decide) rfl kF_X6_27 dX6_count_6 h6 (Nat.le_of_ble_eq_true rfl) rfl ?_
  refine mm_alen3 (v := 5) (fun _ => rfl) h190 (Nat.le_of_ble_eq_true rfl) rfl dX6_count_9 ?_
  refine mm_icmp_ge 22 dX6_count_10 (by decide) (fun h => absurd h (by decide)) (fun _ => ?_)
  refine mm_aload_n dX6_count_13 rfl rfl ?_
  refine mm_get3 (ci := 6) in_X6 rfl (k := 2) (by decide) rfl kF_X6_27 dX6_count_14 h6 (Nat.le_of_ble_eq_true rfl) rfl ?_
  refine mm_iload_n dX6_count_17 rfl ?_
  refine mm_iald3 h190 (Nat.le_of_ble_eq_true rfl) (by unfold vp_in; decide) dX6_count_18 ?_
  refine mm_goto 23 dX6_count_19 (by decide) ?_
  refine mm_iret dX6_count_23 rfl rfl ?_ (by omega) (by omega)
  exact ⟨rfl, rfl⟩

set_option maxHeartbeats 4000000 in
set_option maxRecDepth 100000 in
theorem f_many_0_2 {g : mm_G} {l : Launch} (hst : l.stackTraces = false) {d : Nat} (M : Nat → mm_C) (h0 : M 0 = .inr (11, [.ref 1, .ref 3, .ref 5, .ref 197, .ref 389, .ref 1094, .ref 1095, .ref 1097, .int (-1)])) (h5 : M 5 = .inr (2, [.ref 6, .ref 191, .ref 196, .int 0, .int 0])) (h6 : M 6 = .inr (6, [.ref 7, .ref 9, .ref 190, .int 0, .int 0])) (h190 : M 190 = .inl (0, 5, .inl (fun _ => 0))) : mm_Ct g l yX11_many (.code yX11_many cX11_many 5 (some .int)) (d + 1) 0 0 [.ref 0, .int 0, .int 2] (M, 1186, false) (fun r S' => r = .inl (some (.int ((fun _ => 0) (2 : Int32).toNatClampNeg))) ∧ S'.2 = (1186, false) ∧ ∀ j, 1101 ≤ j → S'.1 j = M j) := by
  refine mm_Ct_of hst (by decide) (Nat.le_of_ble_eq_true rfl) ?_
  show mm_V g l RX11 "many" cX11_many 5 (some .int) [] (d + 1) 0 0 _ 0 [some (.ref 0), some (.int 0), some (.int 2), none, none] [] (M, 1186, false) 0 0
  refine mm_aload_n dX11_many_0 rfl rfl ?_
  refine mm_iload_n dX11_many_1 rfl ?_
  refine mm_callV3 (ci := 11) wM_X11_compilerOf kM_X11_86 wI_X11_compilerOf wS_X11_compilerOf dX11_many_2 (k1_X11_compilerOf hst _  h0) h0 (Nat.le_of_ble_eq_true rfl) rfl rfl rfl (Nat.le_of_ble_eq_true rfl) (by omega) (by omega) (fun v S9 hq => ?_)
  obtain ⟨rfl, rfl⟩ := hq
  refine ⟨fun h => ⟨h, rfl⟩, ?_⟩
  refine mm_astore_n [some (.ref 0), some (.int 0), some (.int 2), some (.ref 5), none] dX11_many_5 (by decide) rfl rfl ?_
  refine mm_aload_n dX11_many_6 rfl rfl ?_
  refine mm_ifnull (r := some 5) 19 dX11_many_7 (by decide) (fun h => absurd h (by simp)) (fun _ => ?_)
  refine mm_iload_n dX11_many_10 rfl ?_
  refine mm_if_lt 19 dX11_many_11 (by decide) (fun h => absurd h (by decide)) (fun _ => ?_)
  refine mm_iload_n dX11_many_14 rfl ?_
  refine mm_iconst (v := 2) dX11_many_15 (by decide) ?_
  refine mm_icmp_le 29 dX11_many_16 (by decide) (fun _ => ?_) (fun h => absurd (by decide) h)
  refine mm_iload_n dX11_many_29 rfl ?_
  refine mm_if_ne 37 dX11_many_30 (by decide) (fun _ => ?_) (fun h => absurd h (by decide))
  refine mm_iload_n dX11_many_37 rfl ?_
  refine mm_iconst (v := 1) dX11_many_38 (by decide) ?_
  refine mm_icmp_ne 46 dX11_many_39 (by decide) (fun _ => ?_) (fun h => absurd h (by decide))
  refine mm_iconst (v := 2) dX11_many_46 (by decide) ?_
  refine mm_istore [some (.ref 0), some (.int 0), some (.int 2), some (.ref 5), some (.int 2)] dX11_many_47 (by decide) rfl ?_
  refine mm_aload_n dX11_many_49 rfl rfl ?_
  refine mm_callV3 (ci := 2) wM_X2_schema kM_X11_109 wI_X2_schema wS_X2_schema dX11_many_50 (k107_X2_schema hst _  h5) h5 (Nat.le_of_ble_eq_true rfl) rfl rfl rfl (Nat.le_of_ble_eq_true rfl) (by omega) (by omega) (fun v S9 hq => ?_)
  obtain ⟨rfl, rfl⟩ := hq
  refine ⟨fun h => ⟨h, rfl⟩, ?_⟩
  refine mm_iload dX11_many_53 rfl ?_
  refine mm_callV3 (ci := 6) wM_X6_count kM_X11_113 wI_X6_count wS_X6_count dX11_many_55 (k117_X6_count hst _  h6 h190) h6 (Nat.le_of_ble_eq_true rfl) rfl rfl rfl (Nat.le_of_ble_eq_true rfl) (by omega) (by omega) (fun v S9 hq => ?_)
  obtain ⟨rfl, rfl⟩ := hq
  refine ⟨fun h => ⟨h, rfl⟩, ?_⟩
  refine mm_iret dX11_many_58 rfl rfl ?_ (by omega) (by omega)
  exact ⟨rfl, rfl, fun x hx => rfl⟩

set_option maxHeartbeats 4000000 in
set_option maxRecDepth 100000 in
theorem k119_X11_compilerOf {g : mm_G} {l : Launch} (hst : l.stackTraces = false) {d : Nat} (M : Nat → mm_C) (q : Int32) (hq : q < 0) (h0 : M 0 = .inr (11, [.ref 1, .ref 3, .ref 5, .ref 197, .ref 389, .ref 1094, .ref 1095, .ref 1097, .int (-1)])) : mm_Cm g l yX11_compilerOf (.code yX11_compilerOf cX11_compilerOf 2 (some (.object "ProtoDesk$Compiler"))) d 0 0 [.ref 0, .int 0] (M, 1186, false) (fun v S' => v = some (.ref 5) ∧ S' = (M, 1186, false)) := by
  refine mm_Cm_of hst (by decide) (Nat.le_of_ble_eq_true rfl) ?_
  show mm_V g l RX11 "compilerOf" cX11_compilerOf 2 (some (.object "ProtoDesk$Compiler")) [] d 0 0 _ 0 [some (.ref 0), some (.int 0)] [] (M, 1186, false) 0 0
  refine mm_iload_n dX11_compilerOf_0 rfl ?_
  refine mm_if_ne 11 dX11_compilerOf_1 (by decide) (fun h => absurd (by decide) h) (fun _ => ?_)
  refine mm_aload_n dX11_compilerOf_4 rfl rfl ?_
  refine mm_get3 (ci := 11) in_X11 rfl (k := 2) (by decide) rfl kF_X11_24 dX11_compilerOf_5 h0 (Nat.le_of_ble_eq_true rfl) rfl ?_
  refine mm_goto 24 dX11_compilerOf_8 (by decide) ?_
  refine mm_aret (a := some 5) dX11_compilerOf_24 rfl ?_ (by omega) (by omega)
  exact ⟨rfl, rfl⟩

set_option maxHeartbeats 4000000 in
set_option maxRecDepth 100000 in
theorem f_many_0_n {g : mm_G} {l : Launch} (hst : l.stackTraces = false) {d : Nat} (M : Nat → mm_C) (q : Int32) (hq : q < 0) (h0 : M 0 = .inr (11, [.ref 1, .ref 3, .ref 5, .ref 197, .ref 389, .ref 1094, .ref 1095, .ref 1097, .int (-1)])) : mm_Ct g l yX11_many (.code yX11_many cX11_many 5 (some .int)) (d + 1) 1 6 [.ref 0, .int 0, .int q] (M, 1186, false) (fun r S' => r = .inr "java/lang/IllegalArgumentException" ∧ S'.2 = (1186, true) ∧ ∀ j, 1101 ≤ j → S'.1 j = M j) := by
  refine mm_Ct_of hst (by decide) (Nat.le_of_ble_eq_true rfl) ?_
  show mm_V g l RX11 "many" cX11_many 5 (some .int) [] (d + 1) 1 6 _ 0 [some (.ref 0), some (.int 0), some (.int q), none, none] [] (M, 1186, false) 0 0
  refine mm_aload_n dX11_many_0 rfl rfl ?_
  refine mm_iload_n dX11_many_1 rfl ?_
  refine mm_callV3 (ci := 11) wM_X11_compilerOf kM_X11_86 wI_X11_compilerOf wS_X11_compilerOf dX11_many_2 (k119_X11_compilerOf hst _ q hq h0) h0 (Nat.le_of_ble_eq_true rfl) rfl rfl rfl (Nat.le_of_ble_eq_true rfl) (by omega) (by omega) (fun v S9 hq => ?_)
  obtain ⟨rfl, rfl⟩ := hq
  refine ⟨fun h => ⟨h, rfl⟩, ?_⟩
  refine mm_astore_n [some (.ref 0), some (.int 0), some (.int q), some (.ref 5), none] dX11_many_5 (by decide) rfl rfl ?_
  refine mm_aload_n dX11_many_6 rfl rfl ?_
  refine mm_ifnull (r := some 5) 19 dX11_many_7 (by decide) (fun h => absurd h (by simp)) (fun _ => ?_)
  refine mm_iload_n dX11_many_10 rfl ?_
  refine mm_if_lt 19 dX11_many_11 (by decide) (fun _ => ?_) (fun h => absurd hq h)
  refine mm_throw (k := 6) (text := "no such schema, or no such question") (by decide) kC_X11_67 wj_IllegalArgumentException rfl at_71 rfl dX11_many_19 dX11_many_22 dX11_many_23 dX11_many_25 dX11_many_28 (Nat.le_of_ble_eq_true rfl) (by omega) (by omega) ?_
  exact ⟨rfl, rfl, fun x hx => rfl⟩

set_option maxHeartbeats 4000000 in
set_option maxRecDepth 100000 in
theorem k121_X11_compilerOf {g : mm_G} {l : Launch} (hst : l.stackTraces = false) {d : Nat} (M : Nat → mm_C) (q : Int32) (hq0 : ¬ q < 0) (hq : 2 < q) (h0 : M 0 = .inr (11, [.ref 1, .ref 3, .ref 5, .ref 197, .ref 389, .ref 1094, .ref 1095, .ref 1097, .int (-1)])) : mm_Cm g l yX11_compilerOf (.code yX11_compilerOf cX11_compilerOf 2 (some (.object "ProtoDesk$Compiler"))) d 0 0 [.ref 0, .int 0] (M, 1186, false) (fun v S' => v = some (.ref 5) ∧ S' = (M, 1186, false)) := by
  refine mm_Cm_of hst (by decide) (Nat.le_of_ble_eq_true rfl) ?_
  show mm_V g l RX11 "compilerOf" cX11_compilerOf 2 (some (.object "ProtoDesk$Compiler")) [] d 0 0 _ 0 [some (.ref 0), some (.int 0)] [] (M, 1186, false) 0 0
  refine mm_iload_n dX11_compilerOf_0 rfl ?_
  refine mm_if_ne 11 dX11_compilerOf_1 (by decide) (fun h => absurd (by decide) h) (fun _ => ?_)
  refine mm_aload_n dX11_compilerOf_4 rfl rfl ?_
  refine mm_get3 (ci := 11) in_X11 rfl (k := 2) (by decide) rfl kF_X11_24 dX11_compilerOf_5 h0 (Nat.le_of_ble_eq_true rfl) rfl ?_
  refine mm_goto 24 dX11_compilerOf_8 (by decide) ?_
  refine mm_aret (a := some 5) dX11_compilerOf_24 rfl ?_ (by omega) (by omega)
  exact ⟨rfl, rfl⟩

set_option maxHeartbeats 4000000 in
set_option maxRecDepth 100000 in
theorem f_many_0_m {g : mm_G} {l : Launch} (hst : l.stackTraces = false) {d : Nat} (M : Nat → mm_C) (q : Int32) (hq0 : ¬ q < 0) (hq : 2 < q) (h0 : M 0 = .inr (11, [.ref 1, .ref 3, .ref 5, .ref 197, .ref 389, .ref 1094, .ref 1095, .ref 1097, .int (-1)])) : mm_Ct g l yX11_many (.code yX11_many cX11_many 5 (some .int)) (d + 1) 1 6 [.ref 0, .int 0, .int q] (M, 1186, false) (fun r S' => r = .inr "java/lang/IllegalArgumentException" ∧ S'.2 = (1186, true) ∧ ∀ j, 1101 ≤ j → S'.1 j = M j) := by
  refine mm_Ct_of hst (by decide) (Nat.le_of_ble_eq_true rfl) ?_
  show mm_V g l RX11 "many" cX11_many 5 (some .int) [] (d + 1) 1 6 _ 0 [some (.ref 0), some (.int 0), some (.int q), none, none] [] (M, 1186, false) 0 0
  refine mm_aload_n dX11_many_0 rfl rfl ?_
  refine mm_iload_n dX11_many_1 rfl ?_
  refine mm_callV3 (ci := 11) wM_X11_compilerOf kM_X11_86 wI_X11_compilerOf wS_X11_compilerOf dX11_many_2 (k121_X11_compilerOf hst _ q hq0 hq h0) h0 (Nat.le_of_ble_eq_true rfl) rfl rfl rfl (Nat.le_of_ble_eq_true rfl) (by omega) (by omega) (fun v S9 hq => ?_)
  obtain ⟨rfl, rfl⟩ := hq
  refine ⟨fun h => ⟨h, rfl⟩, ?_⟩
  refine mm_astore_n [some (.ref 0), some (.int 0), some (.int q), some (.ref 5), none] dX11_many_5 (by decide) rfl rfl ?_
  refine mm_aload_n dX11_many_6 rfl rfl ?_
  refine mm_ifnull (r := some 5) 19 dX11_many_7 (by decide) (fun h => absurd h (by simp)) (fun _ => ?_)
  refine mm_iload_n dX11_many_10 rfl ?_
  refine mm_if_lt 19 dX11_many_11 (by decide) (fun h => absurd h hq0) (fun _ => ?_)
  refine mm_iload_n dX11_many_14 rfl ?_
  refine mm_iconst (v := 2) dX11_many_15 (by decide) ?_
  refine mm_icmp_le 29 dX11_many_16 (by decide) (fun h => absurd h (Int32.not_le.mpr hq)) (fun _ => ?_)
  refine mm_throw (k := 6) (text := "no such schema, or no such question") (by decide) kC_X11_67 wj_IllegalArgumentException rfl at_71 rfl dX11_many_19 dX11_many_22 dX11_many_23 dX11_many_25 dX11_many_28 (Nat.le_of_ble_eq_true rfl) (by omega) (by omega) ?_
  exact ⟨rfl, rfl, fun x hx => rfl⟩

set_option maxHeartbeats 4000000 in
set_option maxRecDepth 100000 in
theorem k124_X2_schema {g : mm_G} {l : Launch} (hst : l.stackTraces = false) {d : Nat} (M : Nat → mm_C) (h197 : M 197 = .inr (2, [.ref 198, .ref 383, .ref 388, .int 0, .int 0])) : mm_Cm g l yX2_schema (.code yX2_schema cX2_schema 1 (some (.object "ProtoDesk$Schema"))) d 0 0 [.ref 197] (M, 1186, false) (fun v S' => v = some (.ref 198) ∧ S' = (M, 1186, false)) := by
  refine mm_Cm_of hst (by decide) (Nat.le_of_ble_eq_true rfl) ?_
  show mm_V g l RX2 "schema" cX2_schema 1 (some (.object "ProtoDesk$Schema")) [] d 0 0 _ 0 [some (.ref 197)] [] (M, 1186, false) 0 0
  refine mm_aload_n dX2_schema_0 rfl rfl ?_
  refine mm_get3 (ci := 2) in_X2 rfl (k := 0) (by decide) rfl kF_X2_12 dX2_schema_1 h197 (Nat.le_of_ble_eq_true rfl) rfl ?_
  refine mm_aret (a := some 198) dX2_schema_4 rfl ?_ (by omega) (by omega)
  exact ⟨rfl, rfl⟩

set_option maxHeartbeats 4000000 in
set_option maxRecDepth 100000 in
theorem k126_X6_count {g : mm_G} {l : Launch} (hst : l.stackTraces = false) {d : Nat} (M : Nat → mm_C) (h198 : M 198 = .inr (6, [.ref 199, .ref 201, .ref 382, .int 0, .int 0])) (h382 : M 382 = .inl (0, 5, .inl (fun _ => 0))) : mm_Cm g l yX6_count (.code yX6_count cX6_count 2 (some .int)) d 0 0 [.ref 198, .int 0] (M, 1186, false) (fun v S' => v = some (.int ((fun _ => 0) (0 : Int32).toNatClampNeg)) ∧ S' = (M, 1186, false)) := by
  refine mm_Cm_of hst (by decide) (Nat.le_of_ble_eq_true rfl) ?_
  show mm_V g l RX6 "count" cX6_count 2 (some .int) [] d 0 0 _ 0 [some (.ref 198), some (.int 0)] [] (M, 1186, false) 0 0
  refine mm_iload_n dX6_count_0 rfl ?_
  refine mm_if_lt 22 dX6_count_1 (by decide) (fun h => absurd h (by decide)) (fun _ => ?_)
  refine mm_iload_n dX6_count_4 rfl ?_
  refine mm_aload_n dX6_count_5 rfl rfl ?_
  refine mm_get3 (ci := 6) in_X6 rfl (k := 2) (by decide) rfl kF_X6_27 dX6_count_6 h198 (Nat.le_of_ble_eq_true rfl) rfl ?_
  refine mm_alen3 (v := 5) (fun _ => rfl) h382 (Nat.le_of_ble_eq_true rfl) rfl dX6_count_9 ?_
  refine mm_icmp_ge 22 dX6_count_10 (by decide) (fun h => absurd h (by decide)) (fun _ => ?_)
  refine mm_aload_n dX6_count_13 rfl rfl ?_
  refine mm_get3 (ci := 6) in_X6 rfl (k := 2) (by decide) rfl kF_X6_27 dX6_count_14 h198 (Nat.le_of_ble_eq_true rfl) rfl ?_
  refine mm_iload_n dX6_count_17 rfl ?_
  refine mm_iald3 h382 (Nat.le_of_ble_eq_true rfl) (by unfold vp_in; decide) dX6_count_18 ?_
  refine mm_goto 23 dX6_count_19 (by decide) ?_
  refine mm_iret dX6_count_23 rfl rfl ?_ (by omega) (by omega)
  exact ⟨rfl, rfl⟩

set_option maxHeartbeats 4000000 in
set_option maxRecDepth 100000 in
theorem f_many_1_0 {g : mm_G} {l : Launch} (hst : l.stackTraces = false) {d : Nat} (M : Nat → mm_C) (h0 : M 0 = .inr (11, [.ref 1, .ref 3, .ref 5, .ref 197, .ref 389, .ref 1094, .ref 1095, .ref 1097, .int (-1)])) (h197 : M 197 = .inr (2, [.ref 198, .ref 383, .ref 388, .int 0, .int 0])) (h198 : M 198 = .inr (6, [.ref 199, .ref 201, .ref 382, .int 0, .int 0])) (h382 : M 382 = .inl (0, 5, .inl (fun _ => 0))) : mm_Ct g l yX11_many (.code yX11_many cX11_many 5 (some .int)) (d + 1) 0 0 [.ref 0, .int 1, .int 0] (M, 1186, false) (fun r S' => r = .inl (some (.int ((fun _ => 0) (0 : Int32).toNatClampNeg))) ∧ S'.2 = (1186, false) ∧ ∀ j, 1101 ≤ j → S'.1 j = M j) := by
  refine mm_Ct_of hst (by decide) (Nat.le_of_ble_eq_true rfl) ?_
  show mm_V g l RX11 "many" cX11_many 5 (some .int) [] (d + 1) 0 0 _ 0 [some (.ref 0), some (.int 1), some (.int 0), none, none] [] (M, 1186, false) 0 0
  refine mm_aload_n dX11_many_0 rfl rfl ?_
  refine mm_iload_n dX11_many_1 rfl ?_
  refine mm_callV3 (ci := 11) wM_X11_compilerOf kM_X11_86 wI_X11_compilerOf wS_X11_compilerOf dX11_many_2 (k56_X11_compilerOf hst _  h0) h0 (Nat.le_of_ble_eq_true rfl) rfl rfl rfl (Nat.le_of_ble_eq_true rfl) (by omega) (by omega) (fun v S9 hq => ?_)
  obtain ⟨rfl, rfl⟩ := hq
  refine ⟨fun h => ⟨h, rfl⟩, ?_⟩
  refine mm_astore_n [some (.ref 0), some (.int 1), some (.int 0), some (.ref 197), none] dX11_many_5 (by decide) rfl rfl ?_
  refine mm_aload_n dX11_many_6 rfl rfl ?_
  refine mm_ifnull (r := some 197) 19 dX11_many_7 (by decide) (fun h => absurd h (by simp)) (fun _ => ?_)
  refine mm_iload_n dX11_many_10 rfl ?_
  refine mm_if_lt 19 dX11_many_11 (by decide) (fun h => absurd h (by decide)) (fun _ => ?_)
  refine mm_iload_n dX11_many_14 rfl ?_
  refine mm_iconst (v := 2) dX11_many_15 (by decide) ?_
  refine mm_icmp_le 29 dX11_many_16 (by decide) (fun _ => ?_) (fun h => absurd (by decide) h)
  refine mm_iload_n dX11_many_29 rfl ?_
  refine mm_if_ne 37 dX11_many_30 (by decide) (fun h => absurd (by decide) h) (fun _ => ?_)
  refine mm_iconst (v := 0) dX11_many_33 (by decide) ?_
  refine mm_goto 47 dX11_many_34 (by decide) ?_
  refine mm_istore [some (.ref 0), some (.int 1), some (.int 0), some (.ref 197), some (.int 0)] dX11_many_47 (by decide) rfl ?_
  refine mm_aload_n dX11_many_49 rfl rfl ?_
  refine mm_callV3 (ci := 2) wM_X2_schema kM_X11_109 wI_X2_schema wS_X2_schema dX11_many_50 (k124_X2_schema hst _  h197) h197 (Nat.le_of_ble_eq_true rfl) rfl rfl rfl (Nat.le_of_ble_eq_true rfl) (by omega) (by omega) (fun v S9 hq => ?_)
  obtain ⟨rfl, rfl⟩ := hq
  refine ⟨fun h => ⟨h, rfl⟩, ?_⟩
  refine mm_iload dX11_many_53 rfl ?_
  refine mm_callV3 (ci := 6) wM_X6_count kM_X11_113 wI_X6_count wS_X6_count dX11_many_55 (k126_X6_count hst _  h198 h382) h198 (Nat.le_of_ble_eq_true rfl) rfl rfl rfl (Nat.le_of_ble_eq_true rfl) (by omega) (by omega) (fun v S9 hq => ?_)
  obtain ⟨rfl, rfl⟩ := hq
  refine ⟨fun h => ⟨h, rfl⟩, ?_⟩
  refine mm_iret dX11_many_58 rfl rfl ?_ (by omega) (by omega)
  exact ⟨rfl, rfl, fun x hx => rfl⟩

set_option maxHeartbeats 4000000 in
set_option maxRecDepth 100000 in
theorem k130_X6_count {g : mm_G} {l : Launch} (hst : l.stackTraces = false) {d : Nat} (M : Nat → mm_C) (h198 : M 198 = .inr (6, [.ref 199, .ref 201, .ref 382, .int 0, .int 0])) (h382 : M 382 = .inl (0, 5, .inl (fun _ => 0))) : mm_Cm g l yX6_count (.code yX6_count cX6_count 2 (some .int)) d 0 0 [.ref 198, .int 1] (M, 1186, false) (fun v S' => v = some (.int ((fun _ => 0) (1 : Int32).toNatClampNeg)) ∧ S' = (M, 1186, false)) := by
  refine mm_Cm_of hst (by decide) (Nat.le_of_ble_eq_true rfl) ?_
  show mm_V g l RX6 "count" cX6_count 2 (some .int) [] d 0 0 _ 0 [some (.ref 198), some (.int 1)] [] (M, 1186, false) 0 0
  refine mm_iload_n dX6_count_0 rfl ?_
  refine mm_if_lt 22 dX6_count_1 (by decide) (fun h => absurd h (by decide)) (fun _ => ?_)
  refine mm_iload_n dX6_count_4 rfl ?_
  refine mm_aload_n dX6_count_5 rfl rfl ?_
  refine mm_get3 (ci := 6) in_X6 rfl (k := 2) (by decide) rfl kF_X6_27 dX6_count_6 h198 (Nat.le_of_ble_eq_true rfl) rfl ?_
  refine mm_alen3 (v := 5) (fun _ => rfl) h382 (Nat.le_of_ble_eq_true rfl) rfl dX6_count_9 ?_
  refine mm_icmp_ge 22 dX6_count_10 (by decide) (fun h => absurd h (by decide)) (fun _ => ?_)
  refine mm_aload_n dX6_count_13 rfl rfl ?_
  refine mm_get3 (ci := 6) in_X6 rfl (k := 2) (by decide) rfl kF_X6_27 dX6_count_14 h198 (Nat.le_of_ble_eq_true rfl) rfl ?_
  refine mm_iload_n dX6_count_17 rfl ?_
  refine mm_iald3 h382 (Nat.le_of_ble_eq_true rfl) (by unfold vp_in; decide) dX6_count_18 ?_
  refine mm_goto 23 dX6_count_19 (by decide) ?_
  refine mm_iret dX6_count_23 rfl rfl ?_ (by omega) (by omega)
  exact ⟨rfl, rfl⟩

set_option maxHeartbeats 4000000 in
set_option maxRecDepth 100000 in
theorem f_many_1_1 {g : mm_G} {l : Launch} (hst : l.stackTraces = false) {d : Nat} (M : Nat → mm_C) (h0 : M 0 = .inr (11, [.ref 1, .ref 3, .ref 5, .ref 197, .ref 389, .ref 1094, .ref 1095, .ref 1097, .int (-1)])) (h197 : M 197 = .inr (2, [.ref 198, .ref 383, .ref 388, .int 0, .int 0])) (h198 : M 198 = .inr (6, [.ref 199, .ref 201, .ref 382, .int 0, .int 0])) (h382 : M 382 = .inl (0, 5, .inl (fun _ => 0))) : mm_Ct g l yX11_many (.code yX11_many cX11_many 5 (some .int)) (d + 1) 0 0 [.ref 0, .int 1, .int 1] (M, 1186, false) (fun r S' => r = .inl (some (.int ((fun _ => 0) (1 : Int32).toNatClampNeg))) ∧ S'.2 = (1186, false) ∧ ∀ j, 1101 ≤ j → S'.1 j = M j) := by
  refine mm_Ct_of hst (by decide) (Nat.le_of_ble_eq_true rfl) ?_
  show mm_V g l RX11 "many" cX11_many 5 (some .int) [] (d + 1) 0 0 _ 0 [some (.ref 0), some (.int 1), some (.int 1), none, none] [] (M, 1186, false) 0 0
  refine mm_aload_n dX11_many_0 rfl rfl ?_
  refine mm_iload_n dX11_many_1 rfl ?_
  refine mm_callV3 (ci := 11) wM_X11_compilerOf kM_X11_86 wI_X11_compilerOf wS_X11_compilerOf dX11_many_2 (k56_X11_compilerOf hst _  h0) h0 (Nat.le_of_ble_eq_true rfl) rfl rfl rfl (Nat.le_of_ble_eq_true rfl) (by omega) (by omega) (fun v S9 hq => ?_)
  obtain ⟨rfl, rfl⟩ := hq
  refine ⟨fun h => ⟨h, rfl⟩, ?_⟩
  refine mm_astore_n [some (.ref 0), some (.int 1), some (.int 1), some (.ref 197), none] dX11_many_5 (by decide) rfl rfl ?_
  refine mm_aload_n dX11_many_6 rfl rfl ?_
  refine mm_ifnull (r := some 197) 19 dX11_many_7 (by decide) (fun h => absurd h (by simp)) (fun _ => ?_)
  refine mm_iload_n dX11_many_10 rfl ?_
  refine mm_if_lt 19 dX11_many_11 (by decide) (fun h => absurd h (by decide)) (fun _ => ?_)
  refine mm_iload_n dX11_many_14 rfl ?_
  refine mm_iconst (v := 2) dX11_many_15 (by decide) ?_
  refine mm_icmp_le 29 dX11_many_16 (by decide) (fun _ => ?_) (fun h => absurd (by decide) h)
  refine mm_iload_n dX11_many_29 rfl ?_
  refine mm_if_ne 37 dX11_many_30 (by decide) (fun _ => ?_) (fun h => absurd h (by decide))
  refine mm_iload_n dX11_many_37 rfl ?_
  refine mm_iconst (v := 1) dX11_many_38 (by decide) ?_
  refine mm_icmp_ne 46 dX11_many_39 (by decide) (fun h => absurd (by decide) h) (fun _ => ?_)
  refine mm_iconst (v := 1) dX11_many_42 (by decide) ?_
  refine mm_goto 47 dX11_many_43 (by decide) ?_
  refine mm_istore [some (.ref 0), some (.int 1), some (.int 1), some (.ref 197), some (.int 1)] dX11_many_47 (by decide) rfl ?_
  refine mm_aload_n dX11_many_49 rfl rfl ?_
  refine mm_callV3 (ci := 2) wM_X2_schema kM_X11_109 wI_X2_schema wS_X2_schema dX11_many_50 (k124_X2_schema hst _  h197) h197 (Nat.le_of_ble_eq_true rfl) rfl rfl rfl (Nat.le_of_ble_eq_true rfl) (by omega) (by omega) (fun v S9 hq => ?_)
  obtain ⟨rfl, rfl⟩ := hq
  refine ⟨fun h => ⟨h, rfl⟩, ?_⟩
  refine mm_iload dX11_many_53 rfl ?_
  refine mm_callV3 (ci := 6) wM_X6_count kM_X11_113 wI_X6_count wS_X6_count dX11_many_55 (k130_X6_count hst _  h198 h382) h198 (Nat.le_of_ble_eq_true rfl) rfl rfl rfl (Nat.le_of_ble_eq_true rfl) (by omega) (by omega) (fun v S9 hq => ?_)
  obtain ⟨rfl, rfl⟩ := hq
  refine ⟨fun h => ⟨h, rfl⟩, ?_⟩
  refine mm_iret dX11_many_58 rfl rfl ?_ (by omega) (by omega)
  exact ⟨rfl, rfl, fun x hx => rfl⟩

set_option maxHeartbeats 4000000 in
set_option maxRecDepth 100000 in
theorem k134_X6_count {g : mm_G} {l : Launch} (hst : l.stackTraces = false) {d : Nat} (M : Nat → mm_C) (h198 : M 198 = .inr (6, [.ref 199, .ref 201, .ref 382, .int 0, .int 0])) (h382 : M 382 = .inl (0, 5, .inl (fun _ => 0))) : mm_Cm g l yX6_count (.code yX6_count cX6_count 2 (some .int)) d 0 0 [.ref 198, .int 2] (M, 1186, false) (fun v S' => v = some (.int ((fun _ => 0) (2 : Int32).toNatClampNeg)) ∧ S' = (M, 1186, false)) := by
  refine mm_Cm_of hst (by decide) (Nat.le_of_ble_eq_true rfl) ?_
  show mm_V g l RX6 "count" cX6_count 2 (some .int) [] d 0 0 _ 0 [some (.ref 198), some (.int 2)] [] (M, 1186, false) 0 0
  refine mm_iload_n dX6_count_0 rfl ?_
  refine mm_if_lt 22 dX6_count_1 (by decide) (fun h => absurd h (by decide)) (fun _ => ?_)
  refine mm_iload_n dX6_count_4 rfl ?_
  refine mm_aload_n dX6_count_5 rfl rfl ?_
  refine mm_get3 (ci := 6) in_X6 rfl (k := 2) (by decide) rfl kF_X6_27 dX6_count_6 h198 (Nat.le_of_ble_eq_true rfl) rfl ?_
  refine mm_alen3 (v := 5) (fun _ => rfl) h382 (Nat.le_of_ble_eq_true rfl) rfl dX6_count_9 ?_
  refine mm_icmp_ge 22 dX6_count_10 (by decide) (fun h => absurd h (by decide)) (fun _ => ?_)
  refine mm_aload_n dX6_count_13 rfl rfl ?_
  refine mm_get3 (ci := 6) in_X6 rfl (k := 2) (by decide) rfl kF_X6_27 dX6_count_14 h198 (Nat.le_of_ble_eq_true rfl) rfl ?_
  refine mm_iload_n dX6_count_17 rfl ?_
  refine mm_iald3 h382 (Nat.le_of_ble_eq_true rfl) (by unfold vp_in; decide) dX6_count_18 ?_
  refine mm_goto 23 dX6_count_19 (by decide) ?_
  refine mm_iret dX6_count_23 rfl rfl ?_ (by omega) (by omega)
  exact ⟨rfl, rfl⟩

set_option maxHeartbeats 4000000 in
set_option maxRecDepth 100000 in
theorem f_many_1_2 {g : mm_G} {l : Launch} (hst : l.stackTraces = false) {d : Nat} (M : Nat → mm_C) (h0 : M 0 = .inr (11, [.ref 1, .ref 3, .ref 5, .ref 197, .ref 389, .ref 1094, .ref 1095, .ref 1097, .int (-1)])) (h197 : M 197 = .inr (2, [.ref 198, .ref 383, .ref 388, .int 0, .int 0])) (h198 : M 198 = .inr (6, [.ref 199, .ref 201, .ref 382, .int 0, .int 0])) (h382 : M 382 = .inl (0, 5, .inl (fun _ => 0))) : mm_Ct g l yX11_many (.code yX11_many cX11_many 5 (some .int)) (d + 1) 0 0 [.ref 0, .int 1, .int 2] (M, 1186, false) (fun r S' => r = .inl (some (.int ((fun _ => 0) (2 : Int32).toNatClampNeg))) ∧ S'.2 = (1186, false) ∧ ∀ j, 1101 ≤ j → S'.1 j = M j) := by
  refine mm_Ct_of hst (by decide) (Nat.le_of_ble_eq_true rfl) ?_
  show mm_V g l RX11 "many" cX11_many 5 (some .int) [] (d + 1) 0 0 _ 0 [some (.ref 0), some (.int 1), some (.int 2), none, none] [] (M, 1186, false) 0 0
  refine mm_aload_n dX11_many_0 rfl rfl ?_
  refine mm_iload_n dX11_many_1 rfl ?_
  refine mm_callV3 (ci := 11) wM_X11_compilerOf kM_X11_86 wI_X11_compilerOf wS_X11_compilerOf dX11_many_2 (k56_X11_compilerOf hst _  h0) h0 (Nat.le_of_ble_eq_true rfl) rfl rfl rfl (Nat.le_of_ble_eq_true rfl) (by omega) (by omega) (fun v S9 hq => ?_)
  obtain ⟨rfl, rfl⟩ := hq
  refine ⟨fun h => ⟨h, rfl⟩, ?_⟩
  refine mm_astore_n [some (.ref 0), some (.int 1), some (.int 2), some (.ref 197), none] dX11_many_5 (by decide) rfl rfl ?_
  refine mm_aload_n dX11_many_6 rfl rfl ?_
  refine mm_ifnull (r := some 197) 19 dX11_many_7 (by decide) (fun h => absurd h (by simp)) (fun _ => ?_)
  refine mm_iload_n dX11_many_10 rfl ?_
  refine mm_if_lt 19 dX11_many_11 (by decide) (fun h => absurd h (by decide)) (fun _ => ?_)
  refine mm_iload_n dX11_many_14 rfl ?_
  refine mm_iconst (v := 2) dX11_many_15 (by decide) ?_
  refine mm_icmp_le 29 dX11_many_16 (by decide) (fun _ => ?_) (fun h => absurd (by decide) h)
  refine mm_iload_n dX11_many_29 rfl ?_
  refine mm_if_ne 37 dX11_many_30 (by decide) (fun _ => ?_) (fun h => absurd h (by decide))
  refine mm_iload_n dX11_many_37 rfl ?_
  refine mm_iconst (v := 1) dX11_many_38 (by decide) ?_
  refine mm_icmp_ne 46 dX11_many_39 (by decide) (fun _ => ?_) (fun h => absurd h (by decide))
  refine mm_iconst (v := 2) dX11_many_46 (by decide) ?_
  refine mm_istore [some (.ref 0), some (.int 1), some (.int 2), some (.ref 197), some (.int 2)] dX11_many_47 (by decide) rfl ?_
  refine mm_aload_n dX11_many_49 rfl rfl ?_
  refine mm_callV3 (ci := 2) wM_X2_schema kM_X11_109 wI_X2_schema wS_X2_schema dX11_many_50 (k124_X2_schema hst _  h197) h197 (Nat.le_of_ble_eq_true rfl) rfl rfl rfl (Nat.le_of_ble_eq_true rfl) (by omega) (by omega) (fun v S9 hq => ?_)
  obtain ⟨rfl, rfl⟩ := hq
  refine ⟨fun h => ⟨h, rfl⟩, ?_⟩
  refine mm_iload dX11_many_53 rfl ?_
  refine mm_callV3 (ci := 6) wM_X6_count kM_X11_113 wI_X6_count wS_X6_count dX11_many_55 (k134_X6_count hst _  h198 h382) h198 (Nat.le_of_ble_eq_true rfl) rfl rfl rfl (Nat.le_of_ble_eq_true rfl) (by omega) (by omega) (fun v S9 hq => ?_)
  obtain ⟨rfl, rfl⟩ := hq
  refine ⟨fun h => ⟨h, rfl⟩, ?_⟩
  refine mm_iret dX11_many_58 rfl rfl ?_ (by omega) (by omega)
  exact ⟨rfl, rfl, fun x hx => rfl⟩

set_option maxHeartbeats 4000000 in
set_option maxRecDepth 100000 in
theorem k136_X11_compilerOf {g : mm_G} {l : Launch} (hst : l.stackTraces = false) {d : Nat} (M : Nat → mm_C) (q : Int32) (hq : q < 0) (h0 : M 0 = .inr (11, [.ref 1, .ref 3, .ref 5, .ref 197, .ref 389, .ref 1094, .ref 1095, .ref 1097, .int (-1)])) : mm_Cm g l yX11_compilerOf (.code yX11_compilerOf cX11_compilerOf 2 (some (.object "ProtoDesk$Compiler"))) d 0 0 [.ref 0, .int 1] (M, 1186, false) (fun v S' => v = some (.ref 197) ∧ S' = (M, 1186, false)) := by
  refine mm_Cm_of hst (by decide) (Nat.le_of_ble_eq_true rfl) ?_
  show mm_V g l RX11 "compilerOf" cX11_compilerOf 2 (some (.object "ProtoDesk$Compiler")) [] d 0 0 _ 0 [some (.ref 0), some (.int 1)] [] (M, 1186, false) 0 0
  refine mm_iload_n dX11_compilerOf_0 rfl ?_
  refine mm_if_ne 11 dX11_compilerOf_1 (by decide) (fun _ => ?_) (fun h => absurd h (by decide))
  refine mm_iload_n dX11_compilerOf_11 rfl ?_
  refine mm_iconst (v := 1) dX11_compilerOf_12 (by decide) ?_
  refine mm_icmp_ne 23 dX11_compilerOf_13 (by decide) (fun h => absurd (by decide) h) (fun _ => ?_)
  refine mm_aload_n dX11_compilerOf_16 rfl rfl ?_
  refine mm_get3 (ci := 11) in_X11 rfl (k := 3) (by decide) rfl kF_X11_28 dX11_compilerOf_17 h0 (Nat.le_of_ble_eq_true rfl) rfl ?_
  refine mm_goto 24 dX11_compilerOf_20 (by decide) ?_
  refine mm_aret (a := some 197) dX11_compilerOf_24 rfl ?_ (by omega) (by omega)
  exact ⟨rfl, rfl⟩

set_option maxHeartbeats 4000000 in
set_option maxRecDepth 100000 in
theorem f_many_1_n {g : mm_G} {l : Launch} (hst : l.stackTraces = false) {d : Nat} (M : Nat → mm_C) (q : Int32) (hq : q < 0) (h0 : M 0 = .inr (11, [.ref 1, .ref 3, .ref 5, .ref 197, .ref 389, .ref 1094, .ref 1095, .ref 1097, .int (-1)])) : mm_Ct g l yX11_many (.code yX11_many cX11_many 5 (some .int)) (d + 1) 1 6 [.ref 0, .int 1, .int q] (M, 1186, false) (fun r S' => r = .inr "java/lang/IllegalArgumentException" ∧ S'.2 = (1186, true) ∧ ∀ j, 1101 ≤ j → S'.1 j = M j) := by
  refine mm_Ct_of hst (by decide) (Nat.le_of_ble_eq_true rfl) ?_
  show mm_V g l RX11 "many" cX11_many 5 (some .int) [] (d + 1) 1 6 _ 0 [some (.ref 0), some (.int 1), some (.int q), none, none] [] (M, 1186, false) 0 0
  refine mm_aload_n dX11_many_0 rfl rfl ?_
  refine mm_iload_n dX11_many_1 rfl ?_
  refine mm_callV3 (ci := 11) wM_X11_compilerOf kM_X11_86 wI_X11_compilerOf wS_X11_compilerOf dX11_many_2 (k136_X11_compilerOf hst _ q hq h0) h0 (Nat.le_of_ble_eq_true rfl) rfl rfl rfl (Nat.le_of_ble_eq_true rfl) (by omega) (by omega) (fun v S9 hq => ?_)
  obtain ⟨rfl, rfl⟩ := hq
  refine ⟨fun h => ⟨h, rfl⟩, ?_⟩
  refine mm_astore_n [some (.ref 0), some (.int 1), some (.int q), some (.ref 197), none] dX11_many_5 (by decide) rfl rfl ?_
  refine mm_aload_n dX11_many_6 rfl rfl ?_
  refine mm_ifnull (r := some 197) 19 dX11_many_7 (by decide) (fun h => absurd h (by simp)) (fun _ => ?_)
  refine mm_iload_n dX11_many_10 rfl ?_
  refine mm_if_lt 19 dX11_many_11 (by decide) (fun _ => ?_) (fun h => absurd hq h)
  refine mm_throw (k := 6) (text := "no such schema, or no such question") (by decide) kC_X11_67 wj_IllegalArgumentException rfl at_71 rfl dX11_many_19 dX11_many_22 dX11_many_23 dX11_many_25 dX11_many_28 (Nat.le_of_ble_eq_true rfl) (by omega) (by omega) ?_
  exact ⟨rfl, rfl, fun x hx => rfl⟩

set_option maxHeartbeats 4000000 in
set_option maxRecDepth 100000 in
theorem k138_X11_compilerOf {g : mm_G} {l : Launch} (hst : l.stackTraces = false) {d : Nat} (M : Nat → mm_C) (q : Int32) (hq0 : ¬ q < 0) (hq : 2 < q) (h0 : M 0 = .inr (11, [.ref 1, .ref 3, .ref 5, .ref 197, .ref 389, .ref 1094, .ref 1095, .ref 1097, .int (-1)])) : mm_Cm g l yX11_compilerOf (.code yX11_compilerOf cX11_compilerOf 2 (some (.object "ProtoDesk$Compiler"))) d 0 0 [.ref 0, .int 1] (M, 1186, false) (fun v S' => v = some (.ref 197) ∧ S' = (M, 1186, false)) := by
  refine mm_Cm_of hst (by decide) (Nat.le_of_ble_eq_true rfl) ?_
  show mm_V g l RX11 "compilerOf" cX11_compilerOf 2 (some (.object "ProtoDesk$Compiler")) [] d 0 0 _ 0 [some (.ref 0), some (.int 1)] [] (M, 1186, false) 0 0
  refine mm_iload_n dX11_compilerOf_0 rfl ?_
  refine mm_if_ne 11 dX11_compilerOf_1 (by decide) (fun _ => ?_) (fun h => absurd h (by decide))
  refine mm_iload_n dX11_compilerOf_11 rfl ?_
  refine mm_iconst (v := 1) dX11_compilerOf_12 (by decide) ?_
  refine mm_icmp_ne 23 dX11_compilerOf_13 (by decide) (fun h => absurd (by decide) h) (fun _ => ?_)
  refine mm_aload_n dX11_compilerOf_16 rfl rfl ?_
  refine mm_get3 (ci := 11) in_X11 rfl (k := 3) (by decide) rfl kF_X11_28 dX11_compilerOf_17 h0 (Nat.le_of_ble_eq_true rfl) rfl ?_
  refine mm_goto 24 dX11_compilerOf_20 (by decide) ?_
  refine mm_aret (a := some 197) dX11_compilerOf_24 rfl ?_ (by omega) (by omega)
  exact ⟨rfl, rfl⟩

set_option maxHeartbeats 4000000 in
set_option maxRecDepth 100000 in
theorem f_many_1_m {g : mm_G} {l : Launch} (hst : l.stackTraces = false) {d : Nat} (M : Nat → mm_C) (q : Int32) (hq0 : ¬ q < 0) (hq : 2 < q) (h0 : M 0 = .inr (11, [.ref 1, .ref 3, .ref 5, .ref 197, .ref 389, .ref 1094, .ref 1095, .ref 1097, .int (-1)])) : mm_Ct g l yX11_many (.code yX11_many cX11_many 5 (some .int)) (d + 1) 1 6 [.ref 0, .int 1, .int q] (M, 1186, false) (fun r S' => r = .inr "java/lang/IllegalArgumentException" ∧ S'.2 = (1186, true) ∧ ∀ j, 1101 ≤ j → S'.1 j = M j) := by
  refine mm_Ct_of hst (by decide) (Nat.le_of_ble_eq_true rfl) ?_
  show mm_V g l RX11 "many" cX11_many 5 (some .int) [] (d + 1) 1 6 _ 0 [some (.ref 0), some (.int 1), some (.int q), none, none] [] (M, 1186, false) 0 0
  refine mm_aload_n dX11_many_0 rfl rfl ?_
  refine mm_iload_n dX11_many_1 rfl ?_
  refine mm_callV3 (ci := 11) wM_X11_compilerOf kM_X11_86 wI_X11_compilerOf wS_X11_compilerOf dX11_many_2 (k138_X11_compilerOf hst _ q hq0 hq h0) h0 (Nat.le_of_ble_eq_true rfl) rfl rfl rfl (Nat.le_of_ble_eq_true rfl) (by omega) (by omega) (fun v S9 hq => ?_)
  obtain ⟨rfl, rfl⟩ := hq
  refine ⟨fun h => ⟨h, rfl⟩, ?_⟩
  refine mm_astore_n [some (.ref 0), some (.int 1), some (.int q), some (.ref 197), none] dX11_many_5 (by decide) rfl rfl ?_
  refine mm_aload_n dX11_many_6 rfl rfl ?_
  refine mm_ifnull (r := some 197) 19 dX11_many_7 (by decide) (fun h => absurd h (by simp)) (fun _ => ?_)
  refine mm_iload_n dX11_many_10 rfl ?_
  refine mm_if_lt 19 dX11_many_11 (by decide) (fun h => absurd h hq0) (fun _ => ?_)
  refine mm_iload_n dX11_many_14 rfl ?_
  refine mm_iconst (v := 2) dX11_many_15 (by decide) ?_
  refine mm_icmp_le 29 dX11_many_16 (by decide) (fun h => absurd h (Int32.not_le.mpr hq)) (fun _ => ?_)
  refine mm_throw (k := 6) (text := "no such schema, or no such question") (by decide) kC_X11_67 wj_IllegalArgumentException rfl at_71 rfl dX11_many_19 dX11_many_22 dX11_many_23 dX11_many_25 dX11_many_28 (Nat.le_of_ble_eq_true rfl) (by omega) (by omega) ?_
  exact ⟨rfl, rfl, fun x hx => rfl⟩

set_option maxHeartbeats 4000000 in
set_option maxRecDepth 100000 in
theorem k140_X11_compilerOf {g : mm_G} {l : Launch} (hst : l.stackTraces = false) {d : Nat} (M : Nat → mm_C) (p : Int32) (hp0 : ¬ p = 0) (hp1 : ¬ p = 1) (q : Int32) : mm_Cm g l yX11_compilerOf (.code yX11_compilerOf cX11_compilerOf 2 (some (.object "ProtoDesk$Compiler"))) d 0 0 [.ref 0, .int p] (M, 1186, false) (fun v S' => v = some (.null) ∧ S' = (M, 1186, false)) := by
  refine mm_Cm_of hst (by decide) (Nat.le_of_ble_eq_true rfl) ?_
  show mm_V g l RX11 "compilerOf" cX11_compilerOf 2 (some (.object "ProtoDesk$Compiler")) [] d 0 0 _ 0 [some (.ref 0), some (.int p)] [] (M, 1186, false) 0 0
  refine mm_iload_n dX11_compilerOf_0 rfl ?_
  refine mm_if_ne 11 dX11_compilerOf_1 (by decide) (fun _ => ?_) (fun h => absurd h hp0)
  refine mm_iload_n dX11_compilerOf_11 rfl ?_
  refine mm_iconst (v := 1) dX11_compilerOf_12 (by decide) ?_
  refine mm_icmp_ne 23 dX11_compilerOf_13 (by decide) (fun _ => ?_) (fun h => absurd h hp1)
  refine mm_null dX11_compilerOf_23 ?_
  refine mm_aret (a := none) dX11_compilerOf_24 rfl ?_ (by omega) (by omega)
  exact ⟨rfl, rfl⟩

set_option maxHeartbeats 4000000 in
set_option maxRecDepth 100000 in
theorem f_many_x {g : mm_G} {l : Launch} (hst : l.stackTraces = false) {d : Nat} (M : Nat → mm_C) (p : Int32) (hp0 : ¬ p = 0) (hp1 : ¬ p = 1) (q : Int32) (h0 : M 0 = .inr (11, [.ref 1, .ref 3, .ref 5, .ref 197, .ref 389, .ref 1094, .ref 1095, .ref 1097, .int (-1)])) : mm_Ct g l yX11_many (.code yX11_many cX11_many 5 (some .int)) (d + 1) 1 6 [.ref 0, .int p, .int q] (M, 1186, false) (fun r S' => r = .inr "java/lang/IllegalArgumentException" ∧ S'.2 = (1186, true) ∧ ∀ j, 1101 ≤ j → S'.1 j = M j) := by
  refine mm_Ct_of hst (by decide) (Nat.le_of_ble_eq_true rfl) ?_
  show mm_V g l RX11 "many" cX11_many 5 (some .int) [] (d + 1) 1 6 _ 0 [some (.ref 0), some (.int p), some (.int q), none, none] [] (M, 1186, false) 0 0
  refine mm_aload_n dX11_many_0 rfl rfl ?_
  refine mm_iload_n dX11_many_1 rfl ?_
  refine mm_callV3 (ci := 11) wM_X11_compilerOf kM_X11_86 wI_X11_compilerOf wS_X11_compilerOf dX11_many_2 (k140_X11_compilerOf hst _ p hp0 hp1 q ) h0 (Nat.le_of_ble_eq_true rfl) rfl rfl rfl (Nat.le_of_ble_eq_true rfl) (by omega) (by omega) (fun v S9 hq => ?_)
  obtain ⟨rfl, rfl⟩ := hq
  refine ⟨fun h => ⟨h, rfl⟩, ?_⟩
  refine mm_astore_n [some (.ref 0), some (.int p), some (.int q), some (.null), none] dX11_many_5 (by decide) rfl rfl ?_
  refine mm_aload_n dX11_many_6 rfl rfl ?_
  refine mm_ifnull (r := none) 19 dX11_many_7 (by decide) (fun _ => ?_) (fun h => absurd (by simp) h)
  refine mm_throw (k := 6) (text := "no such schema, or no such question") (by decide) kC_X11_67 wj_IllegalArgumentException rfl at_71 rfl dX11_many_19 dX11_many_22 dX11_many_23 dX11_many_25 dX11_many_28 (Nat.le_of_ble_eq_true rfl) (by omega) (by omega) ?_
  exact ⟨rfl, rfl, fun x hx => rfl⟩

set_option maxHeartbeats 4000000 in
set_option maxRecDepth 100000 in
theorem k143_X11_compilerOf {g : mm_G} {l : Launch} (hst : l.stackTraces = false) {d : Nat} (M : Nat → mm_C) (q1 q2 q3 : Int32) (h0 : M 0 = .inr (11, [.ref 1, .ref 3, .ref 5, .ref 197, .ref 389, .ref 1094, .ref 1095, .ref 1097, .int (-1)])) : mm_Cm g l yX11_compilerOf (.code yX11_compilerOf cX11_compilerOf 2 (some (.object "ProtoDesk$Compiler"))) d 0 0 [.ref 0, .int 0] (M, 1186, false) (fun v S' => v = some (.ref 5) ∧ S' = (M, 1186, false)) := by
  refine mm_Cm_of hst (by decide) (Nat.le_of_ble_eq_true rfl) ?_
  show mm_V g l RX11 "compilerOf" cX11_compilerOf 2 (some (.object "ProtoDesk$Compiler")) [] d 0 0 _ 0 [some (.ref 0), some (.int 0)] [] (M, 1186, false) 0 0
  refine mm_iload_n dX11_compilerOf_0 rfl ?_
  refine mm_if_ne 11 dX11_compilerOf_1 (by decide) (fun h => absurd (by decide) h) (fun _ => ?_)
  refine mm_aload_n dX11_compilerOf_4 rfl rfl ?_
  refine mm_get3 (ci := 11) in_X11 rfl (k := 2) (by decide) rfl kF_X11_24 dX11_compilerOf_5 h0 (Nat.le_of_ble_eq_true rfl) rfl ?_
  refine mm_goto 24 dX11_compilerOf_8 (by decide) ?_
  refine mm_aret (a := some 5) dX11_compilerOf_24 rfl ?_ (by omega) (by omega)
  exact ⟨rfl, rfl⟩

set_option maxHeartbeats 4000000 in
set_option maxRecDepth 100000 in
theorem k145_X2_schema {g : mm_G} {l : Launch} (hst : l.stackTraces = false) {d : Nat} (M : Nat → mm_C) (q1 q2 q3 : Int32) (h5 : M 5 = .inr (2, [.ref 6, .ref 191, .ref 196, .int 0, .int 0])) : mm_Cm g l yX2_schema (.code yX2_schema cX2_schema 1 (some (.object "ProtoDesk$Schema"))) d 0 0 [.ref 5] (M, 1186, false) (fun v S' => v = some (.ref 6) ∧ S' = (M, 1186, false)) := by
  refine mm_Cm_of hst (by decide) (Nat.le_of_ble_eq_true rfl) ?_
  show mm_V g l RX2 "schema" cX2_schema 1 (some (.object "ProtoDesk$Schema")) [] d 0 0 _ 0 [some (.ref 5)] [] (M, 1186, false) 0 0
  refine mm_aload_n dX2_schema_0 rfl rfl ?_
  refine mm_get3 (ci := 2) in_X2 rfl (k := 0) (by decide) rfl kF_X2_12 dX2_schema_1 h5 (Nat.le_of_ble_eq_true rfl) rfl ?_
  refine mm_aret (a := some 6) dX2_schema_4 rfl ?_ (by omega) (by omega)
  exact ⟨rfl, rfl⟩

set_option maxHeartbeats 4000000 in
set_option maxRecDepth 100000 in
theorem k147_X6_message {g : mm_G} {l : Launch} (hst : l.stackTraces = false) {d : Nat} (M : Nat → mm_C) (q1 q2 q3 : Int32) (h6 : M 6 = .inr (6, [.ref 7, .ref 9, .ref 190, .int 0, .int 0])) : mm_Cm g l yX6_message (.code yX6_message cX6_message 4 (some (.object "ProtoDesk$Item"))) d 0 0 [.ref 6, .int q1] (M, 1186, false) (fun v S' => v = some (.null) ∧ S' = (M, 1186, false)) := by
  refine mm_Cm_of hst (by decide) (Nat.le_of_ble_eq_true rfl) ?_
  show mm_V g l RX6 "message" cX6_message 4 (some (.object "ProtoDesk$Item")) [] d 0 0 _ 0 [some (.ref 6), some (.int q1), none, none] [] (M, 1186, false) 0 0
  refine mm_iconst (v := 0) dX6_message_0 (by decide) ?_
  refine mm_istore_n [some (.ref 6), some (.int q1), some (.int 0), none] dX6_message_1 (by decide) rfl ?_
  refine mm_iload_n dX6_message_2 rfl ?_
  refine mm_aload_n dX6_message_3 rfl rfl ?_
  refine mm_get3 (ci := 6) in_X6 rfl (k := 3) (by decide) rfl kF_X6_34 dX6_message_4 h6 (Nat.le_of_ble_eq_true rfl) rfl ?_
  refine mm_icmp_ge 43 dX6_message_7 (by decide) (fun _ => ?_) (fun h => absurd (by decide) h)
  refine mm_null dX6_message_43 ?_
  refine mm_aret (a := none) dX6_message_44 rfl ?_ (by omega) (by omega)
  exact ⟨rfl, rfl⟩

set_option maxHeartbeats 4000000 in
set_option maxRecDepth 100000 in
theorem k142_X11_messageOf {g : mm_G} {l : Launch} (hst : l.stackTraces = false) {d : Nat} (M : Nat → mm_C) (q1 q2 q3 : Int32) (h0 : M 0 = .inr (11, [.ref 1, .ref 3, .ref 5, .ref 197, .ref 389, .ref 1094, .ref 1095, .ref 1097, .int (-1)])) (h5 : M 5 = .inr (2, [.ref 6, .ref 191, .ref 196, .int 0, .int 0])) (h6 : M 6 = .inr (6, [.ref 7, .ref 9, .ref 190, .int 0, .int 0])) : mm_Cm g l yX11_messageOf (.code yX11_messageOf cX11_messageOf 4 (some (.object "ProtoDesk$Item"))) (d + 1) 0 0 [.ref 0, .int 0, .int q1] (M, 1186, false) (fun v S' => v = some (.null) ∧ S' = (M, 1186, false)) := by
  refine mm_Cm_of hst (by decide) (Nat.le_of_ble_eq_true rfl) ?_
  show mm_V g l RX11 "messageOf" cX11_messageOf 4 (some (.object "ProtoDesk$Item")) [] (d + 1) 0 0 _ 0 [some (.ref 0), some (.int 0), some (.int q1), none] [] (M, 1186, false) 0 0
  refine mm_aload_n dX11_messageOf_0 rfl rfl ?_
  refine mm_iload_n dX11_messageOf_1 rfl ?_
  refine mm_callV3 (ci := 11) wM_X11_compilerOf kM_X11_86 wI_X11_compilerOf wS_X11_compilerOf dX11_messageOf_2 (k143_X11_compilerOf hst _ q1 q2 q3 h0) h0 (Nat.le_of_ble_eq_true rfl) rfl rfl rfl (Nat.le_of_ble_eq_true rfl) (by omega) (by omega) (fun v S9 hq => ?_)
  obtain ⟨rfl, rfl⟩ := hq
  refine ⟨fun h => ⟨h, rfl⟩, ?_⟩
  refine mm_astore_n [some (.ref 0), some (.int 0), some (.int q1), some (.ref 5)] dX11_messageOf_5 (by decide) rfl rfl ?_
  refine mm_aload_n dX11_messageOf_6 rfl rfl ?_
  refine mm_ifnonnull (r := some 5) 14 dX11_messageOf_7 (by decide) (fun _ => ?_) (fun h => absurd h (by simp))
  refine mm_aload_n dX11_messageOf_14 rfl rfl ?_
  refine mm_callV3 (ci := 2) wM_X2_schema kM_X11_109 wI_X2_schema wS_X2_schema dX11_messageOf_15 (k145_X2_schema hst _ q1 q2 q3 h5) h5 (Nat.le_of_ble_eq_true rfl) rfl rfl rfl (Nat.le_of_ble_eq_true rfl) (by omega) (by omega) (fun v S9 hq => ?_)
  obtain ⟨rfl, rfl⟩ := hq
  refine ⟨fun h => ⟨h, rfl⟩, ?_⟩
  refine mm_iload_n dX11_messageOf_18 rfl ?_
  refine mm_callV3 (ci := 6) wM_X6_message kM_X11_193 wI_X6_message wS_X6_message dX11_messageOf_19 (k147_X6_message hst _ q1 q2 q3 h6) h6 (Nat.le_of_ble_eq_true rfl) rfl rfl rfl (Nat.le_of_ble_eq_true rfl) (by omega) (by omega) (fun v S9 hq => ?_)
  obtain ⟨rfl, rfl⟩ := hq
  refine ⟨fun h => ⟨h, rfl⟩, ?_⟩
  refine mm_aret (a := none) dX11_messageOf_22 rfl ?_ (by omega) (by omega)
  exact ⟨rfl, rfl⟩

set_option maxHeartbeats 4000000 in
set_option maxRecDepth 100000 in
theorem f_field_0 {g : mm_G} {l : Launch} (hst : l.stackTraces = false) {d : Nat} (M : Nat → mm_C) (q1 q2 q3 : Int32) (h0 : M 0 = .inr (11, [.ref 1, .ref 3, .ref 5, .ref 197, .ref 389, .ref 1094, .ref 1095, .ref 1097, .int (-1)])) (h5 : M 5 = .inr (2, [.ref 6, .ref 191, .ref 196, .int 0, .int 0])) (h6 : M 6 = .inr (6, [.ref 7, .ref 9, .ref 190, .int 0, .int 0])) : mm_Ct g l yX11_field (.code yX11_field cX11_field 7 (some .int)) (d + 2) 1 6 [.ref 0, .int 0, .int q1, .int q2, .int q3] (M, 1186, false) (fun r S' => r = .inr "java/lang/IllegalArgumentException" ∧ S'.2 = (1186, true) ∧ ∀ j, 1101 ≤ j → S'.1 j = M j) := by
  refine mm_Ct_of hst (by decide) (Nat.le_of_ble_eq_true rfl) ?_
  show mm_V g l RX11 "field" cX11_field 7 (some .int) [] (d + 2) 1 6 _ 0 [some (.ref 0), some (.int 0), some (.int q1), some (.int q2), some (.int q3), none, none] [] (M, 1186, false) 0 0
  refine mm_aload_n dX11_field_0 rfl rfl ?_
  refine mm_iload_n dX11_field_1 rfl ?_
  refine mm_iload_n dX11_field_2 rfl ?_
  refine mm_callV3 (ci := 11) wM_X11_messageOf kM_X11_119 wI_X11_messageOf wS_X11_messageOf dX11_field_3 (k142_X11_messageOf hst _ q1 q2 q3 h0 h5 h6) h0 (Nat.le_of_ble_eq_true rfl) rfl rfl rfl (Nat.le_of_ble_eq_true rfl) (by omega) (by omega) (fun v S9 hq => ?_)
  obtain ⟨rfl, rfl⟩ := hq
  refine ⟨fun h => ⟨h, rfl⟩, ?_⟩
  refine mm_astore [some (.ref 0), some (.int 0), some (.int q1), some (.int q2), some (.int q3), some (.null), none] dX11_field_6 (by decide) rfl rfl ?_
  refine mm_aload dX11_field_8 rfl rfl ?_
  refine mm_ifnonnull (r := none) 17 dX11_field_10 (by decide) (fun h => absurd (by simp) h) (fun _ => ?_)
  refine mm_null dX11_field_13 ?_
  refine mm_goto 23 dX11_field_14 (by decide) ?_
  refine mm_astore [some (.ref 0), some (.int 0), some (.int q1), some (.int q2), some (.int q3), some (.null), some (.null)] dX11_field_23 (by decide) rfl rfl ?_
  refine mm_aload dX11_field_25 rfl rfl ?_
  refine mm_ifnull (r := none) 41 dX11_field_27 (by decide) (fun _ => ?_) (fun h => absurd (by simp) h)
  refine mm_throw (k := 7) (text := "no such schema, message or field, or no such question") (by decide) kC_X11_67 wj_IllegalArgumentException rfl at_71 rfl dX11_field_41 dX11_field_44 dX11_field_45 dX11_field_47 dX11_field_50 (Nat.le_of_ble_eq_true rfl) (by omega) (by omega) ?_
  exact ⟨rfl, rfl, fun x hx => rfl⟩

set_option maxHeartbeats 4000000 in
set_option maxRecDepth 100000 in
theorem k151_X11_compilerOf {g : mm_G} {l : Launch} (hst : l.stackTraces = false) {d : Nat} (M : Nat → mm_C) (q1 q2 q3 : Int32) (h0 : M 0 = .inr (11, [.ref 1, .ref 3, .ref 5, .ref 197, .ref 389, .ref 1094, .ref 1095, .ref 1097, .int (-1)])) : mm_Cm g l yX11_compilerOf (.code yX11_compilerOf cX11_compilerOf 2 (some (.object "ProtoDesk$Compiler"))) d 0 0 [.ref 0, .int 1] (M, 1186, false) (fun v S' => v = some (.ref 197) ∧ S' = (M, 1186, false)) := by
  refine mm_Cm_of hst (by decide) (Nat.le_of_ble_eq_true rfl) ?_
  show mm_V g l RX11 "compilerOf" cX11_compilerOf 2 (some (.object "ProtoDesk$Compiler")) [] d 0 0 _ 0 [some (.ref 0), some (.int 1)] [] (M, 1186, false) 0 0
  refine mm_iload_n dX11_compilerOf_0 rfl ?_
  refine mm_if_ne 11 dX11_compilerOf_1 (by decide) (fun _ => ?_) (fun h => absurd h (by decide))
  refine mm_iload_n dX11_compilerOf_11 rfl ?_
  refine mm_iconst (v := 1) dX11_compilerOf_12 (by decide) ?_
  refine mm_icmp_ne 23 dX11_compilerOf_13 (by decide) (fun h => absurd (by decide) h) (fun _ => ?_)
  refine mm_aload_n dX11_compilerOf_16 rfl rfl ?_
  refine mm_get3 (ci := 11) in_X11 rfl (k := 3) (by decide) rfl kF_X11_28 dX11_compilerOf_17 h0 (Nat.le_of_ble_eq_true rfl) rfl ?_
  refine mm_goto 24 dX11_compilerOf_20 (by decide) ?_
  refine mm_aret (a := some 197) dX11_compilerOf_24 rfl ?_ (by omega) (by omega)
  exact ⟨rfl, rfl⟩

set_option maxHeartbeats 4000000 in
set_option maxRecDepth 100000 in
theorem k153_X2_schema {g : mm_G} {l : Launch} (hst : l.stackTraces = false) {d : Nat} (M : Nat → mm_C) (q1 q2 q3 : Int32) (h197 : M 197 = .inr (2, [.ref 198, .ref 383, .ref 388, .int 0, .int 0])) : mm_Cm g l yX2_schema (.code yX2_schema cX2_schema 1 (some (.object "ProtoDesk$Schema"))) d 0 0 [.ref 197] (M, 1186, false) (fun v S' => v = some (.ref 198) ∧ S' = (M, 1186, false)) := by
  refine mm_Cm_of hst (by decide) (Nat.le_of_ble_eq_true rfl) ?_
  show mm_V g l RX2 "schema" cX2_schema 1 (some (.object "ProtoDesk$Schema")) [] d 0 0 _ 0 [some (.ref 197)] [] (M, 1186, false) 0 0
  refine mm_aload_n dX2_schema_0 rfl rfl ?_
  refine mm_get3 (ci := 2) in_X2 rfl (k := 0) (by decide) rfl kF_X2_12 dX2_schema_1 h197 (Nat.le_of_ble_eq_true rfl) rfl ?_
  refine mm_aret (a := some 198) dX2_schema_4 rfl ?_ (by omega) (by omega)
  exact ⟨rfl, rfl⟩

set_option maxHeartbeats 4000000 in
set_option maxRecDepth 100000 in
theorem k155_X6_message {g : mm_G} {l : Launch} (hst : l.stackTraces = false) {d : Nat} (M : Nat → mm_C) (q1 q2 q3 : Int32) (h198 : M 198 = .inr (6, [.ref 199, .ref 201, .ref 382, .int 0, .int 0])) : mm_Cm g l yX6_message (.code yX6_message cX6_message 4 (some (.object "ProtoDesk$Item"))) d 0 0 [.ref 198, .int q1] (M, 1186, false) (fun v S' => v = some (.null) ∧ S' = (M, 1186, false)) := by
  refine mm_Cm_of hst (by decide) (Nat.le_of_ble_eq_true rfl) ?_
  show mm_V g l RX6 "message" cX6_message 4 (some (.object "ProtoDesk$Item")) [] d 0 0 _ 0 [some (.ref 198), some (.int q1), none, none] [] (M, 1186, false) 0 0
  refine mm_iconst (v := 0) dX6_message_0 (by decide) ?_
  refine mm_istore_n [some (.ref 198), some (.int q1), some (.int 0), none] dX6_message_1 (by decide) rfl ?_
  refine mm_iload_n dX6_message_2 rfl ?_
  refine mm_aload_n dX6_message_3 rfl rfl ?_
  refine mm_get3 (ci := 6) in_X6 rfl (k := 3) (by decide) rfl kF_X6_34 dX6_message_4 h198 (Nat.le_of_ble_eq_true rfl) rfl ?_
  refine mm_icmp_ge 43 dX6_message_7 (by decide) (fun _ => ?_) (fun h => absurd (by decide) h)
  refine mm_null dX6_message_43 ?_
  refine mm_aret (a := none) dX6_message_44 rfl ?_ (by omega) (by omega)
  exact ⟨rfl, rfl⟩

set_option maxHeartbeats 4000000 in
set_option maxRecDepth 100000 in
theorem k150_X11_messageOf {g : mm_G} {l : Launch} (hst : l.stackTraces = false) {d : Nat} (M : Nat → mm_C) (q1 q2 q3 : Int32) (h0 : M 0 = .inr (11, [.ref 1, .ref 3, .ref 5, .ref 197, .ref 389, .ref 1094, .ref 1095, .ref 1097, .int (-1)])) (h197 : M 197 = .inr (2, [.ref 198, .ref 383, .ref 388, .int 0, .int 0])) (h198 : M 198 = .inr (6, [.ref 199, .ref 201, .ref 382, .int 0, .int 0])) : mm_Cm g l yX11_messageOf (.code yX11_messageOf cX11_messageOf 4 (some (.object "ProtoDesk$Item"))) (d + 1) 0 0 [.ref 0, .int 1, .int q1] (M, 1186, false) (fun v S' => v = some (.null) ∧ S' = (M, 1186, false)) := by
  refine mm_Cm_of hst (by decide) (Nat.le_of_ble_eq_true rfl) ?_
  show mm_V g l RX11 "messageOf" cX11_messageOf 4 (some (.object "ProtoDesk$Item")) [] (d + 1) 0 0 _ 0 [some (.ref 0), some (.int 1), some (.int q1), none] [] (M, 1186, false) 0 0
  refine mm_aload_n dX11_messageOf_0 rfl rfl ?_
  refine mm_iload_n dX11_messageOf_1 rfl ?_
  refine mm_callV3 (ci := 11) wM_X11_compilerOf kM_X11_86 wI_X11_compilerOf wS_X11_compilerOf dX11_messageOf_2 (k151_X11_compilerOf hst _ q1 q2 q3 h0) h0 (Nat.le_of_ble_eq_true rfl) rfl rfl rfl (Nat.le_of_ble_eq_true rfl) (by omega) (by omega) (fun v S9 hq => ?_)
  obtain ⟨rfl, rfl⟩ := hq
  refine ⟨fun h => ⟨h, rfl⟩, ?_⟩
  refine mm_astore_n [some (.ref 0), some (.int 1), some (.int q1), some (.ref 197)] dX11_messageOf_5 (by decide) rfl rfl ?_
  refine mm_aload_n dX11_messageOf_6 rfl rfl ?_
  refine mm_ifnonnull (r := some 197) 14 dX11_messageOf_7 (by decide) (fun _ => ?_) (fun h => absurd h (by simp))
  refine mm_aload_n dX11_messageOf_14 rfl rfl ?_
  refine mm_callV3 (ci := 2) wM_X2_schema kM_X11_109 wI_X2_schema wS_X2_schema dX11_messageOf_15 (k153_X2_schema hst _ q1 q2 q3 h197) h197 (Nat.le_of_ble_eq_true rfl) rfl rfl rfl (Nat.le_of_ble_eq_true rfl) (by omega) (by omega) (fun v S9 hq => ?_)
  obtain ⟨rfl, rfl⟩ := hq
  refine ⟨fun h => ⟨h, rfl⟩, ?_⟩
  refine mm_iload_n dX11_messageOf_18 rfl ?_
  refine mm_callV3 (ci := 6) wM_X6_message kM_X11_193 wI_X6_message wS_X6_message dX11_messageOf_19 (k155_X6_message hst _ q1 q2 q3 h198) h198 (Nat.le_of_ble_eq_true rfl) rfl rfl rfl (Nat.le_of_ble_eq_true rfl) (by omega) (by omega) (fun v S9 hq => ?_)
  obtain ⟨rfl, rfl⟩ := hq
  refine ⟨fun h => ⟨h, rfl⟩, ?_⟩
  refine mm_aret (a := none) dX11_messageOf_22 rfl ?_ (by omega) (by omega)
  exact ⟨rfl, rfl⟩

set_option maxHeartbeats 4000000 in
set_option maxRecDepth 100000 in
theorem f_field_1 {g : mm_G} {l : Launch} (hst : l.stackTraces = false) {d : Nat} (M : Nat → mm_C) (q1 q2 q3 : Int32) (h0 : M 0 = .inr (11, [.ref 1, .ref 3, .ref 5, .ref 197, .ref 389, .ref 1094, .ref 1095, .ref 1097, .int (-1)])) (h197 : M 197 = .inr (2, [.ref 198, .ref 383, .ref 388, .int 0, .int 0])) (h198 : M 198 = .inr (6, [.ref 199, .ref 201, .ref 382, .int 0, .int 0])) : mm_Ct g l yX11_field (.code yX11_field cX11_field 7 (some .int)) (d + 2) 1 6 [.ref 0, .int 1, .int q1, .int q2, .int q3] (M, 1186, false) (fun r S' => r = .inr "java/lang/IllegalArgumentException" ∧ S'.2 = (1186, true) ∧ ∀ j, 1101 ≤ j → S'.1 j = M j) := by
  refine mm_Ct_of hst (by decide) (Nat.le_of_ble_eq_true rfl) ?_
  show mm_V g l RX11 "field" cX11_field 7 (some .int) [] (d + 2) 1 6 _ 0 [some (.ref 0), some (.int 1), some (.int q1), some (.int q2), some (.int q3), none, none] [] (M, 1186, false) 0 0
  refine mm_aload_n dX11_field_0 rfl rfl ?_
  refine mm_iload_n dX11_field_1 rfl ?_
  refine mm_iload_n dX11_field_2 rfl ?_
  refine mm_callV3 (ci := 11) wM_X11_messageOf kM_X11_119 wI_X11_messageOf wS_X11_messageOf dX11_field_3 (k150_X11_messageOf hst _ q1 q2 q3 h0 h197 h198) h0 (Nat.le_of_ble_eq_true rfl) rfl rfl rfl (Nat.le_of_ble_eq_true rfl) (by omega) (by omega) (fun v S9 hq => ?_)
  obtain ⟨rfl, rfl⟩ := hq
  refine ⟨fun h => ⟨h, rfl⟩, ?_⟩
  refine mm_astore [some (.ref 0), some (.int 1), some (.int q1), some (.int q2), some (.int q3), some (.null), none] dX11_field_6 (by decide) rfl rfl ?_
  refine mm_aload dX11_field_8 rfl rfl ?_
  refine mm_ifnonnull (r := none) 17 dX11_field_10 (by decide) (fun h => absurd (by simp) h) (fun _ => ?_)
  refine mm_null dX11_field_13 ?_
  refine mm_goto 23 dX11_field_14 (by decide) ?_
  refine mm_astore [some (.ref 0), some (.int 1), some (.int q1), some (.int q2), some (.int q3), some (.null), some (.null)] dX11_field_23 (by decide) rfl rfl ?_
  refine mm_aload dX11_field_25 rfl rfl ?_
  refine mm_ifnull (r := none) 41 dX11_field_27 (by decide) (fun _ => ?_) (fun h => absurd (by simp) h)
  refine mm_throw (k := 7) (text := "no such schema, message or field, or no such question") (by decide) kC_X11_67 wj_IllegalArgumentException rfl at_71 rfl dX11_field_41 dX11_field_44 dX11_field_45 dX11_field_47 dX11_field_50 (Nat.le_of_ble_eq_true rfl) (by omega) (by omega) ?_
  exact ⟨rfl, rfl, fun x hx => rfl⟩

set_option maxHeartbeats 4000000 in
set_option maxRecDepth 100000 in
theorem k159_X11_compilerOf {g : mm_G} {l : Launch} (hst : l.stackTraces = false) {d : Nat} (M : Nat → mm_C) (p : Int32) (hp0 : ¬ p = 0) (hp1 : ¬ p = 1) (q1 q2 q3 : Int32) : mm_Cm g l yX11_compilerOf (.code yX11_compilerOf cX11_compilerOf 2 (some (.object "ProtoDesk$Compiler"))) d 0 0 [.ref 0, .int p] (M, 1186, false) (fun v S' => v = some (.null) ∧ S' = (M, 1186, false)) := by
  refine mm_Cm_of hst (by decide) (Nat.le_of_ble_eq_true rfl) ?_
  show mm_V g l RX11 "compilerOf" cX11_compilerOf 2 (some (.object "ProtoDesk$Compiler")) [] d 0 0 _ 0 [some (.ref 0), some (.int p)] [] (M, 1186, false) 0 0
  refine mm_iload_n dX11_compilerOf_0 rfl ?_
  refine mm_if_ne 11 dX11_compilerOf_1 (by decide) (fun _ => ?_) (fun h => absurd h hp0)
  refine mm_iload_n dX11_compilerOf_11 rfl ?_
  refine mm_iconst (v := 1) dX11_compilerOf_12 (by decide) ?_
  refine mm_icmp_ne 23 dX11_compilerOf_13 (by decide) (fun _ => ?_) (fun h => absurd h hp1)
  refine mm_null dX11_compilerOf_23 ?_
  refine mm_aret (a := none) dX11_compilerOf_24 rfl ?_ (by omega) (by omega)
  exact ⟨rfl, rfl⟩

set_option maxHeartbeats 4000000 in
set_option maxRecDepth 100000 in
theorem k158_X11_messageOf {g : mm_G} {l : Launch} (hst : l.stackTraces = false) {d : Nat} (M : Nat → mm_C) (p : Int32) (hp0 : ¬ p = 0) (hp1 : ¬ p = 1) (q1 q2 q3 : Int32) (h0 : M 0 = .inr (11, [.ref 1, .ref 3, .ref 5, .ref 197, .ref 389, .ref 1094, .ref 1095, .ref 1097, .int (-1)])) : mm_Cm g l yX11_messageOf (.code yX11_messageOf cX11_messageOf 4 (some (.object "ProtoDesk$Item"))) (d + 1) 0 0 [.ref 0, .int p, .int q1] (M, 1186, false) (fun v S' => v = some (.null) ∧ S' = (M, 1186, false)) := by
  refine mm_Cm_of hst (by decide) (Nat.le_of_ble_eq_true rfl) ?_
  show mm_V g l RX11 "messageOf" cX11_messageOf 4 (some (.object "ProtoDesk$Item")) [] (d + 1) 0 0 _ 0 [some (.ref 0), some (.int p), some (.int q1), none] [] (M, 1186, false) 0 0
  refine mm_aload_n dX11_messageOf_0 rfl rfl ?_
  refine mm_iload_n dX11_messageOf_1 rfl ?_
  refine mm_callV3 (ci := 11) wM_X11_compilerOf kM_X11_86 wI_X11_compilerOf wS_X11_compilerOf dX11_messageOf_2 (k159_X11_compilerOf hst _ p hp0 hp1 q1 q2 q3 ) h0 (Nat.le_of_ble_eq_true rfl) rfl rfl rfl (Nat.le_of_ble_eq_true rfl) (by omega) (by omega) (fun v S9 hq => ?_)
  obtain ⟨rfl, rfl⟩ := hq
  refine ⟨fun h => ⟨h, rfl⟩, ?_⟩
  refine mm_astore_n [some (.ref 0), some (.int p), some (.int q1), some (.null)] dX11_messageOf_5 (by decide) rfl rfl ?_
  refine mm_aload_n dX11_messageOf_6 rfl rfl ?_
  refine mm_ifnonnull (r := none) 14 dX11_messageOf_7 (by decide) (fun h => absurd (by simp) h) (fun _ => ?_)
  refine mm_null dX11_messageOf_10 ?_
  refine mm_goto 22 dX11_messageOf_11 (by decide) ?_
  refine mm_aret (a := none) dX11_messageOf_22 rfl ?_ (by omega) (by omega)
  exact ⟨rfl, rfl⟩

set_option maxHeartbeats 4000000 in
set_option maxRecDepth 100000 in
theorem f_field_x {g : mm_G} {l : Launch} (hst : l.stackTraces = false) {d : Nat} (M : Nat → mm_C) (p : Int32) (hp0 : ¬ p = 0) (hp1 : ¬ p = 1) (q1 q2 q3 : Int32) (h0 : M 0 = .inr (11, [.ref 1, .ref 3, .ref 5, .ref 197, .ref 389, .ref 1094, .ref 1095, .ref 1097, .int (-1)])) : mm_Ct g l yX11_field (.code yX11_field cX11_field 7 (some .int)) (d + 2) 1 6 [.ref 0, .int p, .int q1, .int q2, .int q3] (M, 1186, false) (fun r S' => r = .inr "java/lang/IllegalArgumentException" ∧ S'.2 = (1186, true) ∧ ∀ j, 1101 ≤ j → S'.1 j = M j) := by
  refine mm_Ct_of hst (by decide) (Nat.le_of_ble_eq_true rfl) ?_
  show mm_V g l RX11 "field" cX11_field 7 (some .int) [] (d + 2) 1 6 _ 0 [some (.ref 0), some (.int p), some (.int q1), some (.int q2), some (.int q3), none, none] [] (M, 1186, false) 0 0
  refine mm_aload_n dX11_field_0 rfl rfl ?_
  refine mm_iload_n dX11_field_1 rfl ?_
  refine mm_iload_n dX11_field_2 rfl ?_
  refine mm_callV3 (ci := 11) wM_X11_messageOf kM_X11_119 wI_X11_messageOf wS_X11_messageOf dX11_field_3 (k158_X11_messageOf hst _ p hp0 hp1 q1 q2 q3 h0) h0 (Nat.le_of_ble_eq_true rfl) rfl rfl rfl (Nat.le_of_ble_eq_true rfl) (by omega) (by omega) (fun v S9 hq => ?_)
  obtain ⟨rfl, rfl⟩ := hq
  refine ⟨fun h => ⟨h, rfl⟩, ?_⟩
  refine mm_astore [some (.ref 0), some (.int p), some (.int q1), some (.int q2), some (.int q3), some (.null), none] dX11_field_6 (by decide) rfl rfl ?_
  refine mm_aload dX11_field_8 rfl rfl ?_
  refine mm_ifnonnull (r := none) 17 dX11_field_10 (by decide) (fun h => absurd (by simp) h) (fun _ => ?_)
  refine mm_null dX11_field_13 ?_
  refine mm_goto 23 dX11_field_14 (by decide) ?_
  refine mm_astore [some (.ref 0), some (.int p), some (.int q1), some (.int q2), some (.int q3), some (.null), some (.null)] dX11_field_23 (by decide) rfl rfl ?_
  refine mm_aload dX11_field_25 rfl rfl ?_
  refine mm_ifnull (r := none) 41 dX11_field_27 (by decide) (fun _ => ?_) (fun h => absurd (by simp) h)
  refine mm_throw (k := 7) (text := "no such schema, message or field, or no such question") (by decide) kC_X11_67 wj_IllegalArgumentException rfl at_71 rfl dX11_field_41 dX11_field_44 dX11_field_45 dX11_field_47 dX11_field_50 (Nat.le_of_ble_eq_true rfl) (by omega) (by omega) ?_
  exact ⟨rfl, rfl, fun x hx => rfl⟩

set_option maxHeartbeats 4000000 in
set_option maxRecDepth 100000 in
theorem k164_X6_numberOf {g : mm_G} {l : Launch} (hst : l.stackTraces = false) {d : Nat} (M : Nat → mm_C) (h6 : M 6 = .inr (6, [.ref 7, .ref 9, .ref 190, .int 0, .int 0])) : mm_Cm g l yX6_numberOf (.code yX6_numberOf cX6_numberOf 4 (some .int)) d 0 0 [.ref 6, .ref 1] (M, 1186, false) (fun v S' => v = some (.int (-1)) ∧ S' = (M, 1186, false)) := by
  refine mm_Cm_of hst (by decide) (Nat.le_of_ble_eq_true rfl) ?_
  show mm_V g l RX6 "numberOf" cX6_numberOf 4 (some .int) [] d 0 0 _ 0 [some (.ref 6), some (.ref 1), none, none] [] (M, 1186, false) 0 0
  refine mm_iconst (v := 0) dX6_numberOf_0 (by decide) ?_
  refine mm_istore_n [some (.ref 6), some (.ref 1), some (.int 0), none] dX6_numberOf_1 (by decide) rfl ?_
  refine mm_iload_n dX6_numberOf_2 rfl ?_
  refine mm_aload_n dX6_numberOf_3 rfl rfl ?_
  refine mm_get3 (ci := 6) in_X6 rfl (k := 3) (by decide) rfl kF_X6_34 dX6_numberOf_4 h6 (Nat.le_of_ble_eq_true rfl) rfl ?_
  refine mm_icmp_ge 67 dX6_numberOf_7 (by decide) (fun _ => ?_) (fun h => absurd (by decide) h)
  refine mm_iconst (v := (-1)) dX6_numberOf_67 (by decide) ?_
  refine mm_iret dX6_numberOf_68 rfl rfl ?_ (by omega) (by omega)
  exact ⟨rfl, rfl⟩

set_option maxHeartbeats 4000000 in
set_option maxRecDepth 100000 in
theorem f_find_0 {g : mm_G} {l : Launch} (hst : l.stackTraces = false) {d : Nat} (M : Nat → mm_C) (h0 : M 0 = .inr (11, [.ref 1, .ref 3, .ref 5, .ref 197, .ref 389, .ref 1094, .ref 1095, .ref 1097, .int (-1)])) (h1 : M 1 = .inr (0, [.ref 2, .int 0, .int 0])) (h5 : M 5 = .inr (2, [.ref 6, .ref 191, .ref 196, .int 0, .int 0])) (h6 : M 6 = .inr (6, [.ref 7, .ref 9, .ref 190, .int 0, .int 0])) : mm_Ct g l yX11_find (.code yX11_find cX11_find 4 (some .int)) (d + 1) 0 0 [.ref 0, .int 0] (M, 1186, false) (fun r S' => r = .inl (some (.int (-1))) ∧ S'.2 = (1186, false) ∧ ∀ j, 1101 ≤ j → S'.1 j = M j) := by
  refine mm_Ct_of hst (by decide) (Nat.le_of_ble_eq_true rfl) ?_
  show mm_V g l RX11 "find" cX11_find 4 (some .int) [] (d + 1) 0 0 _ 0 [some (.ref 0), some (.int 0), none, none] [] (M, 1186, false) 0 0
  refine mm_aload_n dX11_find_0 rfl rfl ?_
  refine mm_iload_n dX11_find_1 rfl ?_
  refine mm_callV3 (ci := 11) wM_X11_compilerOf kM_X11_86 wI_X11_compilerOf wS_X11_compilerOf dX11_find_2 (k1_X11_compilerOf hst _  h0) h0 (Nat.le_of_ble_eq_true rfl) rfl rfl rfl (Nat.le_of_ble_eq_true rfl) (by omega) (by omega) (fun v S9 hq => ?_)
  obtain ⟨rfl, rfl⟩ := hq
  refine ⟨fun h => ⟨h, rfl⟩, ?_⟩
  refine mm_astore_n [some (.ref 0), some (.int 0), some (.ref 5), none] dX11_find_5 (by decide) rfl rfl ?_
  refine mm_aload_n dX11_find_6 rfl rfl ?_
  refine mm_ifnonnull (r := some 5) 14 dX11_find_7 (by decide) (fun _ => ?_) (fun h => absurd h (by simp))
  refine mm_aload_n dX11_find_14 rfl rfl ?_
  refine mm_callV3 (ci := 2) wM_X2_schema kM_X11_109 wI_X2_schema wS_X2_schema dX11_find_15 (k107_X2_schema hst _  h5) h5 (Nat.le_of_ble_eq_true rfl) rfl rfl rfl (Nat.le_of_ble_eq_true rfl) (by omega) (by omega) (fun v S9 hq => ?_)
  obtain ⟨rfl, rfl⟩ := hq
  refine ⟨fun h => ⟨h, rfl⟩, ?_⟩
  refine mm_aload_n dX11_find_18 rfl rfl ?_
  refine mm_get3 (ci := 11) in_X11 rfl (k := 0) (by decide) rfl kF_X11_14 dX11_find_19 h0 (Nat.le_of_ble_eq_true rfl) rfl ?_
  refine mm_callV3 (ci := 6) wM_X6_numberOf kM_X11_159 wI_X6_numberOf wS_X6_numberOf dX11_find_22 (k164_X6_numberOf hst _  h6) h6 (Nat.le_of_ble_eq_true rfl) rfl rfl rfl (Nat.le_of_ble_eq_true rfl) (by omega) (by omega) (fun v S9 hq => ?_)
  obtain ⟨rfl, rfl⟩ := hq
  refine ⟨fun h => ⟨h, rfl⟩, ?_⟩
  refine mm_istore_n [some (.ref 0), some (.int 0), some (.ref 5), some (.int (-1))] dX11_find_25 (by decide) rfl ?_
  refine mm_aload_n dX11_find_26 rfl rfl ?_
  refine mm_get3 (ci := 11) in_X11 rfl (k := 0) (by decide) rfl kF_X11_14 dX11_find_27 h0 (Nat.le_of_ble_eq_true rfl) rfl ?_
  refine mm_callV3 (ci := 0) wM_X0_clear kM_X11_99 wI_X0_clear wS_X0_clear dX11_find_30 (k52_X0_clear hst _  h1) h1 (Nat.le_of_ble_eq_true rfl) rfl rfl rfl (Nat.le_of_ble_eq_true rfl) (by omega) (by omega) (fun v S9 hq => ?_)
  obtain ⟨M166, z166⟩ := S9
  obtain ⟨rfl, hz166, g166_1, g166_F⟩ := hq
  cases hz166
  refine ⟨fun h => ⟨h, rfl⟩, ?_⟩
  refine mm_aload_n dX11_find_33 rfl rfl ?_
  refine mm_ifnonnull (r := some 5) 47 dX11_find_34 (by decide) (fun _ => ?_) (fun h => absurd h (by simp))
  refine mm_iload_n dX11_find_47 rfl ?_
  refine mm_iret dX11_find_48 rfl rfl ?_ (by omega) (by omega)
  refine ⟨rfl, rfl, fun x hx => ?_⟩
  dsimp only
  exact mm_frN (g166_F _ (by omega) ) (rfl)

set_option maxHeartbeats 4000000 in
set_option maxRecDepth 100000 in
theorem k169_X6_numberOf {g : mm_G} {l : Launch} (hst : l.stackTraces = false) {d : Nat} (M : Nat → mm_C) (h198 : M 198 = .inr (6, [.ref 199, .ref 201, .ref 382, .int 0, .int 0])) : mm_Cm g l yX6_numberOf (.code yX6_numberOf cX6_numberOf 4 (some .int)) d 0 0 [.ref 198, .ref 1] (M, 1186, false) (fun v S' => v = some (.int (-1)) ∧ S' = (M, 1186, false)) := by
  refine mm_Cm_of hst (by decide) (Nat.le_of_ble_eq_true rfl) ?_
  show mm_V g l RX6 "numberOf" cX6_numberOf 4 (some .int) [] d 0 0 _ 0 [some (.ref 198), some (.ref 1), none, none] [] (M, 1186, false) 0 0
  refine mm_iconst (v := 0) dX6_numberOf_0 (by decide) ?_
  refine mm_istore_n [some (.ref 198), some (.ref 1), some (.int 0), none] dX6_numberOf_1 (by decide) rfl ?_
  refine mm_iload_n dX6_numberOf_2 rfl ?_
  refine mm_aload_n dX6_numberOf_3 rfl rfl ?_
  refine mm_get3 (ci := 6) in_X6 rfl (k := 3) (by decide) rfl kF_X6_34 dX6_numberOf_4 h198 (Nat.le_of_ble_eq_true rfl) rfl ?_
  refine mm_icmp_ge 67 dX6_numberOf_7 (by decide) (fun _ => ?_) (fun h => absurd (by decide) h)
  refine mm_iconst (v := (-1)) dX6_numberOf_67 (by decide) ?_
  refine mm_iret dX6_numberOf_68 rfl rfl ?_ (by omega) (by omega)
  exact ⟨rfl, rfl⟩

set_option maxHeartbeats 4000000 in
set_option maxRecDepth 100000 in
theorem f_find_1 {g : mm_G} {l : Launch} (hst : l.stackTraces = false) {d : Nat} (M : Nat → mm_C) (h0 : M 0 = .inr (11, [.ref 1, .ref 3, .ref 5, .ref 197, .ref 389, .ref 1094, .ref 1095, .ref 1097, .int (-1)])) (h1 : M 1 = .inr (0, [.ref 2, .int 0, .int 0])) (h197 : M 197 = .inr (2, [.ref 198, .ref 383, .ref 388, .int 0, .int 0])) (h198 : M 198 = .inr (6, [.ref 199, .ref 201, .ref 382, .int 0, .int 0])) : mm_Ct g l yX11_find (.code yX11_find cX11_find 4 (some .int)) (d + 1) 0 0 [.ref 0, .int 1] (M, 1186, false) (fun r S' => r = .inl (some (.int (-1))) ∧ S'.2 = (1186, false) ∧ ∀ j, 1101 ≤ j → S'.1 j = M j) := by
  refine mm_Ct_of hst (by decide) (Nat.le_of_ble_eq_true rfl) ?_
  show mm_V g l RX11 "find" cX11_find 4 (some .int) [] (d + 1) 0 0 _ 0 [some (.ref 0), some (.int 1), none, none] [] (M, 1186, false) 0 0
  refine mm_aload_n dX11_find_0 rfl rfl ?_
  refine mm_iload_n dX11_find_1 rfl ?_
  refine mm_callV3 (ci := 11) wM_X11_compilerOf kM_X11_86 wI_X11_compilerOf wS_X11_compilerOf dX11_find_2 (k56_X11_compilerOf hst _  h0) h0 (Nat.le_of_ble_eq_true rfl) rfl rfl rfl (Nat.le_of_ble_eq_true rfl) (by omega) (by omega) (fun v S9 hq => ?_)
  obtain ⟨rfl, rfl⟩ := hq
  refine ⟨fun h => ⟨h, rfl⟩, ?_⟩
  refine mm_astore_n [some (.ref 0), some (.int 1), some (.ref 197), none] dX11_find_5 (by decide) rfl rfl ?_
  refine mm_aload_n dX11_find_6 rfl rfl ?_
  refine mm_ifnonnull (r := some 197) 14 dX11_find_7 (by decide) (fun _ => ?_) (fun h => absurd h (by simp))
  refine mm_aload_n dX11_find_14 rfl rfl ?_
  refine mm_callV3 (ci := 2) wM_X2_schema kM_X11_109 wI_X2_schema wS_X2_schema dX11_find_15 (k124_X2_schema hst _  h197) h197 (Nat.le_of_ble_eq_true rfl) rfl rfl rfl (Nat.le_of_ble_eq_true rfl) (by omega) (by omega) (fun v S9 hq => ?_)
  obtain ⟨rfl, rfl⟩ := hq
  refine ⟨fun h => ⟨h, rfl⟩, ?_⟩
  refine mm_aload_n dX11_find_18 rfl rfl ?_
  refine mm_get3 (ci := 11) in_X11 rfl (k := 0) (by decide) rfl kF_X11_14 dX11_find_19 h0 (Nat.le_of_ble_eq_true rfl) rfl ?_
  refine mm_callV3 (ci := 6) wM_X6_numberOf kM_X11_159 wI_X6_numberOf wS_X6_numberOf dX11_find_22 (k169_X6_numberOf hst _  h198) h198 (Nat.le_of_ble_eq_true rfl) rfl rfl rfl (Nat.le_of_ble_eq_true rfl) (by omega) (by omega) (fun v S9 hq => ?_)
  obtain ⟨rfl, rfl⟩ := hq
  refine ⟨fun h => ⟨h, rfl⟩, ?_⟩
  refine mm_istore_n [some (.ref 0), some (.int 1), some (.ref 197), some (.int (-1))] dX11_find_25 (by decide) rfl ?_
  refine mm_aload_n dX11_find_26 rfl rfl ?_
  refine mm_get3 (ci := 11) in_X11 rfl (k := 0) (by decide) rfl kF_X11_14 dX11_find_27 h0 (Nat.le_of_ble_eq_true rfl) rfl ?_
  refine mm_callV3 (ci := 0) wM_X0_clear kM_X11_99 wI_X0_clear wS_X0_clear dX11_find_30 (k52_X0_clear hst _  h1) h1 (Nat.le_of_ble_eq_true rfl) rfl rfl rfl (Nat.le_of_ble_eq_true rfl) (by omega) (by omega) (fun v S9 hq => ?_)
  obtain ⟨M171, z171⟩ := S9
  obtain ⟨rfl, hz171, g171_1, g171_F⟩ := hq
  cases hz171
  refine ⟨fun h => ⟨h, rfl⟩, ?_⟩
  refine mm_aload_n dX11_find_33 rfl rfl ?_
  refine mm_ifnonnull (r := some 197) 47 dX11_find_34 (by decide) (fun _ => ?_) (fun h => absurd h (by simp))
  refine mm_iload_n dX11_find_47 rfl ?_
  refine mm_iret dX11_find_48 rfl rfl ?_ (by omega) (by omega)
  refine ⟨rfl, rfl, fun x hx => ?_⟩
  dsimp only
  exact mm_frN (g171_F _ (by omega) ) (rfl)

set_option maxHeartbeats 4000000 in
set_option maxRecDepth 100000 in
theorem k172_X11_compilerOf {g : mm_G} {l : Launch} (hst : l.stackTraces = false) {d : Nat} (M : Nat → mm_C) (p : Int32) (hp0 : ¬ p = 0) (hp1 : ¬ p = 1) : mm_Cm g l yX11_compilerOf (.code yX11_compilerOf cX11_compilerOf 2 (some (.object "ProtoDesk$Compiler"))) d 0 0 [.ref 0, .int p] (M, 1186, false) (fun v S' => v = some (.null) ∧ S' = (M, 1186, false)) := by
  refine mm_Cm_of hst (by decide) (Nat.le_of_ble_eq_true rfl) ?_
  show mm_V g l RX11 "compilerOf" cX11_compilerOf 2 (some (.object "ProtoDesk$Compiler")) [] d 0 0 _ 0 [some (.ref 0), some (.int p)] [] (M, 1186, false) 0 0
  refine mm_iload_n dX11_compilerOf_0 rfl ?_
  refine mm_if_ne 11 dX11_compilerOf_1 (by decide) (fun _ => ?_) (fun h => absurd h hp0)
  refine mm_iload_n dX11_compilerOf_11 rfl ?_
  refine mm_iconst (v := 1) dX11_compilerOf_12 (by decide) ?_
  refine mm_icmp_ne 23 dX11_compilerOf_13 (by decide) (fun _ => ?_) (fun h => absurd h hp1)
  refine mm_null dX11_compilerOf_23 ?_
  refine mm_aret (a := none) dX11_compilerOf_24 rfl ?_ (by omega) (by omega)
  exact ⟨rfl, rfl⟩

set_option maxHeartbeats 4000000 in
set_option maxRecDepth 100000 in
theorem k174_X0_clear {g : mm_G} {l : Launch} (hst : l.stackTraces = false) {d : Nat} (M : Nat → mm_C) (p : Int32) (hp0 : ¬ p = 0) (hp1 : ¬ p = 1) (h1 : M 1 = .inr (0, [.ref 2, .int 0, .int 0])) : mm_Cm g l yX0_clear (.code yX0_clear cX0_clear 1 none) d 0 0 [.ref 1] (M, 1186, false) (fun v S' => v = none ∧ S'.2 = (1186, false) ∧ S'.1 1 = .inr (0, [.ref 2, .int 0, .int 0]) ∧ ∀ j, j ≠ 1 → S'.1 j = M j) := by
  refine mm_Cm_of hst (by decide) (Nat.le_of_ble_eq_true rfl) ?_
  show mm_V g l RX0 "clear" cX0_clear 1 none [] d 0 0 _ 0 [some (.ref 1)] [] (M, 1186, false) 0 0
  refine mm_aload_n dX0_clear_0 rfl rfl ?_
  refine mm_iconst (v := 0) dX0_clear_1 (by decide) ?_
  refine mm_put3 (ci := 0) (fs1 := [.ref 2, .int 0, .int 0]) in_X0 tyX0_ok nmX0 rfl (k := 1) (by decide) rfl rfl kF_X0_19 dX0_clear_2 (mm_fit_int _) h1 (Nat.le_of_ble_eq_true rfl) (Nat.le_of_ble_eq_true rfl) rfl ?_
  refine mm_aload_n dX0_clear_5 rfl rfl ?_
  refine mm_iconst (v := 0) dX0_clear_6 (by decide) ?_
  refine mm_put3 (ci := 0) (fs1 := [.ref 2, .int 0, .int 0]) in_X0 tyX0_ok nmX0 rfl (k := 2) (by decide) rfl rfl kF_X0_23 dX0_clear_7 mm_fit_z0 mm_up_s (Nat.le_of_ble_eq_true rfl) (Nat.le_of_ble_eq_true rfl) rfl ?_
  refine mm_vret dX0_clear_10 rfl ?_ (by omega) (by omega)
  refine ⟨rfl, rfl, ?_⟩
  dsimp only
  exact ⟨mm_up_s, fun x e1 => mm_upN e1 (mm_upN e1 (rfl))⟩

set_option maxHeartbeats 4000000 in
set_option maxRecDepth 100000 in
theorem f_find_x {g : mm_G} {l : Launch} (hst : l.stackTraces = false) {d : Nat} (M : Nat → mm_C) (p : Int32) (hp0 : ¬ p = 0) (hp1 : ¬ p = 1) (h0 : M 0 = .inr (11, [.ref 1, .ref 3, .ref 5, .ref 197, .ref 389, .ref 1094, .ref 1095, .ref 1097, .int (-1)])) (h1 : M 1 = .inr (0, [.ref 2, .int 0, .int 0])) : mm_Ct g l yX11_find (.code yX11_find cX11_find 4 (some .int)) (d + 1) 1 6 [.ref 0, .int p] (M, 1186, false) (fun r S' => r = .inr "java/lang/IllegalArgumentException" ∧ S'.2 = (1186, true) ∧ ∀ j, 1101 ≤ j → S'.1 j = M j) := by
  refine mm_Ct_of hst (by decide) (Nat.le_of_ble_eq_true rfl) ?_
  show mm_V g l RX11 "find" cX11_find 4 (some .int) [] (d + 1) 1 6 _ 0 [some (.ref 0), some (.int p), none, none] [] (M, 1186, false) 0 0
  refine mm_aload_n dX11_find_0 rfl rfl ?_
  refine mm_iload_n dX11_find_1 rfl ?_
  refine mm_callV3 (ci := 11) wM_X11_compilerOf kM_X11_86 wI_X11_compilerOf wS_X11_compilerOf dX11_find_2 (k172_X11_compilerOf hst _ p hp0 hp1 ) h0 (Nat.le_of_ble_eq_true rfl) rfl rfl rfl (Nat.le_of_ble_eq_true rfl) (by omega) (by omega) (fun v S9 hq => ?_)
  obtain ⟨rfl, rfl⟩ := hq
  refine ⟨fun h => ⟨h, rfl⟩, ?_⟩
  refine mm_astore_n [some (.ref 0), some (.int p), some (.null), none] dX11_find_5 (by decide) rfl rfl ?_
  refine mm_aload_n dX11_find_6 rfl rfl ?_
  refine mm_ifnonnull (r := none) 14 dX11_find_7 (by decide) (fun h => absurd (by simp) h) (fun _ => ?_)
  refine mm_iconst (v := (-1)) dX11_find_10 (by decide) ?_
  refine mm_goto 25 dX11_find_11 (by decide) ?_
  refine mm_istore_n [some (.ref 0), some (.int p), some (.null), some (.int (-1))] dX11_find_25 (by decide) rfl ?_
  refine mm_aload_n dX11_find_26 rfl rfl ?_
  refine mm_get3 (ci := 11) in_X11 rfl (k := 0) (by decide) rfl kF_X11_14 dX11_find_27 h0 (Nat.le_of_ble_eq_true rfl) rfl ?_
  refine mm_callV3 (ci := 0) wM_X0_clear kM_X11_99 wI_X0_clear wS_X0_clear dX11_find_30 (k174_X0_clear hst _ p hp0 hp1 h1) h1 (Nat.le_of_ble_eq_true rfl) rfl rfl rfl (Nat.le_of_ble_eq_true rfl) (by omega) (by omega) (fun v S9 hq => ?_)
  obtain ⟨M175, z175⟩ := S9
  obtain ⟨rfl, hz175, g175_1, g175_F⟩ := hq
  cases hz175
  refine ⟨fun h => ⟨h, rfl⟩, ?_⟩
  refine mm_aload_n dX11_find_33 rfl rfl ?_
  refine mm_ifnonnull (r := none) 47 dX11_find_34 (by decide) (fun h => absurd (by simp) h) (fun _ => ?_)
  refine mm_throw (k := 2) (text := "no such schema") (by decide) kC_X11_67 wj_IllegalArgumentException rfl at_71 rfl dX11_find_37 dX11_find_40 dX11_find_41 dX11_find_43 dX11_find_46 (Nat.le_of_ble_eq_true rfl) (by omega) (by omega) ?_
  refine ⟨rfl, rfl, fun x hx => ?_⟩
  dsimp only
  exact mm_frN (g175_F _ (by omega) ) (rfl)

set_option maxHeartbeats 4000000 in
set_option maxRecDepth 100000 in
theorem k177_X11_compilerOf {g : mm_G} {l : Launch} (hst : l.stackTraces = false) {d : Nat} (M : Nat → mm_C) (q1 q2 : Int32) (h0 : M 0 = .inr (11, [.ref 1, .ref 3, .ref 5, .ref 197, .ref 389, .ref 1094, .ref 1095, .ref 1097, .int (-1)])) : mm_Cm g l yX11_compilerOf (.code yX11_compilerOf cX11_compilerOf 2 (some (.object "ProtoDesk$Compiler"))) d 0 0 [.ref 0, .int 0] (M, 1186, false) (fun v S' => v = some (.ref 5) ∧ S' = (M, 1186, false)) := by
  refine mm_Cm_of hst (by decide) (Nat.le_of_ble_eq_true rfl) ?_
  show mm_V g l RX11 "compilerOf" cX11_compilerOf 2 (some (.object "ProtoDesk$Compiler")) [] d 0 0 _ 0 [some (.ref 0), some (.int 0)] [] (M, 1186, false) 0 0
  refine mm_iload_n dX11_compilerOf_0 rfl ?_
  refine mm_if_ne 11 dX11_compilerOf_1 (by decide) (fun h => absurd (by decide) h) (fun _ => ?_)
  refine mm_aload_n dX11_compilerOf_4 rfl rfl ?_
  refine mm_get3 (ci := 11) in_X11 rfl (k := 2) (by decide) rfl kF_X11_24 dX11_compilerOf_5 h0 (Nat.le_of_ble_eq_true rfl) rfl ?_
  refine mm_goto 24 dX11_compilerOf_8 (by decide) ?_
  refine mm_aret (a := some 5) dX11_compilerOf_24 rfl ?_ (by omega) (by omega)
  exact ⟨rfl, rfl⟩

set_option maxHeartbeats 4000000 in
set_option maxRecDepth 100000 in
theorem k181_X2_schema {g : mm_G} {l : Launch} (hst : l.stackTraces = false) {d : Nat} (M : Nat → mm_C) (q1 q2 : Int32) (h5 : M 5 = .inr (2, [.ref 6, .ref 191, .ref 196, .int 0, .int 0])) : mm_Cm g l yX2_schema (.code yX2_schema cX2_schema 1 (some (.object "ProtoDesk$Schema"))) d 0 0 [.ref 5] (M, 1186, false) (fun v S' => v = some (.ref 6) ∧ S' = (M, 1186, false)) := by
  refine mm_Cm_of hst (by decide) (Nat.le_of_ble_eq_true rfl) ?_
  show mm_V g l RX2 "schema" cX2_schema 1 (some (.object "ProtoDesk$Schema")) [] d 0 0 _ 0 [some (.ref 5)] [] (M, 1186, false) 0 0
  refine mm_aload_n dX2_schema_0 rfl rfl ?_
  refine mm_get3 (ci := 2) in_X2 rfl (k := 0) (by decide) rfl kF_X2_12 dX2_schema_1 h5 (Nat.le_of_ble_eq_true rfl) rfl ?_
  refine mm_aret (a := some 6) dX2_schema_4 rfl ?_ (by omega) (by omega)
  exact ⟨rfl, rfl⟩

set_option maxHeartbeats 4000000 in
set_option maxRecDepth 100000 in
theorem k183_X6_message {g : mm_G} {l : Launch} (hst : l.stackTraces = false) {d : Nat} (M : Nat → mm_C) (q1 q2 : Int32) (h6 : M 6 = .inr (6, [.ref 7, .ref 9, .ref 190, .int 0, .int 0])) : mm_Cm g l yX6_message (.code yX6_message cX6_message 4 (some (.object "ProtoDesk$Item"))) d 0 0 [.ref 6, .int q1] (M, 1186, false) (fun v S' => v = some (.null) ∧ S' = (M, 1186, false)) := by
  refine mm_Cm_of hst (by decide) (Nat.le_of_ble_eq_true rfl) ?_
  show mm_V g l RX6 "message" cX6_message 4 (some (.object "ProtoDesk$Item")) [] d 0 0 _ 0 [some (.ref 6), some (.int q1), none, none] [] (M, 1186, false) 0 0
  refine mm_iconst (v := 0) dX6_message_0 (by decide) ?_
  refine mm_istore_n [some (.ref 6), some (.int q1), some (.int 0), none] dX6_message_1 (by decide) rfl ?_
  refine mm_iload_n dX6_message_2 rfl ?_
  refine mm_aload_n dX6_message_3 rfl rfl ?_
  refine mm_get3 (ci := 6) in_X6 rfl (k := 3) (by decide) rfl kF_X6_34 dX6_message_4 h6 (Nat.le_of_ble_eq_true rfl) rfl ?_
  refine mm_icmp_ge 43 dX6_message_7 (by decide) (fun _ => ?_) (fun h => absurd (by decide) h)
  refine mm_null dX6_message_43 ?_
  refine mm_aret (a := none) dX6_message_44 rfl ?_ (by omega) (by omega)
  exact ⟨rfl, rfl⟩

set_option maxHeartbeats 4000000 in
set_option maxRecDepth 100000 in
theorem k179_X11_messageOf {g : mm_G} {l : Launch} (hst : l.stackTraces = false) {d : Nat} (M : Nat → mm_C) (q1 q2 : Int32) (h0 : M 0 = .inr (11, [.ref 1, .ref 3, .ref 5, .ref 197, .ref 389, .ref 1094, .ref 1095, .ref 1097, .int (-1)])) (h5 : M 5 = .inr (2, [.ref 6, .ref 191, .ref 196, .int 0, .int 0])) (h6 : M 6 = .inr (6, [.ref 7, .ref 9, .ref 190, .int 0, .int 0])) : mm_Cm g l yX11_messageOf (.code yX11_messageOf cX11_messageOf 4 (some (.object "ProtoDesk$Item"))) (d + 1) 0 0 [.ref 0, .int 0, .int q1] (M, 1186, false) (fun v S' => v = some (.null) ∧ S' = (M, 1186, false)) := by
  refine mm_Cm_of hst (by decide) (Nat.le_of_ble_eq_true rfl) ?_
  show mm_V g l RX11 "messageOf" cX11_messageOf 4 (some (.object "ProtoDesk$Item")) [] (d + 1) 0 0 _ 0 [some (.ref 0), some (.int 0), some (.int q1), none] [] (M, 1186, false) 0 0
  refine mm_aload_n dX11_messageOf_0 rfl rfl ?_
  refine mm_iload_n dX11_messageOf_1 rfl ?_
  refine mm_callV3 (ci := 11) wM_X11_compilerOf kM_X11_86 wI_X11_compilerOf wS_X11_compilerOf dX11_messageOf_2 (k177_X11_compilerOf hst _ q1 q2 h0) h0 (Nat.le_of_ble_eq_true rfl) rfl rfl rfl (Nat.le_of_ble_eq_true rfl) (by omega) (by omega) (fun v S9 hq => ?_)
  obtain ⟨rfl, rfl⟩ := hq
  refine ⟨fun h => ⟨h, rfl⟩, ?_⟩
  refine mm_astore_n [some (.ref 0), some (.int 0), some (.int q1), some (.ref 5)] dX11_messageOf_5 (by decide) rfl rfl ?_
  refine mm_aload_n dX11_messageOf_6 rfl rfl ?_
  refine mm_ifnonnull (r := some 5) 14 dX11_messageOf_7 (by decide) (fun _ => ?_) (fun h => absurd h (by simp))
  refine mm_aload_n dX11_messageOf_14 rfl rfl ?_
  refine mm_callV3 (ci := 2) wM_X2_schema kM_X11_109 wI_X2_schema wS_X2_schema dX11_messageOf_15 (k181_X2_schema hst _ q1 q2 h5) h5 (Nat.le_of_ble_eq_true rfl) rfl rfl rfl (Nat.le_of_ble_eq_true rfl) (by omega) (by omega) (fun v S9 hq => ?_)
  obtain ⟨rfl, rfl⟩ := hq
  refine ⟨fun h => ⟨h, rfl⟩, ?_⟩
  refine mm_iload_n dX11_messageOf_18 rfl ?_
  refine mm_callV3 (ci := 6) wM_X6_message kM_X11_193 wI_X6_message wS_X6_message dX11_messageOf_19 (k183_X6_message hst _ q1 q2 h6) h6 (Nat.le_of_ble_eq_true rfl) rfl rfl rfl (Nat.le_of_ble_eq_true rfl) (by omega) (by omega) (fun v S9 hq => ?_)
  obtain ⟨rfl, rfl⟩ := hq
  refine ⟨fun h => ⟨h, rfl⟩, ?_⟩
  refine mm_aret (a := none) dX11_messageOf_22 rfl ?_ (by omega) (by omega)
  exact ⟨rfl, rfl⟩

set_option maxHeartbeats 4000000 in
set_option maxRecDepth 100000 in
theorem k176_X11_opens {g : mm_G} {l : Launch} (hst : l.stackTraces = false) {d : Nat} (M : Nat → mm_C) (q1 q2 : Int32) (h0 : M 0 = .inr (11, [.ref 1, .ref 3, .ref 5, .ref 197, .ref 389, .ref 1094, .ref 1095, .ref 1097, .int (-1)])) (h5 : M 5 = .inr (2, [.ref 6, .ref 191, .ref 196, .int 0, .int 0])) (h6 : M 6 = .inr (6, [.ref 7, .ref 9, .ref 190, .int 0, .int 0])) : mm_Cm g l yX11_opens (.code yX11_opens cX11_opens 6 (some .boolean)) (d + 2) 0 0 [.ref 0, .int 0, .int q1, .int q2] (M, 1186, false) (fun v S' => v = some (.int 0) ∧ S' = (M, 1186, false)) := by
  refine mm_Cm_of hst (by decide) (Nat.le_of_ble_eq_true rfl) ?_
  show mm_V g l RX11 "opens" cX11_opens 6 (some .boolean) [] (d + 2) 0 0 _ 0 [some (.ref 0), some (.int 0), some (.int q1), some (.int q2), none, none] [] (M, 1186, false) 0 0
  refine mm_aload_n dX11_opens_0 rfl rfl ?_
  refine mm_iload_n dX11_opens_1 rfl ?_
  refine mm_callV3 (ci := 11) wM_X11_compilerOf kM_X11_86 wI_X11_compilerOf wS_X11_compilerOf dX11_opens_2 (k177_X11_compilerOf hst _ q1 q2 h0) h0 (Nat.le_of_ble_eq_true rfl) rfl rfl rfl (Nat.le_of_ble_eq_true rfl) (by omega) (by omega) (fun v S9 hq => ?_)
  obtain ⟨rfl, rfl⟩ := hq
  refine ⟨fun h => ⟨h, rfl⟩, ?_⟩
  refine mm_astore [some (.ref 0), some (.int 0), some (.int q1), some (.int q2), some (.ref 5), none] dX11_opens_5 (by decide) rfl rfl ?_
  refine mm_aload_n dX11_opens_7 rfl rfl ?_
  refine mm_iload_n dX11_opens_8 rfl ?_
  refine mm_iload_n dX11_opens_9 rfl ?_
  refine mm_callV3 (ci := 11) wM_X11_messageOf kM_X11_119 wI_X11_messageOf wS_X11_messageOf dX11_opens_10 (k179_X11_messageOf hst _ q1 q2 h0 h5 h6) h0 (Nat.le_of_ble_eq_true rfl) rfl rfl rfl (Nat.le_of_ble_eq_true rfl) (by omega) (by omega) (fun v S9 hq => ?_)
  obtain ⟨rfl, rfl⟩ := hq
  refine ⟨fun h => ⟨h, rfl⟩, ?_⟩
  refine mm_astore [some (.ref 0), some (.int 0), some (.int q1), some (.int q2), some (.ref 5), some (.null)] dX11_opens_13 (by decide) rfl rfl ?_
  refine mm_aload dX11_opens_15 rfl rfl ?_
  refine mm_ifnull (r := some 5) 36 dX11_opens_17 (by decide) (fun h => absurd h (by simp)) (fun _ => ?_)
  refine mm_aload dX11_opens_20 rfl rfl ?_
  refine mm_ifnull (r := none) 36 dX11_opens_22 (by decide) (fun _ => ?_) (fun h => absurd (by simp) h)
  refine mm_iconst (v := 0) dX11_opens_36 (by decide) ?_
  refine mm_iret dX11_opens_37 rfl rfl ?_ (by omega) (by omega)
  exact ⟨rfl, rfl⟩

set_option maxHeartbeats 4000000 in
set_option maxRecDepth 100000 in
theorem k188_X0_clear {g : mm_G} {l : Launch} (hst : l.stackTraces = false) {d : Nat} (M : Nat → mm_C) (q1 q2 : Int32) (h1 : M 1 = .inr (0, [.ref 2, .int 0, .int 0])) : mm_Cm g l yX0_clear (.code yX0_clear cX0_clear 1 none) d 0 0 [.ref 1] (M, 1186, false) (fun v S' => v = none ∧ S'.2 = (1186, false) ∧ S'.1 1 = .inr (0, [.ref 2, .int 0, .int 0]) ∧ ∀ j, j ≠ 1 → S'.1 j = M j) := by
  refine mm_Cm_of hst (by decide) (Nat.le_of_ble_eq_true rfl) ?_
  show mm_V g l RX0 "clear" cX0_clear 1 none [] d 0 0 _ 0 [some (.ref 1)] [] (M, 1186, false) 0 0
  refine mm_aload_n dX0_clear_0 rfl rfl ?_
  refine mm_iconst (v := 0) dX0_clear_1 (by decide) ?_
  refine mm_put3 (ci := 0) (fs1 := [.ref 2, .int 0, .int 0]) in_X0 tyX0_ok nmX0 rfl (k := 1) (by decide) rfl rfl kF_X0_19 dX0_clear_2 (mm_fit_int _) h1 (Nat.le_of_ble_eq_true rfl) (Nat.le_of_ble_eq_true rfl) rfl ?_
  refine mm_aload_n dX0_clear_5 rfl rfl ?_
  refine mm_iconst (v := 0) dX0_clear_6 (by decide) ?_
  refine mm_put3 (ci := 0) (fs1 := [.ref 2, .int 0, .int 0]) in_X0 tyX0_ok nmX0 rfl (k := 2) (by decide) rfl rfl kF_X0_23 dX0_clear_7 mm_fit_z0 mm_up_s (Nat.le_of_ble_eq_true rfl) (Nat.le_of_ble_eq_true rfl) rfl ?_
  refine mm_vret dX0_clear_10 rfl ?_ (by omega) (by omega)
  refine ⟨rfl, rfl, ?_⟩
  dsimp only
  exact ⟨mm_up_s, fun x e1 => mm_upN e1 (mm_upN e1 (rfl))⟩

set_option maxHeartbeats 4000000 in
set_option maxRecDepth 100000 in
theorem k191_X0_isSpilt {g : mm_G} {l : Launch} (hst : l.stackTraces = false) {d : Nat} (M : Nat → mm_C) (q1 q2 : Int32) (h1092 : M 1092 = .inr (0, [.ref 1093, .int 0, .int 0])) : mm_Cm g l yX0_isSpilt (.code yX0_isSpilt cX0_isSpilt 1 (some .boolean)) d 0 0 [.ref 1092] (M, 1186, false) (fun v S' => v = some (.int 0) ∧ S' = (M, 1186, false)) := by
  refine mm_Cm_of hst (by decide) (Nat.le_of_ble_eq_true rfl) ?_
  show mm_V g l RX0 "isSpilt" cX0_isSpilt 1 (some .boolean) [] d 0 0 _ 0 [some (.ref 1092)] [] (M, 1186, false) 0 0
  refine mm_aload_n dX0_isSpilt_0 rfl rfl ?_
  refine mm_get3 (ci := 0) in_X0 rfl (k := 2) (by decide) rfl kF_X0_23 dX0_isSpilt_1 h1092 (Nat.le_of_ble_eq_true rfl) rfl ?_
  refine mm_iret dX0_isSpilt_4 rfl rfl ?_ (by omega) (by omega)
  exact ⟨rfl, rfl⟩

set_option maxHeartbeats 4000000 in
set_option maxRecDepth 100000 in
theorem k190_X8_isSpilt {g : mm_G} {l : Launch} (hst : l.stackTraces = false) {d : Nat} (M : Nat → mm_C) (q1 q2 : Int32) (h389 : M 389 = .inr (8, [.ref 390, .ref 1091, .ref 1092, .int 0, .null, .null])) (h1092 : M 1092 = .inr (0, [.ref 1093, .int 0, .int 0])) : mm_Cm g l yX8_isSpilt (.code yX8_isSpilt cX8_isSpilt 1 (some .boolean)) (d + 1) 0 0 [.ref 389] (M, 1186, false) (fun v S' => v = some (.int 0) ∧ S' = (M, 1186, false)) := by
  refine mm_Cm_of hst (by decide) (Nat.le_of_ble_eq_true rfl) ?_
  show mm_V g l RX8 "isSpilt" cX8_isSpilt 1 (some .boolean) [] (d + 1) 0 0 _ 0 [some (.ref 389)] [] (M, 1186, false) 0 0
  refine mm_aload_n dX8_isSpilt_0 rfl rfl ?_
  refine mm_get3 (ci := 8) in_X8 rfl (k := 2) (by decide) rfl kF_X8_29 dX8_isSpilt_1 h389 (Nat.le_of_ble_eq_true rfl) rfl ?_
  refine mm_callV3 (ci := 0) wM_X0_isSpilt kM_X8_41 wI_X0_isSpilt wS_X0_isSpilt dX8_isSpilt_4 (k191_X0_isSpilt hst _ q1 q2 h1092) h1092 (Nat.le_of_ble_eq_true rfl) rfl rfl rfl (Nat.le_of_ble_eq_true rfl) (by omega) (by omega) (fun v S9 hq => ?_)
  obtain ⟨rfl, rfl⟩ := hq
  refine ⟨fun h => ⟨h, rfl⟩, ?_⟩
  refine mm_iret dX8_isSpilt_7 rfl rfl ?_ (by omega) (by omega)
  exact ⟨rfl, rfl⟩

set_option maxHeartbeats 4000000 in
set_option maxRecDepth 100000 in
theorem k195_X0_clear {g : mm_G} {l : Launch} (hst : l.stackTraces = false) {d : Nat} (M : Nat → mm_C) (q1 q2 : Int32) (h1092 : M 1092 = .inr (0, [.ref 1093, .int 0, .int 0])) : mm_Cm g l yX0_clear (.code yX0_clear cX0_clear 1 none) d 0 0 [.ref 1092] (M, 1186, false) (fun v S' => v = none ∧ S'.2 = (1186, false) ∧ S'.1 1092 = .inr (0, [.ref 1093, .int 0, .int 0]) ∧ ∀ j, j ≠ 1092 → S'.1 j = M j) := by
  refine mm_Cm_of hst (by decide) (Nat.le_of_ble_eq_true rfl) ?_
  show mm_V g l RX0 "clear" cX0_clear 1 none [] d 0 0 _ 0 [some (.ref 1092)] [] (M, 1186, false) 0 0
  refine mm_aload_n dX0_clear_0 rfl rfl ?_
  refine mm_iconst (v := 0) dX0_clear_1 (by decide) ?_
  refine mm_put3 (ci := 0) (fs1 := [.ref 1093, .int 0, .int 0]) in_X0 tyX0_ok nmX0 rfl (k := 1) (by decide) rfl rfl kF_X0_19 dX0_clear_2 (mm_fit_int _) h1092 (Nat.le_of_ble_eq_true rfl) (Nat.le_of_ble_eq_true rfl) rfl ?_
  refine mm_aload_n dX0_clear_5 rfl rfl ?_
  refine mm_iconst (v := 0) dX0_clear_6 (by decide) ?_
  refine mm_put3 (ci := 0) (fs1 := [.ref 1093, .int 0, .int 0]) in_X0 tyX0_ok nmX0 rfl (k := 2) (by decide) rfl rfl kF_X0_23 dX0_clear_7 mm_fit_z0 mm_up_s (Nat.le_of_ble_eq_true rfl) (Nat.le_of_ble_eq_true rfl) rfl ?_
  refine mm_vret dX0_clear_10 rfl ?_ (by omega) (by omega)
  refine ⟨rfl, rfl, ?_⟩
  dsimp only
  exact ⟨mm_up_s, fun x e1092 => mm_upN e1092 (mm_upN e1092 (rfl))⟩

set_option maxHeartbeats 4000000 in
set_option maxRecDepth 100000 in
theorem k197_X4_begin {g : mm_G} {l : Launch} (hst : l.stackTraces = false) {d : Nat} (M : Nat → mm_C) (q1 q2 : Int32) (h1091 : M 1091 = .inr (4, [.null, .null, .null, .null, .long 0, .int 0, .int 0])) : mm_Cm g l yX4_begin (.code yX4_begin cX4_begin 2 none) d 0 0 [.ref 1091, .null] (M, 1186, false) (fun v S' => v = none ∧ S'.2 = (1186, false) ∧ S'.1 1091 = .inr (4, [.null, .null, .null, .null, .long 0, .int 0, .int 0]) ∧ ∀ j, j ≠ 1091 → S'.1 j = M j) := by
  refine mm_Cm_of hst (by decide) (Nat.le_of_ble_eq_true rfl) ?_
  show mm_V g l RX4 "begin" cX4_begin 2 none [] d 0 0 _ 0 [some (.ref 1091), some (.null)] [] (M, 1186, false) 0 0
  refine mm_aload_n dX4_begin_0 rfl rfl ?_
  refine mm_aload_n dX4_begin_1 rfl rfl ?_
  refine mm_put3 (ci := 4) (fs1 := [.null, .null, .null, .null, .long 0, .int 0, .int 0]) in_X4 tyX4_ok nmX4 rfl (k := 0) (by decide) rfl rfl kF_X4_9 dX4_begin_2 (mm_fit_null _) h1091 (Nat.le_of_ble_eq_true rfl) (Nat.le_of_ble_eq_true rfl) rfl ?_
  refine mm_aload_n dX4_begin_5 rfl rfl ?_
  refine mm_null dX4_begin_6 ?_
  refine mm_put3 (ci := 4) (fs1 := [.null, .null, .null, .null, .long 0, .int 0, .int 0]) in_X4 tyX4_ok nmX4 rfl (k := 1) (by decide) rfl rfl kF_X4_15 dX4_begin_7 (mm_fit_null _) mm_up_s (Nat.le_of_ble_eq_true rfl) (Nat.le_of_ble_eq_true rfl) rfl ?_
  refine mm_aload_n dX4_begin_10 rfl rfl ?_
  refine mm_null dX4_begin_11 ?_
  refine mm_put3 (ci := 4) (fs1 := [.null, .null, .null, .null, .long 0, .int 0, .int 0]) in_X4 tyX4_ok nmX4 rfl (k := 2) (by decide) rfl rfl kF_X4_19 dX4_begin_12 (mm_fit_null _) mm_up_s (Nat.le_of_ble_eq_true rfl) (Nat.le_of_ble_eq_true rfl) rfl ?_
  refine mm_aload_n dX4_begin_15 rfl rfl ?_
  refine mm_null dX4_begin_16 ?_
  refine mm_put3 (ci := 4) (fs1 := [.null, .null, .null, .null, .long 0, .int 0, .int 0]) in_X4 tyX4_ok nmX4 rfl (k := 3) (by decide) rfl rfl kF_X4_22 dX4_begin_17 (mm_fit_null _) mm_up_s (Nat.le_of_ble_eq_true rfl) (Nat.le_of_ble_eq_true rfl) rfl ?_
  refine mm_aload_n dX4_begin_20 rfl rfl ?_
  refine mm_lconst (v := 0) dX4_begin_21 (by decide) ?_
  refine mm_put3 (ci := 4) (fs1 := [.null, .null, .null, .null, .long 0, .int 0, .int 0]) in_X4 tyX4_ok nmX4 rfl (k := 4) (by decide) rfl rfl kF_X4_25 dX4_begin_22 (mm_fit_long _) mm_up_s (Nat.le_of_ble_eq_true rfl) (Nat.le_of_ble_eq_true rfl) rfl ?_
  refine mm_aload_n dX4_begin_25 rfl rfl ?_
  refine mm_iconst (v := 0) dX4_begin_26 (by decide) ?_
  refine mm_put3 (ci := 4) (fs1 := [.null, .null, .null, .null, .long 0, .int 0, .int 0]) in_X4 tyX4_ok nmX4 rfl (k := 5) (by decide) rfl rfl kF_X4_29 dX4_begin_27 (mm_fit_int _) mm_up_s (Nat.le_of_ble_eq_true rfl) (Nat.le_of_ble_eq_true rfl) rfl ?_
  refine mm_aload_n dX4_begin_30 rfl rfl ?_
  refine mm_iconst (v := 0) dX4_begin_31 (by decide) ?_
  refine mm_put3 (ci := 4) (fs1 := [.null, .null, .null, .null, .long 0, .int 0, .int 0]) in_X4 tyX4_ok nmX4 rfl (k := 6) (by decide) rfl rfl kF_X4_33 dX4_begin_32 (mm_fit_int _) mm_up_s (Nat.le_of_ble_eq_true rfl) (Nat.le_of_ble_eq_true rfl) rfl ?_
  refine mm_vret dX4_begin_35 rfl ?_ (by omega) (by omega)
  refine ⟨rfl, rfl, ?_⟩
  dsimp only
  exact ⟨mm_up_s, fun x e1091 => mm_upN e1091 (mm_upN e1091 (mm_upN e1091 (mm_upN e1091 (mm_upN e1091 (mm_upN e1091 (mm_upN e1091 (rfl)))))))⟩

set_option maxHeartbeats 4000000 in
set_option maxRecDepth 100000 in
theorem k194_X8_drop {g : mm_G} {l : Launch} (hst : l.stackTraces = false) {d : Nat} (M : Nat → mm_C) (q1 q2 : Int32) (h389 : M 389 = .inr (8, [.ref 390, .ref 1091, .ref 1092, .int 0, .null, .null])) (h1091 : M 1091 = .inr (4, [.null, .null, .null, .null, .long 0, .int 0, .int 0])) (h1092 : M 1092 = .inr (0, [.ref 1093, .int 0, .int 0])) : mm_Cm g l yX8_drop (.code yX8_drop cX8_drop 1 none) (d + 1) 0 0 [.ref 389] (M, 1186, false) (fun v S' => v = none ∧ S'.2 = (1186, false) ∧ S'.1 389 = .inr (8, [.ref 390, .ref 1091, .ref 1092, .int 0, .null, .null]) ∧ S'.1 1092 = .inr (0, [.ref 1093, .int 0, .int 0]) ∧ S'.1 1091 = .inr (4, [.null, .null, .null, .null, .long 0, .int 0, .int 0]) ∧ ∀ j, j ≠ 389 → j ≠ 1092 → j ≠ 1091 → S'.1 j = M j) := by
  refine mm_Cm_of hst (by decide) (Nat.le_of_ble_eq_true rfl) ?_
  show mm_V g l RX8 "drop" cX8_drop 1 none [] (d + 1) 0 0 _ 0 [some (.ref 389)] [] (M, 1186, false) 0 0
  refine mm_aload_n dX8_drop_0 rfl rfl ?_
  refine mm_null dX8_drop_1 ?_
  refine mm_put3 (ci := 8) (fs1 := [.ref 390, .ref 1091, .ref 1092, .int 0, .null, .null]) in_X8 tyX8_ok nmX8 rfl (k := 4) (by decide) rfl rfl kF_X8_37 dX8_drop_2 (mm_fit_null _) h389 (Nat.le_of_ble_eq_true rfl) (Nat.le_of_ble_eq_true rfl) rfl ?_
  refine mm_aload_n dX8_drop_5 rfl rfl ?_
  refine mm_null dX8_drop_6 ?_
  refine mm_put3 (ci := 8) (fs1 := [.ref 390, .ref 1091, .ref 1092, .int 0, .null, .null]) in_X8 tyX8_ok nmX8 rfl (k := 5) (by decide) rfl rfl kF_X8_33 dX8_drop_7 (mm_fit_null _) mm_up_s (Nat.le_of_ble_eq_true rfl) (Nat.le_of_ble_eq_true rfl) rfl ?_
  refine mm_aload_n dX8_drop_10 rfl rfl ?_
  refine mm_get3 (ci := 8) in_X8 rfl (k := 2) (by decide) rfl kF_X8_29 dX8_drop_11 mm_up_s (Nat.le_of_ble_eq_true rfl) rfl ?_
  refine mm_callV3 (ci := 0) wM_X0_clear kM_X8_45 wI_X0_clear wS_X0_clear dX8_drop_14 (k195_X0_clear hst _ q1 q2 (mm_upN (by decide) (mm_upN (by decide) h1092))) (mm_upN (by decide) (mm_upN (by decide) h1092)) (Nat.le_of_ble_eq_true rfl) rfl rfl rfl (Nat.le_of_ble_eq_true rfl) (by omega) (by omega) (fun v S9 hq => ?_)
  obtain ⟨M196, z196⟩ := S9
  obtain ⟨rfl, hz196, g196_1092, g196_F⟩ := hq
  cases hz196
  refine ⟨fun h => ⟨h, rfl⟩, ?_⟩
  refine mm_aload_n dX8_drop_17 rfl rfl ?_
  refine mm_iconst (v := 0) dX8_drop_18 (by decide) ?_
  refine mm_put3 (ci := 8) (fs1 := [.ref 390, .ref 1091, .ref 1092, .int 0, .null, .null]) in_X8 tyX8_ok nmX8 rfl (k := 3) (by decide) rfl rfl kF_X8_48 dX8_drop_19 (mm_fit_int _) (mm_frN (g196_F _ (by decide)) mm_up_s) (Nat.le_of_ble_eq_true rfl) (Nat.le_of_ble_eq_true rfl) rfl ?_
  refine mm_aload_n dX8_drop_22 rfl rfl ?_
  refine mm_get3 (ci := 8) in_X8 rfl (k := 1) (by decide) rfl kF_X8_20 dX8_drop_23 mm_up_s (Nat.le_of_ble_eq_true rfl) rfl ?_
  refine mm_null dX8_drop_26 ?_
  refine mm_callV3 (ci := 4) wM_X4_begin kM_X8_52 wI_X4_begin wS_X4_begin dX8_drop_27 (k197_X4_begin hst _ q1 q2 (mm_upN (by decide) (mm_frN (g196_F _ (by decide)) (mm_upN (by decide) (mm_upN (by decide) h1091))))) (mm_upN (by decide) (mm_frN (g196_F _ (by decide)) (mm_upN (by decide) (mm_upN (by decide) h1091)))) (Nat.le_of_ble_eq_true rfl) rfl rfl rfl (Nat.le_of_ble_eq_true rfl) (by omega) (by omega) (fun v S9 hq => ?_)
  obtain ⟨M198, z198⟩ := S9
  obtain ⟨rfl, hz198, g198_1091, g198_F⟩ := hq
  cases hz198
  refine ⟨fun h => ⟨h, rfl⟩, ?_⟩
  refine mm_vret dX8_drop_30 rfl ?_ (by omega) (by omega)
  refine ⟨rfl, rfl, ?_⟩
  dsimp only
  exact ⟨(mm_frN (g198_F _ (by decide)) mm_up_s), (mm_frN (g198_F _ (by decide)) (mm_upN (by decide) g196_1092)), g198_1091, fun x e389 e1092 e1091 => mm_frN (g198_F _ e1091 ) (mm_upN e389 (mm_frN (g196_F _ e1092 ) (mm_upN e389 (mm_upN e389 (rfl)))))⟩

set_option maxHeartbeats 4000000 in
set_option maxRecDepth 100000 in
theorem k187_X11_settle {g : mm_G} {l : Launch} (hst : l.stackTraces = false) {d : Nat} (M : Nat → mm_C) (q1 q2 : Int32) (h0 : M 0 = .inr (11, [.ref 1, .ref 3, .ref 5, .ref 197, .ref 389, .ref 1094, .ref 1095, .ref 1097, .int (-1)])) (h1 : M 1 = .inr (0, [.ref 2, .int 0, .int 0])) (h389 : M 389 = .inr (8, [.ref 390, .ref 1091, .ref 1092, .int 0, .null, .null])) (h1091 : M 1091 = .inr (4, [.null, .null, .null, .null, .long 0, .int 0, .int 0])) (h1092 : M 1092 = .inr (0, [.ref 1093, .int 0, .int 0])) : mm_Ct g l yX11_settle (.code yX11_settle cX11_settle 4 (some .int)) (d + 2) 1 6 [.ref 0, .int 0] (M, 1186, false) (fun r S' => r = .inr "java/lang/IllegalArgumentException" ∧ S'.2 = (1186, true) ∧ S'.1 1 = .inr (0, [.ref 2, .int 0, .int 0]) ∧ S'.1 389 = .inr (8, [.ref 390, .ref 1091, .ref 1092, .int 0, .null, .null]) ∧ S'.1 1092 = .inr (0, [.ref 1093, .int 0, .int 0]) ∧ S'.1 1091 = .inr (4, [.null, .null, .null, .null, .long 0, .int 0, .int 0]) ∧ ∀ j, j ≠ 1 → j ≠ 389 → j ≠ 1092 → j ≠ 1091 → S'.1 j = M j) := by
  refine mm_Ct_of hst (by decide) (Nat.le_of_ble_eq_true rfl) ?_
  show mm_V g l RX11 "settle" cX11_settle 4 (some .int) [] (d + 2) 1 6 _ 0 [some (.ref 0), some (.int 0), none, none] [] (M, 1186, false) 0 0
  refine mm_aload_n dX11_settle_0 rfl rfl ?_
  refine mm_get3 (ci := 11) in_X11 rfl (k := 0) (by decide) rfl kF_X11_14 dX11_settle_1 h0 (Nat.le_of_ble_eq_true rfl) rfl ?_
  refine mm_callV3 (ci := 0) wM_X0_clear kM_X11_99 wI_X0_clear wS_X0_clear dX11_settle_4 (k188_X0_clear hst _ q1 q2 h1) h1 (Nat.le_of_ble_eq_true rfl) rfl rfl rfl (Nat.le_of_ble_eq_true rfl) (by omega) (by omega) (fun v S9 hq => ?_)
  obtain ⟨M189, z189⟩ := S9
  obtain ⟨rfl, hz189, g189_1, g189_F⟩ := hq
  cases hz189
  refine ⟨fun h => ⟨h, rfl⟩, ?_⟩
  refine mm_iload_n dX11_settle_7 rfl ?_
  refine mm_if_eq 21 dX11_settle_8 (by decide) (fun _ => ?_) (fun h => absurd (by decide) h)
  refine mm_iconst (v := 0) dX11_settle_21 (by decide) ?_
  refine mm_istore_n [some (.ref 0), some (.int 0), some (.int 0), none] dX11_settle_22 (by decide) rfl ?_
  refine mm_iload_n dX11_settle_23 rfl ?_
  refine mm_sipush (v := 200) dX11_settle_24 (by decide) ?_
  refine mm_icmp_gt 40 dX11_settle_27 (by decide) (fun h => absurd h (by decide)) (fun _ => ?_)
  refine mm_aload_n dX11_settle_30 rfl rfl ?_
  refine mm_get3 (ci := 11) in_X11 rfl (k := 4) (by decide) rfl kF_X11_34 dX11_settle_31 (mm_frN (g189_F _ (by decide)) h0) (Nat.le_of_ble_eq_true rfl) rfl ?_
  refine mm_callV3 (ci := 8) wM_X8_isSpilt kM_X11_228 wI_X8_isSpilt wS_X8_isSpilt dX11_settle_34 (k190_X8_isSpilt hst _ q1 q2 (mm_frN (g189_F _ (by decide)) h389) (mm_frN (g189_F _ (by decide)) h1092)) (mm_frN (g189_F _ (by decide)) h389) (Nat.le_of_ble_eq_true rfl) rfl rfl rfl (Nat.le_of_ble_eq_true rfl) (by omega) (by omega) (fun v S9 hq => ?_)
  obtain ⟨rfl, rfl⟩ := hq
  refine ⟨fun h => ⟨h, rfl⟩, ?_⟩
  refine mm_if_eq 44 dX11_settle_37 (by decide) (fun _ => ?_) (fun h => absurd (by decide) h)
  refine mm_iconst (v := 0) dX11_settle_44 (by decide) ?_
  refine mm_istore_n [some (.ref 0), some (.int 0), some (.int 0), some (.int 0)] dX11_settle_45 (by decide) rfl ?_
  refine mm_iload_n dX11_settle_46 rfl ?_
  refine mm_if_eq 54 dX11_settle_47 (by decide) (fun _ => ?_) (fun h => absurd (by decide) h)
  refine mm_aload_n dX11_settle_54 rfl rfl ?_
  refine mm_get3 (ci := 11) in_X11 rfl (k := 4) (by decide) rfl kF_X11_34 dX11_settle_55 (mm_frN (g189_F _ (by decide)) h0) (Nat.le_of_ble_eq_true rfl) rfl ?_
  refine mm_callV3 (ci := 8) wM_X8_drop kM_X11_92 wI_X8_drop wS_X8_drop dX11_settle_58 (k194_X8_drop hst _ q1 q2 (mm_frN (g189_F _ (by decide)) h389) (mm_frN (g189_F _ (by decide)) h1091) (mm_frN (g189_F _ (by decide)) h1092)) (mm_frN (g189_F _ (by decide)) h389) (Nat.le_of_ble_eq_true rfl) rfl rfl rfl (Nat.le_of_ble_eq_true rfl) (by omega) (by omega) (fun v S9 hq => ?_)
  obtain ⟨M199, z199⟩ := S9
  obtain ⟨rfl, hz199, g199_389, g199_1092, g199_1091, g199_F⟩ := hq
  cases hz199
  refine ⟨fun h => ⟨h, rfl⟩, ?_⟩
  refine mm_iload_n dX11_settle_61 rfl ?_
  refine mm_if_ne 75 dX11_settle_62 (by decide) (fun h => absurd (by decide) h) (fun _ => ?_)
  refine mm_throw (k := 8) (text := "no such schema, message or depth, or the tape is wrong") (by decide) kC_X11_67 wj_IllegalArgumentException rfl at_71 rfl dX11_settle_65 dX11_settle_68 dX11_settle_69 dX11_settle_71 dX11_settle_74 (Nat.le_of_ble_eq_true rfl) (by omega) (by omega) ?_
  refine ⟨rfl, rfl, ?_⟩
  dsimp only
  exact ⟨(mm_frN (g199_F _ (by decide) (by decide) (by decide)) g189_1), g199_389, g199_1092, g199_1091, fun x e1 e389 e1092 e1091 => mm_frN (g199_F _ e389 e1092 e1091 ) (mm_frN (g189_F _ e1 ) (rfl))⟩

set_option maxHeartbeats 4000000 in
set_option maxRecDepth 100000 in
theorem f_decode_0 {g : mm_G} {l : Launch} (hst : l.stackTraces = false) {d : Nat} (M : Nat → mm_C) (q1 q2 : Int32) (h0 : M 0 = .inr (11, [.ref 1, .ref 3, .ref 5, .ref 197, .ref 389, .ref 1094, .ref 1095, .ref 1097, .int (-1)])) (h1 : M 1 = .inr (0, [.ref 2, .int 0, .int 0])) (h5 : M 5 = .inr (2, [.ref 6, .ref 191, .ref 196, .int 0, .int 0])) (h6 : M 6 = .inr (6, [.ref 7, .ref 9, .ref 190, .int 0, .int 0])) (h389 : M 389 = .inr (8, [.ref 390, .ref 1091, .ref 1092, .int 0, .null, .null])) (h1091 : M 1091 = .inr (4, [.null, .null, .null, .null, .long 0, .int 0, .int 0])) (h1092 : M 1092 = .inr (0, [.ref 1093, .int 0, .int 0])) : mm_Ct g l yX11_decode (.code yX11_decode cX11_decode 4 (some .int)) (d + 3) 1 6 [.ref 0, .int 0, .int q1, .int q2] (M, 1186, false) (fun r S' => r = .inr "java/lang/IllegalArgumentException" ∧ S'.2 = (1186, true) ∧ ∀ j, 1101 ≤ j → S'.1 j = M j) := by
  refine mm_Ct_of hst (by decide) (Nat.le_of_ble_eq_true rfl) ?_
  show mm_V g l RX11 "decode" cX11_decode 4 (some .int) [] (d + 3) 1 6 _ 0 [some (.ref 0), some (.int 0), some (.int q1), some (.int q2)] [] (M, 1186, false) 0 0
  refine mm_aload_n dX11_decode_0 rfl rfl ?_
  refine mm_aload_n dX11_decode_1 rfl rfl ?_
  refine mm_iload_n dX11_decode_2 rfl ?_
  refine mm_iload_n dX11_decode_3 rfl ?_
  refine mm_iload_n dX11_decode_4 rfl ?_
  refine mm_callV3 (ci := 11) wM_X11_opens kM_X11_162 wI_X11_opens wS_X11_opens dX11_decode_5 (k176_X11_opens hst _ q1 q2 h0 h5 h6) h0 (Nat.le_of_ble_eq_true rfl) rfl rfl rfl (Nat.le_of_ble_eq_true rfl) (by omega) (by omega) (fun v S9 hq => ?_)
  obtain ⟨rfl, rfl⟩ := hq
  refine ⟨fun h => ⟨h, rfl⟩, ?_⟩
  refine mm_if_eq 26 dX11_decode_8 (by decide) (fun _ => ?_) (fun h => absurd (by decide) h)
  refine mm_iconst (v := 0) dX11_decode_26 (by decide) ?_
  refine mm_callX3 (ci := 11) wM_X11_settle kM_X11_170 wI_X11_settle wS_X11_settle dX11_decode_27 (k187_X11_settle hst _ q1 q2 h0 h1 h389 h1091 h1092) h0 (Nat.le_of_ble_eq_true rfl) rfl rfl rfl (Nat.le_of_ble_eq_true rfl) (by omega) (by omega) (fun v S9 hq => by cases hq.1) rfl (fun E9 S9 hq => ?_)
  obtain ⟨M200, z200⟩ := S9
  obtain ⟨hE200, hz200, g200_1, g200_389, g200_1092, g200_1091, g200_F⟩ := hq
  cases hE200
  cases hz200
  refine ⟨rfl, rfl, fun x hx => ?_⟩
  dsimp only
  exact mm_frN (g200_F _ (by omega) (by omega) (by omega) (by omega) ) (rfl)

set_option maxHeartbeats 4000000 in
set_option maxRecDepth 100000 in
theorem k202_X11_compilerOf {g : mm_G} {l : Launch} (hst : l.stackTraces = false) {d : Nat} (M : Nat → mm_C) (q1 q2 : Int32) (h0 : M 0 = .inr (11, [.ref 1, .ref 3, .ref 5, .ref 197, .ref 389, .ref 1094, .ref 1095, .ref 1097, .int (-1)])) : mm_Cm g l yX11_compilerOf (.code yX11_compilerOf cX11_compilerOf 2 (some (.object "ProtoDesk$Compiler"))) d 0 0 [.ref 0, .int 1] (M, 1186, false) (fun v S' => v = some (.ref 197) ∧ S' = (M, 1186, false)) := by
  refine mm_Cm_of hst (by decide) (Nat.le_of_ble_eq_true rfl) ?_
  show mm_V g l RX11 "compilerOf" cX11_compilerOf 2 (some (.object "ProtoDesk$Compiler")) [] d 0 0 _ 0 [some (.ref 0), some (.int 1)] [] (M, 1186, false) 0 0
  refine mm_iload_n dX11_compilerOf_0 rfl ?_
  refine mm_if_ne 11 dX11_compilerOf_1 (by decide) (fun _ => ?_) (fun h => absurd h (by decide))
  refine mm_iload_n dX11_compilerOf_11 rfl ?_
  refine mm_iconst (v := 1) dX11_compilerOf_12 (by decide) ?_
  refine mm_icmp_ne 23 dX11_compilerOf_13 (by decide) (fun h => absurd (by decide) h) (fun _ => ?_)
  refine mm_aload_n dX11_compilerOf_16 rfl rfl ?_
  refine mm_get3 (ci := 11) in_X11 rfl (k := 3) (by decide) rfl kF_X11_28 dX11_compilerOf_17 h0 (Nat.le_of_ble_eq_true rfl) rfl ?_
  refine mm_goto 24 dX11_compilerOf_20 (by decide) ?_
  refine mm_aret (a := some 197) dX11_compilerOf_24 rfl ?_ (by omega) (by omega)
  exact ⟨rfl, rfl⟩

set_option maxHeartbeats 4000000 in
set_option maxRecDepth 100000 in
theorem k206_X2_schema {g : mm_G} {l : Launch} (hst : l.stackTraces = false) {d : Nat} (M : Nat → mm_C) (q1 q2 : Int32) (h197 : M 197 = .inr (2, [.ref 198, .ref 383, .ref 388, .int 0, .int 0])) : mm_Cm g l yX2_schema (.code yX2_schema cX2_schema 1 (some (.object "ProtoDesk$Schema"))) d 0 0 [.ref 197] (M, 1186, false) (fun v S' => v = some (.ref 198) ∧ S' = (M, 1186, false)) := by
  refine mm_Cm_of hst (by decide) (Nat.le_of_ble_eq_true rfl) ?_
  show mm_V g l RX2 "schema" cX2_schema 1 (some (.object "ProtoDesk$Schema")) [] d 0 0 _ 0 [some (.ref 197)] [] (M, 1186, false) 0 0
  refine mm_aload_n dX2_schema_0 rfl rfl ?_
  refine mm_get3 (ci := 2) in_X2 rfl (k := 0) (by decide) rfl kF_X2_12 dX2_schema_1 h197 (Nat.le_of_ble_eq_true rfl) rfl ?_
  refine mm_aret (a := some 198) dX2_schema_4 rfl ?_ (by omega) (by omega)
  exact ⟨rfl, rfl⟩

set_option maxHeartbeats 4000000 in
set_option maxRecDepth 100000 in
theorem k208_X6_message {g : mm_G} {l : Launch} (hst : l.stackTraces = false) {d : Nat} (M : Nat → mm_C) (q1 q2 : Int32) (h198 : M 198 = .inr (6, [.ref 199, .ref 201, .ref 382, .int 0, .int 0])) : mm_Cm g l yX6_message (.code yX6_message cX6_message 4 (some (.object "ProtoDesk$Item"))) d 0 0 [.ref 198, .int q1] (M, 1186, false) (fun v S' => v = some (.null) ∧ S' = (M, 1186, false)) := by
  refine mm_Cm_of hst (by decide) (Nat.le_of_ble_eq_true rfl) ?_
  show mm_V g l RX6 "message" cX6_message 4 (some (.object "ProtoDesk$Item")) [] d 0 0 _ 0 [some (.ref 198), some (.int q1), none, none] [] (M, 1186, false) 0 0
  refine mm_iconst (v := 0) dX6_message_0 (by decide) ?_
  refine mm_istore_n [some (.ref 198), some (.int q1), some (.int 0), none] dX6_message_1 (by decide) rfl ?_
  refine mm_iload_n dX6_message_2 rfl ?_
  refine mm_aload_n dX6_message_3 rfl rfl ?_
  refine mm_get3 (ci := 6) in_X6 rfl (k := 3) (by decide) rfl kF_X6_34 dX6_message_4 h198 (Nat.le_of_ble_eq_true rfl) rfl ?_
  refine mm_icmp_ge 43 dX6_message_7 (by decide) (fun _ => ?_) (fun h => absurd (by decide) h)
  refine mm_null dX6_message_43 ?_
  refine mm_aret (a := none) dX6_message_44 rfl ?_ (by omega) (by omega)
  exact ⟨rfl, rfl⟩

set_option maxHeartbeats 4000000 in
set_option maxRecDepth 100000 in
theorem k204_X11_messageOf {g : mm_G} {l : Launch} (hst : l.stackTraces = false) {d : Nat} (M : Nat → mm_C) (q1 q2 : Int32) (h0 : M 0 = .inr (11, [.ref 1, .ref 3, .ref 5, .ref 197, .ref 389, .ref 1094, .ref 1095, .ref 1097, .int (-1)])) (h197 : M 197 = .inr (2, [.ref 198, .ref 383, .ref 388, .int 0, .int 0])) (h198 : M 198 = .inr (6, [.ref 199, .ref 201, .ref 382, .int 0, .int 0])) : mm_Cm g l yX11_messageOf (.code yX11_messageOf cX11_messageOf 4 (some (.object "ProtoDesk$Item"))) (d + 1) 0 0 [.ref 0, .int 1, .int q1] (M, 1186, false) (fun v S' => v = some (.null) ∧ S' = (M, 1186, false)) := by
  refine mm_Cm_of hst (by decide) (Nat.le_of_ble_eq_true rfl) ?_
  show mm_V g l RX11 "messageOf" cX11_messageOf 4 (some (.object "ProtoDesk$Item")) [] (d + 1) 0 0 _ 0 [some (.ref 0), some (.int 1), some (.int q1), none] [] (M, 1186, false) 0 0
  refine mm_aload_n dX11_messageOf_0 rfl rfl ?_
  refine mm_iload_n dX11_messageOf_1 rfl ?_
  refine mm_callV3 (ci := 11) wM_X11_compilerOf kM_X11_86 wI_X11_compilerOf wS_X11_compilerOf dX11_messageOf_2 (k202_X11_compilerOf hst _ q1 q2 h0) h0 (Nat.le_of_ble_eq_true rfl) rfl rfl rfl (Nat.le_of_ble_eq_true rfl) (by omega) (by omega) (fun v S9 hq => ?_)
  obtain ⟨rfl, rfl⟩ := hq
  refine ⟨fun h => ⟨h, rfl⟩, ?_⟩
  refine mm_astore_n [some (.ref 0), some (.int 1), some (.int q1), some (.ref 197)] dX11_messageOf_5 (by decide) rfl rfl ?_
  refine mm_aload_n dX11_messageOf_6 rfl rfl ?_
  refine mm_ifnonnull (r := some 197) 14 dX11_messageOf_7 (by decide) (fun _ => ?_) (fun h => absurd h (by simp))
  refine mm_aload_n dX11_messageOf_14 rfl rfl ?_
  refine mm_callV3 (ci := 2) wM_X2_schema kM_X11_109 wI_X2_schema wS_X2_schema dX11_messageOf_15 (k206_X2_schema hst _ q1 q2 h197) h197 (Nat.le_of_ble_eq_true rfl) rfl rfl rfl (Nat.le_of_ble_eq_true rfl) (by omega) (by omega) (fun v S9 hq => ?_)
  obtain ⟨rfl, rfl⟩ := hq
  refine ⟨fun h => ⟨h, rfl⟩, ?_⟩
  refine mm_iload_n dX11_messageOf_18 rfl ?_
  refine mm_callV3 (ci := 6) wM_X6_message kM_X11_193 wI_X6_message wS_X6_message dX11_messageOf_19 (k208_X6_message hst _ q1 q2 h198) h198 (Nat.le_of_ble_eq_true rfl) rfl rfl rfl (Nat.le_of_ble_eq_true rfl) (by omega) (by omega) (fun v S9 hq => ?_)
  obtain ⟨rfl, rfl⟩ := hq
  refine ⟨fun h => ⟨h, rfl⟩, ?_⟩
  refine mm_aret (a := none) dX11_messageOf_22 rfl ?_ (by omega) (by omega)
  exact ⟨rfl, rfl⟩

set_option maxHeartbeats 4000000 in
set_option maxRecDepth 100000 in
theorem k201_X11_opens {g : mm_G} {l : Launch} (hst : l.stackTraces = false) {d : Nat} (M : Nat → mm_C) (q1 q2 : Int32) (h0 : M 0 = .inr (11, [.ref 1, .ref 3, .ref 5, .ref 197, .ref 389, .ref 1094, .ref 1095, .ref 1097, .int (-1)])) (h197 : M 197 = .inr (2, [.ref 198, .ref 383, .ref 388, .int 0, .int 0])) (h198 : M 198 = .inr (6, [.ref 199, .ref 201, .ref 382, .int 0, .int 0])) : mm_Cm g l yX11_opens (.code yX11_opens cX11_opens 6 (some .boolean)) (d + 2) 0 0 [.ref 0, .int 1, .int q1, .int q2] (M, 1186, false) (fun v S' => v = some (.int 0) ∧ S' = (M, 1186, false)) := by
  refine mm_Cm_of hst (by decide) (Nat.le_of_ble_eq_true rfl) ?_
  show mm_V g l RX11 "opens" cX11_opens 6 (some .boolean) [] (d + 2) 0 0 _ 0 [some (.ref 0), some (.int 1), some (.int q1), some (.int q2), none, none] [] (M, 1186, false) 0 0
  refine mm_aload_n dX11_opens_0 rfl rfl ?_
  refine mm_iload_n dX11_opens_1 rfl ?_
  refine mm_callV3 (ci := 11) wM_X11_compilerOf kM_X11_86 wI_X11_compilerOf wS_X11_compilerOf dX11_opens_2 (k202_X11_compilerOf hst _ q1 q2 h0) h0 (Nat.le_of_ble_eq_true rfl) rfl rfl rfl (Nat.le_of_ble_eq_true rfl) (by omega) (by omega) (fun v S9 hq => ?_)
  obtain ⟨rfl, rfl⟩ := hq
  refine ⟨fun h => ⟨h, rfl⟩, ?_⟩
  refine mm_astore [some (.ref 0), some (.int 1), some (.int q1), some (.int q2), some (.ref 197), none] dX11_opens_5 (by decide) rfl rfl ?_
  refine mm_aload_n dX11_opens_7 rfl rfl ?_
  refine mm_iload_n dX11_opens_8 rfl ?_
  refine mm_iload_n dX11_opens_9 rfl ?_
  refine mm_callV3 (ci := 11) wM_X11_messageOf kM_X11_119 wI_X11_messageOf wS_X11_messageOf dX11_opens_10 (k204_X11_messageOf hst _ q1 q2 h0 h197 h198) h0 (Nat.le_of_ble_eq_true rfl) rfl rfl rfl (Nat.le_of_ble_eq_true rfl) (by omega) (by omega) (fun v S9 hq => ?_)
  obtain ⟨rfl, rfl⟩ := hq
  refine ⟨fun h => ⟨h, rfl⟩, ?_⟩
  refine mm_astore [some (.ref 0), some (.int 1), some (.int q1), some (.int q2), some (.ref 197), some (.null)] dX11_opens_13 (by decide) rfl rfl ?_
  refine mm_aload dX11_opens_15 rfl rfl ?_
  refine mm_ifnull (r := some 197) 36 dX11_opens_17 (by decide) (fun h => absurd h (by simp)) (fun _ => ?_)
  refine mm_aload dX11_opens_20 rfl rfl ?_
  refine mm_ifnull (r := none) 36 dX11_opens_22 (by decide) (fun _ => ?_) (fun h => absurd (by simp) h)
  refine mm_iconst (v := 0) dX11_opens_36 (by decide) ?_
  refine mm_iret dX11_opens_37 rfl rfl ?_ (by omega) (by omega)
  exact ⟨rfl, rfl⟩

set_option maxHeartbeats 4000000 in
set_option maxRecDepth 100000 in
theorem k213_X0_clear {g : mm_G} {l : Launch} (hst : l.stackTraces = false) {d : Nat} (M : Nat → mm_C) (q1 q2 : Int32) (h1 : M 1 = .inr (0, [.ref 2, .int 0, .int 0])) : mm_Cm g l yX0_clear (.code yX0_clear cX0_clear 1 none) d 0 0 [.ref 1] (M, 1186, false) (fun v S' => v = none ∧ S'.2 = (1186, false) ∧ S'.1 1 = .inr (0, [.ref 2, .int 0, .int 0]) ∧ ∀ j, j ≠ 1 → S'.1 j = M j) := by
  refine mm_Cm_of hst (by decide) (Nat.le_of_ble_eq_true rfl) ?_
  show mm_V g l RX0 "clear" cX0_clear 1 none [] d 0 0 _ 0 [some (.ref 1)] [] (M, 1186, false) 0 0
  refine mm_aload_n dX0_clear_0 rfl rfl ?_
  refine mm_iconst (v := 0) dX0_clear_1 (by decide) ?_
  refine mm_put3 (ci := 0) (fs1 := [.ref 2, .int 0, .int 0]) in_X0 tyX0_ok nmX0 rfl (k := 1) (by decide) rfl rfl kF_X0_19 dX0_clear_2 (mm_fit_int _) h1 (Nat.le_of_ble_eq_true rfl) (Nat.le_of_ble_eq_true rfl) rfl ?_
  refine mm_aload_n dX0_clear_5 rfl rfl ?_
  refine mm_iconst (v := 0) dX0_clear_6 (by decide) ?_
  refine mm_put3 (ci := 0) (fs1 := [.ref 2, .int 0, .int 0]) in_X0 tyX0_ok nmX0 rfl (k := 2) (by decide) rfl rfl kF_X0_23 dX0_clear_7 mm_fit_z0 mm_up_s (Nat.le_of_ble_eq_true rfl) (Nat.le_of_ble_eq_true rfl) rfl ?_
  refine mm_vret dX0_clear_10 rfl ?_ (by omega) (by omega)
  refine ⟨rfl, rfl, ?_⟩
  dsimp only
  exact ⟨mm_up_s, fun x e1 => mm_upN e1 (mm_upN e1 (rfl))⟩

set_option maxHeartbeats 4000000 in
set_option maxRecDepth 100000 in
theorem k216_X0_isSpilt {g : mm_G} {l : Launch} (hst : l.stackTraces = false) {d : Nat} (M : Nat → mm_C) (q1 q2 : Int32) (h1092 : M 1092 = .inr (0, [.ref 1093, .int 0, .int 0])) : mm_Cm g l yX0_isSpilt (.code yX0_isSpilt cX0_isSpilt 1 (some .boolean)) d 0 0 [.ref 1092] (M, 1186, false) (fun v S' => v = some (.int 0) ∧ S' = (M, 1186, false)) := by
  refine mm_Cm_of hst (by decide) (Nat.le_of_ble_eq_true rfl) ?_
  show mm_V g l RX0 "isSpilt" cX0_isSpilt 1 (some .boolean) [] d 0 0 _ 0 [some (.ref 1092)] [] (M, 1186, false) 0 0
  refine mm_aload_n dX0_isSpilt_0 rfl rfl ?_
  refine mm_get3 (ci := 0) in_X0 rfl (k := 2) (by decide) rfl kF_X0_23 dX0_isSpilt_1 h1092 (Nat.le_of_ble_eq_true rfl) rfl ?_
  refine mm_iret dX0_isSpilt_4 rfl rfl ?_ (by omega) (by omega)
  exact ⟨rfl, rfl⟩

set_option maxHeartbeats 4000000 in
set_option maxRecDepth 100000 in
theorem k215_X8_isSpilt {g : mm_G} {l : Launch} (hst : l.stackTraces = false) {d : Nat} (M : Nat → mm_C) (q1 q2 : Int32) (h389 : M 389 = .inr (8, [.ref 390, .ref 1091, .ref 1092, .int 0, .null, .null])) (h1092 : M 1092 = .inr (0, [.ref 1093, .int 0, .int 0])) : mm_Cm g l yX8_isSpilt (.code yX8_isSpilt cX8_isSpilt 1 (some .boolean)) (d + 1) 0 0 [.ref 389] (M, 1186, false) (fun v S' => v = some (.int 0) ∧ S' = (M, 1186, false)) := by
  refine mm_Cm_of hst (by decide) (Nat.le_of_ble_eq_true rfl) ?_
  show mm_V g l RX8 "isSpilt" cX8_isSpilt 1 (some .boolean) [] (d + 1) 0 0 _ 0 [some (.ref 389)] [] (M, 1186, false) 0 0
  refine mm_aload_n dX8_isSpilt_0 rfl rfl ?_
  refine mm_get3 (ci := 8) in_X8 rfl (k := 2) (by decide) rfl kF_X8_29 dX8_isSpilt_1 h389 (Nat.le_of_ble_eq_true rfl) rfl ?_
  refine mm_callV3 (ci := 0) wM_X0_isSpilt kM_X8_41 wI_X0_isSpilt wS_X0_isSpilt dX8_isSpilt_4 (k216_X0_isSpilt hst _ q1 q2 h1092) h1092 (Nat.le_of_ble_eq_true rfl) rfl rfl rfl (Nat.le_of_ble_eq_true rfl) (by omega) (by omega) (fun v S9 hq => ?_)
  obtain ⟨rfl, rfl⟩ := hq
  refine ⟨fun h => ⟨h, rfl⟩, ?_⟩
  refine mm_iret dX8_isSpilt_7 rfl rfl ?_ (by omega) (by omega)
  exact ⟨rfl, rfl⟩

set_option maxHeartbeats 4000000 in
set_option maxRecDepth 100000 in
theorem k220_X0_clear {g : mm_G} {l : Launch} (hst : l.stackTraces = false) {d : Nat} (M : Nat → mm_C) (q1 q2 : Int32) (h1092 : M 1092 = .inr (0, [.ref 1093, .int 0, .int 0])) : mm_Cm g l yX0_clear (.code yX0_clear cX0_clear 1 none) d 0 0 [.ref 1092] (M, 1186, false) (fun v S' => v = none ∧ S'.2 = (1186, false) ∧ S'.1 1092 = .inr (0, [.ref 1093, .int 0, .int 0]) ∧ ∀ j, j ≠ 1092 → S'.1 j = M j) := by
  refine mm_Cm_of hst (by decide) (Nat.le_of_ble_eq_true rfl) ?_
  show mm_V g l RX0 "clear" cX0_clear 1 none [] d 0 0 _ 0 [some (.ref 1092)] [] (M, 1186, false) 0 0
  refine mm_aload_n dX0_clear_0 rfl rfl ?_
  refine mm_iconst (v := 0) dX0_clear_1 (by decide) ?_
  refine mm_put3 (ci := 0) (fs1 := [.ref 1093, .int 0, .int 0]) in_X0 tyX0_ok nmX0 rfl (k := 1) (by decide) rfl rfl kF_X0_19 dX0_clear_2 (mm_fit_int _) h1092 (Nat.le_of_ble_eq_true rfl) (Nat.le_of_ble_eq_true rfl) rfl ?_
  refine mm_aload_n dX0_clear_5 rfl rfl ?_
  refine mm_iconst (v := 0) dX0_clear_6 (by decide) ?_
  refine mm_put3 (ci := 0) (fs1 := [.ref 1093, .int 0, .int 0]) in_X0 tyX0_ok nmX0 rfl (k := 2) (by decide) rfl rfl kF_X0_23 dX0_clear_7 mm_fit_z0 mm_up_s (Nat.le_of_ble_eq_true rfl) (Nat.le_of_ble_eq_true rfl) rfl ?_
  refine mm_vret dX0_clear_10 rfl ?_ (by omega) (by omega)
  refine ⟨rfl, rfl, ?_⟩
  dsimp only
  exact ⟨mm_up_s, fun x e1092 => mm_upN e1092 (mm_upN e1092 (rfl))⟩

set_option maxHeartbeats 4000000 in
set_option maxRecDepth 100000 in
theorem k222_X4_begin {g : mm_G} {l : Launch} (hst : l.stackTraces = false) {d : Nat} (M : Nat → mm_C) (q1 q2 : Int32) (h1091 : M 1091 = .inr (4, [.null, .null, .null, .null, .long 0, .int 0, .int 0])) : mm_Cm g l yX4_begin (.code yX4_begin cX4_begin 2 none) d 0 0 [.ref 1091, .null] (M, 1186, false) (fun v S' => v = none ∧ S'.2 = (1186, false) ∧ S'.1 1091 = .inr (4, [.null, .null, .null, .null, .long 0, .int 0, .int 0]) ∧ ∀ j, j ≠ 1091 → S'.1 j = M j) := by
  refine mm_Cm_of hst (by decide) (Nat.le_of_ble_eq_true rfl) ?_
  show mm_V g l RX4 "begin" cX4_begin 2 none [] d 0 0 _ 0 [some (.ref 1091), some (.null)] [] (M, 1186, false) 0 0
  refine mm_aload_n dX4_begin_0 rfl rfl ?_
  refine mm_aload_n dX4_begin_1 rfl rfl ?_
  refine mm_put3 (ci := 4) (fs1 := [.null, .null, .null, .null, .long 0, .int 0, .int 0]) in_X4 tyX4_ok nmX4 rfl (k := 0) (by decide) rfl rfl kF_X4_9 dX4_begin_2 (mm_fit_null _) h1091 (Nat.le_of_ble_eq_true rfl) (Nat.le_of_ble_eq_true rfl) rfl ?_
  refine mm_aload_n dX4_begin_5 rfl rfl ?_
  refine mm_null dX4_begin_6 ?_
  refine mm_put3 (ci := 4) (fs1 := [.null, .null, .null, .null, .long 0, .int 0, .int 0]) in_X4 tyX4_ok nmX4 rfl (k := 1) (by decide) rfl rfl kF_X4_15 dX4_begin_7 (mm_fit_null _) mm_up_s (Nat.le_of_ble_eq_true rfl) (Nat.le_of_ble_eq_true rfl) rfl ?_
  refine mm_aload_n dX4_begin_10 rfl rfl ?_
  refine mm_null dX4_begin_11 ?_
  refine mm_put3 (ci := 4) (fs1 := [.null, .null, .null, .null, .long 0, .int 0, .int 0]) in_X4 tyX4_ok nmX4 rfl (k := 2) (by decide) rfl rfl kF_X4_19 dX4_begin_12 (mm_fit_null _) mm_up_s (Nat.le_of_ble_eq_true rfl) (Nat.le_of_ble_eq_true rfl) rfl ?_
  refine mm_aload_n dX4_begin_15 rfl rfl ?_
  refine mm_null dX4_begin_16 ?_
  refine mm_put3 (ci := 4) (fs1 := [.null, .null, .null, .null, .long 0, .int 0, .int 0]) in_X4 tyX4_ok nmX4 rfl (k := 3) (by decide) rfl rfl kF_X4_22 dX4_begin_17 (mm_fit_null _) mm_up_s (Nat.le_of_ble_eq_true rfl) (Nat.le_of_ble_eq_true rfl) rfl ?_
  refine mm_aload_n dX4_begin_20 rfl rfl ?_
  refine mm_lconst (v := 0) dX4_begin_21 (by decide) ?_
  refine mm_put3 (ci := 4) (fs1 := [.null, .null, .null, .null, .long 0, .int 0, .int 0]) in_X4 tyX4_ok nmX4 rfl (k := 4) (by decide) rfl rfl kF_X4_25 dX4_begin_22 (mm_fit_long _) mm_up_s (Nat.le_of_ble_eq_true rfl) (Nat.le_of_ble_eq_true rfl) rfl ?_
  refine mm_aload_n dX4_begin_25 rfl rfl ?_
  refine mm_iconst (v := 0) dX4_begin_26 (by decide) ?_
  refine mm_put3 (ci := 4) (fs1 := [.null, .null, .null, .null, .long 0, .int 0, .int 0]) in_X4 tyX4_ok nmX4 rfl (k := 5) (by decide) rfl rfl kF_X4_29 dX4_begin_27 (mm_fit_int _) mm_up_s (Nat.le_of_ble_eq_true rfl) (Nat.le_of_ble_eq_true rfl) rfl ?_
  refine mm_aload_n dX4_begin_30 rfl rfl ?_
  refine mm_iconst (v := 0) dX4_begin_31 (by decide) ?_
  refine mm_put3 (ci := 4) (fs1 := [.null, .null, .null, .null, .long 0, .int 0, .int 0]) in_X4 tyX4_ok nmX4 rfl (k := 6) (by decide) rfl rfl kF_X4_33 dX4_begin_32 (mm_fit_int _) mm_up_s (Nat.le_of_ble_eq_true rfl) (Nat.le_of_ble_eq_true rfl) rfl ?_
  refine mm_vret dX4_begin_35 rfl ?_ (by omega) (by omega)
  refine ⟨rfl, rfl, ?_⟩
  dsimp only
  exact ⟨mm_up_s, fun x e1091 => mm_upN e1091 (mm_upN e1091 (mm_upN e1091 (mm_upN e1091 (mm_upN e1091 (mm_upN e1091 (mm_upN e1091 (rfl)))))))⟩

set_option maxHeartbeats 4000000 in
set_option maxRecDepth 100000 in
theorem k219_X8_drop {g : mm_G} {l : Launch} (hst : l.stackTraces = false) {d : Nat} (M : Nat → mm_C) (q1 q2 : Int32) (h389 : M 389 = .inr (8, [.ref 390, .ref 1091, .ref 1092, .int 0, .null, .null])) (h1091 : M 1091 = .inr (4, [.null, .null, .null, .null, .long 0, .int 0, .int 0])) (h1092 : M 1092 = .inr (0, [.ref 1093, .int 0, .int 0])) : mm_Cm g l yX8_drop (.code yX8_drop cX8_drop 1 none) (d + 1) 0 0 [.ref 389] (M, 1186, false) (fun v S' => v = none ∧ S'.2 = (1186, false) ∧ S'.1 389 = .inr (8, [.ref 390, .ref 1091, .ref 1092, .int 0, .null, .null]) ∧ S'.1 1092 = .inr (0, [.ref 1093, .int 0, .int 0]) ∧ S'.1 1091 = .inr (4, [.null, .null, .null, .null, .long 0, .int 0, .int 0]) ∧ ∀ j, j ≠ 389 → j ≠ 1092 → j ≠ 1091 → S'.1 j = M j) := by
  refine mm_Cm_of hst (by decide) (Nat.le_of_ble_eq_true rfl) ?_
  show mm_V g l RX8 "drop" cX8_drop 1 none [] (d + 1) 0 0 _ 0 [some (.ref 389)] [] (M, 1186, false) 0 0
  refine mm_aload_n dX8_drop_0 rfl rfl ?_
  refine mm_null dX8_drop_1 ?_
  refine mm_put3 (ci := 8) (fs1 := [.ref 390, .ref 1091, .ref 1092, .int 0, .null, .null]) in_X8 tyX8_ok nmX8 rfl (k := 4) (by decide) rfl rfl kF_X8_37 dX8_drop_2 (mm_fit_null _) h389 (Nat.le_of_ble_eq_true rfl) (Nat.le_of_ble_eq_true rfl) rfl ?_
  refine mm_aload_n dX8_drop_5 rfl rfl ?_
  refine mm_null dX8_drop_6 ?_
  refine mm_put3 (ci := 8) (fs1 := [.ref 390, .ref 1091, .ref 1092, .int 0, .null, .null]) in_X8 tyX8_ok nmX8 rfl (k := 5) (by decide) rfl rfl kF_X8_33 dX8_drop_7 (mm_fit_null _) mm_up_s (Nat.le_of_ble_eq_true rfl) (Nat.le_of_ble_eq_true rfl) rfl ?_
  refine mm_aload_n dX8_drop_10 rfl rfl ?_
  refine mm_get3 (ci := 8) in_X8 rfl (k := 2) (by decide) rfl kF_X8_29 dX8_drop_11 mm_up_s (Nat.le_of_ble_eq_true rfl) rfl ?_
  refine mm_callV3 (ci := 0) wM_X0_clear kM_X8_45 wI_X0_clear wS_X0_clear dX8_drop_14 (k220_X0_clear hst _ q1 q2 (mm_upN (by decide) (mm_upN (by decide) h1092))) (mm_upN (by decide) (mm_upN (by decide) h1092)) (Nat.le_of_ble_eq_true rfl) rfl rfl rfl (Nat.le_of_ble_eq_true rfl) (by omega) (by omega) (fun v S9 hq => ?_)
  obtain ⟨M221, z221⟩ := S9
  obtain ⟨rfl, hz221, g221_1092, g221_F⟩ := hq
  cases hz221
  refine ⟨fun h => ⟨h, rfl⟩, ?_⟩
  refine mm_aload_n dX8_drop_17 rfl rfl ?_
  refine mm_iconst (v := 0) dX8_drop_18 (by decide) ?_
  refine mm_put3 (ci := 8) (fs1 := [.ref 390, .ref 1091, .ref 1092, .int 0, .null, .null]) in_X8 tyX8_ok nmX8 rfl (k := 3) (by decide) rfl rfl kF_X8_48 dX8_drop_19 (mm_fit_int _) (mm_frN (g221_F _ (by decide)) mm_up_s) (Nat.le_of_ble_eq_true rfl) (Nat.le_of_ble_eq_true rfl) rfl ?_
  refine mm_aload_n dX8_drop_22 rfl rfl ?_
  refine mm_get3 (ci := 8) in_X8 rfl (k := 1) (by decide) rfl kF_X8_20 dX8_drop_23 mm_up_s (Nat.le_of_ble_eq_true rfl) rfl ?_
  refine mm_null dX8_drop_26 ?_
  refine mm_callV3 (ci := 4) wM_X4_begin kM_X8_52 wI_X4_begin wS_X4_begin dX8_drop_27 (k222_X4_begin hst _ q1 q2 (mm_upN (by decide) (mm_frN (g221_F _ (by decide)) (mm_upN (by decide) (mm_upN (by decide) h1091))))) (mm_upN (by decide) (mm_frN (g221_F _ (by decide)) (mm_upN (by decide) (mm_upN (by decide) h1091)))) (Nat.le_of_ble_eq_true rfl) rfl rfl rfl (Nat.le_of_ble_eq_true rfl) (by omega) (by omega) (fun v S9 hq => ?_)
  obtain ⟨M223, z223⟩ := S9
  obtain ⟨rfl, hz223, g223_1091, g223_F⟩ := hq
  cases hz223
  refine ⟨fun h => ⟨h, rfl⟩, ?_⟩
  refine mm_vret dX8_drop_30 rfl ?_ (by omega) (by omega)
  refine ⟨rfl, rfl, ?_⟩
  dsimp only
  exact ⟨(mm_frN (g223_F _ (by decide)) mm_up_s), (mm_frN (g223_F _ (by decide)) (mm_upN (by decide) g221_1092)), g223_1091, fun x e389 e1092 e1091 => mm_frN (g223_F _ e1091 ) (mm_upN e389 (mm_frN (g221_F _ e1092 ) (mm_upN e389 (mm_upN e389 (rfl)))))⟩

set_option maxHeartbeats 4000000 in
set_option maxRecDepth 100000 in
theorem k212_X11_settle {g : mm_G} {l : Launch} (hst : l.stackTraces = false) {d : Nat} (M : Nat → mm_C) (q1 q2 : Int32) (h0 : M 0 = .inr (11, [.ref 1, .ref 3, .ref 5, .ref 197, .ref 389, .ref 1094, .ref 1095, .ref 1097, .int (-1)])) (h1 : M 1 = .inr (0, [.ref 2, .int 0, .int 0])) (h389 : M 389 = .inr (8, [.ref 390, .ref 1091, .ref 1092, .int 0, .null, .null])) (h1091 : M 1091 = .inr (4, [.null, .null, .null, .null, .long 0, .int 0, .int 0])) (h1092 : M 1092 = .inr (0, [.ref 1093, .int 0, .int 0])) : mm_Ct g l yX11_settle (.code yX11_settle cX11_settle 4 (some .int)) (d + 2) 1 6 [.ref 0, .int 0] (M, 1186, false) (fun r S' => r = .inr "java/lang/IllegalArgumentException" ∧ S'.2 = (1186, true) ∧ S'.1 1 = .inr (0, [.ref 2, .int 0, .int 0]) ∧ S'.1 389 = .inr (8, [.ref 390, .ref 1091, .ref 1092, .int 0, .null, .null]) ∧ S'.1 1092 = .inr (0, [.ref 1093, .int 0, .int 0]) ∧ S'.1 1091 = .inr (4, [.null, .null, .null, .null, .long 0, .int 0, .int 0]) ∧ ∀ j, j ≠ 1 → j ≠ 389 → j ≠ 1092 → j ≠ 1091 → S'.1 j = M j) := by
  refine mm_Ct_of hst (by decide) (Nat.le_of_ble_eq_true rfl) ?_
  show mm_V g l RX11 "settle" cX11_settle 4 (some .int) [] (d + 2) 1 6 _ 0 [some (.ref 0), some (.int 0), none, none] [] (M, 1186, false) 0 0
  refine mm_aload_n dX11_settle_0 rfl rfl ?_
  refine mm_get3 (ci := 11) in_X11 rfl (k := 0) (by decide) rfl kF_X11_14 dX11_settle_1 h0 (Nat.le_of_ble_eq_true rfl) rfl ?_
  refine mm_callV3 (ci := 0) wM_X0_clear kM_X11_99 wI_X0_clear wS_X0_clear dX11_settle_4 (k213_X0_clear hst _ q1 q2 h1) h1 (Nat.le_of_ble_eq_true rfl) rfl rfl rfl (Nat.le_of_ble_eq_true rfl) (by omega) (by omega) (fun v S9 hq => ?_)
  obtain ⟨M214, z214⟩ := S9
  obtain ⟨rfl, hz214, g214_1, g214_F⟩ := hq
  cases hz214
  refine ⟨fun h => ⟨h, rfl⟩, ?_⟩
  refine mm_iload_n dX11_settle_7 rfl ?_
  refine mm_if_eq 21 dX11_settle_8 (by decide) (fun _ => ?_) (fun h => absurd (by decide) h)
  refine mm_iconst (v := 0) dX11_settle_21 (by decide) ?_
  refine mm_istore_n [some (.ref 0), some (.int 0), some (.int 0), none] dX11_settle_22 (by decide) rfl ?_
  refine mm_iload_n dX11_settle_23 rfl ?_
  refine mm_sipush (v := 200) dX11_settle_24 (by decide) ?_
  refine mm_icmp_gt 40 dX11_settle_27 (by decide) (fun h => absurd h (by decide)) (fun _ => ?_)
  refine mm_aload_n dX11_settle_30 rfl rfl ?_
  refine mm_get3 (ci := 11) in_X11 rfl (k := 4) (by decide) rfl kF_X11_34 dX11_settle_31 (mm_frN (g214_F _ (by decide)) h0) (Nat.le_of_ble_eq_true rfl) rfl ?_
  refine mm_callV3 (ci := 8) wM_X8_isSpilt kM_X11_228 wI_X8_isSpilt wS_X8_isSpilt dX11_settle_34 (k215_X8_isSpilt hst _ q1 q2 (mm_frN (g214_F _ (by decide)) h389) (mm_frN (g214_F _ (by decide)) h1092)) (mm_frN (g214_F _ (by decide)) h389) (Nat.le_of_ble_eq_true rfl) rfl rfl rfl (Nat.le_of_ble_eq_true rfl) (by omega) (by omega) (fun v S9 hq => ?_)
  obtain ⟨rfl, rfl⟩ := hq
  refine ⟨fun h => ⟨h, rfl⟩, ?_⟩
  refine mm_if_eq 44 dX11_settle_37 (by decide) (fun _ => ?_) (fun h => absurd (by decide) h)
  refine mm_iconst (v := 0) dX11_settle_44 (by decide) ?_
  refine mm_istore_n [some (.ref 0), some (.int 0), some (.int 0), some (.int 0)] dX11_settle_45 (by decide) rfl ?_
  refine mm_iload_n dX11_settle_46 rfl ?_
  refine mm_if_eq 54 dX11_settle_47 (by decide) (fun _ => ?_) (fun h => absurd (by decide) h)
  refine mm_aload_n dX11_settle_54 rfl rfl ?_
  refine mm_get3 (ci := 11) in_X11 rfl (k := 4) (by decide) rfl kF_X11_34 dX11_settle_55 (mm_frN (g214_F _ (by decide)) h0) (Nat.le_of_ble_eq_true rfl) rfl ?_
  refine mm_callV3 (ci := 8) wM_X8_drop kM_X11_92 wI_X8_drop wS_X8_drop dX11_settle_58 (k219_X8_drop hst _ q1 q2 (mm_frN (g214_F _ (by decide)) h389) (mm_frN (g214_F _ (by decide)) h1091) (mm_frN (g214_F _ (by decide)) h1092)) (mm_frN (g214_F _ (by decide)) h389) (Nat.le_of_ble_eq_true rfl) rfl rfl rfl (Nat.le_of_ble_eq_true rfl) (by omega) (by omega) (fun v S9 hq => ?_)
  obtain ⟨M224, z224⟩ := S9
  obtain ⟨rfl, hz224, g224_389, g224_1092, g224_1091, g224_F⟩ := hq
  cases hz224
  refine ⟨fun h => ⟨h, rfl⟩, ?_⟩
  refine mm_iload_n dX11_settle_61 rfl ?_
  refine mm_if_ne 75 dX11_settle_62 (by decide) (fun h => absurd (by decide) h) (fun _ => ?_)
  refine mm_throw (k := 8) (text := "no such schema, message or depth, or the tape is wrong") (by decide) kC_X11_67 wj_IllegalArgumentException rfl at_71 rfl dX11_settle_65 dX11_settle_68 dX11_settle_69 dX11_settle_71 dX11_settle_74 (Nat.le_of_ble_eq_true rfl) (by omega) (by omega) ?_
  refine ⟨rfl, rfl, ?_⟩
  dsimp only
  exact ⟨(mm_frN (g224_F _ (by decide) (by decide) (by decide)) g214_1), g224_389, g224_1092, g224_1091, fun x e1 e389 e1092 e1091 => mm_frN (g224_F _ e389 e1092 e1091 ) (mm_frN (g214_F _ e1 ) (rfl))⟩

set_option maxHeartbeats 4000000 in
set_option maxRecDepth 100000 in
theorem f_decode_1 {g : mm_G} {l : Launch} (hst : l.stackTraces = false) {d : Nat} (M : Nat → mm_C) (q1 q2 : Int32) (h0 : M 0 = .inr (11, [.ref 1, .ref 3, .ref 5, .ref 197, .ref 389, .ref 1094, .ref 1095, .ref 1097, .int (-1)])) (h1 : M 1 = .inr (0, [.ref 2, .int 0, .int 0])) (h197 : M 197 = .inr (2, [.ref 198, .ref 383, .ref 388, .int 0, .int 0])) (h198 : M 198 = .inr (6, [.ref 199, .ref 201, .ref 382, .int 0, .int 0])) (h389 : M 389 = .inr (8, [.ref 390, .ref 1091, .ref 1092, .int 0, .null, .null])) (h1091 : M 1091 = .inr (4, [.null, .null, .null, .null, .long 0, .int 0, .int 0])) (h1092 : M 1092 = .inr (0, [.ref 1093, .int 0, .int 0])) : mm_Ct g l yX11_decode (.code yX11_decode cX11_decode 4 (some .int)) (d + 3) 1 6 [.ref 0, .int 1, .int q1, .int q2] (M, 1186, false) (fun r S' => r = .inr "java/lang/IllegalArgumentException" ∧ S'.2 = (1186, true) ∧ ∀ j, 1101 ≤ j → S'.1 j = M j) := by
  refine mm_Ct_of hst (by decide) (Nat.le_of_ble_eq_true rfl) ?_
  show mm_V g l RX11 "decode" cX11_decode 4 (some .int) [] (d + 3) 1 6 _ 0 [some (.ref 0), some (.int 1), some (.int q1), some (.int q2)] [] (M, 1186, false) 0 0
  refine mm_aload_n dX11_decode_0 rfl rfl ?_
  refine mm_aload_n dX11_decode_1 rfl rfl ?_
  refine mm_iload_n dX11_decode_2 rfl ?_
  refine mm_iload_n dX11_decode_3 rfl ?_
  refine mm_iload_n dX11_decode_4 rfl ?_
  refine mm_callV3 (ci := 11) wM_X11_opens kM_X11_162 wI_X11_opens wS_X11_opens dX11_decode_5 (k201_X11_opens hst _ q1 q2 h0 h197 h198) h0 (Nat.le_of_ble_eq_true rfl) rfl rfl rfl (Nat.le_of_ble_eq_true rfl) (by omega) (by omega) (fun v S9 hq => ?_)
  obtain ⟨rfl, rfl⟩ := hq
  refine ⟨fun h => ⟨h, rfl⟩, ?_⟩
  refine mm_if_eq 26 dX11_decode_8 (by decide) (fun _ => ?_) (fun h => absurd (by decide) h)
  refine mm_iconst (v := 0) dX11_decode_26 (by decide) ?_
  refine mm_callX3 (ci := 11) wM_X11_settle kM_X11_170 wI_X11_settle wS_X11_settle dX11_decode_27 (k212_X11_settle hst _ q1 q2 h0 h1 h389 h1091 h1092) h0 (Nat.le_of_ble_eq_true rfl) rfl rfl rfl (Nat.le_of_ble_eq_true rfl) (by omega) (by omega) (fun v S9 hq => by cases hq.1) rfl (fun E9 S9 hq => ?_)
  obtain ⟨M225, z225⟩ := S9
  obtain ⟨hE225, hz225, g225_1, g225_389, g225_1092, g225_1091, g225_F⟩ := hq
  cases hE225
  cases hz225
  refine ⟨rfl, rfl, fun x hx => ?_⟩
  dsimp only
  exact mm_frN (g225_F _ (by omega) (by omega) (by omega) (by omega) ) (rfl)

set_option maxHeartbeats 4000000 in
set_option maxRecDepth 100000 in
theorem k227_X11_compilerOf {g : mm_G} {l : Launch} (hst : l.stackTraces = false) {d : Nat} (M : Nat → mm_C) (p : Int32) (hp0 : ¬ p = 0) (hp1 : ¬ p = 1) (q1 q2 : Int32) : mm_Cm g l yX11_compilerOf (.code yX11_compilerOf cX11_compilerOf 2 (some (.object "ProtoDesk$Compiler"))) d 0 0 [.ref 0, .int p] (M, 1186, false) (fun v S' => v = some (.null) ∧ S' = (M, 1186, false)) := by
  refine mm_Cm_of hst (by decide) (Nat.le_of_ble_eq_true rfl) ?_
  show mm_V g l RX11 "compilerOf" cX11_compilerOf 2 (some (.object "ProtoDesk$Compiler")) [] d 0 0 _ 0 [some (.ref 0), some (.int p)] [] (M, 1186, false) 0 0
  refine mm_iload_n dX11_compilerOf_0 rfl ?_
  refine mm_if_ne 11 dX11_compilerOf_1 (by decide) (fun _ => ?_) (fun h => absurd h hp0)
  refine mm_iload_n dX11_compilerOf_11 rfl ?_
  refine mm_iconst (v := 1) dX11_compilerOf_12 (by decide) ?_
  refine mm_icmp_ne 23 dX11_compilerOf_13 (by decide) (fun _ => ?_) (fun h => absurd h hp1)
  refine mm_null dX11_compilerOf_23 ?_
  refine mm_aret (a := none) dX11_compilerOf_24 rfl ?_ (by omega) (by omega)
  exact ⟨rfl, rfl⟩

set_option maxHeartbeats 4000000 in
set_option maxRecDepth 100000 in
theorem k229_X11_messageOf {g : mm_G} {l : Launch} (hst : l.stackTraces = false) {d : Nat} (M : Nat → mm_C) (p : Int32) (hp0 : ¬ p = 0) (hp1 : ¬ p = 1) (q1 q2 : Int32) (h0 : M 0 = .inr (11, [.ref 1, .ref 3, .ref 5, .ref 197, .ref 389, .ref 1094, .ref 1095, .ref 1097, .int (-1)])) : mm_Cm g l yX11_messageOf (.code yX11_messageOf cX11_messageOf 4 (some (.object "ProtoDesk$Item"))) (d + 1) 0 0 [.ref 0, .int p, .int q1] (M, 1186, false) (fun v S' => v = some (.null) ∧ S' = (M, 1186, false)) := by
  refine mm_Cm_of hst (by decide) (Nat.le_of_ble_eq_true rfl) ?_
  show mm_V g l RX11 "messageOf" cX11_messageOf 4 (some (.object "ProtoDesk$Item")) [] (d + 1) 0 0 _ 0 [some (.ref 0), some (.int p), some (.int q1), none] [] (M, 1186, false) 0 0
  refine mm_aload_n dX11_messageOf_0 rfl rfl ?_
  refine mm_iload_n dX11_messageOf_1 rfl ?_
  refine mm_callV3 (ci := 11) wM_X11_compilerOf kM_X11_86 wI_X11_compilerOf wS_X11_compilerOf dX11_messageOf_2 (k227_X11_compilerOf hst _ p hp0 hp1 q1 q2 ) h0 (Nat.le_of_ble_eq_true rfl) rfl rfl rfl (Nat.le_of_ble_eq_true rfl) (by omega) (by omega) (fun v S9 hq => ?_)
  obtain ⟨rfl, rfl⟩ := hq
  refine ⟨fun h => ⟨h, rfl⟩, ?_⟩
  refine mm_astore_n [some (.ref 0), some (.int p), some (.int q1), some (.null)] dX11_messageOf_5 (by decide) rfl rfl ?_
  refine mm_aload_n dX11_messageOf_6 rfl rfl ?_
  refine mm_ifnonnull (r := none) 14 dX11_messageOf_7 (by decide) (fun h => absurd (by simp) h) (fun _ => ?_)
  refine mm_null dX11_messageOf_10 ?_
  refine mm_goto 22 dX11_messageOf_11 (by decide) ?_
  refine mm_aret (a := none) dX11_messageOf_22 rfl ?_ (by omega) (by omega)
  exact ⟨rfl, rfl⟩

set_option maxHeartbeats 4000000 in
set_option maxRecDepth 100000 in
theorem k226_X11_opens {g : mm_G} {l : Launch} (hst : l.stackTraces = false) {d : Nat} (M : Nat → mm_C) (p : Int32) (hp0 : ¬ p = 0) (hp1 : ¬ p = 1) (q1 q2 : Int32) (h0 : M 0 = .inr (11, [.ref 1, .ref 3, .ref 5, .ref 197, .ref 389, .ref 1094, .ref 1095, .ref 1097, .int (-1)])) : mm_Cm g l yX11_opens (.code yX11_opens cX11_opens 6 (some .boolean)) (d + 2) 0 0 [.ref 0, .int p, .int q1, .int q2] (M, 1186, false) (fun v S' => v = some (.int 0) ∧ S' = (M, 1186, false)) := by
  refine mm_Cm_of hst (by decide) (Nat.le_of_ble_eq_true rfl) ?_
  show mm_V g l RX11 "opens" cX11_opens 6 (some .boolean) [] (d + 2) 0 0 _ 0 [some (.ref 0), some (.int p), some (.int q1), some (.int q2), none, none] [] (M, 1186, false) 0 0
  refine mm_aload_n dX11_opens_0 rfl rfl ?_
  refine mm_iload_n dX11_opens_1 rfl ?_
  refine mm_callV3 (ci := 11) wM_X11_compilerOf kM_X11_86 wI_X11_compilerOf wS_X11_compilerOf dX11_opens_2 (k227_X11_compilerOf hst _ p hp0 hp1 q1 q2 ) h0 (Nat.le_of_ble_eq_true rfl) rfl rfl rfl (Nat.le_of_ble_eq_true rfl) (by omega) (by omega) (fun v S9 hq => ?_)
  obtain ⟨rfl, rfl⟩ := hq
  refine ⟨fun h => ⟨h, rfl⟩, ?_⟩
  refine mm_astore [some (.ref 0), some (.int p), some (.int q1), some (.int q2), some (.null), none] dX11_opens_5 (by decide) rfl rfl ?_
  refine mm_aload_n dX11_opens_7 rfl rfl ?_
  refine mm_iload_n dX11_opens_8 rfl ?_
  refine mm_iload_n dX11_opens_9 rfl ?_
  refine mm_callV3 (ci := 11) wM_X11_messageOf kM_X11_119 wI_X11_messageOf wS_X11_messageOf dX11_opens_10 (k229_X11_messageOf hst _ p hp0 hp1 q1 q2 h0) h0 (Nat.le_of_ble_eq_true rfl) rfl rfl rfl (Nat.le_of_ble_eq_true rfl) (by omega) (by omega) (fun v S9 hq => ?_)
  obtain ⟨rfl, rfl⟩ := hq
  refine ⟨fun h => ⟨h, rfl⟩, ?_⟩
  refine mm_astore [some (.ref 0), some (.int p), some (.int q1), some (.int q2), some (.null), some (.null)] dX11_opens_13 (by decide) rfl rfl ?_
  refine mm_aload dX11_opens_15 rfl rfl ?_
  refine mm_ifnull (r := none) 36 dX11_opens_17 (by decide) (fun _ => ?_) (fun h => absurd (by simp) h)
  refine mm_iconst (v := 0) dX11_opens_36 (by decide) ?_
  refine mm_iret dX11_opens_37 rfl rfl ?_ (by omega) (by omega)
  exact ⟨rfl, rfl⟩

set_option maxHeartbeats 4000000 in
set_option maxRecDepth 100000 in
theorem k234_X0_clear {g : mm_G} {l : Launch} (hst : l.stackTraces = false) {d : Nat} (M : Nat → mm_C) (p : Int32) (hp0 : ¬ p = 0) (hp1 : ¬ p = 1) (q1 q2 : Int32) (h1 : M 1 = .inr (0, [.ref 2, .int 0, .int 0])) : mm_Cm g l yX0_clear (.code yX0_clear cX0_clear 1 none) d 0 0 [.ref 1] (M, 1186, false) (fun v S' => v = none ∧ S'.2 = (1186, false) ∧ S'.1 1 = .inr (0, [.ref 2, .int 0, .int 0]) ∧ ∀ j, j ≠ 1 → S'.1 j = M j) := by
  refine mm_Cm_of hst (by decide) (Nat.le_of_ble_eq_true rfl) ?_
  show mm_V g l RX0 "clear" cX0_clear 1 none [] d 0 0 _ 0 [some (.ref 1)] [] (M, 1186, false) 0 0
  refine mm_aload_n dX0_clear_0 rfl rfl ?_
  refine mm_iconst (v := 0) dX0_clear_1 (by decide) ?_
  refine mm_put3 (ci := 0) (fs1 := [.ref 2, .int 0, .int 0]) in_X0 tyX0_ok nmX0 rfl (k := 1) (by decide) rfl rfl kF_X0_19 dX0_clear_2 (mm_fit_int _) h1 (Nat.le_of_ble_eq_true rfl) (Nat.le_of_ble_eq_true rfl) rfl ?_
  refine mm_aload_n dX0_clear_5 rfl rfl ?_
  refine mm_iconst (v := 0) dX0_clear_6 (by decide) ?_
  refine mm_put3 (ci := 0) (fs1 := [.ref 2, .int 0, .int 0]) in_X0 tyX0_ok nmX0 rfl (k := 2) (by decide) rfl rfl kF_X0_23 dX0_clear_7 mm_fit_z0 mm_up_s (Nat.le_of_ble_eq_true rfl) (Nat.le_of_ble_eq_true rfl) rfl ?_
  refine mm_vret dX0_clear_10 rfl ?_ (by omega) (by omega)
  refine ⟨rfl, rfl, ?_⟩
  dsimp only
  exact ⟨mm_up_s, fun x e1 => mm_upN e1 (mm_upN e1 (rfl))⟩

set_option maxHeartbeats 4000000 in
set_option maxRecDepth 100000 in
theorem k237_X0_isSpilt {g : mm_G} {l : Launch} (hst : l.stackTraces = false) {d : Nat} (M : Nat → mm_C) (p : Int32) (hp0 : ¬ p = 0) (hp1 : ¬ p = 1) (q1 q2 : Int32) (h1092 : M 1092 = .inr (0, [.ref 1093, .int 0, .int 0])) : mm_Cm g l yX0_isSpilt (.code yX0_isSpilt cX0_isSpilt 1 (some .boolean)) d 0 0 [.ref 1092] (M, 1186, false) (fun v S' => v = some (.int 0) ∧ S' = (M, 1186, false)) := by
  refine mm_Cm_of hst (by decide) (Nat.le_of_ble_eq_true rfl) ?_
  show mm_V g l RX0 "isSpilt" cX0_isSpilt 1 (some .boolean) [] d 0 0 _ 0 [some (.ref 1092)] [] (M, 1186, false) 0 0
  refine mm_aload_n dX0_isSpilt_0 rfl rfl ?_
  refine mm_get3 (ci := 0) in_X0 rfl (k := 2) (by decide) rfl kF_X0_23 dX0_isSpilt_1 h1092 (Nat.le_of_ble_eq_true rfl) rfl ?_
  refine mm_iret dX0_isSpilt_4 rfl rfl ?_ (by omega) (by omega)
  exact ⟨rfl, rfl⟩

set_option maxHeartbeats 4000000 in
set_option maxRecDepth 100000 in
theorem k236_X8_isSpilt {g : mm_G} {l : Launch} (hst : l.stackTraces = false) {d : Nat} (M : Nat → mm_C) (p : Int32) (hp0 : ¬ p = 0) (hp1 : ¬ p = 1) (q1 q2 : Int32) (h389 : M 389 = .inr (8, [.ref 390, .ref 1091, .ref 1092, .int 0, .null, .null])) (h1092 : M 1092 = .inr (0, [.ref 1093, .int 0, .int 0])) : mm_Cm g l yX8_isSpilt (.code yX8_isSpilt cX8_isSpilt 1 (some .boolean)) (d + 1) 0 0 [.ref 389] (M, 1186, false) (fun v S' => v = some (.int 0) ∧ S' = (M, 1186, false)) := by
  refine mm_Cm_of hst (by decide) (Nat.le_of_ble_eq_true rfl) ?_
  show mm_V g l RX8 "isSpilt" cX8_isSpilt 1 (some .boolean) [] (d + 1) 0 0 _ 0 [some (.ref 389)] [] (M, 1186, false) 0 0
  refine mm_aload_n dX8_isSpilt_0 rfl rfl ?_
  refine mm_get3 (ci := 8) in_X8 rfl (k := 2) (by decide) rfl kF_X8_29 dX8_isSpilt_1 h389 (Nat.le_of_ble_eq_true rfl) rfl ?_
  refine mm_callV3 (ci := 0) wM_X0_isSpilt kM_X8_41 wI_X0_isSpilt wS_X0_isSpilt dX8_isSpilt_4 (k237_X0_isSpilt hst _ p hp0 hp1 q1 q2 h1092) h1092 (Nat.le_of_ble_eq_true rfl) rfl rfl rfl (Nat.le_of_ble_eq_true rfl) (by omega) (by omega) (fun v S9 hq => ?_)
  obtain ⟨rfl, rfl⟩ := hq
  refine ⟨fun h => ⟨h, rfl⟩, ?_⟩
  refine mm_iret dX8_isSpilt_7 rfl rfl ?_ (by omega) (by omega)
  exact ⟨rfl, rfl⟩

set_option maxHeartbeats 4000000 in
set_option maxRecDepth 100000 in
theorem k241_X0_clear {g : mm_G} {l : Launch} (hst : l.stackTraces = false) {d : Nat} (M : Nat → mm_C) (p : Int32) (hp0 : ¬ p = 0) (hp1 : ¬ p = 1) (q1 q2 : Int32) (h1092 : M 1092 = .inr (0, [.ref 1093, .int 0, .int 0])) : mm_Cm g l yX0_clear (.code yX0_clear cX0_clear 1 none) d 0 0 [.ref 1092] (M, 1186, false) (fun v S' => v = none ∧ S'.2 = (1186, false) ∧ S'.1 1092 = .inr (0, [.ref 1093, .int 0, .int 0]) ∧ ∀ j, j ≠ 1092 → S'.1 j = M j) := by
  refine mm_Cm_of hst (by decide) (Nat.le_of_ble_eq_true rfl) ?_
  show mm_V g l RX0 "clear" cX0_clear 1 none [] d 0 0 _ 0 [some (.ref 1092)] [] (M, 1186, false) 0 0
  refine mm_aload_n dX0_clear_0 rfl rfl ?_
  refine mm_iconst (v := 0) dX0_clear_1 (by decide) ?_
  refine mm_put3 (ci := 0) (fs1 := [.ref 1093, .int 0, .int 0]) in_X0 tyX0_ok nmX0 rfl (k := 1) (by decide) rfl rfl kF_X0_19 dX0_clear_2 (mm_fit_int _) h1092 (Nat.le_of_ble_eq_true rfl) (Nat.le_of_ble_eq_true rfl) rfl ?_
  refine mm_aload_n dX0_clear_5 rfl rfl ?_
  refine mm_iconst (v := 0) dX0_clear_6 (by decide) ?_
  refine mm_put3 (ci := 0) (fs1 := [.ref 1093, .int 0, .int 0]) in_X0 tyX0_ok nmX0 rfl (k := 2) (by decide) rfl rfl kF_X0_23 dX0_clear_7 mm_fit_z0 mm_up_s (Nat.le_of_ble_eq_true rfl) (Nat.le_of_ble_eq_true rfl) rfl ?_
  refine mm_vret dX0_clear_10 rfl ?_ (by omega) (by omega)
  refine ⟨rfl, rfl, ?_⟩
  dsimp only
  exact ⟨mm_up_s, fun x e1092 => mm_upN e1092 (mm_upN e1092 (rfl))⟩

set_option maxHeartbeats 4000000 in
set_option maxRecDepth 100000 in
theorem k243_X4_begin {g : mm_G} {l : Launch} (hst : l.stackTraces = false) {d : Nat} (M : Nat → mm_C) (p : Int32) (hp0 : ¬ p = 0) (hp1 : ¬ p = 1) (q1 q2 : Int32) (h1091 : M 1091 = .inr (4, [.null, .null, .null, .null, .long 0, .int 0, .int 0])) : mm_Cm g l yX4_begin (.code yX4_begin cX4_begin 2 none) d 0 0 [.ref 1091, .null] (M, 1186, false) (fun v S' => v = none ∧ S'.2 = (1186, false) ∧ S'.1 1091 = .inr (4, [.null, .null, .null, .null, .long 0, .int 0, .int 0]) ∧ ∀ j, j ≠ 1091 → S'.1 j = M j) := by
  refine mm_Cm_of hst (by decide) (Nat.le_of_ble_eq_true rfl) ?_
  show mm_V g l RX4 "begin" cX4_begin 2 none [] d 0 0 _ 0 [some (.ref 1091), some (.null)] [] (M, 1186, false) 0 0
  refine mm_aload_n dX4_begin_0 rfl rfl ?_
  refine mm_aload_n dX4_begin_1 rfl rfl ?_
  refine mm_put3 (ci := 4) (fs1 := [.null, .null, .null, .null, .long 0, .int 0, .int 0]) in_X4 tyX4_ok nmX4 rfl (k := 0) (by decide) rfl rfl kF_X4_9 dX4_begin_2 (mm_fit_null _) h1091 (Nat.le_of_ble_eq_true rfl) (Nat.le_of_ble_eq_true rfl) rfl ?_
  refine mm_aload_n dX4_begin_5 rfl rfl ?_
  refine mm_null dX4_begin_6 ?_
  refine mm_put3 (ci := 4) (fs1 := [.null, .null, .null, .null, .long 0, .int 0, .int 0]) in_X4 tyX4_ok nmX4 rfl (k := 1) (by decide) rfl rfl kF_X4_15 dX4_begin_7 (mm_fit_null _) mm_up_s (Nat.le_of_ble_eq_true rfl) (Nat.le_of_ble_eq_true rfl) rfl ?_
  refine mm_aload_n dX4_begin_10 rfl rfl ?_
  refine mm_null dX4_begin_11 ?_
  refine mm_put3 (ci := 4) (fs1 := [.null, .null, .null, .null, .long 0, .int 0, .int 0]) in_X4 tyX4_ok nmX4 rfl (k := 2) (by decide) rfl rfl kF_X4_19 dX4_begin_12 (mm_fit_null _) mm_up_s (Nat.le_of_ble_eq_true rfl) (Nat.le_of_ble_eq_true rfl) rfl ?_
  refine mm_aload_n dX4_begin_15 rfl rfl ?_
  refine mm_null dX4_begin_16 ?_
  refine mm_put3 (ci := 4) (fs1 := [.null, .null, .null, .null, .long 0, .int 0, .int 0]) in_X4 tyX4_ok nmX4 rfl (k := 3) (by decide) rfl rfl kF_X4_22 dX4_begin_17 (mm_fit_null _) mm_up_s (Nat.le_of_ble_eq_true rfl) (Nat.le_of_ble_eq_true rfl) rfl ?_
  refine mm_aload_n dX4_begin_20 rfl rfl ?_
  refine mm_lconst (v := 0) dX4_begin_21 (by decide) ?_
  refine mm_put3 (ci := 4) (fs1 := [.null, .null, .null, .null, .long 0, .int 0, .int 0]) in_X4 tyX4_ok nmX4 rfl (k := 4) (by decide) rfl rfl kF_X4_25 dX4_begin_22 (mm_fit_long _) mm_up_s (Nat.le_of_ble_eq_true rfl) (Nat.le_of_ble_eq_true rfl) rfl ?_
  refine mm_aload_n dX4_begin_25 rfl rfl ?_
  refine mm_iconst (v := 0) dX4_begin_26 (by decide) ?_
  refine mm_put3 (ci := 4) (fs1 := [.null, .null, .null, .null, .long 0, .int 0, .int 0]) in_X4 tyX4_ok nmX4 rfl (k := 5) (by decide) rfl rfl kF_X4_29 dX4_begin_27 (mm_fit_int _) mm_up_s (Nat.le_of_ble_eq_true rfl) (Nat.le_of_ble_eq_true rfl) rfl ?_
  refine mm_aload_n dX4_begin_30 rfl rfl ?_
  refine mm_iconst (v := 0) dX4_begin_31 (by decide) ?_
  refine mm_put3 (ci := 4) (fs1 := [.null, .null, .null, .null, .long 0, .int 0, .int 0]) in_X4 tyX4_ok nmX4 rfl (k := 6) (by decide) rfl rfl kF_X4_33 dX4_begin_32 (mm_fit_int _) mm_up_s (Nat.le_of_ble_eq_true rfl) (Nat.le_of_ble_eq_true rfl) rfl ?_
  refine mm_vret dX4_begin_35 rfl ?_ (by omega) (by omega)
  refine ⟨rfl, rfl, ?_⟩
  dsimp only
  exact ⟨mm_up_s, fun x e1091 => mm_upN e1091 (mm_upN e1091 (mm_upN e1091 (mm_upN e1091 (mm_upN e1091 (mm_upN e1091 (mm_upN e1091 (rfl)))))))⟩

set_option maxHeartbeats 4000000 in
set_option maxRecDepth 100000 in
theorem k240_X8_drop {g : mm_G} {l : Launch} (hst : l.stackTraces = false) {d : Nat} (M : Nat → mm_C) (p : Int32) (hp0 : ¬ p = 0) (hp1 : ¬ p = 1) (q1 q2 : Int32) (h389 : M 389 = .inr (8, [.ref 390, .ref 1091, .ref 1092, .int 0, .null, .null])) (h1091 : M 1091 = .inr (4, [.null, .null, .null, .null, .long 0, .int 0, .int 0])) (h1092 : M 1092 = .inr (0, [.ref 1093, .int 0, .int 0])) : mm_Cm g l yX8_drop (.code yX8_drop cX8_drop 1 none) (d + 1) 0 0 [.ref 389] (M, 1186, false) (fun v S' => v = none ∧ S'.2 = (1186, false) ∧ S'.1 389 = .inr (8, [.ref 390, .ref 1091, .ref 1092, .int 0, .null, .null]) ∧ S'.1 1092 = .inr (0, [.ref 1093, .int 0, .int 0]) ∧ S'.1 1091 = .inr (4, [.null, .null, .null, .null, .long 0, .int 0, .int 0]) ∧ ∀ j, j ≠ 389 → j ≠ 1092 → j ≠ 1091 → S'.1 j = M j) := by
  refine mm_Cm_of hst (by decide) (Nat.le_of_ble_eq_true rfl) ?_
  show mm_V g l RX8 "drop" cX8_drop 1 none [] (d + 1) 0 0 _ 0 [some (.ref 389)] [] (M, 1186, false) 0 0
  refine mm_aload_n dX8_drop_0 rfl rfl ?_
  refine mm_null dX8_drop_1 ?_
  refine mm_put3 (ci := 8) (fs1 := [.ref 390, .ref 1091, .ref 1092, .int 0, .null, .null]) in_X8 tyX8_ok nmX8 rfl (k := 4) (by decide) rfl rfl kF_X8_37 dX8_drop_2 (mm_fit_null _) h389 (Nat.le_of_ble_eq_true rfl) (Nat.le_of_ble_eq_true rfl) rfl ?_
  refine mm_aload_n dX8_drop_5 rfl rfl ?_
  refine mm_null dX8_drop_6 ?_
  refine mm_put3 (ci := 8) (fs1 := [.ref 390, .ref 1091, .ref 1092, .int 0, .null, .null]) in_X8 tyX8_ok nmX8 rfl (k := 5) (by decide) rfl rfl kF_X8_33 dX8_drop_7 (mm_fit_null _) mm_up_s (Nat.le_of_ble_eq_true rfl) (Nat.le_of_ble_eq_true rfl) rfl ?_
  refine mm_aload_n dX8_drop_10 rfl rfl ?_
  refine mm_get3 (ci := 8) in_X8 rfl (k := 2) (by decide) rfl kF_X8_29 dX8_drop_11 mm_up_s (Nat.le_of_ble_eq_true rfl) rfl ?_
  refine mm_callV3 (ci := 0) wM_X0_clear kM_X8_45 wI_X0_clear wS_X0_clear dX8_drop_14 (k241_X0_clear hst _ p hp0 hp1 q1 q2 (mm_upN (by decide) (mm_upN (by decide) h1092))) (mm_upN (by decide) (mm_upN (by decide) h1092)) (Nat.le_of_ble_eq_true rfl) rfl rfl rfl (Nat.le_of_ble_eq_true rfl) (by omega) (by omega) (fun v S9 hq => ?_)
  obtain ⟨M242, z242⟩ := S9
  obtain ⟨rfl, hz242, g242_1092, g242_F⟩ := hq
  cases hz242
  refine ⟨fun h => ⟨h, rfl⟩, ?_⟩
  refine mm_aload_n dX8_drop_17 rfl rfl ?_
  refine mm_iconst (v := 0) dX8_drop_18 (by decide) ?_
  refine mm_put3 (ci := 8) (fs1 := [.ref 390, .ref 1091, .ref 1092, .int 0, .null, .null]) in_X8 tyX8_ok nmX8 rfl (k := 3) (by decide) rfl rfl kF_X8_48 dX8_drop_19 (mm_fit_int _) (mm_frN (g242_F _ (by decide)) mm_up_s) (Nat.le_of_ble_eq_true rfl) (Nat.le_of_ble_eq_true rfl) rfl ?_
  refine mm_aload_n dX8_drop_22 rfl rfl ?_
  refine mm_get3 (ci := 8) in_X8 rfl (k := 1) (by decide) rfl kF_X8_20 dX8_drop_23 mm_up_s (Nat.le_of_ble_eq_true rfl) rfl ?_
  refine mm_null dX8_drop_26 ?_
  refine mm_callV3 (ci := 4) wM_X4_begin kM_X8_52 wI_X4_begin wS_X4_begin dX8_drop_27 (k243_X4_begin hst _ p hp0 hp1 q1 q2 (mm_upN (by decide) (mm_frN (g242_F _ (by decide)) (mm_upN (by decide) (mm_upN (by decide) h1091))))) (mm_upN (by decide) (mm_frN (g242_F _ (by decide)) (mm_upN (by decide) (mm_upN (by decide) h1091)))) (Nat.le_of_ble_eq_true rfl) rfl rfl rfl (Nat.le_of_ble_eq_true rfl) (by omega) (by omega) (fun v S9 hq => ?_)
  obtain ⟨M244, z244⟩ := S9
  obtain ⟨rfl, hz244, g244_1091, g244_F⟩ := hq
  cases hz244
  refine ⟨fun h => ⟨h, rfl⟩, ?_⟩
  refine mm_vret dX8_drop_30 rfl ?_ (by omega) (by omega)
  refine ⟨rfl, rfl, ?_⟩
  dsimp only
  exact ⟨(mm_frN (g244_F _ (by decide)) mm_up_s), (mm_frN (g244_F _ (by decide)) (mm_upN (by decide) g242_1092)), g244_1091, fun x e389 e1092 e1091 => mm_frN (g244_F _ e1091 ) (mm_upN e389 (mm_frN (g242_F _ e1092 ) (mm_upN e389 (mm_upN e389 (rfl)))))⟩

set_option maxHeartbeats 4000000 in
set_option maxRecDepth 100000 in
theorem k233_X11_settle {g : mm_G} {l : Launch} (hst : l.stackTraces = false) {d : Nat} (M : Nat → mm_C) (p : Int32) (hp0 : ¬ p = 0) (hp1 : ¬ p = 1) (q1 q2 : Int32) (h0 : M 0 = .inr (11, [.ref 1, .ref 3, .ref 5, .ref 197, .ref 389, .ref 1094, .ref 1095, .ref 1097, .int (-1)])) (h1 : M 1 = .inr (0, [.ref 2, .int 0, .int 0])) (h389 : M 389 = .inr (8, [.ref 390, .ref 1091, .ref 1092, .int 0, .null, .null])) (h1091 : M 1091 = .inr (4, [.null, .null, .null, .null, .long 0, .int 0, .int 0])) (h1092 : M 1092 = .inr (0, [.ref 1093, .int 0, .int 0])) : mm_Ct g l yX11_settle (.code yX11_settle cX11_settle 4 (some .int)) (d + 2) 1 6 [.ref 0, .int 0] (M, 1186, false) (fun r S' => r = .inr "java/lang/IllegalArgumentException" ∧ S'.2 = (1186, true) ∧ S'.1 1 = .inr (0, [.ref 2, .int 0, .int 0]) ∧ S'.1 389 = .inr (8, [.ref 390, .ref 1091, .ref 1092, .int 0, .null, .null]) ∧ S'.1 1092 = .inr (0, [.ref 1093, .int 0, .int 0]) ∧ S'.1 1091 = .inr (4, [.null, .null, .null, .null, .long 0, .int 0, .int 0]) ∧ ∀ j, j ≠ 1 → j ≠ 389 → j ≠ 1092 → j ≠ 1091 → S'.1 j = M j) := by
  refine mm_Ct_of hst (by decide) (Nat.le_of_ble_eq_true rfl) ?_
  show mm_V g l RX11 "settle" cX11_settle 4 (some .int) [] (d + 2) 1 6 _ 0 [some (.ref 0), some (.int 0), none, none] [] (M, 1186, false) 0 0
  refine mm_aload_n dX11_settle_0 rfl rfl ?_
  refine mm_get3 (ci := 11) in_X11 rfl (k := 0) (by decide) rfl kF_X11_14 dX11_settle_1 h0 (Nat.le_of_ble_eq_true rfl) rfl ?_
  refine mm_callV3 (ci := 0) wM_X0_clear kM_X11_99 wI_X0_clear wS_X0_clear dX11_settle_4 (k234_X0_clear hst _ p hp0 hp1 q1 q2 h1) h1 (Nat.le_of_ble_eq_true rfl) rfl rfl rfl (Nat.le_of_ble_eq_true rfl) (by omega) (by omega) (fun v S9 hq => ?_)
  obtain ⟨M235, z235⟩ := S9
  obtain ⟨rfl, hz235, g235_1, g235_F⟩ := hq
  cases hz235
  refine ⟨fun h => ⟨h, rfl⟩, ?_⟩
  refine mm_iload_n dX11_settle_7 rfl ?_
  refine mm_if_eq 21 dX11_settle_8 (by decide) (fun _ => ?_) (fun h => absurd (by decide) h)
  refine mm_iconst (v := 0) dX11_settle_21 (by decide) ?_
  refine mm_istore_n [some (.ref 0), some (.int 0), some (.int 0), none] dX11_settle_22 (by decide) rfl ?_
  refine mm_iload_n dX11_settle_23 rfl ?_
  refine mm_sipush (v := 200) dX11_settle_24 (by decide) ?_
  refine mm_icmp_gt 40 dX11_settle_27 (by decide) (fun h => absurd h (by decide)) (fun _ => ?_)
  refine mm_aload_n dX11_settle_30 rfl rfl ?_
  refine mm_get3 (ci := 11) in_X11 rfl (k := 4) (by decide) rfl kF_X11_34 dX11_settle_31 (mm_frN (g235_F _ (by decide)) h0) (Nat.le_of_ble_eq_true rfl) rfl ?_
  refine mm_callV3 (ci := 8) wM_X8_isSpilt kM_X11_228 wI_X8_isSpilt wS_X8_isSpilt dX11_settle_34 (k236_X8_isSpilt hst _ p hp0 hp1 q1 q2 (mm_frN (g235_F _ (by decide)) h389) (mm_frN (g235_F _ (by decide)) h1092)) (mm_frN (g235_F _ (by decide)) h389) (Nat.le_of_ble_eq_true rfl) rfl rfl rfl (Nat.le_of_ble_eq_true rfl) (by omega) (by omega) (fun v S9 hq => ?_)
  obtain ⟨rfl, rfl⟩ := hq
  refine ⟨fun h => ⟨h, rfl⟩, ?_⟩
  refine mm_if_eq 44 dX11_settle_37 (by decide) (fun _ => ?_) (fun h => absurd (by decide) h)
  refine mm_iconst (v := 0) dX11_settle_44 (by decide) ?_
  refine mm_istore_n [some (.ref 0), some (.int 0), some (.int 0), some (.int 0)] dX11_settle_45 (by decide) rfl ?_
  refine mm_iload_n dX11_settle_46 rfl ?_
  refine mm_if_eq 54 dX11_settle_47 (by decide) (fun _ => ?_) (fun h => absurd (by decide) h)
  refine mm_aload_n dX11_settle_54 rfl rfl ?_
  refine mm_get3 (ci := 11) in_X11 rfl (k := 4) (by decide) rfl kF_X11_34 dX11_settle_55 (mm_frN (g235_F _ (by decide)) h0) (Nat.le_of_ble_eq_true rfl) rfl ?_
  refine mm_callV3 (ci := 8) wM_X8_drop kM_X11_92 wI_X8_drop wS_X8_drop dX11_settle_58 (k240_X8_drop hst _ p hp0 hp1 q1 q2 (mm_frN (g235_F _ (by decide)) h389) (mm_frN (g235_F _ (by decide)) h1091) (mm_frN (g235_F _ (by decide)) h1092)) (mm_frN (g235_F _ (by decide)) h389) (Nat.le_of_ble_eq_true rfl) rfl rfl rfl (Nat.le_of_ble_eq_true rfl) (by omega) (by omega) (fun v S9 hq => ?_)
  obtain ⟨M245, z245⟩ := S9
  obtain ⟨rfl, hz245, g245_389, g245_1092, g245_1091, g245_F⟩ := hq
  cases hz245
  refine ⟨fun h => ⟨h, rfl⟩, ?_⟩
  refine mm_iload_n dX11_settle_61 rfl ?_
  refine mm_if_ne 75 dX11_settle_62 (by decide) (fun h => absurd (by decide) h) (fun _ => ?_)
  refine mm_throw (k := 8) (text := "no such schema, message or depth, or the tape is wrong") (by decide) kC_X11_67 wj_IllegalArgumentException rfl at_71 rfl dX11_settle_65 dX11_settle_68 dX11_settle_69 dX11_settle_71 dX11_settle_74 (Nat.le_of_ble_eq_true rfl) (by omega) (by omega) ?_
  refine ⟨rfl, rfl, ?_⟩
  dsimp only
  exact ⟨(mm_frN (g245_F _ (by decide) (by decide) (by decide)) g235_1), g245_389, g245_1092, g245_1091, fun x e1 e389 e1092 e1091 => mm_frN (g245_F _ e389 e1092 e1091 ) (mm_frN (g235_F _ e1 ) (rfl))⟩

set_option maxHeartbeats 4000000 in
set_option maxRecDepth 100000 in
theorem f_decode_x {g : mm_G} {l : Launch} (hst : l.stackTraces = false) {d : Nat} (M : Nat → mm_C) (p : Int32) (hp0 : ¬ p = 0) (hp1 : ¬ p = 1) (q1 q2 : Int32) (h0 : M 0 = .inr (11, [.ref 1, .ref 3, .ref 5, .ref 197, .ref 389, .ref 1094, .ref 1095, .ref 1097, .int (-1)])) (h1 : M 1 = .inr (0, [.ref 2, .int 0, .int 0])) (h389 : M 389 = .inr (8, [.ref 390, .ref 1091, .ref 1092, .int 0, .null, .null])) (h1091 : M 1091 = .inr (4, [.null, .null, .null, .null, .long 0, .int 0, .int 0])) (h1092 : M 1092 = .inr (0, [.ref 1093, .int 0, .int 0])) : mm_Ct g l yX11_decode (.code yX11_decode cX11_decode 4 (some .int)) (d + 3) 1 6 [.ref 0, .int p, .int q1, .int q2] (M, 1186, false) (fun r S' => r = .inr "java/lang/IllegalArgumentException" ∧ S'.2 = (1186, true) ∧ ∀ j, 1101 ≤ j → S'.1 j = M j) := by
  refine mm_Ct_of hst (by decide) (Nat.le_of_ble_eq_true rfl) ?_
  show mm_V g l RX11 "decode" cX11_decode 4 (some .int) [] (d + 3) 1 6 _ 0 [some (.ref 0), some (.int p), some (.int q1), some (.int q2)] [] (M, 1186, false) 0 0
  refine mm_aload_n dX11_decode_0 rfl rfl ?_
  refine mm_aload_n dX11_decode_1 rfl rfl ?_
  refine mm_iload_n dX11_decode_2 rfl ?_
  refine mm_iload_n dX11_decode_3 rfl ?_
  refine mm_iload_n dX11_decode_4 rfl ?_
  refine mm_callV3 (ci := 11) wM_X11_opens kM_X11_162 wI_X11_opens wS_X11_opens dX11_decode_5 (k226_X11_opens hst _ p hp0 hp1 q1 q2 h0) h0 (Nat.le_of_ble_eq_true rfl) rfl rfl rfl (Nat.le_of_ble_eq_true rfl) (by omega) (by omega) (fun v S9 hq => ?_)
  obtain ⟨rfl, rfl⟩ := hq
  refine ⟨fun h => ⟨h, rfl⟩, ?_⟩
  refine mm_if_eq 26 dX11_decode_8 (by decide) (fun _ => ?_) (fun h => absurd (by decide) h)
  refine mm_iconst (v := 0) dX11_decode_26 (by decide) ?_
  refine mm_callX3 (ci := 11) wM_X11_settle kM_X11_170 wI_X11_settle wS_X11_settle dX11_decode_27 (k233_X11_settle hst _ p hp0 hp1 q1 q2 h0 h1 h389 h1091 h1092) h0 (Nat.le_of_ble_eq_true rfl) rfl rfl rfl (Nat.le_of_ble_eq_true rfl) (by omega) (by omega) (fun v S9 hq => by cases hq.1) rfl (fun E9 S9 hq => ?_)
  obtain ⟨M246, z246⟩ := S9
  obtain ⟨hE246, hz246, g246_1, g246_389, g246_1092, g246_1091, g246_F⟩ := hq
  cases hE246
  cases hz246
  refine ⟨rfl, rfl, fun x hx => ?_⟩
  dsimp only
  exact mm_frN (g246_F _ (by omega) (by omega) (by omega) (by omega) ) (rfl)

set_option maxHeartbeats 4000000 in
set_option maxRecDepth 100000 in
theorem k248_X11_compilerOf {g : mm_G} {l : Launch} (hst : l.stackTraces = false) {d : Nat} (M : Nat → mm_C) (q1 q2 : Int32) (h0 : M 0 = .inr (11, [.ref 1, .ref 3, .ref 5, .ref 197, .ref 389, .ref 1094, .ref 1095, .ref 1097, .int (-1)])) : mm_Cm g l yX11_compilerOf (.code yX11_compilerOf cX11_compilerOf 2 (some (.object "ProtoDesk$Compiler"))) d 0 0 [.ref 0, .int 0] (M, 1186, false) (fun v S' => v = some (.ref 5) ∧ S' = (M, 1186, false)) := by
  refine mm_Cm_of hst (by decide) (Nat.le_of_ble_eq_true rfl) ?_
  show mm_V g l RX11 "compilerOf" cX11_compilerOf 2 (some (.object "ProtoDesk$Compiler")) [] d 0 0 _ 0 [some (.ref 0), some (.int 0)] [] (M, 1186, false) 0 0
  refine mm_iload_n dX11_compilerOf_0 rfl ?_
  refine mm_if_ne 11 dX11_compilerOf_1 (by decide) (fun h => absurd (by decide) h) (fun _ => ?_)
  refine mm_aload_n dX11_compilerOf_4 rfl rfl ?_
  refine mm_get3 (ci := 11) in_X11 rfl (k := 2) (by decide) rfl kF_X11_24 dX11_compilerOf_5 h0 (Nat.le_of_ble_eq_true rfl) rfl ?_
  refine mm_goto 24 dX11_compilerOf_8 (by decide) ?_
  refine mm_aret (a := some 5) dX11_compilerOf_24 rfl ?_ (by omega) (by omega)
  exact ⟨rfl, rfl⟩

set_option maxHeartbeats 4000000 in
set_option maxRecDepth 100000 in
theorem k252_X2_schema {g : mm_G} {l : Launch} (hst : l.stackTraces = false) {d : Nat} (M : Nat → mm_C) (q1 q2 : Int32) (h5 : M 5 = .inr (2, [.ref 6, .ref 191, .ref 196, .int 0, .int 0])) : mm_Cm g l yX2_schema (.code yX2_schema cX2_schema 1 (some (.object "ProtoDesk$Schema"))) d 0 0 [.ref 5] (M, 1186, false) (fun v S' => v = some (.ref 6) ∧ S' = (M, 1186, false)) := by
  refine mm_Cm_of hst (by decide) (Nat.le_of_ble_eq_true rfl) ?_
  show mm_V g l RX2 "schema" cX2_schema 1 (some (.object "ProtoDesk$Schema")) [] d 0 0 _ 0 [some (.ref 5)] [] (M, 1186, false) 0 0
  refine mm_aload_n dX2_schema_0 rfl rfl ?_
  refine mm_get3 (ci := 2) in_X2 rfl (k := 0) (by decide) rfl kF_X2_12 dX2_schema_1 h5 (Nat.le_of_ble_eq_true rfl) rfl ?_
  refine mm_aret (a := some 6) dX2_schema_4 rfl ?_ (by omega) (by omega)
  exact ⟨rfl, rfl⟩

set_option maxHeartbeats 4000000 in
set_option maxRecDepth 100000 in
theorem k254_X6_message {g : mm_G} {l : Launch} (hst : l.stackTraces = false) {d : Nat} (M : Nat → mm_C) (q1 q2 : Int32) (h6 : M 6 = .inr (6, [.ref 7, .ref 9, .ref 190, .int 0, .int 0])) : mm_Cm g l yX6_message (.code yX6_message cX6_message 4 (some (.object "ProtoDesk$Item"))) d 0 0 [.ref 6, .int q1] (M, 1186, false) (fun v S' => v = some (.null) ∧ S' = (M, 1186, false)) := by
  refine mm_Cm_of hst (by decide) (Nat.le_of_ble_eq_true rfl) ?_
  show mm_V g l RX6 "message" cX6_message 4 (some (.object "ProtoDesk$Item")) [] d 0 0 _ 0 [some (.ref 6), some (.int q1), none, none] [] (M, 1186, false) 0 0
  refine mm_iconst (v := 0) dX6_message_0 (by decide) ?_
  refine mm_istore_n [some (.ref 6), some (.int q1), some (.int 0), none] dX6_message_1 (by decide) rfl ?_
  refine mm_iload_n dX6_message_2 rfl ?_
  refine mm_aload_n dX6_message_3 rfl rfl ?_
  refine mm_get3 (ci := 6) in_X6 rfl (k := 3) (by decide) rfl kF_X6_34 dX6_message_4 h6 (Nat.le_of_ble_eq_true rfl) rfl ?_
  refine mm_icmp_ge 43 dX6_message_7 (by decide) (fun _ => ?_) (fun h => absurd (by decide) h)
  refine mm_null dX6_message_43 ?_
  refine mm_aret (a := none) dX6_message_44 rfl ?_ (by omega) (by omega)
  exact ⟨rfl, rfl⟩

set_option maxHeartbeats 4000000 in
set_option maxRecDepth 100000 in
theorem k250_X11_messageOf {g : mm_G} {l : Launch} (hst : l.stackTraces = false) {d : Nat} (M : Nat → mm_C) (q1 q2 : Int32) (h0 : M 0 = .inr (11, [.ref 1, .ref 3, .ref 5, .ref 197, .ref 389, .ref 1094, .ref 1095, .ref 1097, .int (-1)])) (h5 : M 5 = .inr (2, [.ref 6, .ref 191, .ref 196, .int 0, .int 0])) (h6 : M 6 = .inr (6, [.ref 7, .ref 9, .ref 190, .int 0, .int 0])) : mm_Cm g l yX11_messageOf (.code yX11_messageOf cX11_messageOf 4 (some (.object "ProtoDesk$Item"))) (d + 1) 0 0 [.ref 0, .int 0, .int q1] (M, 1186, false) (fun v S' => v = some (.null) ∧ S' = (M, 1186, false)) := by
  refine mm_Cm_of hst (by decide) (Nat.le_of_ble_eq_true rfl) ?_
  show mm_V g l RX11 "messageOf" cX11_messageOf 4 (some (.object "ProtoDesk$Item")) [] (d + 1) 0 0 _ 0 [some (.ref 0), some (.int 0), some (.int q1), none] [] (M, 1186, false) 0 0
  refine mm_aload_n dX11_messageOf_0 rfl rfl ?_
  refine mm_iload_n dX11_messageOf_1 rfl ?_
  refine mm_callV3 (ci := 11) wM_X11_compilerOf kM_X11_86 wI_X11_compilerOf wS_X11_compilerOf dX11_messageOf_2 (k248_X11_compilerOf hst _ q1 q2 h0) h0 (Nat.le_of_ble_eq_true rfl) rfl rfl rfl (Nat.le_of_ble_eq_true rfl) (by omega) (by omega) (fun v S9 hq => ?_)
  obtain ⟨rfl, rfl⟩ := hq
  refine ⟨fun h => ⟨h, rfl⟩, ?_⟩
  refine mm_astore_n [some (.ref 0), some (.int 0), some (.int q1), some (.ref 5)] dX11_messageOf_5 (by decide) rfl rfl ?_
  refine mm_aload_n dX11_messageOf_6 rfl rfl ?_
  refine mm_ifnonnull (r := some 5) 14 dX11_messageOf_7 (by decide) (fun _ => ?_) (fun h => absurd h (by simp))
  refine mm_aload_n dX11_messageOf_14 rfl rfl ?_
  refine mm_callV3 (ci := 2) wM_X2_schema kM_X11_109 wI_X2_schema wS_X2_schema dX11_messageOf_15 (k252_X2_schema hst _ q1 q2 h5) h5 (Nat.le_of_ble_eq_true rfl) rfl rfl rfl (Nat.le_of_ble_eq_true rfl) (by omega) (by omega) (fun v S9 hq => ?_)
  obtain ⟨rfl, rfl⟩ := hq
  refine ⟨fun h => ⟨h, rfl⟩, ?_⟩
  refine mm_iload_n dX11_messageOf_18 rfl ?_
  refine mm_callV3 (ci := 6) wM_X6_message kM_X11_193 wI_X6_message wS_X6_message dX11_messageOf_19 (k254_X6_message hst _ q1 q2 h6) h6 (Nat.le_of_ble_eq_true rfl) rfl rfl rfl (Nat.le_of_ble_eq_true rfl) (by omega) (by omega) (fun v S9 hq => ?_)
  obtain ⟨rfl, rfl⟩ := hq
  refine ⟨fun h => ⟨h, rfl⟩, ?_⟩
  refine mm_aret (a := none) dX11_messageOf_22 rfl ?_ (by omega) (by omega)
  exact ⟨rfl, rfl⟩

set_option maxHeartbeats 4000000 in
set_option maxRecDepth 100000 in
theorem k247_X11_opens {g : mm_G} {l : Launch} (hst : l.stackTraces = false) {d : Nat} (M : Nat → mm_C) (q1 q2 : Int32) (h0 : M 0 = .inr (11, [.ref 1, .ref 3, .ref 5, .ref 197, .ref 389, .ref 1094, .ref 1095, .ref 1097, .int (-1)])) (h5 : M 5 = .inr (2, [.ref 6, .ref 191, .ref 196, .int 0, .int 0])) (h6 : M 6 = .inr (6, [.ref 7, .ref 9, .ref 190, .int 0, .int 0])) : mm_Cm g l yX11_opens (.code yX11_opens cX11_opens 6 (some .boolean)) (d + 2) 0 0 [.ref 0, .int 0, .int q1, .int q2] (M, 1186, false) (fun v S' => v = some (.int 0) ∧ S' = (M, 1186, false)) := by
  refine mm_Cm_of hst (by decide) (Nat.le_of_ble_eq_true rfl) ?_
  show mm_V g l RX11 "opens" cX11_opens 6 (some .boolean) [] (d + 2) 0 0 _ 0 [some (.ref 0), some (.int 0), some (.int q1), some (.int q2), none, none] [] (M, 1186, false) 0 0
  refine mm_aload_n dX11_opens_0 rfl rfl ?_
  refine mm_iload_n dX11_opens_1 rfl ?_
  refine mm_callV3 (ci := 11) wM_X11_compilerOf kM_X11_86 wI_X11_compilerOf wS_X11_compilerOf dX11_opens_2 (k248_X11_compilerOf hst _ q1 q2 h0) h0 (Nat.le_of_ble_eq_true rfl) rfl rfl rfl (Nat.le_of_ble_eq_true rfl) (by omega) (by omega) (fun v S9 hq => ?_)
  obtain ⟨rfl, rfl⟩ := hq
  refine ⟨fun h => ⟨h, rfl⟩, ?_⟩
  refine mm_astore [some (.ref 0), some (.int 0), some (.int q1), some (.int q2), some (.ref 5), none] dX11_opens_5 (by decide) rfl rfl ?_
  refine mm_aload_n dX11_opens_7 rfl rfl ?_
  refine mm_iload_n dX11_opens_8 rfl ?_
  refine mm_iload_n dX11_opens_9 rfl ?_
  refine mm_callV3 (ci := 11) wM_X11_messageOf kM_X11_119 wI_X11_messageOf wS_X11_messageOf dX11_opens_10 (k250_X11_messageOf hst _ q1 q2 h0 h5 h6) h0 (Nat.le_of_ble_eq_true rfl) rfl rfl rfl (Nat.le_of_ble_eq_true rfl) (by omega) (by omega) (fun v S9 hq => ?_)
  obtain ⟨rfl, rfl⟩ := hq
  refine ⟨fun h => ⟨h, rfl⟩, ?_⟩
  refine mm_astore [some (.ref 0), some (.int 0), some (.int q1), some (.int q2), some (.ref 5), some (.null)] dX11_opens_13 (by decide) rfl rfl ?_
  refine mm_aload dX11_opens_15 rfl rfl ?_
  refine mm_ifnull (r := some 5) 36 dX11_opens_17 (by decide) (fun h => absurd h (by simp)) (fun _ => ?_)
  refine mm_aload dX11_opens_20 rfl rfl ?_
  refine mm_ifnull (r := none) 36 dX11_opens_22 (by decide) (fun _ => ?_) (fun h => absurd (by simp) h)
  refine mm_iconst (v := 0) dX11_opens_36 (by decide) ?_
  refine mm_iret dX11_opens_37 rfl rfl ?_ (by omega) (by omega)
  exact ⟨rfl, rfl⟩

set_option maxHeartbeats 4000000 in
set_option maxRecDepth 100000 in
theorem k259_X0_clear {g : mm_G} {l : Launch} (hst : l.stackTraces = false) {d : Nat} (M : Nat → mm_C) (q1 q2 : Int32) (h1 : M 1 = .inr (0, [.ref 2, .int 0, .int 0])) : mm_Cm g l yX0_clear (.code yX0_clear cX0_clear 1 none) d 0 0 [.ref 1] (M, 1186, false) (fun v S' => v = none ∧ S'.2 = (1186, false) ∧ S'.1 1 = .inr (0, [.ref 2, .int 0, .int 0]) ∧ ∀ j, j ≠ 1 → S'.1 j = M j) := by
  refine mm_Cm_of hst (by decide) (Nat.le_of_ble_eq_true rfl) ?_
  show mm_V g l RX0 "clear" cX0_clear 1 none [] d 0 0 _ 0 [some (.ref 1)] [] (M, 1186, false) 0 0
  refine mm_aload_n dX0_clear_0 rfl rfl ?_
  refine mm_iconst (v := 0) dX0_clear_1 (by decide) ?_
  refine mm_put3 (ci := 0) (fs1 := [.ref 2, .int 0, .int 0]) in_X0 tyX0_ok nmX0 rfl (k := 1) (by decide) rfl rfl kF_X0_19 dX0_clear_2 (mm_fit_int _) h1 (Nat.le_of_ble_eq_true rfl) (Nat.le_of_ble_eq_true rfl) rfl ?_
  refine mm_aload_n dX0_clear_5 rfl rfl ?_
  refine mm_iconst (v := 0) dX0_clear_6 (by decide) ?_
  refine mm_put3 (ci := 0) (fs1 := [.ref 2, .int 0, .int 0]) in_X0 tyX0_ok nmX0 rfl (k := 2) (by decide) rfl rfl kF_X0_23 dX0_clear_7 mm_fit_z0 mm_up_s (Nat.le_of_ble_eq_true rfl) (Nat.le_of_ble_eq_true rfl) rfl ?_
  refine mm_vret dX0_clear_10 rfl ?_ (by omega) (by omega)
  refine ⟨rfl, rfl, ?_⟩
  dsimp only
  exact ⟨mm_up_s, fun x e1 => mm_upN e1 (mm_upN e1 (rfl))⟩

set_option maxHeartbeats 4000000 in
set_option maxRecDepth 100000 in
theorem k262_X0_isSpilt {g : mm_G} {l : Launch} (hst : l.stackTraces = false) {d : Nat} (M : Nat → mm_C) (q1 q2 : Int32) (h1092 : M 1092 = .inr (0, [.ref 1093, .int 0, .int 0])) : mm_Cm g l yX0_isSpilt (.code yX0_isSpilt cX0_isSpilt 1 (some .boolean)) d 0 0 [.ref 1092] (M, 1186, false) (fun v S' => v = some (.int 0) ∧ S' = (M, 1186, false)) := by
  refine mm_Cm_of hst (by decide) (Nat.le_of_ble_eq_true rfl) ?_
  show mm_V g l RX0 "isSpilt" cX0_isSpilt 1 (some .boolean) [] d 0 0 _ 0 [some (.ref 1092)] [] (M, 1186, false) 0 0
  refine mm_aload_n dX0_isSpilt_0 rfl rfl ?_
  refine mm_get3 (ci := 0) in_X0 rfl (k := 2) (by decide) rfl kF_X0_23 dX0_isSpilt_1 h1092 (Nat.le_of_ble_eq_true rfl) rfl ?_
  refine mm_iret dX0_isSpilt_4 rfl rfl ?_ (by omega) (by omega)
  exact ⟨rfl, rfl⟩

set_option maxHeartbeats 4000000 in
set_option maxRecDepth 100000 in
theorem k261_X8_isSpilt {g : mm_G} {l : Launch} (hst : l.stackTraces = false) {d : Nat} (M : Nat → mm_C) (q1 q2 : Int32) (h389 : M 389 = .inr (8, [.ref 390, .ref 1091, .ref 1092, .int 0, .null, .null])) (h1092 : M 1092 = .inr (0, [.ref 1093, .int 0, .int 0])) : mm_Cm g l yX8_isSpilt (.code yX8_isSpilt cX8_isSpilt 1 (some .boolean)) (d + 1) 0 0 [.ref 389] (M, 1186, false) (fun v S' => v = some (.int 0) ∧ S' = (M, 1186, false)) := by
  refine mm_Cm_of hst (by decide) (Nat.le_of_ble_eq_true rfl) ?_
  show mm_V g l RX8 "isSpilt" cX8_isSpilt 1 (some .boolean) [] (d + 1) 0 0 _ 0 [some (.ref 389)] [] (M, 1186, false) 0 0
  refine mm_aload_n dX8_isSpilt_0 rfl rfl ?_
  refine mm_get3 (ci := 8) in_X8 rfl (k := 2) (by decide) rfl kF_X8_29 dX8_isSpilt_1 h389 (Nat.le_of_ble_eq_true rfl) rfl ?_
  refine mm_callV3 (ci := 0) wM_X0_isSpilt kM_X8_41 wI_X0_isSpilt wS_X0_isSpilt dX8_isSpilt_4 (k262_X0_isSpilt hst _ q1 q2 h1092) h1092 (Nat.le_of_ble_eq_true rfl) rfl rfl rfl (Nat.le_of_ble_eq_true rfl) (by omega) (by omega) (fun v S9 hq => ?_)
  obtain ⟨rfl, rfl⟩ := hq
  refine ⟨fun h => ⟨h, rfl⟩, ?_⟩
  refine mm_iret dX8_isSpilt_7 rfl rfl ?_ (by omega) (by omega)
  exact ⟨rfl, rfl⟩

set_option maxHeartbeats 4000000 in
set_option maxRecDepth 100000 in
theorem k266_X0_clear {g : mm_G} {l : Launch} (hst : l.stackTraces = false) {d : Nat} (M : Nat → mm_C) (q1 q2 : Int32) (h1092 : M 1092 = .inr (0, [.ref 1093, .int 0, .int 0])) : mm_Cm g l yX0_clear (.code yX0_clear cX0_clear 1 none) d 0 0 [.ref 1092] (M, 1186, false) (fun v S' => v = none ∧ S'.2 = (1186, false) ∧ S'.1 1092 = .inr (0, [.ref 1093, .int 0, .int 0]) ∧ ∀ j, j ≠ 1092 → S'.1 j = M j) := by
  refine mm_Cm_of hst (by decide) (Nat.le_of_ble_eq_true rfl) ?_
  show mm_V g l RX0 "clear" cX0_clear 1 none [] d 0 0 _ 0 [some (.ref 1092)] [] (M, 1186, false) 0 0
  refine mm_aload_n dX0_clear_0 rfl rfl ?_
  refine mm_iconst (v := 0) dX0_clear_1 (by decide) ?_
  refine mm_put3 (ci := 0) (fs1 := [.ref 1093, .int 0, .int 0]) in_X0 tyX0_ok nmX0 rfl (k := 1) (by decide) rfl rfl kF_X0_19 dX0_clear_2 (mm_fit_int _) h1092 (Nat.le_of_ble_eq_true rfl) (Nat.le_of_ble_eq_true rfl) rfl ?_
  refine mm_aload_n dX0_clear_5 rfl rfl ?_
  refine mm_iconst (v := 0) dX0_clear_6 (by decide) ?_
  refine mm_put3 (ci := 0) (fs1 := [.ref 1093, .int 0, .int 0]) in_X0 tyX0_ok nmX0 rfl (k := 2) (by decide) rfl rfl kF_X0_23 dX0_clear_7 mm_fit_z0 mm_up_s (Nat.le_of_ble_eq_true rfl) (Nat.le_of_ble_eq_true rfl) rfl ?_
  refine mm_vret dX0_clear_10 rfl ?_ (by omega) (by omega)
  refine ⟨rfl, rfl, ?_⟩
  dsimp only
  exact ⟨mm_up_s, fun x e1092 => mm_upN e1092 (mm_upN e1092 (rfl))⟩

set_option maxHeartbeats 4000000 in
set_option maxRecDepth 100000 in
theorem k268_X4_begin {g : mm_G} {l : Launch} (hst : l.stackTraces = false) {d : Nat} (M : Nat → mm_C) (q1 q2 : Int32) (h1091 : M 1091 = .inr (4, [.null, .null, .null, .null, .long 0, .int 0, .int 0])) : mm_Cm g l yX4_begin (.code yX4_begin cX4_begin 2 none) d 0 0 [.ref 1091, .null] (M, 1186, false) (fun v S' => v = none ∧ S'.2 = (1186, false) ∧ S'.1 1091 = .inr (4, [.null, .null, .null, .null, .long 0, .int 0, .int 0]) ∧ ∀ j, j ≠ 1091 → S'.1 j = M j) := by
  refine mm_Cm_of hst (by decide) (Nat.le_of_ble_eq_true rfl) ?_
  show mm_V g l RX4 "begin" cX4_begin 2 none [] d 0 0 _ 0 [some (.ref 1091), some (.null)] [] (M, 1186, false) 0 0
  refine mm_aload_n dX4_begin_0 rfl rfl ?_
  refine mm_aload_n dX4_begin_1 rfl rfl ?_
  refine mm_put3 (ci := 4) (fs1 := [.null, .null, .null, .null, .long 0, .int 0, .int 0]) in_X4 tyX4_ok nmX4 rfl (k := 0) (by decide) rfl rfl kF_X4_9 dX4_begin_2 (mm_fit_null _) h1091 (Nat.le_of_ble_eq_true rfl) (Nat.le_of_ble_eq_true rfl) rfl ?_
  refine mm_aload_n dX4_begin_5 rfl rfl ?_
  refine mm_null dX4_begin_6 ?_
  refine mm_put3 (ci := 4) (fs1 := [.null, .null, .null, .null, .long 0, .int 0, .int 0]) in_X4 tyX4_ok nmX4 rfl (k := 1) (by decide) rfl rfl kF_X4_15 dX4_begin_7 (mm_fit_null _) mm_up_s (Nat.le_of_ble_eq_true rfl) (Nat.le_of_ble_eq_true rfl) rfl ?_
  refine mm_aload_n dX4_begin_10 rfl rfl ?_
  refine mm_null dX4_begin_11 ?_
  refine mm_put3 (ci := 4) (fs1 := [.null, .null, .null, .null, .long 0, .int 0, .int 0]) in_X4 tyX4_ok nmX4 rfl (k := 2) (by decide) rfl rfl kF_X4_19 dX4_begin_12 (mm_fit_null _) mm_up_s (Nat.le_of_ble_eq_true rfl) (Nat.le_of_ble_eq_true rfl) rfl ?_
  refine mm_aload_n dX4_begin_15 rfl rfl ?_
  refine mm_null dX4_begin_16 ?_
  refine mm_put3 (ci := 4) (fs1 := [.null, .null, .null, .null, .long 0, .int 0, .int 0]) in_X4 tyX4_ok nmX4 rfl (k := 3) (by decide) rfl rfl kF_X4_22 dX4_begin_17 (mm_fit_null _) mm_up_s (Nat.le_of_ble_eq_true rfl) (Nat.le_of_ble_eq_true rfl) rfl ?_
  refine mm_aload_n dX4_begin_20 rfl rfl ?_
  refine mm_lconst (v := 0) dX4_begin_21 (by decide) ?_
  refine mm_put3 (ci := 4) (fs1 := [.null, .null, .null, .null, .long 0, .int 0, .int 0]) in_X4 tyX4_ok nmX4 rfl (k := 4) (by decide) rfl rfl kF_X4_25 dX4_begin_22 (mm_fit_long _) mm_up_s (Nat.le_of_ble_eq_true rfl) (Nat.le_of_ble_eq_true rfl) rfl ?_
  refine mm_aload_n dX4_begin_25 rfl rfl ?_
  refine mm_iconst (v := 0) dX4_begin_26 (by decide) ?_
  refine mm_put3 (ci := 4) (fs1 := [.null, .null, .null, .null, .long 0, .int 0, .int 0]) in_X4 tyX4_ok nmX4 rfl (k := 5) (by decide) rfl rfl kF_X4_29 dX4_begin_27 (mm_fit_int _) mm_up_s (Nat.le_of_ble_eq_true rfl) (Nat.le_of_ble_eq_true rfl) rfl ?_
  refine mm_aload_n dX4_begin_30 rfl rfl ?_
  refine mm_iconst (v := 0) dX4_begin_31 (by decide) ?_
  refine mm_put3 (ci := 4) (fs1 := [.null, .null, .null, .null, .long 0, .int 0, .int 0]) in_X4 tyX4_ok nmX4 rfl (k := 6) (by decide) rfl rfl kF_X4_33 dX4_begin_32 (mm_fit_int _) mm_up_s (Nat.le_of_ble_eq_true rfl) (Nat.le_of_ble_eq_true rfl) rfl ?_
  refine mm_vret dX4_begin_35 rfl ?_ (by omega) (by omega)
  refine ⟨rfl, rfl, ?_⟩
  dsimp only
  exact ⟨mm_up_s, fun x e1091 => mm_upN e1091 (mm_upN e1091 (mm_upN e1091 (mm_upN e1091 (mm_upN e1091 (mm_upN e1091 (mm_upN e1091 (rfl)))))))⟩

set_option maxHeartbeats 4000000 in
set_option maxRecDepth 100000 in
theorem k265_X8_drop {g : mm_G} {l : Launch} (hst : l.stackTraces = false) {d : Nat} (M : Nat → mm_C) (q1 q2 : Int32) (h389 : M 389 = .inr (8, [.ref 390, .ref 1091, .ref 1092, .int 0, .null, .null])) (h1091 : M 1091 = .inr (4, [.null, .null, .null, .null, .long 0, .int 0, .int 0])) (h1092 : M 1092 = .inr (0, [.ref 1093, .int 0, .int 0])) : mm_Cm g l yX8_drop (.code yX8_drop cX8_drop 1 none) (d + 1) 0 0 [.ref 389] (M, 1186, false) (fun v S' => v = none ∧ S'.2 = (1186, false) ∧ S'.1 389 = .inr (8, [.ref 390, .ref 1091, .ref 1092, .int 0, .null, .null]) ∧ S'.1 1092 = .inr (0, [.ref 1093, .int 0, .int 0]) ∧ S'.1 1091 = .inr (4, [.null, .null, .null, .null, .long 0, .int 0, .int 0]) ∧ ∀ j, j ≠ 389 → j ≠ 1092 → j ≠ 1091 → S'.1 j = M j) := by
  refine mm_Cm_of hst (by decide) (Nat.le_of_ble_eq_true rfl) ?_
  show mm_V g l RX8 "drop" cX8_drop 1 none [] (d + 1) 0 0 _ 0 [some (.ref 389)] [] (M, 1186, false) 0 0
  refine mm_aload_n dX8_drop_0 rfl rfl ?_
  refine mm_null dX8_drop_1 ?_
  refine mm_put3 (ci := 8) (fs1 := [.ref 390, .ref 1091, .ref 1092, .int 0, .null, .null]) in_X8 tyX8_ok nmX8 rfl (k := 4) (by decide) rfl rfl kF_X8_37 dX8_drop_2 (mm_fit_null _) h389 (Nat.le_of_ble_eq_true rfl) (Nat.le_of_ble_eq_true rfl) rfl ?_
  refine mm_aload_n dX8_drop_5 rfl rfl ?_
  refine mm_null dX8_drop_6 ?_
  refine mm_put3 (ci := 8) (fs1 := [.ref 390, .ref 1091, .ref 1092, .int 0, .null, .null]) in_X8 tyX8_ok nmX8 rfl (k := 5) (by decide) rfl rfl kF_X8_33 dX8_drop_7 (mm_fit_null _) mm_up_s (Nat.le_of_ble_eq_true rfl) (Nat.le_of_ble_eq_true rfl) rfl ?_
  refine mm_aload_n dX8_drop_10 rfl rfl ?_
  refine mm_get3 (ci := 8) in_X8 rfl (k := 2) (by decide) rfl kF_X8_29 dX8_drop_11 mm_up_s (Nat.le_of_ble_eq_true rfl) rfl ?_
  refine mm_callV3 (ci := 0) wM_X0_clear kM_X8_45 wI_X0_clear wS_X0_clear dX8_drop_14 (k266_X0_clear hst _ q1 q2 (mm_upN (by decide) (mm_upN (by decide) h1092))) (mm_upN (by decide) (mm_upN (by decide) h1092)) (Nat.le_of_ble_eq_true rfl) rfl rfl rfl (Nat.le_of_ble_eq_true rfl) (by omega) (by omega) (fun v S9 hq => ?_)
  obtain ⟨M267, z267⟩ := S9
  obtain ⟨rfl, hz267, g267_1092, g267_F⟩ := hq
  cases hz267
  refine ⟨fun h => ⟨h, rfl⟩, ?_⟩
  refine mm_aload_n dX8_drop_17 rfl rfl ?_
  refine mm_iconst (v := 0) dX8_drop_18 (by decide) ?_
  refine mm_put3 (ci := 8) (fs1 := [.ref 390, .ref 1091, .ref 1092, .int 0, .null, .null]) in_X8 tyX8_ok nmX8 rfl (k := 3) (by decide) rfl rfl kF_X8_48 dX8_drop_19 (mm_fit_int _) (mm_frN (g267_F _ (by decide)) mm_up_s) (Nat.le_of_ble_eq_true rfl) (Nat.le_of_ble_eq_true rfl) rfl ?_
  refine mm_aload_n dX8_drop_22 rfl rfl ?_
  refine mm_get3 (ci := 8) in_X8 rfl (k := 1) (by decide) rfl kF_X8_20 dX8_drop_23 mm_up_s (Nat.le_of_ble_eq_true rfl) rfl ?_
  refine mm_null dX8_drop_26 ?_
  refine mm_callV3 (ci := 4) wM_X4_begin kM_X8_52 wI_X4_begin wS_X4_begin dX8_drop_27 (k268_X4_begin hst _ q1 q2 (mm_upN (by decide) (mm_frN (g267_F _ (by decide)) (mm_upN (by decide) (mm_upN (by decide) h1091))))) (mm_upN (by decide) (mm_frN (g267_F _ (by decide)) (mm_upN (by decide) (mm_upN (by decide) h1091)))) (Nat.le_of_ble_eq_true rfl) rfl rfl rfl (Nat.le_of_ble_eq_true rfl) (by omega) (by omega) (fun v S9 hq => ?_)
  obtain ⟨M269, z269⟩ := S9
  obtain ⟨rfl, hz269, g269_1091, g269_F⟩ := hq
  cases hz269
  refine ⟨fun h => ⟨h, rfl⟩, ?_⟩
  refine mm_vret dX8_drop_30 rfl ?_ (by omega) (by omega)
  refine ⟨rfl, rfl, ?_⟩
  dsimp only
  exact ⟨(mm_frN (g269_F _ (by decide)) mm_up_s), (mm_frN (g269_F _ (by decide)) (mm_upN (by decide) g267_1092)), g269_1091, fun x e389 e1092 e1091 => mm_frN (g269_F _ e1091 ) (mm_upN e389 (mm_frN (g267_F _ e1092 ) (mm_upN e389 (mm_upN e389 (rfl)))))⟩

set_option maxHeartbeats 4000000 in
set_option maxRecDepth 100000 in
theorem k258_X11_settle {g : mm_G} {l : Launch} (hst : l.stackTraces = false) {d : Nat} (M : Nat → mm_C) (q1 q2 : Int32) (h0 : M 0 = .inr (11, [.ref 1, .ref 3, .ref 5, .ref 197, .ref 389, .ref 1094, .ref 1095, .ref 1097, .int (-1)])) (h1 : M 1 = .inr (0, [.ref 2, .int 0, .int 0])) (h389 : M 389 = .inr (8, [.ref 390, .ref 1091, .ref 1092, .int 0, .null, .null])) (h1091 : M 1091 = .inr (4, [.null, .null, .null, .null, .long 0, .int 0, .int 0])) (h1092 : M 1092 = .inr (0, [.ref 1093, .int 0, .int 0])) : mm_Ct g l yX11_settle (.code yX11_settle cX11_settle 4 (some .int)) (d + 2) 1 6 [.ref 0, .int 0] (M, 1186, false) (fun r S' => r = .inr "java/lang/IllegalArgumentException" ∧ S'.2 = (1186, true) ∧ S'.1 1 = .inr (0, [.ref 2, .int 0, .int 0]) ∧ S'.1 389 = .inr (8, [.ref 390, .ref 1091, .ref 1092, .int 0, .null, .null]) ∧ S'.1 1092 = .inr (0, [.ref 1093, .int 0, .int 0]) ∧ S'.1 1091 = .inr (4, [.null, .null, .null, .null, .long 0, .int 0, .int 0]) ∧ ∀ j, j ≠ 1 → j ≠ 389 → j ≠ 1092 → j ≠ 1091 → S'.1 j = M j) := by
  refine mm_Ct_of hst (by decide) (Nat.le_of_ble_eq_true rfl) ?_
  show mm_V g l RX11 "settle" cX11_settle 4 (some .int) [] (d + 2) 1 6 _ 0 [some (.ref 0), some (.int 0), none, none] [] (M, 1186, false) 0 0
  refine mm_aload_n dX11_settle_0 rfl rfl ?_
  refine mm_get3 (ci := 11) in_X11 rfl (k := 0) (by decide) rfl kF_X11_14 dX11_settle_1 h0 (Nat.le_of_ble_eq_true rfl) rfl ?_
  refine mm_callV3 (ci := 0) wM_X0_clear kM_X11_99 wI_X0_clear wS_X0_clear dX11_settle_4 (k259_X0_clear hst _ q1 q2 h1) h1 (Nat.le_of_ble_eq_true rfl) rfl rfl rfl (Nat.le_of_ble_eq_true rfl) (by omega) (by omega) (fun v S9 hq => ?_)
  obtain ⟨M260, z260⟩ := S9
  obtain ⟨rfl, hz260, g260_1, g260_F⟩ := hq
  cases hz260
  refine ⟨fun h => ⟨h, rfl⟩, ?_⟩
  refine mm_iload_n dX11_settle_7 rfl ?_
  refine mm_if_eq 21 dX11_settle_8 (by decide) (fun _ => ?_) (fun h => absurd (by decide) h)
  refine mm_iconst (v := 0) dX11_settle_21 (by decide) ?_
  refine mm_istore_n [some (.ref 0), some (.int 0), some (.int 0), none] dX11_settle_22 (by decide) rfl ?_
  refine mm_iload_n dX11_settle_23 rfl ?_
  refine mm_sipush (v := 200) dX11_settle_24 (by decide) ?_
  refine mm_icmp_gt 40 dX11_settle_27 (by decide) (fun h => absurd h (by decide)) (fun _ => ?_)
  refine mm_aload_n dX11_settle_30 rfl rfl ?_
  refine mm_get3 (ci := 11) in_X11 rfl (k := 4) (by decide) rfl kF_X11_34 dX11_settle_31 (mm_frN (g260_F _ (by decide)) h0) (Nat.le_of_ble_eq_true rfl) rfl ?_
  refine mm_callV3 (ci := 8) wM_X8_isSpilt kM_X11_228 wI_X8_isSpilt wS_X8_isSpilt dX11_settle_34 (k261_X8_isSpilt hst _ q1 q2 (mm_frN (g260_F _ (by decide)) h389) (mm_frN (g260_F _ (by decide)) h1092)) (mm_frN (g260_F _ (by decide)) h389) (Nat.le_of_ble_eq_true rfl) rfl rfl rfl (Nat.le_of_ble_eq_true rfl) (by omega) (by omega) (fun v S9 hq => ?_)
  obtain ⟨rfl, rfl⟩ := hq
  refine ⟨fun h => ⟨h, rfl⟩, ?_⟩
  refine mm_if_eq 44 dX11_settle_37 (by decide) (fun _ => ?_) (fun h => absurd (by decide) h)
  refine mm_iconst (v := 0) dX11_settle_44 (by decide) ?_
  refine mm_istore_n [some (.ref 0), some (.int 0), some (.int 0), some (.int 0)] dX11_settle_45 (by decide) rfl ?_
  refine mm_iload_n dX11_settle_46 rfl ?_
  refine mm_if_eq 54 dX11_settle_47 (by decide) (fun _ => ?_) (fun h => absurd (by decide) h)
  refine mm_aload_n dX11_settle_54 rfl rfl ?_
  refine mm_get3 (ci := 11) in_X11 rfl (k := 4) (by decide) rfl kF_X11_34 dX11_settle_55 (mm_frN (g260_F _ (by decide)) h0) (Nat.le_of_ble_eq_true rfl) rfl ?_
  refine mm_callV3 (ci := 8) wM_X8_drop kM_X11_92 wI_X8_drop wS_X8_drop dX11_settle_58 (k265_X8_drop hst _ q1 q2 (mm_frN (g260_F _ (by decide)) h389) (mm_frN (g260_F _ (by decide)) h1091) (mm_frN (g260_F _ (by decide)) h1092)) (mm_frN (g260_F _ (by decide)) h389) (Nat.le_of_ble_eq_true rfl) rfl rfl rfl (Nat.le_of_ble_eq_true rfl) (by omega) (by omega) (fun v S9 hq => ?_)
  obtain ⟨M270, z270⟩ := S9
  obtain ⟨rfl, hz270, g270_389, g270_1092, g270_1091, g270_F⟩ := hq
  cases hz270
  refine ⟨fun h => ⟨h, rfl⟩, ?_⟩
  refine mm_iload_n dX11_settle_61 rfl ?_
  refine mm_if_ne 75 dX11_settle_62 (by decide) (fun h => absurd (by decide) h) (fun _ => ?_)
  refine mm_throw (k := 8) (text := "no such schema, message or depth, or the tape is wrong") (by decide) kC_X11_67 wj_IllegalArgumentException rfl at_71 rfl dX11_settle_65 dX11_settle_68 dX11_settle_69 dX11_settle_71 dX11_settle_74 (Nat.le_of_ble_eq_true rfl) (by omega) (by omega) ?_
  refine ⟨rfl, rfl, ?_⟩
  dsimp only
  exact ⟨(mm_frN (g270_F _ (by decide) (by decide) (by decide)) g260_1), g270_389, g270_1092, g270_1091, fun x e1 e389 e1092 e1091 => mm_frN (g270_F _ e389 e1092 e1091 ) (mm_frN (g260_F _ e1 ) (rfl))⟩

set_option maxHeartbeats 4000000 in
set_option maxRecDepth 100000 in
theorem f_parse_0 {g : mm_G} {l : Launch} (hst : l.stackTraces = false) {d : Nat} (M : Nat → mm_C) (q1 q2 : Int32) (h0 : M 0 = .inr (11, [.ref 1, .ref 3, .ref 5, .ref 197, .ref 389, .ref 1094, .ref 1095, .ref 1097, .int (-1)])) (h1 : M 1 = .inr (0, [.ref 2, .int 0, .int 0])) (h5 : M 5 = .inr (2, [.ref 6, .ref 191, .ref 196, .int 0, .int 0])) (h6 : M 6 = .inr (6, [.ref 7, .ref 9, .ref 190, .int 0, .int 0])) (h389 : M 389 = .inr (8, [.ref 390, .ref 1091, .ref 1092, .int 0, .null, .null])) (h1091 : M 1091 = .inr (4, [.null, .null, .null, .null, .long 0, .int 0, .int 0])) (h1092 : M 1092 = .inr (0, [.ref 1093, .int 0, .int 0])) : mm_Ct g l yX11_parse (.code yX11_parse cX11_parse 4 (some .int)) (d + 3) 1 6 [.ref 0, .int 0, .int q1, .int q2] (M, 1186, false) (fun r S' => r = .inr "java/lang/IllegalArgumentException" ∧ S'.2 = (1186, true) ∧ ∀ j, 1101 ≤ j → S'.1 j = M j) := by
  refine mm_Ct_of hst (by decide) (Nat.le_of_ble_eq_true rfl) ?_
  show mm_V g l RX11 "parse" cX11_parse 4 (some .int) [] (d + 3) 1 6 _ 0 [some (.ref 0), some (.int 0), some (.int q1), some (.int q2)] [] (M, 1186, false) 0 0
  refine mm_aload_n dX11_parse_0 rfl rfl ?_
  refine mm_aload_n dX11_parse_1 rfl rfl ?_
  refine mm_iload_n dX11_parse_2 rfl ?_
  refine mm_iload_n dX11_parse_3 rfl ?_
  refine mm_iload_n dX11_parse_4 rfl ?_
  refine mm_callV3 (ci := 11) wM_X11_opens kM_X11_162 wI_X11_opens wS_X11_opens dX11_parse_5 (k247_X11_opens hst _ q1 q2 h0 h5 h6) h0 (Nat.le_of_ble_eq_true rfl) rfl rfl rfl (Nat.le_of_ble_eq_true rfl) (by omega) (by omega) (fun v S9 hq => ?_)
  obtain ⟨rfl, rfl⟩ := hq
  refine ⟨fun h => ⟨h, rfl⟩, ?_⟩
  refine mm_if_eq 26 dX11_parse_8 (by decide) (fun _ => ?_) (fun h => absurd (by decide) h)
  refine mm_iconst (v := 0) dX11_parse_26 (by decide) ?_
  refine mm_callX3 (ci := 11) wM_X11_settle kM_X11_170 wI_X11_settle wS_X11_settle dX11_parse_27 (k258_X11_settle hst _ q1 q2 h0 h1 h389 h1091 h1092) h0 (Nat.le_of_ble_eq_true rfl) rfl rfl rfl (Nat.le_of_ble_eq_true rfl) (by omega) (by omega) (fun v S9 hq => by cases hq.1) rfl (fun E9 S9 hq => ?_)
  obtain ⟨M271, z271⟩ := S9
  obtain ⟨hE271, hz271, g271_1, g271_389, g271_1092, g271_1091, g271_F⟩ := hq
  cases hE271
  cases hz271
  refine ⟨rfl, rfl, fun x hx => ?_⟩
  dsimp only
  exact mm_frN (g271_F _ (by omega) (by omega) (by omega) (by omega) ) (rfl)

set_option maxHeartbeats 4000000 in
set_option maxRecDepth 100000 in
theorem k273_X11_compilerOf {g : mm_G} {l : Launch} (hst : l.stackTraces = false) {d : Nat} (M : Nat → mm_C) (q1 q2 : Int32) (h0 : M 0 = .inr (11, [.ref 1, .ref 3, .ref 5, .ref 197, .ref 389, .ref 1094, .ref 1095, .ref 1097, .int (-1)])) : mm_Cm g l yX11_compilerOf (.code yX11_compilerOf cX11_compilerOf 2 (some (.object "ProtoDesk$Compiler"))) d 0 0 [.ref 0, .int 1] (M, 1186, false) (fun v S' => v = some (.ref 197) ∧ S' = (M, 1186, false)) := by
  refine mm_Cm_of hst (by decide) (Nat.le_of_ble_eq_true rfl) ?_
  show mm_V g l RX11 "compilerOf" cX11_compilerOf 2 (some (.object "ProtoDesk$Compiler")) [] d 0 0 _ 0 [some (.ref 0), some (.int 1)] [] (M, 1186, false) 0 0
  refine mm_iload_n dX11_compilerOf_0 rfl ?_
  refine mm_if_ne 11 dX11_compilerOf_1 (by decide) (fun _ => ?_) (fun h => absurd h (by decide))
  refine mm_iload_n dX11_compilerOf_11 rfl ?_
  refine mm_iconst (v := 1) dX11_compilerOf_12 (by decide) ?_
  refine mm_icmp_ne 23 dX11_compilerOf_13 (by decide) (fun h => absurd (by decide) h) (fun _ => ?_)
  refine mm_aload_n dX11_compilerOf_16 rfl rfl ?_
  refine mm_get3 (ci := 11) in_X11 rfl (k := 3) (by decide) rfl kF_X11_28 dX11_compilerOf_17 h0 (Nat.le_of_ble_eq_true rfl) rfl ?_
  refine mm_goto 24 dX11_compilerOf_20 (by decide) ?_
  refine mm_aret (a := some 197) dX11_compilerOf_24 rfl ?_ (by omega) (by omega)
  exact ⟨rfl, rfl⟩

set_option maxHeartbeats 4000000 in
set_option maxRecDepth 100000 in
theorem k277_X2_schema {g : mm_G} {l : Launch} (hst : l.stackTraces = false) {d : Nat} (M : Nat → mm_C) (q1 q2 : Int32) (h197 : M 197 = .inr (2, [.ref 198, .ref 383, .ref 388, .int 0, .int 0])) : mm_Cm g l yX2_schema (.code yX2_schema cX2_schema 1 (some (.object "ProtoDesk$Schema"))) d 0 0 [.ref 197] (M, 1186, false) (fun v S' => v = some (.ref 198) ∧ S' = (M, 1186, false)) := by
  refine mm_Cm_of hst (by decide) (Nat.le_of_ble_eq_true rfl) ?_
  show mm_V g l RX2 "schema" cX2_schema 1 (some (.object "ProtoDesk$Schema")) [] d 0 0 _ 0 [some (.ref 197)] [] (M, 1186, false) 0 0
  refine mm_aload_n dX2_schema_0 rfl rfl ?_
  refine mm_get3 (ci := 2) in_X2 rfl (k := 0) (by decide) rfl kF_X2_12 dX2_schema_1 h197 (Nat.le_of_ble_eq_true rfl) rfl ?_
  refine mm_aret (a := some 198) dX2_schema_4 rfl ?_ (by omega) (by omega)
  exact ⟨rfl, rfl⟩

set_option maxHeartbeats 4000000 in
set_option maxRecDepth 100000 in
theorem k279_X6_message {g : mm_G} {l : Launch} (hst : l.stackTraces = false) {d : Nat} (M : Nat → mm_C) (q1 q2 : Int32) (h198 : M 198 = .inr (6, [.ref 199, .ref 201, .ref 382, .int 0, .int 0])) : mm_Cm g l yX6_message (.code yX6_message cX6_message 4 (some (.object "ProtoDesk$Item"))) d 0 0 [.ref 198, .int q1] (M, 1186, false) (fun v S' => v = some (.null) ∧ S' = (M, 1186, false)) := by
  refine mm_Cm_of hst (by decide) (Nat.le_of_ble_eq_true rfl) ?_
  show mm_V g l RX6 "message" cX6_message 4 (some (.object "ProtoDesk$Item")) [] d 0 0 _ 0 [some (.ref 198), some (.int q1), none, none] [] (M, 1186, false) 0 0
  refine mm_iconst (v := 0) dX6_message_0 (by decide) ?_
  refine mm_istore_n [some (.ref 198), some (.int q1), some (.int 0), none] dX6_message_1 (by decide) rfl ?_
  refine mm_iload_n dX6_message_2 rfl ?_
  refine mm_aload_n dX6_message_3 rfl rfl ?_
  refine mm_get3 (ci := 6) in_X6 rfl (k := 3) (by decide) rfl kF_X6_34 dX6_message_4 h198 (Nat.le_of_ble_eq_true rfl) rfl ?_
  refine mm_icmp_ge 43 dX6_message_7 (by decide) (fun _ => ?_) (fun h => absurd (by decide) h)
  refine mm_null dX6_message_43 ?_
  refine mm_aret (a := none) dX6_message_44 rfl ?_ (by omega) (by omega)
  exact ⟨rfl, rfl⟩

set_option maxHeartbeats 4000000 in
set_option maxRecDepth 100000 in
theorem k275_X11_messageOf {g : mm_G} {l : Launch} (hst : l.stackTraces = false) {d : Nat} (M : Nat → mm_C) (q1 q2 : Int32) (h0 : M 0 = .inr (11, [.ref 1, .ref 3, .ref 5, .ref 197, .ref 389, .ref 1094, .ref 1095, .ref 1097, .int (-1)])) (h197 : M 197 = .inr (2, [.ref 198, .ref 383, .ref 388, .int 0, .int 0])) (h198 : M 198 = .inr (6, [.ref 199, .ref 201, .ref 382, .int 0, .int 0])) : mm_Cm g l yX11_messageOf (.code yX11_messageOf cX11_messageOf 4 (some (.object "ProtoDesk$Item"))) (d + 1) 0 0 [.ref 0, .int 1, .int q1] (M, 1186, false) (fun v S' => v = some (.null) ∧ S' = (M, 1186, false)) := by
  refine mm_Cm_of hst (by decide) (Nat.le_of_ble_eq_true rfl) ?_
  show mm_V g l RX11 "messageOf" cX11_messageOf 4 (some (.object "ProtoDesk$Item")) [] (d + 1) 0 0 _ 0 [some (.ref 0), some (.int 1), some (.int q1), none] [] (M, 1186, false) 0 0
  refine mm_aload_n dX11_messageOf_0 rfl rfl ?_
  refine mm_iload_n dX11_messageOf_1 rfl ?_
  refine mm_callV3 (ci := 11) wM_X11_compilerOf kM_X11_86 wI_X11_compilerOf wS_X11_compilerOf dX11_messageOf_2 (k273_X11_compilerOf hst _ q1 q2 h0) h0 (Nat.le_of_ble_eq_true rfl) rfl rfl rfl (Nat.le_of_ble_eq_true rfl) (by omega) (by omega) (fun v S9 hq => ?_)
  obtain ⟨rfl, rfl⟩ := hq
  refine ⟨fun h => ⟨h, rfl⟩, ?_⟩
  refine mm_astore_n [some (.ref 0), some (.int 1), some (.int q1), some (.ref 197)] dX11_messageOf_5 (by decide) rfl rfl ?_
  refine mm_aload_n dX11_messageOf_6 rfl rfl ?_
  refine mm_ifnonnull (r := some 197) 14 dX11_messageOf_7 (by decide) (fun _ => ?_) (fun h => absurd h (by simp))
  refine mm_aload_n dX11_messageOf_14 rfl rfl ?_
  refine mm_callV3 (ci := 2) wM_X2_schema kM_X11_109 wI_X2_schema wS_X2_schema dX11_messageOf_15 (k277_X2_schema hst _ q1 q2 h197) h197 (Nat.le_of_ble_eq_true rfl) rfl rfl rfl (Nat.le_of_ble_eq_true rfl) (by omega) (by omega) (fun v S9 hq => ?_)
  obtain ⟨rfl, rfl⟩ := hq
  refine ⟨fun h => ⟨h, rfl⟩, ?_⟩
  refine mm_iload_n dX11_messageOf_18 rfl ?_
  refine mm_callV3 (ci := 6) wM_X6_message kM_X11_193 wI_X6_message wS_X6_message dX11_messageOf_19 (k279_X6_message hst _ q1 q2 h198) h198 (Nat.le_of_ble_eq_true rfl) rfl rfl rfl (Nat.le_of_ble_eq_true rfl) (by omega) (by omega) (fun v S9 hq => ?_)
  obtain ⟨rfl, rfl⟩ := hq
  refine ⟨fun h => ⟨h, rfl⟩, ?_⟩
  refine mm_aret (a := none) dX11_messageOf_22 rfl ?_ (by omega) (by omega)
  exact ⟨rfl, rfl⟩

set_option maxHeartbeats 4000000 in
set_option maxRecDepth 100000 in
theorem k272_X11_opens {g : mm_G} {l : Launch} (hst : l.stackTraces = false) {d : Nat} (M : Nat → mm_C) (q1 q2 : Int32) (h0 : M 0 = .inr (11, [.ref 1, .ref 3, .ref 5, .ref 197, .ref 389, .ref 1094, .ref 1095, .ref 1097, .int (-1)])) (h197 : M 197 = .inr (2, [.ref 198, .ref 383, .ref 388, .int 0, .int 0])) (h198 : M 198 = .inr (6, [.ref 199, .ref 201, .ref 382, .int 0, .int 0])) : mm_Cm g l yX11_opens (.code yX11_opens cX11_opens 6 (some .boolean)) (d + 2) 0 0 [.ref 0, .int 1, .int q1, .int q2] (M, 1186, false) (fun v S' => v = some (.int 0) ∧ S' = (M, 1186, false)) := by
  refine mm_Cm_of hst (by decide) (Nat.le_of_ble_eq_true rfl) ?_
  show mm_V g l RX11 "opens" cX11_opens 6 (some .boolean) [] (d + 2) 0 0 _ 0 [some (.ref 0), some (.int 1), some (.int q1), some (.int q2), none, none] [] (M, 1186, false) 0 0
  refine mm_aload_n dX11_opens_0 rfl rfl ?_
  refine mm_iload_n dX11_opens_1 rfl ?_
  refine mm_callV3 (ci := 11) wM_X11_compilerOf kM_X11_86 wI_X11_compilerOf wS_X11_compilerOf dX11_opens_2 (k273_X11_compilerOf hst _ q1 q2 h0) h0 (Nat.le_of_ble_eq_true rfl) rfl rfl rfl (Nat.le_of_ble_eq_true rfl) (by omega) (by omega) (fun v S9 hq => ?_)
  obtain ⟨rfl, rfl⟩ := hq
  refine ⟨fun h => ⟨h, rfl⟩, ?_⟩
  refine mm_astore [some (.ref 0), some (.int 1), some (.int q1), some (.int q2), some (.ref 197), none] dX11_opens_5 (by decide) rfl rfl ?_
  refine mm_aload_n dX11_opens_7 rfl rfl ?_
  refine mm_iload_n dX11_opens_8 rfl ?_
  refine mm_iload_n dX11_opens_9 rfl ?_
  refine mm_callV3 (ci := 11) wM_X11_messageOf kM_X11_119 wI_X11_messageOf wS_X11_messageOf dX11_opens_10 (k275_X11_messageOf hst _ q1 q2 h0 h197 h198) h0 (Nat.le_of_ble_eq_true rfl) rfl rfl rfl (Nat.le_of_ble_eq_true rfl) (by omega) (by omega) (fun v S9 hq => ?_)
  obtain ⟨rfl, rfl⟩ := hq
  refine ⟨fun h => ⟨h, rfl⟩, ?_⟩
  refine mm_astore [some (.ref 0), some (.int 1), some (.int q1), some (.int q2), some (.ref 197), some (.null)] dX11_opens_13 (by decide) rfl rfl ?_
  refine mm_aload dX11_opens_15 rfl rfl ?_
  refine mm_ifnull (r := some 197) 36 dX11_opens_17 (by decide) (fun h => absurd h (by simp)) (fun _ => ?_)
  refine mm_aload dX11_opens_20 rfl rfl ?_
  refine mm_ifnull (r := none) 36 dX11_opens_22 (by decide) (fun _ => ?_) (fun h => absurd (by simp) h)
  refine mm_iconst (v := 0) dX11_opens_36 (by decide) ?_
  refine mm_iret dX11_opens_37 rfl rfl ?_ (by omega) (by omega)
  exact ⟨rfl, rfl⟩

set_option maxHeartbeats 4000000 in
set_option maxRecDepth 100000 in
theorem k284_X0_clear {g : mm_G} {l : Launch} (hst : l.stackTraces = false) {d : Nat} (M : Nat → mm_C) (q1 q2 : Int32) (h1 : M 1 = .inr (0, [.ref 2, .int 0, .int 0])) : mm_Cm g l yX0_clear (.code yX0_clear cX0_clear 1 none) d 0 0 [.ref 1] (M, 1186, false) (fun v S' => v = none ∧ S'.2 = (1186, false) ∧ S'.1 1 = .inr (0, [.ref 2, .int 0, .int 0]) ∧ ∀ j, j ≠ 1 → S'.1 j = M j) := by
  refine mm_Cm_of hst (by decide) (Nat.le_of_ble_eq_true rfl) ?_
  show mm_V g l RX0 "clear" cX0_clear 1 none [] d 0 0 _ 0 [some (.ref 1)] [] (M, 1186, false) 0 0
  refine mm_aload_n dX0_clear_0 rfl rfl ?_
  refine mm_iconst (v := 0) dX0_clear_1 (by decide) ?_
  refine mm_put3 (ci := 0) (fs1 := [.ref 2, .int 0, .int 0]) in_X0 tyX0_ok nmX0 rfl (k := 1) (by decide) rfl rfl kF_X0_19 dX0_clear_2 (mm_fit_int _) h1 (Nat.le_of_ble_eq_true rfl) (Nat.le_of_ble_eq_true rfl) rfl ?_
  refine mm_aload_n dX0_clear_5 rfl rfl ?_
  refine mm_iconst (v := 0) dX0_clear_6 (by decide) ?_
  refine mm_put3 (ci := 0) (fs1 := [.ref 2, .int 0, .int 0]) in_X0 tyX0_ok nmX0 rfl (k := 2) (by decide) rfl rfl kF_X0_23 dX0_clear_7 mm_fit_z0 mm_up_s (Nat.le_of_ble_eq_true rfl) (Nat.le_of_ble_eq_true rfl) rfl ?_
  refine mm_vret dX0_clear_10 rfl ?_ (by omega) (by omega)
  refine ⟨rfl, rfl, ?_⟩
  dsimp only
  exact ⟨mm_up_s, fun x e1 => mm_upN e1 (mm_upN e1 (rfl))⟩

set_option maxHeartbeats 4000000 in
set_option maxRecDepth 100000 in
theorem k287_X0_isSpilt {g : mm_G} {l : Launch} (hst : l.stackTraces = false) {d : Nat} (M : Nat → mm_C) (q1 q2 : Int32) (h1092 : M 1092 = .inr (0, [.ref 1093, .int 0, .int 0])) : mm_Cm g l yX0_isSpilt (.code yX0_isSpilt cX0_isSpilt 1 (some .boolean)) d 0 0 [.ref 1092] (M, 1186, false) (fun v S' => v = some (.int 0) ∧ S' = (M, 1186, false)) := by
  refine mm_Cm_of hst (by decide) (Nat.le_of_ble_eq_true rfl) ?_
  show mm_V g l RX0 "isSpilt" cX0_isSpilt 1 (some .boolean) [] d 0 0 _ 0 [some (.ref 1092)] [] (M, 1186, false) 0 0
  refine mm_aload_n dX0_isSpilt_0 rfl rfl ?_
  refine mm_get3 (ci := 0) in_X0 rfl (k := 2) (by decide) rfl kF_X0_23 dX0_isSpilt_1 h1092 (Nat.le_of_ble_eq_true rfl) rfl ?_
  refine mm_iret dX0_isSpilt_4 rfl rfl ?_ (by omega) (by omega)
  exact ⟨rfl, rfl⟩

set_option maxHeartbeats 4000000 in
set_option maxRecDepth 100000 in
theorem k286_X8_isSpilt {g : mm_G} {l : Launch} (hst : l.stackTraces = false) {d : Nat} (M : Nat → mm_C) (q1 q2 : Int32) (h389 : M 389 = .inr (8, [.ref 390, .ref 1091, .ref 1092, .int 0, .null, .null])) (h1092 : M 1092 = .inr (0, [.ref 1093, .int 0, .int 0])) : mm_Cm g l yX8_isSpilt (.code yX8_isSpilt cX8_isSpilt 1 (some .boolean)) (d + 1) 0 0 [.ref 389] (M, 1186, false) (fun v S' => v = some (.int 0) ∧ S' = (M, 1186, false)) := by
  refine mm_Cm_of hst (by decide) (Nat.le_of_ble_eq_true rfl) ?_
  show mm_V g l RX8 "isSpilt" cX8_isSpilt 1 (some .boolean) [] (d + 1) 0 0 _ 0 [some (.ref 389)] [] (M, 1186, false) 0 0
  refine mm_aload_n dX8_isSpilt_0 rfl rfl ?_
  refine mm_get3 (ci := 8) in_X8 rfl (k := 2) (by decide) rfl kF_X8_29 dX8_isSpilt_1 h389 (Nat.le_of_ble_eq_true rfl) rfl ?_
  refine mm_callV3 (ci := 0) wM_X0_isSpilt kM_X8_41 wI_X0_isSpilt wS_X0_isSpilt dX8_isSpilt_4 (k287_X0_isSpilt hst _ q1 q2 h1092) h1092 (Nat.le_of_ble_eq_true rfl) rfl rfl rfl (Nat.le_of_ble_eq_true rfl) (by omega) (by omega) (fun v S9 hq => ?_)
  obtain ⟨rfl, rfl⟩ := hq
  refine ⟨fun h => ⟨h, rfl⟩, ?_⟩
  refine mm_iret dX8_isSpilt_7 rfl rfl ?_ (by omega) (by omega)
  exact ⟨rfl, rfl⟩

set_option maxHeartbeats 4000000 in
set_option maxRecDepth 100000 in
theorem k291_X0_clear {g : mm_G} {l : Launch} (hst : l.stackTraces = false) {d : Nat} (M : Nat → mm_C) (q1 q2 : Int32) (h1092 : M 1092 = .inr (0, [.ref 1093, .int 0, .int 0])) : mm_Cm g l yX0_clear (.code yX0_clear cX0_clear 1 none) d 0 0 [.ref 1092] (M, 1186, false) (fun v S' => v = none ∧ S'.2 = (1186, false) ∧ S'.1 1092 = .inr (0, [.ref 1093, .int 0, .int 0]) ∧ ∀ j, j ≠ 1092 → S'.1 j = M j) := by
  refine mm_Cm_of hst (by decide) (Nat.le_of_ble_eq_true rfl) ?_
  show mm_V g l RX0 "clear" cX0_clear 1 none [] d 0 0 _ 0 [some (.ref 1092)] [] (M, 1186, false) 0 0
  refine mm_aload_n dX0_clear_0 rfl rfl ?_
  refine mm_iconst (v := 0) dX0_clear_1 (by decide) ?_
  refine mm_put3 (ci := 0) (fs1 := [.ref 1093, .int 0, .int 0]) in_X0 tyX0_ok nmX0 rfl (k := 1) (by decide) rfl rfl kF_X0_19 dX0_clear_2 (mm_fit_int _) h1092 (Nat.le_of_ble_eq_true rfl) (Nat.le_of_ble_eq_true rfl) rfl ?_
  refine mm_aload_n dX0_clear_5 rfl rfl ?_
  refine mm_iconst (v := 0) dX0_clear_6 (by decide) ?_
  refine mm_put3 (ci := 0) (fs1 := [.ref 1093, .int 0, .int 0]) in_X0 tyX0_ok nmX0 rfl (k := 2) (by decide) rfl rfl kF_X0_23 dX0_clear_7 mm_fit_z0 mm_up_s (Nat.le_of_ble_eq_true rfl) (Nat.le_of_ble_eq_true rfl) rfl ?_
  refine mm_vret dX0_clear_10 rfl ?_ (by omega) (by omega)
  refine ⟨rfl, rfl, ?_⟩
  dsimp only
  exact ⟨mm_up_s, fun x e1092 => mm_upN e1092 (mm_upN e1092 (rfl))⟩

set_option maxHeartbeats 4000000 in
set_option maxRecDepth 100000 in
theorem k293_X4_begin {g : mm_G} {l : Launch} (hst : l.stackTraces = false) {d : Nat} (M : Nat → mm_C) (q1 q2 : Int32) (h1091 : M 1091 = .inr (4, [.null, .null, .null, .null, .long 0, .int 0, .int 0])) : mm_Cm g l yX4_begin (.code yX4_begin cX4_begin 2 none) d 0 0 [.ref 1091, .null] (M, 1186, false) (fun v S' => v = none ∧ S'.2 = (1186, false) ∧ S'.1 1091 = .inr (4, [.null, .null, .null, .null, .long 0, .int 0, .int 0]) ∧ ∀ j, j ≠ 1091 → S'.1 j = M j) := by
  refine mm_Cm_of hst (by decide) (Nat.le_of_ble_eq_true rfl) ?_
  show mm_V g l RX4 "begin" cX4_begin 2 none [] d 0 0 _ 0 [some (.ref 1091), some (.null)] [] (M, 1186, false) 0 0
  refine mm_aload_n dX4_begin_0 rfl rfl ?_
  refine mm_aload_n dX4_begin_1 rfl rfl ?_
  refine mm_put3 (ci := 4) (fs1 := [.null, .null, .null, .null, .long 0, .int 0, .int 0]) in_X4 tyX4_ok nmX4 rfl (k := 0) (by decide) rfl rfl kF_X4_9 dX4_begin_2 (mm_fit_null _) h1091 (Nat.le_of_ble_eq_true rfl) (Nat.le_of_ble_eq_true rfl) rfl ?_
  refine mm_aload_n dX4_begin_5 rfl rfl ?_
  refine mm_null dX4_begin_6 ?_
  refine mm_put3 (ci := 4) (fs1 := [.null, .null, .null, .null, .long 0, .int 0, .int 0]) in_X4 tyX4_ok nmX4 rfl (k := 1) (by decide) rfl rfl kF_X4_15 dX4_begin_7 (mm_fit_null _) mm_up_s (Nat.le_of_ble_eq_true rfl) (Nat.le_of_ble_eq_true rfl) rfl ?_
  refine mm_aload_n dX4_begin_10 rfl rfl ?_
  refine mm_null dX4_begin_11 ?_
  refine mm_put3 (ci := 4) (fs1 := [.null, .null, .null, .null, .long 0, .int 0, .int 0]) in_X4 tyX4_ok nmX4 rfl (k := 2) (by decide) rfl rfl kF_X4_19 dX4_begin_12 (mm_fit_null _) mm_up_s (Nat.le_of_ble_eq_true rfl) (Nat.le_of_ble_eq_true rfl) rfl ?_
  refine mm_aload_n dX4_begin_15 rfl rfl ?_
  refine mm_null dX4_begin_16 ?_
  refine mm_put3 (ci := 4) (fs1 := [.null, .null, .null, .null, .long 0, .int 0, .int 0]) in_X4 tyX4_ok nmX4 rfl (k := 3) (by decide) rfl rfl kF_X4_22 dX4_begin_17 (mm_fit_null _) mm_up_s (Nat.le_of_ble_eq_true rfl) (Nat.le_of_ble_eq_true rfl) rfl ?_
  refine mm_aload_n dX4_begin_20 rfl rfl ?_
  refine mm_lconst (v := 0) dX4_begin_21 (by decide) ?_
  refine mm_put3 (ci := 4) (fs1 := [.null, .null, .null, .null, .long 0, .int 0, .int 0]) in_X4 tyX4_ok nmX4 rfl (k := 4) (by decide) rfl rfl kF_X4_25 dX4_begin_22 (mm_fit_long _) mm_up_s (Nat.le_of_ble_eq_true rfl) (Nat.le_of_ble_eq_true rfl) rfl ?_
  refine mm_aload_n dX4_begin_25 rfl rfl ?_
  refine mm_iconst (v := 0) dX4_begin_26 (by decide) ?_
  refine mm_put3 (ci := 4) (fs1 := [.null, .null, .null, .null, .long 0, .int 0, .int 0]) in_X4 tyX4_ok nmX4 rfl (k := 5) (by decide) rfl rfl kF_X4_29 dX4_begin_27 (mm_fit_int _) mm_up_s (Nat.le_of_ble_eq_true rfl) (Nat.le_of_ble_eq_true rfl) rfl ?_
  refine mm_aload_n dX4_begin_30 rfl rfl ?_
  refine mm_iconst (v := 0) dX4_begin_31 (by decide) ?_
  refine mm_put3 (ci := 4) (fs1 := [.null, .null, .null, .null, .long 0, .int 0, .int 0]) in_X4 tyX4_ok nmX4 rfl (k := 6) (by decide) rfl rfl kF_X4_33 dX4_begin_32 (mm_fit_int _) mm_up_s (Nat.le_of_ble_eq_true rfl) (Nat.le_of_ble_eq_true rfl) rfl ?_
  refine mm_vret dX4_begin_35 rfl ?_ (by omega) (by omega)
  refine ⟨rfl, rfl, ?_⟩
  dsimp only
  exact ⟨mm_up_s, fun x e1091 => mm_upN e1091 (mm_upN e1091 (mm_upN e1091 (mm_upN e1091 (mm_upN e1091 (mm_upN e1091 (mm_upN e1091 (rfl)))))))⟩

set_option maxHeartbeats 4000000 in
set_option maxRecDepth 100000 in
theorem k290_X8_drop {g : mm_G} {l : Launch} (hst : l.stackTraces = false) {d : Nat} (M : Nat → mm_C) (q1 q2 : Int32) (h389 : M 389 = .inr (8, [.ref 390, .ref 1091, .ref 1092, .int 0, .null, .null])) (h1091 : M 1091 = .inr (4, [.null, .null, .null, .null, .long 0, .int 0, .int 0])) (h1092 : M 1092 = .inr (0, [.ref 1093, .int 0, .int 0])) : mm_Cm g l yX8_drop (.code yX8_drop cX8_drop 1 none) (d + 1) 0 0 [.ref 389] (M, 1186, false) (fun v S' => v = none ∧ S'.2 = (1186, false) ∧ S'.1 389 = .inr (8, [.ref 390, .ref 1091, .ref 1092, .int 0, .null, .null]) ∧ S'.1 1092 = .inr (0, [.ref 1093, .int 0, .int 0]) ∧ S'.1 1091 = .inr (4, [.null, .null, .null, .null, .long 0, .int 0, .int 0]) ∧ ∀ j, j ≠ 389 → j ≠ 1092 → j ≠ 1091 → S'.1 j = M j) := by
  refine mm_Cm_of hst (by decide) (Nat.le_of_ble_eq_true rfl) ?_
  show mm_V g l RX8 "drop" cX8_drop 1 none [] (d + 1) 0 0 _ 0 [some (.ref 389)] [] (M, 1186, false) 0 0
  refine mm_aload_n dX8_drop_0 rfl rfl ?_
  refine mm_null dX8_drop_1 ?_
  refine mm_put3 (ci := 8) (fs1 := [.ref 390, .ref 1091, .ref 1092, .int 0, .null, .null]) in_X8 tyX8_ok nmX8 rfl (k := 4) (by decide) rfl rfl kF_X8_37 dX8_drop_2 (mm_fit_null _) h389 (Nat.le_of_ble_eq_true rfl) (Nat.le_of_ble_eq_true rfl) rfl ?_
  refine mm_aload_n dX8_drop_5 rfl rfl ?_
  refine mm_null dX8_drop_6 ?_
  refine mm_put3 (ci := 8) (fs1 := [.ref 390, .ref 1091, .ref 1092, .int 0, .null, .null]) in_X8 tyX8_ok nmX8 rfl (k := 5) (by decide) rfl rfl kF_X8_33 dX8_drop_7 (mm_fit_null _) mm_up_s (Nat.le_of_ble_eq_true rfl) (Nat.le_of_ble_eq_true rfl) rfl ?_
  refine mm_aload_n dX8_drop_10 rfl rfl ?_
  refine mm_get3 (ci := 8) in_X8 rfl (k := 2) (by decide) rfl kF_X8_29 dX8_drop_11 mm_up_s (Nat.le_of_ble_eq_true rfl) rfl ?_
  refine mm_callV3 (ci := 0) wM_X0_clear kM_X8_45 wI_X0_clear wS_X0_clear dX8_drop_14 (k291_X0_clear hst _ q1 q2 (mm_upN (by decide) (mm_upN (by decide) h1092))) (mm_upN (by decide) (mm_upN (by decide) h1092)) (Nat.le_of_ble_eq_true rfl) rfl rfl rfl (Nat.le_of_ble_eq_true rfl) (by omega) (by omega) (fun v S9 hq => ?_)
  obtain ⟨M292, z292⟩ := S9
  obtain ⟨rfl, hz292, g292_1092, g292_F⟩ := hq
  cases hz292
  refine ⟨fun h => ⟨h, rfl⟩, ?_⟩
  refine mm_aload_n dX8_drop_17 rfl rfl ?_
  refine mm_iconst (v := 0) dX8_drop_18 (by decide) ?_
  refine mm_put3 (ci := 8) (fs1 := [.ref 390, .ref 1091, .ref 1092, .int 0, .null, .null]) in_X8 tyX8_ok nmX8 rfl (k := 3) (by decide) rfl rfl kF_X8_48 dX8_drop_19 (mm_fit_int _) (mm_frN (g292_F _ (by decide)) mm_up_s) (Nat.le_of_ble_eq_true rfl) (Nat.le_of_ble_eq_true rfl) rfl ?_
  refine mm_aload_n dX8_drop_22 rfl rfl ?_
  refine mm_get3 (ci := 8) in_X8 rfl (k := 1) (by decide) rfl kF_X8_20 dX8_drop_23 mm_up_s (Nat.le_of_ble_eq_true rfl) rfl ?_
  refine mm_null dX8_drop_26 ?_
  refine mm_callV3 (ci := 4) wM_X4_begin kM_X8_52 wI_X4_begin wS_X4_begin dX8_drop_27 (k293_X4_begin hst _ q1 q2 (mm_upN (by decide) (mm_frN (g292_F _ (by decide)) (mm_upN (by decide) (mm_upN (by decide) h1091))))) (mm_upN (by decide) (mm_frN (g292_F _ (by decide)) (mm_upN (by decide) (mm_upN (by decide) h1091)))) (Nat.le_of_ble_eq_true rfl) rfl rfl rfl (Nat.le_of_ble_eq_true rfl) (by omega) (by omega) (fun v S9 hq => ?_)
  obtain ⟨M294, z294⟩ := S9
  obtain ⟨rfl, hz294, g294_1091, g294_F⟩ := hq
  cases hz294
  refine ⟨fun h => ⟨h, rfl⟩, ?_⟩
  refine mm_vret dX8_drop_30 rfl ?_ (by omega) (by omega)
  refine ⟨rfl, rfl, ?_⟩
  dsimp only
  exact ⟨(mm_frN (g294_F _ (by decide)) mm_up_s), (mm_frN (g294_F _ (by decide)) (mm_upN (by decide) g292_1092)), g294_1091, fun x e389 e1092 e1091 => mm_frN (g294_F _ e1091 ) (mm_upN e389 (mm_frN (g292_F _ e1092 ) (mm_upN e389 (mm_upN e389 (rfl)))))⟩

set_option maxHeartbeats 4000000 in
set_option maxRecDepth 100000 in
theorem k283_X11_settle {g : mm_G} {l : Launch} (hst : l.stackTraces = false) {d : Nat} (M : Nat → mm_C) (q1 q2 : Int32) (h0 : M 0 = .inr (11, [.ref 1, .ref 3, .ref 5, .ref 197, .ref 389, .ref 1094, .ref 1095, .ref 1097, .int (-1)])) (h1 : M 1 = .inr (0, [.ref 2, .int 0, .int 0])) (h389 : M 389 = .inr (8, [.ref 390, .ref 1091, .ref 1092, .int 0, .null, .null])) (h1091 : M 1091 = .inr (4, [.null, .null, .null, .null, .long 0, .int 0, .int 0])) (h1092 : M 1092 = .inr (0, [.ref 1093, .int 0, .int 0])) : mm_Ct g l yX11_settle (.code yX11_settle cX11_settle 4 (some .int)) (d + 2) 1 6 [.ref 0, .int 0] (M, 1186, false) (fun r S' => r = .inr "java/lang/IllegalArgumentException" ∧ S'.2 = (1186, true) ∧ S'.1 1 = .inr (0, [.ref 2, .int 0, .int 0]) ∧ S'.1 389 = .inr (8, [.ref 390, .ref 1091, .ref 1092, .int 0, .null, .null]) ∧ S'.1 1092 = .inr (0, [.ref 1093, .int 0, .int 0]) ∧ S'.1 1091 = .inr (4, [.null, .null, .null, .null, .long 0, .int 0, .int 0]) ∧ ∀ j, j ≠ 1 → j ≠ 389 → j ≠ 1092 → j ≠ 1091 → S'.1 j = M j) := by
  refine mm_Ct_of hst (by decide) (Nat.le_of_ble_eq_true rfl) ?_
  show mm_V g l RX11 "settle" cX11_settle 4 (some .int) [] (d + 2) 1 6 _ 0 [some (.ref 0), some (.int 0), none, none] [] (M, 1186, false) 0 0
  refine mm_aload_n dX11_settle_0 rfl rfl ?_
  refine mm_get3 (ci := 11) in_X11 rfl (k := 0) (by decide) rfl kF_X11_14 dX11_settle_1 h0 (Nat.le_of_ble_eq_true rfl) rfl ?_
  refine mm_callV3 (ci := 0) wM_X0_clear kM_X11_99 wI_X0_clear wS_X0_clear dX11_settle_4 (k284_X0_clear hst _ q1 q2 h1) h1 (Nat.le_of_ble_eq_true rfl) rfl rfl rfl (Nat.le_of_ble_eq_true rfl) (by omega) (by omega) (fun v S9 hq => ?_)
  obtain ⟨M285, z285⟩ := S9
  obtain ⟨rfl, hz285, g285_1, g285_F⟩ := hq
  cases hz285
  refine ⟨fun h => ⟨h, rfl⟩, ?_⟩
  refine mm_iload_n dX11_settle_7 rfl ?_
  refine mm_if_eq 21 dX11_settle_8 (by decide) (fun _ => ?_) (fun h => absurd (by decide) h)
  refine mm_iconst (v := 0) dX11_settle_21 (by decide) ?_
  refine mm_istore_n [some (.ref 0), some (.int 0), some (.int 0), none] dX11_settle_22 (by decide) rfl ?_
  refine mm_iload_n dX11_settle_23 rfl ?_
  refine mm_sipush (v := 200) dX11_settle_24 (by decide) ?_
  refine mm_icmp_gt 40 dX11_settle_27 (by decide) (fun h => absurd h (by decide)) (fun _ => ?_)
  refine mm_aload_n dX11_settle_30 rfl rfl ?_
  refine mm_get3 (ci := 11) in_X11 rfl (k := 4) (by decide) rfl kF_X11_34 dX11_settle_31 (mm_frN (g285_F _ (by decide)) h0) (Nat.le_of_ble_eq_true rfl) rfl ?_
  refine mm_callV3 (ci := 8) wM_X8_isSpilt kM_X11_228 wI_X8_isSpilt wS_X8_isSpilt dX11_settle_34 (k286_X8_isSpilt hst _ q1 q2 (mm_frN (g285_F _ (by decide)) h389) (mm_frN (g285_F _ (by decide)) h1092)) (mm_frN (g285_F _ (by decide)) h389) (Nat.le_of_ble_eq_true rfl) rfl rfl rfl (Nat.le_of_ble_eq_true rfl) (by omega) (by omega) (fun v S9 hq => ?_)
  obtain ⟨rfl, rfl⟩ := hq
  refine ⟨fun h => ⟨h, rfl⟩, ?_⟩
  refine mm_if_eq 44 dX11_settle_37 (by decide) (fun _ => ?_) (fun h => absurd (by decide) h)
  refine mm_iconst (v := 0) dX11_settle_44 (by decide) ?_
  refine mm_istore_n [some (.ref 0), some (.int 0), some (.int 0), some (.int 0)] dX11_settle_45 (by decide) rfl ?_
  refine mm_iload_n dX11_settle_46 rfl ?_
  refine mm_if_eq 54 dX11_settle_47 (by decide) (fun _ => ?_) (fun h => absurd (by decide) h)
  refine mm_aload_n dX11_settle_54 rfl rfl ?_
  refine mm_get3 (ci := 11) in_X11 rfl (k := 4) (by decide) rfl kF_X11_34 dX11_settle_55 (mm_frN (g285_F _ (by decide)) h0) (Nat.le_of_ble_eq_true rfl) rfl ?_
  refine mm_callV3 (ci := 8) wM_X8_drop kM_X11_92 wI_X8_drop wS_X8_drop dX11_settle_58 (k290_X8_drop hst _ q1 q2 (mm_frN (g285_F _ (by decide)) h389) (mm_frN (g285_F _ (by decide)) h1091) (mm_frN (g285_F _ (by decide)) h1092)) (mm_frN (g285_F _ (by decide)) h389) (Nat.le_of_ble_eq_true rfl) rfl rfl rfl (Nat.le_of_ble_eq_true rfl) (by omega) (by omega) (fun v S9 hq => ?_)
  obtain ⟨M295, z295⟩ := S9
  obtain ⟨rfl, hz295, g295_389, g295_1092, g295_1091, g295_F⟩ := hq
  cases hz295
  refine ⟨fun h => ⟨h, rfl⟩, ?_⟩
  refine mm_iload_n dX11_settle_61 rfl ?_
  refine mm_if_ne 75 dX11_settle_62 (by decide) (fun h => absurd (by decide) h) (fun _ => ?_)
  refine mm_throw (k := 8) (text := "no such schema, message or depth, or the tape is wrong") (by decide) kC_X11_67 wj_IllegalArgumentException rfl at_71 rfl dX11_settle_65 dX11_settle_68 dX11_settle_69 dX11_settle_71 dX11_settle_74 (Nat.le_of_ble_eq_true rfl) (by omega) (by omega) ?_
  refine ⟨rfl, rfl, ?_⟩
  dsimp only
  exact ⟨(mm_frN (g295_F _ (by decide) (by decide) (by decide)) g285_1), g295_389, g295_1092, g295_1091, fun x e1 e389 e1092 e1091 => mm_frN (g295_F _ e389 e1092 e1091 ) (mm_frN (g285_F _ e1 ) (rfl))⟩

set_option maxHeartbeats 4000000 in
set_option maxRecDepth 100000 in
theorem f_parse_1 {g : mm_G} {l : Launch} (hst : l.stackTraces = false) {d : Nat} (M : Nat → mm_C) (q1 q2 : Int32) (h0 : M 0 = .inr (11, [.ref 1, .ref 3, .ref 5, .ref 197, .ref 389, .ref 1094, .ref 1095, .ref 1097, .int (-1)])) (h1 : M 1 = .inr (0, [.ref 2, .int 0, .int 0])) (h197 : M 197 = .inr (2, [.ref 198, .ref 383, .ref 388, .int 0, .int 0])) (h198 : M 198 = .inr (6, [.ref 199, .ref 201, .ref 382, .int 0, .int 0])) (h389 : M 389 = .inr (8, [.ref 390, .ref 1091, .ref 1092, .int 0, .null, .null])) (h1091 : M 1091 = .inr (4, [.null, .null, .null, .null, .long 0, .int 0, .int 0])) (h1092 : M 1092 = .inr (0, [.ref 1093, .int 0, .int 0])) : mm_Ct g l yX11_parse (.code yX11_parse cX11_parse 4 (some .int)) (d + 3) 1 6 [.ref 0, .int 1, .int q1, .int q2] (M, 1186, false) (fun r S' => r = .inr "java/lang/IllegalArgumentException" ∧ S'.2 = (1186, true) ∧ ∀ j, 1101 ≤ j → S'.1 j = M j) := by
  refine mm_Ct_of hst (by decide) (Nat.le_of_ble_eq_true rfl) ?_
  show mm_V g l RX11 "parse" cX11_parse 4 (some .int) [] (d + 3) 1 6 _ 0 [some (.ref 0), some (.int 1), some (.int q1), some (.int q2)] [] (M, 1186, false) 0 0
  refine mm_aload_n dX11_parse_0 rfl rfl ?_
  refine mm_aload_n dX11_parse_1 rfl rfl ?_
  refine mm_iload_n dX11_parse_2 rfl ?_
  refine mm_iload_n dX11_parse_3 rfl ?_
  refine mm_iload_n dX11_parse_4 rfl ?_
  refine mm_callV3 (ci := 11) wM_X11_opens kM_X11_162 wI_X11_opens wS_X11_opens dX11_parse_5 (k272_X11_opens hst _ q1 q2 h0 h197 h198) h0 (Nat.le_of_ble_eq_true rfl) rfl rfl rfl (Nat.le_of_ble_eq_true rfl) (by omega) (by omega) (fun v S9 hq => ?_)
  obtain ⟨rfl, rfl⟩ := hq
  refine ⟨fun h => ⟨h, rfl⟩, ?_⟩
  refine mm_if_eq 26 dX11_parse_8 (by decide) (fun _ => ?_) (fun h => absurd (by decide) h)
  refine mm_iconst (v := 0) dX11_parse_26 (by decide) ?_
  refine mm_callX3 (ci := 11) wM_X11_settle kM_X11_170 wI_X11_settle wS_X11_settle dX11_parse_27 (k283_X11_settle hst _ q1 q2 h0 h1 h389 h1091 h1092) h0 (Nat.le_of_ble_eq_true rfl) rfl rfl rfl (Nat.le_of_ble_eq_true rfl) (by omega) (by omega) (fun v S9 hq => by cases hq.1) rfl (fun E9 S9 hq => ?_)
  obtain ⟨M296, z296⟩ := S9
  obtain ⟨hE296, hz296, g296_1, g296_389, g296_1092, g296_1091, g296_F⟩ := hq
  cases hE296
  cases hz296
  refine ⟨rfl, rfl, fun x hx => ?_⟩
  dsimp only
  exact mm_frN (g296_F _ (by omega) (by omega) (by omega) (by omega) ) (rfl)

set_option maxHeartbeats 4000000 in
set_option maxRecDepth 100000 in
theorem k298_X11_compilerOf {g : mm_G} {l : Launch} (hst : l.stackTraces = false) {d : Nat} (M : Nat → mm_C) (p : Int32) (hp0 : ¬ p = 0) (hp1 : ¬ p = 1) (q1 q2 : Int32) : mm_Cm g l yX11_compilerOf (.code yX11_compilerOf cX11_compilerOf 2 (some (.object "ProtoDesk$Compiler"))) d 0 0 [.ref 0, .int p] (M, 1186, false) (fun v S' => v = some (.null) ∧ S' = (M, 1186, false)) := by
  refine mm_Cm_of hst (by decide) (Nat.le_of_ble_eq_true rfl) ?_
  show mm_V g l RX11 "compilerOf" cX11_compilerOf 2 (some (.object "ProtoDesk$Compiler")) [] d 0 0 _ 0 [some (.ref 0), some (.int p)] [] (M, 1186, false) 0 0
  refine mm_iload_n dX11_compilerOf_0 rfl ?_
  refine mm_if_ne 11 dX11_compilerOf_1 (by decide) (fun _ => ?_) (fun h => absurd h hp0)
  refine mm_iload_n dX11_compilerOf_11 rfl ?_
  refine mm_iconst (v := 1) dX11_compilerOf_12 (by decide) ?_
  refine mm_icmp_ne 23 dX11_compilerOf_13 (by decide) (fun _ => ?_) (fun h => absurd h hp1)
  refine mm_null dX11_compilerOf_23 ?_
  refine mm_aret (a := none) dX11_compilerOf_24 rfl ?_ (by omega) (by omega)
  exact ⟨rfl, rfl⟩

set_option maxHeartbeats 4000000 in
set_option maxRecDepth 100000 in
theorem k300_X11_messageOf {g : mm_G} {l : Launch} (hst : l.stackTraces = false) {d : Nat} (M : Nat → mm_C) (p : Int32) (hp0 : ¬ p = 0) (hp1 : ¬ p = 1) (q1 q2 : Int32) (h0 : M 0 = .inr (11, [.ref 1, .ref 3, .ref 5, .ref 197, .ref 389, .ref 1094, .ref 1095, .ref 1097, .int (-1)])) : mm_Cm g l yX11_messageOf (.code yX11_messageOf cX11_messageOf 4 (some (.object "ProtoDesk$Item"))) (d + 1) 0 0 [.ref 0, .int p, .int q1] (M, 1186, false) (fun v S' => v = some (.null) ∧ S' = (M, 1186, false)) := by
  refine mm_Cm_of hst (by decide) (Nat.le_of_ble_eq_true rfl) ?_
  show mm_V g l RX11 "messageOf" cX11_messageOf 4 (some (.object "ProtoDesk$Item")) [] (d + 1) 0 0 _ 0 [some (.ref 0), some (.int p), some (.int q1), none] [] (M, 1186, false) 0 0
  refine mm_aload_n dX11_messageOf_0 rfl rfl ?_
  refine mm_iload_n dX11_messageOf_1 rfl ?_
  refine mm_callV3 (ci := 11) wM_X11_compilerOf kM_X11_86 wI_X11_compilerOf wS_X11_compilerOf dX11_messageOf_2 (k298_X11_compilerOf hst _ p hp0 hp1 q1 q2 ) h0 (Nat.le_of_ble_eq_true rfl) rfl rfl rfl (Nat.le_of_ble_eq_true rfl) (by omega) (by omega) (fun v S9 hq => ?_)
  obtain ⟨rfl, rfl⟩ := hq
  refine ⟨fun h => ⟨h, rfl⟩, ?_⟩
  refine mm_astore_n [some (.ref 0), some (.int p), some (.int q1), some (.null)] dX11_messageOf_5 (by decide) rfl rfl ?_
  refine mm_aload_n dX11_messageOf_6 rfl rfl ?_
  refine mm_ifnonnull (r := none) 14 dX11_messageOf_7 (by decide) (fun h => absurd (by simp) h) (fun _ => ?_)
  refine mm_null dX11_messageOf_10 ?_
  refine mm_goto 22 dX11_messageOf_11 (by decide) ?_
  refine mm_aret (a := none) dX11_messageOf_22 rfl ?_ (by omega) (by omega)
  exact ⟨rfl, rfl⟩

set_option maxHeartbeats 4000000 in
set_option maxRecDepth 100000 in
theorem k297_X11_opens {g : mm_G} {l : Launch} (hst : l.stackTraces = false) {d : Nat} (M : Nat → mm_C) (p : Int32) (hp0 : ¬ p = 0) (hp1 : ¬ p = 1) (q1 q2 : Int32) (h0 : M 0 = .inr (11, [.ref 1, .ref 3, .ref 5, .ref 197, .ref 389, .ref 1094, .ref 1095, .ref 1097, .int (-1)])) : mm_Cm g l yX11_opens (.code yX11_opens cX11_opens 6 (some .boolean)) (d + 2) 0 0 [.ref 0, .int p, .int q1, .int q2] (M, 1186, false) (fun v S' => v = some (.int 0) ∧ S' = (M, 1186, false)) := by
  refine mm_Cm_of hst (by decide) (Nat.le_of_ble_eq_true rfl) ?_
  show mm_V g l RX11 "opens" cX11_opens 6 (some .boolean) [] (d + 2) 0 0 _ 0 [some (.ref 0), some (.int p), some (.int q1), some (.int q2), none, none] [] (M, 1186, false) 0 0
  refine mm_aload_n dX11_opens_0 rfl rfl ?_
  refine mm_iload_n dX11_opens_1 rfl ?_
  refine mm_callV3 (ci := 11) wM_X11_compilerOf kM_X11_86 wI_X11_compilerOf wS_X11_compilerOf dX11_opens_2 (k298_X11_compilerOf hst _ p hp0 hp1 q1 q2 ) h0 (Nat.le_of_ble_eq_true rfl) rfl rfl rfl (Nat.le_of_ble_eq_true rfl) (by omega) (by omega) (fun v S9 hq => ?_)
  obtain ⟨rfl, rfl⟩ := hq
  refine ⟨fun h => ⟨h, rfl⟩, ?_⟩
  refine mm_astore [some (.ref 0), some (.int p), some (.int q1), some (.int q2), some (.null), none] dX11_opens_5 (by decide) rfl rfl ?_
  refine mm_aload_n dX11_opens_7 rfl rfl ?_
  refine mm_iload_n dX11_opens_8 rfl ?_
  refine mm_iload_n dX11_opens_9 rfl ?_
  refine mm_callV3 (ci := 11) wM_X11_messageOf kM_X11_119 wI_X11_messageOf wS_X11_messageOf dX11_opens_10 (k300_X11_messageOf hst _ p hp0 hp1 q1 q2 h0) h0 (Nat.le_of_ble_eq_true rfl) rfl rfl rfl (Nat.le_of_ble_eq_true rfl) (by omega) (by omega) (fun v S9 hq => ?_)
  obtain ⟨rfl, rfl⟩ := hq
  refine ⟨fun h => ⟨h, rfl⟩, ?_⟩
  refine mm_astore [some (.ref 0), some (.int p), some (.int q1), some (.int q2), some (.null), some (.null)] dX11_opens_13 (by decide) rfl rfl ?_
  refine mm_aload dX11_opens_15 rfl rfl ?_
  refine mm_ifnull (r := none) 36 dX11_opens_17 (by decide) (fun _ => ?_) (fun h => absurd (by simp) h)
  refine mm_iconst (v := 0) dX11_opens_36 (by decide) ?_
  refine mm_iret dX11_opens_37 rfl rfl ?_ (by omega) (by omega)
  exact ⟨rfl, rfl⟩

set_option maxHeartbeats 4000000 in
set_option maxRecDepth 100000 in
theorem k305_X0_clear {g : mm_G} {l : Launch} (hst : l.stackTraces = false) {d : Nat} (M : Nat → mm_C) (p : Int32) (hp0 : ¬ p = 0) (hp1 : ¬ p = 1) (q1 q2 : Int32) (h1 : M 1 = .inr (0, [.ref 2, .int 0, .int 0])) : mm_Cm g l yX0_clear (.code yX0_clear cX0_clear 1 none) d 0 0 [.ref 1] (M, 1186, false) (fun v S' => v = none ∧ S'.2 = (1186, false) ∧ S'.1 1 = .inr (0, [.ref 2, .int 0, .int 0]) ∧ ∀ j, j ≠ 1 → S'.1 j = M j) := by
  refine mm_Cm_of hst (by decide) (Nat.le_of_ble_eq_true rfl) ?_
  show mm_V g l RX0 "clear" cX0_clear 1 none [] d 0 0 _ 0 [some (.ref 1)] [] (M, 1186, false) 0 0
  refine mm_aload_n dX0_clear_0 rfl rfl ?_
  refine mm_iconst (v := 0) dX0_clear_1 (by decide) ?_
  refine mm_put3 (ci := 0) (fs1 := [.ref 2, .int 0, .int 0]) in_X0 tyX0_ok nmX0 rfl (k := 1) (by decide) rfl rfl kF_X0_19 dX0_clear_2 (mm_fit_int _) h1 (Nat.le_of_ble_eq_true rfl) (Nat.le_of_ble_eq_true rfl) rfl ?_
  refine mm_aload_n dX0_clear_5 rfl rfl ?_
  refine mm_iconst (v := 0) dX0_clear_6 (by decide) ?_
  refine mm_put3 (ci := 0) (fs1 := [.ref 2, .int 0, .int 0]) in_X0 tyX0_ok nmX0 rfl (k := 2) (by decide) rfl rfl kF_X0_23 dX0_clear_7 mm_fit_z0 mm_up_s (Nat.le_of_ble_eq_true rfl) (Nat.le_of_ble_eq_true rfl) rfl ?_
  refine mm_vret dX0_clear_10 rfl ?_ (by omega) (by omega)
  refine ⟨rfl, rfl, ?_⟩
  dsimp only
  exact ⟨mm_up_s, fun x e1 => mm_upN e1 (mm_upN e1 (rfl))⟩

set_option maxHeartbeats 4000000 in
set_option maxRecDepth 100000 in
theorem k308_X0_isSpilt {g : mm_G} {l : Launch} (hst : l.stackTraces = false) {d : Nat} (M : Nat → mm_C) (p : Int32) (hp0 : ¬ p = 0) (hp1 : ¬ p = 1) (q1 q2 : Int32) (h1092 : M 1092 = .inr (0, [.ref 1093, .int 0, .int 0])) : mm_Cm g l yX0_isSpilt (.code yX0_isSpilt cX0_isSpilt 1 (some .boolean)) d 0 0 [.ref 1092] (M, 1186, false) (fun v S' => v = some (.int 0) ∧ S' = (M, 1186, false)) := by
  refine mm_Cm_of hst (by decide) (Nat.le_of_ble_eq_true rfl) ?_
  show mm_V g l RX0 "isSpilt" cX0_isSpilt 1 (some .boolean) [] d 0 0 _ 0 [some (.ref 1092)] [] (M, 1186, false) 0 0
  refine mm_aload_n dX0_isSpilt_0 rfl rfl ?_
  refine mm_get3 (ci := 0) in_X0 rfl (k := 2) (by decide) rfl kF_X0_23 dX0_isSpilt_1 h1092 (Nat.le_of_ble_eq_true rfl) rfl ?_
  refine mm_iret dX0_isSpilt_4 rfl rfl ?_ (by omega) (by omega)
  exact ⟨rfl, rfl⟩

set_option maxHeartbeats 4000000 in
set_option maxRecDepth 100000 in
theorem k307_X8_isSpilt {g : mm_G} {l : Launch} (hst : l.stackTraces = false) {d : Nat} (M : Nat → mm_C) (p : Int32) (hp0 : ¬ p = 0) (hp1 : ¬ p = 1) (q1 q2 : Int32) (h389 : M 389 = .inr (8, [.ref 390, .ref 1091, .ref 1092, .int 0, .null, .null])) (h1092 : M 1092 = .inr (0, [.ref 1093, .int 0, .int 0])) : mm_Cm g l yX8_isSpilt (.code yX8_isSpilt cX8_isSpilt 1 (some .boolean)) (d + 1) 0 0 [.ref 389] (M, 1186, false) (fun v S' => v = some (.int 0) ∧ S' = (M, 1186, false)) := by
  refine mm_Cm_of hst (by decide) (Nat.le_of_ble_eq_true rfl) ?_
  show mm_V g l RX8 "isSpilt" cX8_isSpilt 1 (some .boolean) [] (d + 1) 0 0 _ 0 [some (.ref 389)] [] (M, 1186, false) 0 0
  refine mm_aload_n dX8_isSpilt_0 rfl rfl ?_
  refine mm_get3 (ci := 8) in_X8 rfl (k := 2) (by decide) rfl kF_X8_29 dX8_isSpilt_1 h389 (Nat.le_of_ble_eq_true rfl) rfl ?_
  refine mm_callV3 (ci := 0) wM_X0_isSpilt kM_X8_41 wI_X0_isSpilt wS_X0_isSpilt dX8_isSpilt_4 (k308_X0_isSpilt hst _ p hp0 hp1 q1 q2 h1092) h1092 (Nat.le_of_ble_eq_true rfl) rfl rfl rfl (Nat.le_of_ble_eq_true rfl) (by omega) (by omega) (fun v S9 hq => ?_)
  obtain ⟨rfl, rfl⟩ := hq
  refine ⟨fun h => ⟨h, rfl⟩, ?_⟩
  refine mm_iret dX8_isSpilt_7 rfl rfl ?_ (by omega) (by omega)
  exact ⟨rfl, rfl⟩

set_option maxHeartbeats 4000000 in
set_option maxRecDepth 100000 in
theorem k312_X0_clear {g : mm_G} {l : Launch} (hst : l.stackTraces = false) {d : Nat} (M : Nat → mm_C) (p : Int32) (hp0 : ¬ p = 0) (hp1 : ¬ p = 1) (q1 q2 : Int32) (h1092 : M 1092 = .inr (0, [.ref 1093, .int 0, .int 0])) : mm_Cm g l yX0_clear (.code yX0_clear cX0_clear 1 none) d 0 0 [.ref 1092] (M, 1186, false) (fun v S' => v = none ∧ S'.2 = (1186, false) ∧ S'.1 1092 = .inr (0, [.ref 1093, .int 0, .int 0]) ∧ ∀ j, j ≠ 1092 → S'.1 j = M j) := by
  refine mm_Cm_of hst (by decide) (Nat.le_of_ble_eq_true rfl) ?_
  show mm_V g l RX0 "clear" cX0_clear 1 none [] d 0 0 _ 0 [some (.ref 1092)] [] (M, 1186, false) 0 0
  refine mm_aload_n dX0_clear_0 rfl rfl ?_
  refine mm_iconst (v := 0) dX0_clear_1 (by decide) ?_
  refine mm_put3 (ci := 0) (fs1 := [.ref 1093, .int 0, .int 0]) in_X0 tyX0_ok nmX0 rfl (k := 1) (by decide) rfl rfl kF_X0_19 dX0_clear_2 (mm_fit_int _) h1092 (Nat.le_of_ble_eq_true rfl) (Nat.le_of_ble_eq_true rfl) rfl ?_
  refine mm_aload_n dX0_clear_5 rfl rfl ?_
  refine mm_iconst (v := 0) dX0_clear_6 (by decide) ?_
  refine mm_put3 (ci := 0) (fs1 := [.ref 1093, .int 0, .int 0]) in_X0 tyX0_ok nmX0 rfl (k := 2) (by decide) rfl rfl kF_X0_23 dX0_clear_7 mm_fit_z0 mm_up_s (Nat.le_of_ble_eq_true rfl) (Nat.le_of_ble_eq_true rfl) rfl ?_
  refine mm_vret dX0_clear_10 rfl ?_ (by omega) (by omega)
  refine ⟨rfl, rfl, ?_⟩
  dsimp only
  exact ⟨mm_up_s, fun x e1092 => mm_upN e1092 (mm_upN e1092 (rfl))⟩

set_option maxHeartbeats 4000000 in
set_option maxRecDepth 100000 in
theorem k314_X4_begin {g : mm_G} {l : Launch} (hst : l.stackTraces = false) {d : Nat} (M : Nat → mm_C) (p : Int32) (hp0 : ¬ p = 0) (hp1 : ¬ p = 1) (q1 q2 : Int32) (h1091 : M 1091 = .inr (4, [.null, .null, .null, .null, .long 0, .int 0, .int 0])) : mm_Cm g l yX4_begin (.code yX4_begin cX4_begin 2 none) d 0 0 [.ref 1091, .null] (M, 1186, false) (fun v S' => v = none ∧ S'.2 = (1186, false) ∧ S'.1 1091 = .inr (4, [.null, .null, .null, .null, .long 0, .int 0, .int 0]) ∧ ∀ j, j ≠ 1091 → S'.1 j = M j) := by
  refine mm_Cm_of hst (by decide) (Nat.le_of_ble_eq_true rfl) ?_
  show mm_V g l RX4 "begin" cX4_begin 2 none [] d 0 0 _ 0 [some (.ref 1091), some (.null)] [] (M, 1186, false) 0 0
  refine mm_aload_n dX4_begin_0 rfl rfl ?_
  refine mm_aload_n dX4_begin_1 rfl rfl ?_
  refine mm_put3 (ci := 4) (fs1 := [.null, .null, .null, .null, .long 0, .int 0, .int 0]) in_X4 tyX4_ok nmX4 rfl (k := 0) (by decide) rfl rfl kF_X4_9 dX4_begin_2 (mm_fit_null _) h1091 (Nat.le_of_ble_eq_true rfl) (Nat.le_of_ble_eq_true rfl) rfl ?_
  refine mm_aload_n dX4_begin_5 rfl rfl ?_
  refine mm_null dX4_begin_6 ?_
  refine mm_put3 (ci := 4) (fs1 := [.null, .null, .null, .null, .long 0, .int 0, .int 0]) in_X4 tyX4_ok nmX4 rfl (k := 1) (by decide) rfl rfl kF_X4_15 dX4_begin_7 (mm_fit_null _) mm_up_s (Nat.le_of_ble_eq_true rfl) (Nat.le_of_ble_eq_true rfl) rfl ?_
  refine mm_aload_n dX4_begin_10 rfl rfl ?_
  refine mm_null dX4_begin_11 ?_
  refine mm_put3 (ci := 4) (fs1 := [.null, .null, .null, .null, .long 0, .int 0, .int 0]) in_X4 tyX4_ok nmX4 rfl (k := 2) (by decide) rfl rfl kF_X4_19 dX4_begin_12 (mm_fit_null _) mm_up_s (Nat.le_of_ble_eq_true rfl) (Nat.le_of_ble_eq_true rfl) rfl ?_
  refine mm_aload_n dX4_begin_15 rfl rfl ?_
  refine mm_null dX4_begin_16 ?_
  refine mm_put3 (ci := 4) (fs1 := [.null, .null, .null, .null, .long 0, .int 0, .int 0]) in_X4 tyX4_ok nmX4 rfl (k := 3) (by decide) rfl rfl kF_X4_22 dX4_begin_17 (mm_fit_null _) mm_up_s (Nat.le_of_ble_eq_true rfl) (Nat.le_of_ble_eq_true rfl) rfl ?_
  refine mm_aload_n dX4_begin_20 rfl rfl ?_
  refine mm_lconst (v := 0) dX4_begin_21 (by decide) ?_
  refine mm_put3 (ci := 4) (fs1 := [.null, .null, .null, .null, .long 0, .int 0, .int 0]) in_X4 tyX4_ok nmX4 rfl (k := 4) (by decide) rfl rfl kF_X4_25 dX4_begin_22 (mm_fit_long _) mm_up_s (Nat.le_of_ble_eq_true rfl) (Nat.le_of_ble_eq_true rfl) rfl ?_
  refine mm_aload_n dX4_begin_25 rfl rfl ?_
  refine mm_iconst (v := 0) dX4_begin_26 (by decide) ?_
  refine mm_put3 (ci := 4) (fs1 := [.null, .null, .null, .null, .long 0, .int 0, .int 0]) in_X4 tyX4_ok nmX4 rfl (k := 5) (by decide) rfl rfl kF_X4_29 dX4_begin_27 (mm_fit_int _) mm_up_s (Nat.le_of_ble_eq_true rfl) (Nat.le_of_ble_eq_true rfl) rfl ?_
  refine mm_aload_n dX4_begin_30 rfl rfl ?_
  refine mm_iconst (v := 0) dX4_begin_31 (by decide) ?_
  refine mm_put3 (ci := 4) (fs1 := [.null, .null, .null, .null, .long 0, .int 0, .int 0]) in_X4 tyX4_ok nmX4 rfl (k := 6) (by decide) rfl rfl kF_X4_33 dX4_begin_32 (mm_fit_int _) mm_up_s (Nat.le_of_ble_eq_true rfl) (Nat.le_of_ble_eq_true rfl) rfl ?_
  refine mm_vret dX4_begin_35 rfl ?_ (by omega) (by omega)
  refine ⟨rfl, rfl, ?_⟩
  dsimp only
  exact ⟨mm_up_s, fun x e1091 => mm_upN e1091 (mm_upN e1091 (mm_upN e1091 (mm_upN e1091 (mm_upN e1091 (mm_upN e1091 (mm_upN e1091 (rfl)))))))⟩

set_option maxHeartbeats 4000000 in
set_option maxRecDepth 100000 in
theorem k311_X8_drop {g : mm_G} {l : Launch} (hst : l.stackTraces = false) {d : Nat} (M : Nat → mm_C) (p : Int32) (hp0 : ¬ p = 0) (hp1 : ¬ p = 1) (q1 q2 : Int32) (h389 : M 389 = .inr (8, [.ref 390, .ref 1091, .ref 1092, .int 0, .null, .null])) (h1091 : M 1091 = .inr (4, [.null, .null, .null, .null, .long 0, .int 0, .int 0])) (h1092 : M 1092 = .inr (0, [.ref 1093, .int 0, .int 0])) : mm_Cm g l yX8_drop (.code yX8_drop cX8_drop 1 none) (d + 1) 0 0 [.ref 389] (M, 1186, false) (fun v S' => v = none ∧ S'.2 = (1186, false) ∧ S'.1 389 = .inr (8, [.ref 390, .ref 1091, .ref 1092, .int 0, .null, .null]) ∧ S'.1 1092 = .inr (0, [.ref 1093, .int 0, .int 0]) ∧ S'.1 1091 = .inr (4, [.null, .null, .null, .null, .long 0, .int 0, .int 0]) ∧ ∀ j, j ≠ 389 → j ≠ 1092 → j ≠ 1091 → S'.1 j = M j) := by
  refine mm_Cm_of hst (by decide) (Nat.le_of_ble_eq_true rfl) ?_
  show mm_V g l RX8 "drop" cX8_drop 1 none [] (d + 1) 0 0 _ 0 [some (.ref 389)] [] (M, 1186, false) 0 0
  refine mm_aload_n dX8_drop_0 rfl rfl ?_
  refine mm_null dX8_drop_1 ?_
  refine mm_put3 (ci := 8) (fs1 := [.ref 390, .ref 1091, .ref 1092, .int 0, .null, .null]) in_X8 tyX8_ok nmX8 rfl (k := 4) (by decide) rfl rfl kF_X8_37 dX8_drop_2 (mm_fit_null _) h389 (Nat.le_of_ble_eq_true rfl) (Nat.le_of_ble_eq_true rfl) rfl ?_
  refine mm_aload_n dX8_drop_5 rfl rfl ?_
  refine mm_null dX8_drop_6 ?_
  refine mm_put3 (ci := 8) (fs1 := [.ref 390, .ref 1091, .ref 1092, .int 0, .null, .null]) in_X8 tyX8_ok nmX8 rfl (k := 5) (by decide) rfl rfl kF_X8_33 dX8_drop_7 (mm_fit_null _) mm_up_s (Nat.le_of_ble_eq_true rfl) (Nat.le_of_ble_eq_true rfl) rfl ?_
  refine mm_aload_n dX8_drop_10 rfl rfl ?_
  refine mm_get3 (ci := 8) in_X8 rfl (k := 2) (by decide) rfl kF_X8_29 dX8_drop_11 mm_up_s (Nat.le_of_ble_eq_true rfl) rfl ?_
  refine mm_callV3 (ci := 0) wM_X0_clear kM_X8_45 wI_X0_clear wS_X0_clear dX8_drop_14 (k312_X0_clear hst _ p hp0 hp1 q1 q2 (mm_upN (by decide) (mm_upN (by decide) h1092))) (mm_upN (by decide) (mm_upN (by decide) h1092)) (Nat.le_of_ble_eq_true rfl) rfl rfl rfl (Nat.le_of_ble_eq_true rfl) (by omega) (by omega) (fun v S9 hq => ?_)
  obtain ⟨M313, z313⟩ := S9
  obtain ⟨rfl, hz313, g313_1092, g313_F⟩ := hq
  cases hz313
  refine ⟨fun h => ⟨h, rfl⟩, ?_⟩
  refine mm_aload_n dX8_drop_17 rfl rfl ?_
  refine mm_iconst (v := 0) dX8_drop_18 (by decide) ?_
  refine mm_put3 (ci := 8) (fs1 := [.ref 390, .ref 1091, .ref 1092, .int 0, .null, .null]) in_X8 tyX8_ok nmX8 rfl (k := 3) (by decide) rfl rfl kF_X8_48 dX8_drop_19 (mm_fit_int _) (mm_frN (g313_F _ (by decide)) mm_up_s) (Nat.le_of_ble_eq_true rfl) (Nat.le_of_ble_eq_true rfl) rfl ?_
  refine mm_aload_n dX8_drop_22 rfl rfl ?_
  refine mm_get3 (ci := 8) in_X8 rfl (k := 1) (by decide) rfl kF_X8_20 dX8_drop_23 mm_up_s (Nat.le_of_ble_eq_true rfl) rfl ?_
  refine mm_null dX8_drop_26 ?_
  refine mm_callV3 (ci := 4) wM_X4_begin kM_X8_52 wI_X4_begin wS_X4_begin dX8_drop_27 (k314_X4_begin hst _ p hp0 hp1 q1 q2 (mm_upN (by decide) (mm_frN (g313_F _ (by decide)) (mm_upN (by decide) (mm_upN (by decide) h1091))))) (mm_upN (by decide) (mm_frN (g313_F _ (by decide)) (mm_upN (by decide) (mm_upN (by decide) h1091)))) (Nat.le_of_ble_eq_true rfl) rfl rfl rfl (Nat.le_of_ble_eq_true rfl) (by omega) (by omega) (fun v S9 hq => ?_)
  obtain ⟨M315, z315⟩ := S9
  obtain ⟨rfl, hz315, g315_1091, g315_F⟩ := hq
  cases hz315
  refine ⟨fun h => ⟨h, rfl⟩, ?_⟩
  refine mm_vret dX8_drop_30 rfl ?_ (by omega) (by omega)
  refine ⟨rfl, rfl, ?_⟩
  dsimp only
  exact ⟨(mm_frN (g315_F _ (by decide)) mm_up_s), (mm_frN (g315_F _ (by decide)) (mm_upN (by decide) g313_1092)), g315_1091, fun x e389 e1092 e1091 => mm_frN (g315_F _ e1091 ) (mm_upN e389 (mm_frN (g313_F _ e1092 ) (mm_upN e389 (mm_upN e389 (rfl)))))⟩

set_option maxHeartbeats 4000000 in
set_option maxRecDepth 100000 in
theorem k304_X11_settle {g : mm_G} {l : Launch} (hst : l.stackTraces = false) {d : Nat} (M : Nat → mm_C) (p : Int32) (hp0 : ¬ p = 0) (hp1 : ¬ p = 1) (q1 q2 : Int32) (h0 : M 0 = .inr (11, [.ref 1, .ref 3, .ref 5, .ref 197, .ref 389, .ref 1094, .ref 1095, .ref 1097, .int (-1)])) (h1 : M 1 = .inr (0, [.ref 2, .int 0, .int 0])) (h389 : M 389 = .inr (8, [.ref 390, .ref 1091, .ref 1092, .int 0, .null, .null])) (h1091 : M 1091 = .inr (4, [.null, .null, .null, .null, .long 0, .int 0, .int 0])) (h1092 : M 1092 = .inr (0, [.ref 1093, .int 0, .int 0])) : mm_Ct g l yX11_settle (.code yX11_settle cX11_settle 4 (some .int)) (d + 2) 1 6 [.ref 0, .int 0] (M, 1186, false) (fun r S' => r = .inr "java/lang/IllegalArgumentException" ∧ S'.2 = (1186, true) ∧ S'.1 1 = .inr (0, [.ref 2, .int 0, .int 0]) ∧ S'.1 389 = .inr (8, [.ref 390, .ref 1091, .ref 1092, .int 0, .null, .null]) ∧ S'.1 1092 = .inr (0, [.ref 1093, .int 0, .int 0]) ∧ S'.1 1091 = .inr (4, [.null, .null, .null, .null, .long 0, .int 0, .int 0]) ∧ ∀ j, j ≠ 1 → j ≠ 389 → j ≠ 1092 → j ≠ 1091 → S'.1 j = M j) := by
  refine mm_Ct_of hst (by decide) (Nat.le_of_ble_eq_true rfl) ?_
  show mm_V g l RX11 "settle" cX11_settle 4 (some .int) [] (d + 2) 1 6 _ 0 [some (.ref 0), some (.int 0), none, none] [] (M, 1186, false) 0 0
  refine mm_aload_n dX11_settle_0 rfl rfl ?_
  refine mm_get3 (ci := 11) in_X11 rfl (k := 0) (by decide) rfl kF_X11_14 dX11_settle_1 h0 (Nat.le_of_ble_eq_true rfl) rfl ?_
  refine mm_callV3 (ci := 0) wM_X0_clear kM_X11_99 wI_X0_clear wS_X0_clear dX11_settle_4 (k305_X0_clear hst _ p hp0 hp1 q1 q2 h1) h1 (Nat.le_of_ble_eq_true rfl) rfl rfl rfl (Nat.le_of_ble_eq_true rfl) (by omega) (by omega) (fun v S9 hq => ?_)
  obtain ⟨M306, z306⟩ := S9
  obtain ⟨rfl, hz306, g306_1, g306_F⟩ := hq
  cases hz306
  refine ⟨fun h => ⟨h, rfl⟩, ?_⟩
  refine mm_iload_n dX11_settle_7 rfl ?_
  refine mm_if_eq 21 dX11_settle_8 (by decide) (fun _ => ?_) (fun h => absurd (by decide) h)
  refine mm_iconst (v := 0) dX11_settle_21 (by decide) ?_
  refine mm_istore_n [some (.ref 0), some (.int 0), some (.int 0), none] dX11_settle_22 (by decide) rfl ?_
  refine mm_iload_n dX11_settle_23 rfl ?_
  refine mm_sipush (v := 200) dX11_settle_24 (by decide) ?_
  refine mm_icmp_gt 40 dX11_settle_27 (by decide) (fun h => absurd h (by decide)) (fun _ => ?_)
  refine mm_aload_n dX11_settle_30 rfl rfl ?_
  refine mm_get3 (ci := 11) in_X11 rfl (k := 4) (by decide) rfl kF_X11_34 dX11_settle_31 (mm_frN (g306_F _ (by decide)) h0) (Nat.le_of_ble_eq_true rfl) rfl ?_
  refine mm_callV3 (ci := 8) wM_X8_isSpilt kM_X11_228 wI_X8_isSpilt wS_X8_isSpilt dX11_settle_34 (k307_X8_isSpilt hst _ p hp0 hp1 q1 q2 (mm_frN (g306_F _ (by decide)) h389) (mm_frN (g306_F _ (by decide)) h1092)) (mm_frN (g306_F _ (by decide)) h389) (Nat.le_of_ble_eq_true rfl) rfl rfl rfl (Nat.le_of_ble_eq_true rfl) (by omega) (by omega) (fun v S9 hq => ?_)
  obtain ⟨rfl, rfl⟩ := hq
  refine ⟨fun h => ⟨h, rfl⟩, ?_⟩
  refine mm_if_eq 44 dX11_settle_37 (by decide) (fun _ => ?_) (fun h => absurd (by decide) h)
  refine mm_iconst (v := 0) dX11_settle_44 (by decide) ?_
  refine mm_istore_n [some (.ref 0), some (.int 0), some (.int 0), some (.int 0)] dX11_settle_45 (by decide) rfl ?_
  refine mm_iload_n dX11_settle_46 rfl ?_
  refine mm_if_eq 54 dX11_settle_47 (by decide) (fun _ => ?_) (fun h => absurd (by decide) h)
  refine mm_aload_n dX11_settle_54 rfl rfl ?_
  refine mm_get3 (ci := 11) in_X11 rfl (k := 4) (by decide) rfl kF_X11_34 dX11_settle_55 (mm_frN (g306_F _ (by decide)) h0) (Nat.le_of_ble_eq_true rfl) rfl ?_
  refine mm_callV3 (ci := 8) wM_X8_drop kM_X11_92 wI_X8_drop wS_X8_drop dX11_settle_58 (k311_X8_drop hst _ p hp0 hp1 q1 q2 (mm_frN (g306_F _ (by decide)) h389) (mm_frN (g306_F _ (by decide)) h1091) (mm_frN (g306_F _ (by decide)) h1092)) (mm_frN (g306_F _ (by decide)) h389) (Nat.le_of_ble_eq_true rfl) rfl rfl rfl (Nat.le_of_ble_eq_true rfl) (by omega) (by omega) (fun v S9 hq => ?_)
  obtain ⟨M316, z316⟩ := S9
  obtain ⟨rfl, hz316, g316_389, g316_1092, g316_1091, g316_F⟩ := hq
  cases hz316
  refine ⟨fun h => ⟨h, rfl⟩, ?_⟩
  refine mm_iload_n dX11_settle_61 rfl ?_
  refine mm_if_ne 75 dX11_settle_62 (by decide) (fun h => absurd (by decide) h) (fun _ => ?_)
  refine mm_throw (k := 8) (text := "no such schema, message or depth, or the tape is wrong") (by decide) kC_X11_67 wj_IllegalArgumentException rfl at_71 rfl dX11_settle_65 dX11_settle_68 dX11_settle_69 dX11_settle_71 dX11_settle_74 (Nat.le_of_ble_eq_true rfl) (by omega) (by omega) ?_
  refine ⟨rfl, rfl, ?_⟩
  dsimp only
  exact ⟨(mm_frN (g316_F _ (by decide) (by decide) (by decide)) g306_1), g316_389, g316_1092, g316_1091, fun x e1 e389 e1092 e1091 => mm_frN (g316_F _ e389 e1092 e1091 ) (mm_frN (g306_F _ e1 ) (rfl))⟩

set_option maxHeartbeats 4000000 in
set_option maxRecDepth 100000 in
theorem f_parse_x {g : mm_G} {l : Launch} (hst : l.stackTraces = false) {d : Nat} (M : Nat → mm_C) (p : Int32) (hp0 : ¬ p = 0) (hp1 : ¬ p = 1) (q1 q2 : Int32) (h0 : M 0 = .inr (11, [.ref 1, .ref 3, .ref 5, .ref 197, .ref 389, .ref 1094, .ref 1095, .ref 1097, .int (-1)])) (h1 : M 1 = .inr (0, [.ref 2, .int 0, .int 0])) (h389 : M 389 = .inr (8, [.ref 390, .ref 1091, .ref 1092, .int 0, .null, .null])) (h1091 : M 1091 = .inr (4, [.null, .null, .null, .null, .long 0, .int 0, .int 0])) (h1092 : M 1092 = .inr (0, [.ref 1093, .int 0, .int 0])) : mm_Ct g l yX11_parse (.code yX11_parse cX11_parse 4 (some .int)) (d + 3) 1 6 [.ref 0, .int p, .int q1, .int q2] (M, 1186, false) (fun r S' => r = .inr "java/lang/IllegalArgumentException" ∧ S'.2 = (1186, true) ∧ ∀ j, 1101 ≤ j → S'.1 j = M j) := by
  refine mm_Ct_of hst (by decide) (Nat.le_of_ble_eq_true rfl) ?_
  show mm_V g l RX11 "parse" cX11_parse 4 (some .int) [] (d + 3) 1 6 _ 0 [some (.ref 0), some (.int p), some (.int q1), some (.int q2)] [] (M, 1186, false) 0 0
  refine mm_aload_n dX11_parse_0 rfl rfl ?_
  refine mm_aload_n dX11_parse_1 rfl rfl ?_
  refine mm_iload_n dX11_parse_2 rfl ?_
  refine mm_iload_n dX11_parse_3 rfl ?_
  refine mm_iload_n dX11_parse_4 rfl ?_
  refine mm_callV3 (ci := 11) wM_X11_opens kM_X11_162 wI_X11_opens wS_X11_opens dX11_parse_5 (k297_X11_opens hst _ p hp0 hp1 q1 q2 h0) h0 (Nat.le_of_ble_eq_true rfl) rfl rfl rfl (Nat.le_of_ble_eq_true rfl) (by omega) (by omega) (fun v S9 hq => ?_)
  obtain ⟨rfl, rfl⟩ := hq
  refine ⟨fun h => ⟨h, rfl⟩, ?_⟩
  refine mm_if_eq 26 dX11_parse_8 (by decide) (fun _ => ?_) (fun h => absurd (by decide) h)
  refine mm_iconst (v := 0) dX11_parse_26 (by decide) ?_
  refine mm_callX3 (ci := 11) wM_X11_settle kM_X11_170 wI_X11_settle wS_X11_settle dX11_parse_27 (k304_X11_settle hst _ p hp0 hp1 q1 q2 h0 h1 h389 h1091 h1092) h0 (Nat.le_of_ble_eq_true rfl) rfl rfl rfl (Nat.le_of_ble_eq_true rfl) (by omega) (by omega) (fun v S9 hq => by cases hq.1) rfl (fun E9 S9 hq => ?_)
  obtain ⟨M317, z317⟩ := S9
  obtain ⟨hE317, hz317, g317_1, g317_389, g317_1092, g317_1091, g317_F⟩ := hq
  cases hE317
  cases hz317
  refine ⟨rfl, rfl, fun x hx => ?_⟩
  dsimp only
  exact mm_frN (g317_F _ (by omega) (by omega) (by omega) (by omega) ) (rfl)

set_option maxHeartbeats 4000000 in
set_option maxRecDepth 100000 in
theorem k318_X0_clear {g : mm_G} {l : Launch} (hst : l.stackTraces = false) {d : Nat} (M : Nat → mm_C) (h3 : M 3 = .inr (0, [.ref 4, .int 0, .int 0])) : mm_Cm g l yX0_clear (.code yX0_clear cX0_clear 1 none) d 0 0 [.ref 3] (M, 1186, false) (fun v S' => v = none ∧ S'.2 = (1186, false) ∧ S'.1 3 = .inr (0, [.ref 4, .int 0, .int 0]) ∧ ∀ j, j ≠ 3 → S'.1 j = M j) := by
  refine mm_Cm_of hst (by decide) (Nat.le_of_ble_eq_true rfl) ?_
  show mm_V g l RX0 "clear" cX0_clear 1 none [] d 0 0 _ 0 [some (.ref 3)] [] (M, 1186, false) 0 0
  refine mm_aload_n dX0_clear_0 rfl rfl ?_
  refine mm_iconst (v := 0) dX0_clear_1 (by decide) ?_
  refine mm_put3 (ci := 0) (fs1 := [.ref 4, .int 0, .int 0]) in_X0 tyX0_ok nmX0 rfl (k := 1) (by decide) rfl rfl kF_X0_19 dX0_clear_2 (mm_fit_int _) h3 (Nat.le_of_ble_eq_true rfl) (Nat.le_of_ble_eq_true rfl) rfl ?_
  refine mm_aload_n dX0_clear_5 rfl rfl ?_
  refine mm_iconst (v := 0) dX0_clear_6 (by decide) ?_
  refine mm_put3 (ci := 0) (fs1 := [.ref 4, .int 0, .int 0]) in_X0 tyX0_ok nmX0 rfl (k := 2) (by decide) rfl rfl kF_X0_23 dX0_clear_7 mm_fit_z0 mm_up_s (Nat.le_of_ble_eq_true rfl) (Nat.le_of_ble_eq_true rfl) rfl ?_
  refine mm_vret dX0_clear_10 rfl ?_ (by omega) (by omega)
  refine ⟨rfl, rfl, ?_⟩
  dsimp only
  exact ⟨mm_up_s, fun x e3 => mm_upN e3 (mm_upN e3 (rfl))⟩

set_option maxHeartbeats 4000000 in
set_option maxRecDepth 100000 in
theorem k320_X8_isThere {g : mm_G} {l : Launch} (hst : l.stackTraces = false) {d : Nat} (M : Nat → mm_C) (h389 : M 389 = .inr (8, [.ref 390, .ref 1091, .ref 1092, .int 0, .null, .null])) : mm_Cm g l yX8_isThere (.code yX8_isThere cX8_isThere 1 (some .boolean)) d 0 0 [.ref 389] (M, 1186, false) (fun v S' => v = some (.int 0) ∧ S' = (M, 1186, false)) := by
  refine mm_Cm_of hst (by decide) (Nat.le_of_ble_eq_true rfl) ?_
  show mm_V g l RX8 "isThere" cX8_isThere 1 (some .boolean) [] d 0 0 _ 0 [some (.ref 389)] [] (M, 1186, false) 0 0
  refine mm_aload_n dX8_isThere_0 rfl rfl ?_
  refine mm_get3 (ci := 8) in_X8 rfl (k := 5) (by decide) rfl kF_X8_33 dX8_isThere_1 h389 (Nat.le_of_ble_eq_true rfl) rfl ?_
  refine mm_ifnull (r := none) 18 dX8_isThere_4 (by decide) (fun _ => ?_) (fun h => absurd (by simp) h)
  refine mm_iconst (v := 0) dX8_isThere_18 (by decide) ?_
  refine mm_iret dX8_isThere_19 rfl rfl ?_ (by omega) (by omega)
  exact ⟨rfl, rfl⟩

set_option maxHeartbeats 4000000 in
set_option maxRecDepth 100000 in
theorem f_encode {g : mm_G} {l : Launch} (hst : l.stackTraces = false) {d : Nat} (M : Nat → mm_C) (h0 : M 0 = .inr (11, [.ref 1, .ref 3, .ref 5, .ref 197, .ref 389, .ref 1094, .ref 1095, .ref 1097, .int (-1)])) (h3 : M 3 = .inr (0, [.ref 4, .int 0, .int 0])) (h389 : M 389 = .inr (8, [.ref 390, .ref 1091, .ref 1092, .int 0, .null, .null])) : mm_Ct g l yX11_encode (.code yX11_encode cX11_encode 1 (some .int)) (d + 1) 1 6 [.ref 0] (M, 1186, false) (fun r S' => r = .inr "java/lang/IllegalStateException" ∧ S'.2 = (1186, true) ∧ ∀ j, 1101 ≤ j → S'.1 j = M j) := by
  refine mm_Ct_of hst (by decide) (Nat.le_of_ble_eq_true rfl) ?_
  show mm_V g l RX11 "encode" cX11_encode 1 (some .int) [] (d + 1) 1 6 _ 0 [some (.ref 0)] [] (M, 1186, false) 0 0
  refine mm_aload_n dX11_encode_0 rfl rfl ?_
  refine mm_get3 (ci := 11) in_X11 rfl (k := 1) (by decide) rfl kF_X11_18 dX11_encode_1 h0 (Nat.le_of_ble_eq_true rfl) rfl ?_
  refine mm_callV3 (ci := 0) wM_X0_clear kM_X11_99 wI_X0_clear wS_X0_clear dX11_encode_4 (k318_X0_clear hst _  h3) h3 (Nat.le_of_ble_eq_true rfl) rfl rfl rfl (Nat.le_of_ble_eq_true rfl) (by omega) (by omega) (fun v S9 hq => ?_)
  obtain ⟨M319, z319⟩ := S9
  obtain ⟨rfl, hz319, g319_3, g319_F⟩ := hq
  cases hz319
  refine ⟨fun h => ⟨h, rfl⟩, ?_⟩
  refine mm_aload_n dX11_encode_7 rfl rfl ?_
  refine mm_get3 (ci := 11) in_X11 rfl (k := 4) (by decide) rfl kF_X11_34 dX11_encode_8 (mm_frN (g319_F _ (by decide)) h0) (Nat.le_of_ble_eq_true rfl) rfl ?_
  refine mm_callV3 (ci := 8) wM_X8_isThere kM_X11_175 wI_X8_isThere wS_X8_isThere dX11_encode_11 (k320_X8_isThere hst _  (mm_frN (g319_F _ (by decide)) h389)) (mm_frN (g319_F _ (by decide)) h389) (Nat.le_of_ble_eq_true rfl) rfl rfl rfl (Nat.le_of_ble_eq_true rfl) (by omega) (by omega) (fun v S9 hq => ?_)
  obtain ⟨rfl, rfl⟩ := hq
  refine ⟨fun h => ⟨h, rfl⟩, ?_⟩
  refine mm_if_ne 27 dX11_encode_14 (by decide) (fun h => absurd (by decide) h) (fun _ => ?_)
  refine mm_throw (k := 13) (text := "there is no value") (by decide) kC_X11_78 wj_IllegalStateException rfl at_82 rfl dX11_encode_17 dX11_encode_20 dX11_encode_21 dX11_encode_23 dX11_encode_26 (Nat.le_of_ble_eq_true rfl) (by omega) (by omega) ?_
  refine ⟨rfl, rfl, fun x hx => ?_⟩
  dsimp only
  exact mm_frN (g319_F _ (by omega) ) (rfl)

set_option maxHeartbeats 4000000 in
set_option maxRecDepth 100000 in
theorem f_print {g : mm_G} {l : Launch} (hst : l.stackTraces = false) {d : Nat} (M : Nat → mm_C) (h0 : M 0 = .inr (11, [.ref 1, .ref 3, .ref 5, .ref 197, .ref 389, .ref 1094, .ref 1095, .ref 1097, .int (-1)])) (h3 : M 3 = .inr (0, [.ref 4, .int 0, .int 0])) (h389 : M 389 = .inr (8, [.ref 390, .ref 1091, .ref 1092, .int 0, .null, .null])) : mm_Ct g l yX11_print (.code yX11_print cX11_print 1 (some .int)) (d + 1) 1 6 [.ref 0] (M, 1186, false) (fun r S' => r = .inr "java/lang/IllegalStateException" ∧ S'.2 = (1186, true) ∧ ∀ j, 1101 ≤ j → S'.1 j = M j) := by
  refine mm_Ct_of hst (by decide) (Nat.le_of_ble_eq_true rfl) ?_
  show mm_V g l RX11 "print" cX11_print 1 (some .int) [] (d + 1) 1 6 _ 0 [some (.ref 0)] [] (M, 1186, false) 0 0
  refine mm_aload_n dX11_print_0 rfl rfl ?_
  refine mm_get3 (ci := 11) in_X11 rfl (k := 1) (by decide) rfl kF_X11_18 dX11_print_1 h0 (Nat.le_of_ble_eq_true rfl) rfl ?_
  refine mm_callV3 (ci := 0) wM_X0_clear kM_X11_99 wI_X0_clear wS_X0_clear dX11_print_4 (k318_X0_clear hst _  h3) h3 (Nat.le_of_ble_eq_true rfl) rfl rfl rfl (Nat.le_of_ble_eq_true rfl) (by omega) (by omega) (fun v S9 hq => ?_)
  obtain ⟨M322, z322⟩ := S9
  obtain ⟨rfl, hz322, g322_3, g322_F⟩ := hq
  cases hz322
  refine ⟨fun h => ⟨h, rfl⟩, ?_⟩
  refine mm_aload_n dX11_print_7 rfl rfl ?_
  refine mm_get3 (ci := 11) in_X11 rfl (k := 4) (by decide) rfl kF_X11_34 dX11_print_8 (mm_frN (g322_F _ (by decide)) h0) (Nat.le_of_ble_eq_true rfl) rfl ?_
  refine mm_callV3 (ci := 8) wM_X8_isThere kM_X11_175 wI_X8_isThere wS_X8_isThere dX11_print_11 (k320_X8_isThere hst _  (mm_frN (g322_F _ (by decide)) h389)) (mm_frN (g322_F _ (by decide)) h389) (Nat.le_of_ble_eq_true rfl) rfl rfl rfl (Nat.le_of_ble_eq_true rfl) (by omega) (by omega) (fun v S9 hq => ?_)
  obtain ⟨rfl, rfl⟩ := hq
  refine ⟨fun h => ⟨h, rfl⟩, ?_⟩
  refine mm_if_ne 27 dX11_print_14 (by decide) (fun h => absurd (by decide) h) (fun _ => ?_)
  refine mm_throw (k := 13) (text := "there is no value") (by decide) kC_X11_78 wj_IllegalStateException rfl at_82 rfl dX11_print_17 dX11_print_20 dX11_print_21 dX11_print_23 dX11_print_26 (Nat.le_of_ble_eq_true rfl) (by omega) (by omega) ?_
  refine ⟨rfl, rfl, fun x hx => ?_⟩
  dsimp only
  exact mm_frN (g322_F _ (by omega) ) (rfl)

set_option maxHeartbeats 4000000 in
set_option maxRecDepth 100000 in
theorem k324_X0_clear {g : mm_G} {l : Launch} (hst : l.stackTraces = false) {d : Nat} (M : Nat → mm_C) (q1 q2 : Int32) (h3 : M 3 = .inr (0, [.ref 4, .int 0, .int 0])) : mm_Cm g l yX0_clear (.code yX0_clear cX0_clear 1 none) d 0 0 [.ref 3] (M, 1186, false) (fun v S' => v = none ∧ S'.2 = (1186, false) ∧ S'.1 3 = .inr (0, [.ref 4, .int 0, .int 0]) ∧ ∀ j, j ≠ 3 → S'.1 j = M j) := by
  refine mm_Cm_of hst (by decide) (Nat.le_of_ble_eq_true rfl) ?_
  show mm_V g l RX0 "clear" cX0_clear 1 none [] d 0 0 _ 0 [some (.ref 3)] [] (M, 1186, false) 0 0
  refine mm_aload_n dX0_clear_0 rfl rfl ?_
  refine mm_iconst (v := 0) dX0_clear_1 (by decide) ?_
  refine mm_put3 (ci := 0) (fs1 := [.ref 4, .int 0, .int 0]) in_X0 tyX0_ok nmX0 rfl (k := 1) (by decide) rfl rfl kF_X0_19 dX0_clear_2 (mm_fit_int _) h3 (Nat.le_of_ble_eq_true rfl) (Nat.le_of_ble_eq_true rfl) rfl ?_
  refine mm_aload_n dX0_clear_5 rfl rfl ?_
  refine mm_iconst (v := 0) dX0_clear_6 (by decide) ?_
  refine mm_put3 (ci := 0) (fs1 := [.ref 4, .int 0, .int 0]) in_X0 tyX0_ok nmX0 rfl (k := 2) (by decide) rfl rfl kF_X0_23 dX0_clear_7 mm_fit_z0 mm_up_s (Nat.le_of_ble_eq_true rfl) (Nat.le_of_ble_eq_true rfl) rfl ?_
  refine mm_vret dX0_clear_10 rfl ?_ (by omega) (by omega)
  refine ⟨rfl, rfl, ?_⟩
  dsimp only
  exact ⟨mm_up_s, fun x e3 => mm_upN e3 (mm_upN e3 (rfl))⟩

set_option maxHeartbeats 4000000 in
set_option maxRecDepth 100000 in
theorem k326_X2_schema {g : mm_G} {l : Launch} (hst : l.stackTraces = false) {d : Nat} (M : Nat → mm_C) (q1 q2 : Int32) (h5 : M 5 = .inr (2, [.ref 6, .ref 191, .ref 196, .int 0, .int 0])) : mm_Cm g l yX2_schema (.code yX2_schema cX2_schema 1 (some (.object "ProtoDesk$Schema"))) d 0 0 [.ref 5] (M, 1186, false) (fun v S' => v = some (.ref 6) ∧ S' = (M, 1186, false)) := by
  refine mm_Cm_of hst (by decide) (Nat.le_of_ble_eq_true rfl) ?_
  show mm_V g l RX2 "schema" cX2_schema 1 (some (.object "ProtoDesk$Schema")) [] d 0 0 _ 0 [some (.ref 5)] [] (M, 1186, false) 0 0
  refine mm_aload_n dX2_schema_0 rfl rfl ?_
  refine mm_get3 (ci := 2) in_X2 rfl (k := 0) (by decide) rfl kF_X2_12 dX2_schema_1 h5 (Nat.le_of_ble_eq_true rfl) rfl ?_
  refine mm_aret (a := some 6) dX2_schema_4 rfl ?_ (by omega) (by omega)
  exact ⟨rfl, rfl⟩

set_option maxHeartbeats 4000000 in
set_option maxRecDepth 100000 in
theorem k328_X6_message {g : mm_G} {l : Launch} (hst : l.stackTraces = false) {d : Nat} (M : Nat → mm_C) (q1 q2 : Int32) (h6 : M 6 = .inr (6, [.ref 7, .ref 9, .ref 190, .int 0, .int 0])) : mm_Cm g l yX6_message (.code yX6_message cX6_message 4 (some (.object "ProtoDesk$Item"))) d 0 0 [.ref 6, .int q1] (M, 1186, false) (fun v S' => v = some (.null) ∧ S' = (M, 1186, false)) := by
  refine mm_Cm_of hst (by decide) (Nat.le_of_ble_eq_true rfl) ?_
  show mm_V g l RX6 "message" cX6_message 4 (some (.object "ProtoDesk$Item")) [] d 0 0 _ 0 [some (.ref 6), some (.int q1), none, none] [] (M, 1186, false) 0 0
  refine mm_iconst (v := 0) dX6_message_0 (by decide) ?_
  refine mm_istore_n [some (.ref 6), some (.int q1), some (.int 0), none] dX6_message_1 (by decide) rfl ?_
  refine mm_iload_n dX6_message_2 rfl ?_
  refine mm_aload_n dX6_message_3 rfl rfl ?_
  refine mm_get3 (ci := 6) in_X6 rfl (k := 3) (by decide) rfl kF_X6_34 dX6_message_4 h6 (Nat.le_of_ble_eq_true rfl) rfl ?_
  refine mm_icmp_ge 43 dX6_message_7 (by decide) (fun _ => ?_) (fun h => absurd (by decide) h)
  refine mm_null dX6_message_43 ?_
  refine mm_aret (a := none) dX6_message_44 rfl ?_ (by omega) (by omega)
  exact ⟨rfl, rfl⟩

set_option maxHeartbeats 4000000 in
set_option maxRecDepth 100000 in
theorem k330_X2_schema {g : mm_G} {l : Launch} (hst : l.stackTraces = false) {d : Nat} (M : Nat → mm_C) (q1 q2 : Int32) (h197 : M 197 = .inr (2, [.ref 198, .ref 383, .ref 388, .int 0, .int 0])) : mm_Cm g l yX2_schema (.code yX2_schema cX2_schema 1 (some (.object "ProtoDesk$Schema"))) d 0 0 [.ref 197] (M, 1186, false) (fun v S' => v = some (.ref 198) ∧ S' = (M, 1186, false)) := by
  refine mm_Cm_of hst (by decide) (Nat.le_of_ble_eq_true rfl) ?_
  show mm_V g l RX2 "schema" cX2_schema 1 (some (.object "ProtoDesk$Schema")) [] d 0 0 _ 0 [some (.ref 197)] [] (M, 1186, false) 0 0
  refine mm_aload_n dX2_schema_0 rfl rfl ?_
  refine mm_get3 (ci := 2) in_X2 rfl (k := 0) (by decide) rfl kF_X2_12 dX2_schema_1 h197 (Nat.le_of_ble_eq_true rfl) rfl ?_
  refine mm_aret (a := some 198) dX2_schema_4 rfl ?_ (by omega) (by omega)
  exact ⟨rfl, rfl⟩

set_option maxHeartbeats 4000000 in
set_option maxRecDepth 100000 in
theorem k332_X6_message {g : mm_G} {l : Launch} (hst : l.stackTraces = false) {d : Nat} (M : Nat → mm_C) (q1 q2 : Int32) (h198 : M 198 = .inr (6, [.ref 199, .ref 201, .ref 382, .int 0, .int 0])) : mm_Cm g l yX6_message (.code yX6_message cX6_message 4 (some (.object "ProtoDesk$Item"))) d 0 0 [.ref 198, .int q2] (M, 1186, false) (fun v S' => v = some (.null) ∧ S' = (M, 1186, false)) := by
  refine mm_Cm_of hst (by decide) (Nat.le_of_ble_eq_true rfl) ?_
  show mm_V g l RX6 "message" cX6_message 4 (some (.object "ProtoDesk$Item")) [] d 0 0 _ 0 [some (.ref 198), some (.int q2), none, none] [] (M, 1186, false) 0 0
  refine mm_iconst (v := 0) dX6_message_0 (by decide) ?_
  refine mm_istore_n [some (.ref 198), some (.int q2), some (.int 0), none] dX6_message_1 (by decide) rfl ?_
  refine mm_iload_n dX6_message_2 rfl ?_
  refine mm_aload_n dX6_message_3 rfl rfl ?_
  refine mm_get3 (ci := 6) in_X6 rfl (k := 3) (by decide) rfl kF_X6_34 dX6_message_4 h198 (Nat.le_of_ble_eq_true rfl) rfl ?_
  refine mm_icmp_ge 43 dX6_message_7 (by decide) (fun _ => ?_) (fun h => absurd (by decide) h)
  refine mm_null dX6_message_43 ?_
  refine mm_aret (a := none) dX6_message_44 rfl ?_ (by omega) (by omega)
  exact ⟨rfl, rfl⟩

set_option maxHeartbeats 4000000 in
set_option maxRecDepth 100000 in
theorem f_check {g : mm_G} {l : Launch} (hst : l.stackTraces = false) {d : Nat} (M : Nat → mm_C) (q1 q2 : Int32) (h0 : M 0 = .inr (11, [.ref 1, .ref 3, .ref 5, .ref 197, .ref 389, .ref 1094, .ref 1095, .ref 1097, .int (-1)])) (h3 : M 3 = .inr (0, [.ref 4, .int 0, .int 0])) (h5 : M 5 = .inr (2, [.ref 6, .ref 191, .ref 196, .int 0, .int 0])) (h6 : M 6 = .inr (6, [.ref 7, .ref 9, .ref 190, .int 0, .int 0])) (h197 : M 197 = .inr (2, [.ref 198, .ref 383, .ref 388, .int 0, .int 0])) (h198 : M 198 = .inr (6, [.ref 199, .ref 201, .ref 382, .int 0, .int 0])) : mm_Ct g l yX11_check (.code yX11_check cX11_check 5 (some .int)) (d + 1) 1 6 [.ref 0, .int q1, .int q2] (M, 1186, false) (fun r S' => r = .inr "java/lang/IllegalArgumentException" ∧ S'.2 = (1186, true) ∧ ∀ j, 1101 ≤ j → S'.1 j = M j) := by
  refine mm_Ct_of hst (by decide) (Nat.le_of_ble_eq_true rfl) ?_
  show mm_V g l RX11 "check" cX11_check 5 (some .int) [] (d + 1) 1 6 _ 0 [some (.ref 0), some (.int q1), some (.int q2), none, none] [] (M, 1186, false) 0 0
  refine mm_aload_n dX11_check_0 rfl rfl ?_
  refine mm_get3 (ci := 11) in_X11 rfl (k := 1) (by decide) rfl kF_X11_18 dX11_check_1 h0 (Nat.le_of_ble_eq_true rfl) rfl ?_
  refine mm_callV3 (ci := 0) wM_X0_clear kM_X11_99 wI_X0_clear wS_X0_clear dX11_check_4 (k324_X0_clear hst _ q1 q2 h3) h3 (Nat.le_of_ble_eq_true rfl) rfl rfl rfl (Nat.le_of_ble_eq_true rfl) (by omega) (by omega) (fun v S9 hq => ?_)
  obtain ⟨M325, z325⟩ := S9
  obtain ⟨rfl, hz325, g325_3, g325_F⟩ := hq
  cases hz325
  refine ⟨fun h => ⟨h, rfl⟩, ?_⟩
  refine mm_aload_n dX11_check_7 rfl rfl ?_
  refine mm_get3 (ci := 11) in_X11 rfl (k := 2) (by decide) rfl kF_X11_24 dX11_check_8 (mm_frN (g325_F _ (by decide)) h0) (Nat.le_of_ble_eq_true rfl) rfl ?_
  refine mm_callV3 (ci := 2) wM_X2_schema kM_X11_109 wI_X2_schema wS_X2_schema dX11_check_11 (k326_X2_schema hst _ q1 q2 (mm_frN (g325_F _ (by decide)) h5)) (mm_frN (g325_F _ (by decide)) h5) (Nat.le_of_ble_eq_true rfl) rfl rfl rfl (Nat.le_of_ble_eq_true rfl) (by omega) (by omega) (fun v S9 hq => ?_)
  obtain ⟨rfl, rfl⟩ := hq
  refine ⟨fun h => ⟨h, rfl⟩, ?_⟩
  refine mm_iload_n dX11_check_14 rfl ?_
  refine mm_callV3 (ci := 6) wM_X6_message kM_X11_193 wI_X6_message wS_X6_message dX11_check_15 (k328_X6_message hst _ q1 q2 (mm_frN (g325_F _ (by decide)) h6)) (mm_frN (g325_F _ (by decide)) h6) (Nat.le_of_ble_eq_true rfl) rfl rfl rfl (Nat.le_of_ble_eq_true rfl) (by omega) (by omega) (fun v S9 hq => ?_)
  obtain ⟨rfl, rfl⟩ := hq
  refine ⟨fun h => ⟨h, rfl⟩, ?_⟩
  refine mm_astore_n [some (.ref 0), some (.int q1), some (.int q2), some (.null), none] dX11_check_18 (by decide) rfl rfl ?_
  refine mm_aload_n dX11_check_19 rfl rfl ?_
  refine mm_get3 (ci := 11) in_X11 rfl (k := 3) (by decide) rfl kF_X11_28 dX11_check_20 (mm_frN (g325_F _ (by decide)) h0) (Nat.le_of_ble_eq_true rfl) rfl ?_
  refine mm_callV3 (ci := 2) wM_X2_schema kM_X11_109 wI_X2_schema wS_X2_schema dX11_check_23 (k330_X2_schema hst _ q1 q2 (mm_frN (g325_F _ (by decide)) h197)) (mm_frN (g325_F _ (by decide)) h197) (Nat.le_of_ble_eq_true rfl) rfl rfl rfl (Nat.le_of_ble_eq_true rfl) (by omega) (by omega) (fun v S9 hq => ?_)
  obtain ⟨rfl, rfl⟩ := hq
  refine ⟨fun h => ⟨h, rfl⟩, ?_⟩
  refine mm_iload_n dX11_check_26 rfl ?_
  refine mm_callV3 (ci := 6) wM_X6_message kM_X11_193 wI_X6_message wS_X6_message dX11_check_27 (k332_X6_message hst _ q1 q2 (mm_frN (g325_F _ (by decide)) h198)) (mm_frN (g325_F _ (by decide)) h198) (Nat.le_of_ble_eq_true rfl) rfl rfl rfl (Nat.le_of_ble_eq_true rfl) (by omega) (by omega) (fun v S9 hq => ?_)
  obtain ⟨rfl, rfl⟩ := hq
  refine ⟨fun h => ⟨h, rfl⟩, ?_⟩
  refine mm_astore [some (.ref 0), some (.int q1), some (.int q2), some (.null), some (.null)] dX11_check_30 (by decide) rfl rfl ?_
  refine mm_aload_n dX11_check_32 rfl rfl ?_
  refine mm_ifnull (r := none) 41 dX11_check_33 (by decide) (fun _ => ?_) (fun h => absurd (by simp) h)
  refine mm_throw (k := 21) (text := "no such message") (by decide) kC_X11_67 wj_IllegalArgumentException rfl at_71 rfl dX11_check_41 dX11_check_44 dX11_check_45 dX11_check_47 dX11_check_50 (Nat.le_of_ble_eq_true rfl) (by omega) (by omega) ?_
  refine ⟨rfl, rfl, fun x hx => ?_⟩
  dsimp only
  exact mm_frN (g325_F _ (by omega) ) (rfl)

set_option maxHeartbeats 4000000 in
set_option maxRecDepth 100000 in
theorem f_out_n {g : mm_G} {l : Launch} (hst : l.stackTraces = false) {d : Nat} (M : Nat → mm_C) (p : Int32) (hp : p < 0) : mm_Ct g l yX11_out (.code yX11_out cX11_out 5 (some .long)) d 1 6 [.ref 0, .int p] (M, 1186, false) (fun r S' => r = .inr "java/lang/IndexOutOfBoundsException" ∧ S'.2 = (1186, true) ∧ ∀ j, 1101 ≤ j → S'.1 j = M j) := by
  refine mm_Ct_of hst (by decide) (Nat.le_of_ble_eq_true rfl) ?_
  show mm_V g l RX11 "out" cX11_out 5 (some .long) [] d 1 6 _ 0 [some (.ref 0), some (.int p), none, none, none] [] (M, 1186, false) 0 0
  refine mm_iload_n dX11_out_0 rfl ?_
  refine mm_if_lt 15 dX11_out_1 (by decide) (fun _ => ?_) (fun h => absurd hp h)
  refine mm_throw (k := 22) (text := "not a place of what was given") (by decide) kC_X11_202 wj_IndexOutOfBoundsException rfl at_206 rfl dX11_out_15 dX11_out_18 dX11_out_19 dX11_out_21 dX11_out_24 (Nat.le_of_ble_eq_true rfl) (by omega) (by omega) ?_
  exact ⟨rfl, rfl, fun x hx => rfl⟩

set_option maxHeartbeats 4000000 in
set_option maxRecDepth 100000 in
theorem k334_X0_size {g : mm_G} {l : Launch} (hst : l.stackTraces = false) {d : Nat} (M : Nat → mm_C) (p : Int32) (hp : ¬ p < 0) (h3 : M 3 = .inr (0, [.ref 4, .int 0, .int 0])) : mm_Cm g l yX0_size (.code yX0_size cX0_size 1 (some .int)) d 0 0 [.ref 3] (M, 1186, false) (fun v S' => v = some (.int 0) ∧ S' = (M, 1186, false)) := by
  refine mm_Cm_of hst (by decide) (Nat.le_of_ble_eq_true rfl) ?_
  show mm_V g l RX0 "size" cX0_size 1 (some .int) [] d 0 0 _ 0 [some (.ref 3)] [] (M, 1186, false) 0 0
  refine mm_aload_n dX0_size_0 rfl rfl ?_
  refine mm_get3 (ci := 0) in_X0 rfl (k := 1) (by decide) rfl kF_X0_19 dX0_size_1 h3 (Nat.le_of_ble_eq_true rfl) rfl ?_
  refine mm_iret dX0_size_4 rfl rfl ?_ (by omega) (by omega)
  exact ⟨rfl, rfl⟩

set_option maxHeartbeats 4000000 in
set_option maxRecDepth 100000 in
theorem f_out_m {g : mm_G} {l : Launch} (hst : l.stackTraces = false) {d : Nat} (M : Nat → mm_C) (p : Int32) (hp : ¬ p < 0) (h0 : M 0 = .inr (11, [.ref 1, .ref 3, .ref 5, .ref 197, .ref 389, .ref 1094, .ref 1095, .ref 1097, .int (-1)])) (h3 : M 3 = .inr (0, [.ref 4, .int 0, .int 0])) : mm_Ct g l yX11_out (.code yX11_out cX11_out 5 (some .long)) (d + 1) 1 6 [.ref 0, .int p] (M, 1186, false) (fun r S' => r = .inr "java/lang/IndexOutOfBoundsException" ∧ S'.2 = (1186, true) ∧ ∀ j, 1101 ≤ j → S'.1 j = M j) := by
  refine mm_Ct_of hst (by decide) (Nat.le_of_ble_eq_true rfl) ?_
  show mm_V g l RX11 "out" cX11_out 5 (some .long) [] (d + 1) 1 6 _ 0 [some (.ref 0), some (.int p), none, none, none] [] (M, 1186, false) 0 0
  refine mm_iload_n dX11_out_0 rfl ?_
  refine mm_if_lt 15 dX11_out_1 (by decide) (fun h => absurd h hp) (fun _ => ?_)
  refine mm_iload_n dX11_out_4 rfl ?_
  refine mm_aload_n dX11_out_5 rfl rfl ?_
  refine mm_get3 (ci := 11) in_X11 rfl (k := 1) (by decide) rfl kF_X11_18 dX11_out_6 h0 (Nat.le_of_ble_eq_true rfl) rfl ?_
  refine mm_callV3 (ci := 0) wM_X0_size kM_X11_74 wI_X0_size wS_X0_size dX11_out_9 (k334_X0_size hst _ p hp h3) h3 (Nat.le_of_ble_eq_true rfl) rfl rfl rfl (Nat.le_of_ble_eq_true rfl) (by omega) (by omega) (fun v S9 hq => ?_)
  obtain ⟨rfl, rfl⟩ := hq
  refine ⟨fun h => ⟨h, rfl⟩, ?_⟩
  refine mm_icmp_lt 25 dX11_out_12 (by decide) (fun h => absurd h hp) (fun _ => ?_)
  refine mm_throw (k := 22) (text := "not a place of what was given") (by decide) kC_X11_202 wj_IndexOutOfBoundsException rfl at_206 rfl dX11_out_15 dX11_out_18 dX11_out_19 dX11_out_21 dX11_out_24 (Nat.le_of_ble_eq_true rfl) (by omega) (by omega) ?_
  exact ⟨rfl, rfl, fun x hx => rfl⟩

set_option maxHeartbeats 4000000 in
set_option maxRecDepth 100000 in
theorem k336_X0_size {g : mm_G} {l : Launch} (hst : l.stackTraces = false) {d : Nat} (M : Nat → mm_C) (h3 : M 3 = .inr (0, [.ref 4, .int 0, .int 0])) : mm_Cm g l yX0_size (.code yX0_size cX0_size 1 (some .int)) d 0 0 [.ref 3] (M, 1186, false) (fun v S' => v = some (.int 0) ∧ S' = (M, 1186, false)) := by
  refine mm_Cm_of hst (by decide) (Nat.le_of_ble_eq_true rfl) ?_
  show mm_V g l RX0 "size" cX0_size 1 (some .int) [] d 0 0 _ 0 [some (.ref 3)] [] (M, 1186, false) 0 0
  refine mm_aload_n dX0_size_0 rfl rfl ?_
  refine mm_get3 (ci := 0) in_X0 rfl (k := 1) (by decide) rfl kF_X0_19 dX0_size_1 h3 (Nat.le_of_ble_eq_true rfl) rfl ?_
  refine mm_iret dX0_size_4 rfl rfl ?_ (by omega) (by omega)
  exact ⟨rfl, rfl⟩

set_option maxHeartbeats 4000000 in
set_option maxRecDepth 100000 in
theorem k340_X0_addAll {g : mm_G} {l : Launch} (hst : l.stackTraces = false) {d : Nat} (M : Nat → mm_C) : mm_Cm g l yX0_addAll (.code yX0_addAll cX0_addAll 5 none) d 0 0 [.ref 1, .ref 3, .int 0, .int 0] (M, 1186, false) (fun v S' => v = none ∧ S' = (M, 1186, false)) := by
  refine mm_Cm_of hst (by decide) (Nat.le_of_ble_eq_true rfl) ?_
  show mm_V g l RX0 "addAll" cX0_addAll 5 none [] d 0 0 _ 0 [some (.ref 1), some (.ref 3), some (.int 0), some (.int 0), none] [] (M, 1186, false) 0 0
  refine mm_iload_n dX0_addAll_0 rfl ?_
  refine mm_istore [some (.ref 1), some (.ref 3), some (.int 0), some (.int 0), some (.int 0)] dX0_addAll_1 (by decide) rfl ?_
  refine mm_iload dX0_addAll_3 rfl ?_
  refine mm_iload_n dX0_addAll_5 rfl ?_
  refine mm_icmp_ge 25 dX0_addAll_6 (by decide) (fun _ => ?_) (fun h => absurd (by decide) h)
  refine mm_vret dX0_addAll_25 rfl ?_ (by omega) (by omega)
  exact ⟨rfl, rfl⟩

set_option maxHeartbeats 4000000 in
set_option maxRecDepth 100000 in
theorem f_turn {g : mm_G} {l : Launch} (hst : l.stackTraces = false) {d : Nat} (M : Nat → mm_C) (h0 : M 0 = .inr (11, [.ref 1, .ref 3, .ref 5, .ref 197, .ref 389, .ref 1094, .ref 1095, .ref 1097, .int (-1)])) (h1 : M 1 = .inr (0, [.ref 2, .int 0, .int 0])) (h3 : M 3 = .inr (0, [.ref 4, .int 0, .int 0])) : mm_Ct g l yX11_turn (.code yX11_turn cX11_turn 1 (some .int)) (d + 1) 0 0 [.ref 0] (M, 1186, false) (fun r S' => r = .inl (some (.int 0)) ∧ S'.2 = (1186, false) ∧ ∀ j, 1101 ≤ j → S'.1 j = M j) := by
  refine mm_Ct_of hst (by decide) (Nat.le_of_ble_eq_true rfl) ?_
  show mm_V g l RX11 "turn" cX11_turn 1 (some .int) [] (d + 1) 0 0 _ 0 [some (.ref 0)] [] (M, 1186, false) 0 0
  refine mm_aload_n dX11_turn_0 rfl rfl ?_
  refine mm_get3 (ci := 11) in_X11 rfl (k := 1) (by decide) rfl kF_X11_18 dX11_turn_1 h0 (Nat.le_of_ble_eq_true rfl) rfl ?_
  refine mm_callV3 (ci := 0) wM_X0_size kM_X11_74 wI_X0_size wS_X0_size dX11_turn_4 (k336_X0_size hst _  h3) h3 (Nat.le_of_ble_eq_true rfl) rfl rfl rfl (Nat.le_of_ble_eq_true rfl) (by omega) (by omega) (fun v S9 hq => ?_)
  obtain ⟨rfl, rfl⟩ := hq
  refine ⟨fun h => ⟨h, rfl⟩, ?_⟩
  refine mm_sipush (v := 700) dX11_turn_7 (by decide) ?_
  refine mm_icmp_le 23 dX11_turn_10 (by decide) (fun _ => ?_) (fun h => absurd (by decide) h)
  refine mm_aload_n dX11_turn_23 rfl rfl ?_
  refine mm_get3 (ci := 11) in_X11 rfl (k := 0) (by decide) rfl kF_X11_14 dX11_turn_24 h0 (Nat.le_of_ble_eq_true rfl) rfl ?_
  refine mm_callV3 (ci := 0) wM_X0_clear kM_X11_99 wI_X0_clear wS_X0_clear dX11_turn_27 (k52_X0_clear hst _  h1) h1 (Nat.le_of_ble_eq_true rfl) rfl rfl rfl (Nat.le_of_ble_eq_true rfl) (by omega) (by omega) (fun v S9 hq => ?_)
  obtain ⟨M338, z338⟩ := S9
  obtain ⟨rfl, hz338, g338_1, g338_F⟩ := hq
  cases hz338
  refine ⟨fun h => ⟨h, rfl⟩, ?_⟩
  refine mm_aload_n dX11_turn_30 rfl rfl ?_
  refine mm_get3 (ci := 11) in_X11 rfl (k := 0) (by decide) rfl kF_X11_14 dX11_turn_31 (mm_frN (g338_F _ (by decide)) h0) (Nat.le_of_ble_eq_true rfl) rfl ?_
  refine mm_aload_n dX11_turn_34 rfl rfl ?_
  refine mm_get3 (ci := 11) in_X11 rfl (k := 1) (by decide) rfl kF_X11_18 dX11_turn_35 (mm_frN (g338_F _ (by decide)) h0) (Nat.le_of_ble_eq_true rfl) rfl ?_
  refine mm_iconst (v := 0) dX11_turn_38 (by decide) ?_
  refine mm_aload_n dX11_turn_39 rfl rfl ?_
  refine mm_get3 (ci := 11) in_X11 rfl (k := 1) (by decide) rfl kF_X11_18 dX11_turn_40 (mm_frN (g338_F _ (by decide)) h0) (Nat.le_of_ble_eq_true rfl) rfl ?_
  refine mm_callV3 (ci := 0) wM_X0_size kM_X11_74 wI_X0_size wS_X0_size dX11_turn_43 (k336_X0_size hst _  (mm_frN (g338_F _ (by decide)) h3)) (mm_frN (g338_F _ (by decide)) h3) (Nat.le_of_ble_eq_true rfl) rfl rfl rfl (Nat.le_of_ble_eq_true rfl) (by omega) (by omega) (fun v S9 hq => ?_)
  obtain ⟨rfl, rfl⟩ := hq
  refine ⟨fun h => ⟨h, rfl⟩, ?_⟩
  refine mm_callV3 (ci := 0) wM_X0_addAll kM_X11_218 wI_X0_addAll wS_X0_addAll dX11_turn_46 (k340_X0_addAll hst _  ) g338_1 (Nat.le_of_ble_eq_true rfl) rfl rfl rfl (Nat.le_of_ble_eq_true rfl) (by omega) (by omega) (fun v S9 hq => ?_)
  obtain ⟨rfl, rfl⟩ := hq
  refine ⟨fun h => ⟨h, rfl⟩, ?_⟩
  refine mm_aload_n dX11_turn_49 rfl rfl ?_
  refine mm_get3 (ci := 11) in_X11 rfl (k := 0) (by decide) rfl kF_X11_14 dX11_turn_50 (mm_frN (g338_F _ (by decide)) h0) (Nat.le_of_ble_eq_true rfl) rfl ?_
  refine mm_callV3 (ci := 0) wM_X0_size kM_X11_74 wI_X0_size wS_X0_size dX11_turn_53 (k16_X0_size hst _  g338_1) g338_1 (Nat.le_of_ble_eq_true rfl) rfl rfl rfl (Nat.le_of_ble_eq_true rfl) (by omega) (by omega) (fun v S9 hq => ?_)
  obtain ⟨rfl, rfl⟩ := hq
  refine ⟨fun h => ⟨h, rfl⟩, ?_⟩
  refine mm_iret dX11_turn_56 rfl rfl ?_ (by omega) (by omega)
  refine ⟨rfl, rfl, fun x hx => ?_⟩
  dsimp only
  exact mm_frN (g338_F _ (by omega) ) (rfl)
