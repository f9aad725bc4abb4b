set_option maxHeartbeats 4000000 in
set_option maxRecDepth 100000 in
theorem k343_X0_size {g : mm_G} {l : Launch} (hst : l.stackTraces = false) {d : Nat} (M : Nat → mm_C) (b : Int64) (h1 : M 1 = .inr (0, [.ref 2, .int 0, .int 0])) : mm_Cm g l yX0_size (.code yX0_size cX0_size 1 (some .int)) d 0 0 [.ref 1] (M, 1186, false) (fun v S' => v = some (.int 0) ∧ S' = (M, 1186, false)) := by
  refine mm_Cm_of hst (by decide) (Nat.le_of_ble_eq_true rfl) ?_
  show mm_V g l RX0 "size" cX0_size 1 (some .int) [] d 0 0 _ 0 [some (.ref 1)] [] (M, 1186, false) 0 0
  refine mm_aload_n dX0_size_0 rfl rfl ?_
  refine mm_get3 (ci := 0) in_X0 rfl (k := 1) (by decide) rfl kF_X0_19 dX0_size_1 h1 (Nat.le_of_ble_eq_true rfl) rfl ?_
  refine mm_iret dX0_size_4 rfl rfl ?_ (by omega) (by omega)
  exact ⟨rfl, rfl⟩

set_option maxHeartbeats 4000000 in
set_option maxRecDepth 100000 in
theorem k345_X0_add {g : mm_G} {l : Launch} (hst : l.stackTraces = false) {d : Nat} (M : Nat → mm_C) (b : Int64) (h1 : M 1 = .inr (0, [.ref 2, .int 0, .int 0])) (h2 : M 2 = .inl (2, 700, .inl (fun _ => 0))) : mm_Cm g l yX0_add (.code yX0_add cX0_add 2 none) d 0 0 [.ref 1, .int ((((b : Int64).toUInt64 >>> ((8 * (1 - 1) : Int32).toInt64.toUInt64 &&& Int64.toUInt64 63)).toInt64 : Int64).toInt32)] (M, 1186, false) (fun v S' => v = none ∧ S'.2 = (1186, false) ∧ S'.1 2 = .inl (2, 700, .inl (upd (fun _ => 0) ((0 : Int32).toNatClampNeg) (vp_nar .byte (((((b : Int64).toUInt64 >>> ((8 * (1 - 1) : Int32).toInt64.toUInt64 &&& Int64.toUInt64 63)).toInt64 : Int64).toInt32 : Int32).toInt8.toInt32)))) ∧ S'.1 1 = .inr (0, [.ref 2, .int (0 + 1), .int 0]) ∧ ∀ j, j ≠ 2 → j ≠ 1 → S'.1 j = M j) := by
  refine mm_Cm_of hst (by decide) (Nat.le_of_ble_eq_true rfl) ?_
  show mm_V g l RX0 "add" cX0_add 2 none [] d 0 0 _ 0 [some (.ref 1), some (.int ((((b : Int64).toUInt64 >>> ((8 * (1 - 1) : Int32).toInt64.toUInt64 &&& Int64.toUInt64 63)).toInt64 : Int64).toInt32))] [] (M, 1186, false) 0 0
  refine mm_aload_n dX0_add_0 rfl rfl ?_
  refine mm_get3 (ci := 0) in_X0 rfl (k := 1) (by decide) rfl kF_X0_19 dX0_add_1 h1 (Nat.le_of_ble_eq_true rfl) rfl ?_
  refine mm_if_lt 43 dX0_add_4 (by decide) (fun h => absurd h (by decide)) (fun _ => ?_)
  refine mm_aload_n dX0_add_7 rfl rfl ?_
  refine mm_get3 (ci := 0) in_X0 rfl (k := 1) (by decide) rfl kF_X0_19 dX0_add_8 h1 (Nat.le_of_ble_eq_true rfl) rfl ?_
  refine mm_aload_n dX0_add_11 rfl rfl ?_
  refine mm_get3 (ci := 0) in_X0 rfl (k := 0) (by decide) rfl kF_X0_13 dX0_add_12 h1 (Nat.le_of_ble_eq_true rfl) rfl ?_
  refine mm_alen3 (v := 700) (fun _ => rfl) h2 (Nat.le_of_ble_eq_true rfl) rfl dX0_add_15 ?_
  refine mm_icmp_ge 43 dX0_add_16 (by decide) (fun h => absurd h (by decide)) (fun _ => ?_)
  refine mm_aload_n dX0_add_19 rfl rfl ?_
  refine mm_get3 (ci := 0) in_X0 rfl (k := 0) (by decide) rfl kF_X0_13 dX0_add_20 h1 (Nat.le_of_ble_eq_true rfl) rfl ?_
  refine mm_aload_n dX0_add_23 rfl rfl ?_
  refine mm_get3 (ci := 0) in_X0 rfl (k := 1) (by decide) rfl kF_X0_19 dX0_add_24 h1 (Nat.le_of_ble_eq_true rfl) rfl ?_
  refine mm_iload_n dX0_add_27 rfl ?_
  refine mm_i2b dX0_add_28 ?_
  refine mm_bast3 h2 (Nat.le_of_ble_eq_true rfl) (by unfold vp_in; decide) dX0_add_29 ?_
  refine mm_aload_n dX0_add_30 rfl rfl ?_
  refine mm_dup dX0_add_31 rfl ?_
  refine mm_get3 (ci := 0) in_X0 rfl (k := 1) (by decide) rfl kF_X0_19 dX0_add_32 (mm_upN (by decide) h1) (Nat.le_of_ble_eq_true rfl) rfl ?_
  refine mm_iconst (v := 1) dX0_add_35 (by decide) ?_
  refine mm_iadd dX0_add_36 ?_
  refine mm_put3 (ci := 0) (fs1 := [.ref 2, .int (0 + 1), .int 0]) in_X0 tyX0_ok nmX0 rfl (k := 1) (by decide) rfl rfl kF_X0_19 dX0_add_37 (mm_fit_int _) (mm_upN (by decide) h1) (Nat.le_of_ble_eq_true rfl) (Nat.le_of_ble_eq_true rfl) rfl ?_
  refine mm_goto 48 dX0_add_40 (by decide) ?_
  refine mm_vret dX0_add_48 rfl ?_ (by omega) (by omega)
  refine ⟨rfl, rfl, ?_⟩
  dsimp only
  exact ⟨(mm_upN (by decide) mm_up_s), mm_up_s, fun x e2 e1 => mm_upN e1 (mm_upN e2 (rfl))⟩

set_option maxHeartbeats 4000000 in
set_option maxRecDepth 100000 in
theorem k347_X0_size {g : mm_G} {l : Launch} (hst : l.stackTraces = false) {d : Nat} (M : Nat → mm_C) (b : Int64) (h1 : M 1 = .inr (0, [.ref 2, .int (0 + 1), .int 0])) : mm_Cm g l yX0_size (.code yX0_size cX0_size 1 (some .int)) d 0 0 [.ref 1] (M, 1186, false) (fun v S' => v = some (.int (0 + 1)) ∧ S' = (M, 1186, false)) := by
  refine mm_Cm_of hst (by decide) (Nat.le_of_ble_eq_true rfl) ?_
  show mm_V g l RX0 "size" cX0_size 1 (some .int) [] d 0 0 _ 0 [some (.ref 1)] [] (M, 1186, false) 0 0
  refine mm_aload_n dX0_size_0 rfl rfl ?_
  refine mm_get3 (ci := 0) in_X0 rfl (k := 1) (by decide) rfl kF_X0_19 dX0_size_1 h1 (Nat.le_of_ble_eq_true rfl) rfl ?_
  refine mm_iret dX0_size_4 rfl rfl ?_ (by omega) (by omega)
  exact ⟨rfl, rfl⟩

set_option maxHeartbeats 4000000 in
set_option maxRecDepth 100000 in
theorem f_feed_1 {g : mm_G} {l : Launch} (hst : l.stackTraces = false) {d : Nat} (M : Nat → mm_C) (b : Int64) (h0 : M 0 = .inr (11, [.ref 1, .ref 3, .ref 5, .ref 197, .ref 389, .ref 1094, .ref 1095, .ref 1097, .int (-1)])) (h1 : M 1 = .inr (0, [.ref 2, .int 0, .int 0])) (h2 : M 2 = .inl (2, 700, .inl (fun _ => 0))) : mm_Ct g l yX11_feed (.code yX11_feed cX11_feed 5 (some .int)) (d + 1) 0 0 [.ref 0, .long b, .int 1] (M, 1186, false) (fun r S' => r = .inl (some (.int (0 + 1))) ∧ S'.2 = (1186, false) ∧ ∀ j, 1101 ≤ j → S'.1 j = M j) := by
  refine mm_Ct_of hst (by decide) (Nat.le_of_ble_eq_true rfl) ?_
  show mm_V g l RX11 "feed" cX11_feed 5 (some .int) [] (d + 1) 0 0 _ 0 [some (.ref 0), some (.long b), none, some (.int 1), none] [] (M, 1186, false) 0 0
  refine mm_iload_n dX11_feed_0 rfl ?_
  refine mm_iconst (v := 1) dX11_feed_1 (by decide) ?_
  refine mm_icmp_lt 11 dX11_feed_2 (by decide) (fun h => absurd h (by decide)) (fun _ => ?_)
  refine mm_iload_n dX11_feed_5 rfl ?_
  refine mm_bipush (v := 8) dX11_feed_6 (by decide) ?_
  refine mm_icmp_le 21 dX11_feed_8 (by decide) (fun _ => ?_) (fun h => absurd (by decide) h)
  refine mm_aload_n dX11_feed_21 rfl rfl ?_
  refine mm_get3 (ci := 11) in_X11 rfl (k := 0) (by decide) rfl kF_X11_14 dX11_feed_22 h0 (Nat.le_of_ble_eq_true rfl) rfl ?_
  refine mm_callV3 (ci := 0) wM_X0_size kM_X11_74 wI_X0_size wS_X0_size dX11_feed_25 (k343_X0_size hst _ b h1) h1 (Nat.le_of_ble_eq_true rfl) rfl rfl rfl (Nat.le_of_ble_eq_true rfl) (by omega) (by omega) (fun v S9 hq => ?_)
  obtain ⟨rfl, rfl⟩ := hq
  refine ⟨fun h => ⟨h, rfl⟩, ?_⟩
  refine mm_iload_n dX11_feed_28 rfl ?_
  refine mm_iadd dX11_feed_29 ?_
  refine mm_sipush (v := 700) dX11_feed_30 (by decide) ?_
  refine mm_icmp_le 46 dX11_feed_33 (by decide) (fun _ => ?_) (fun h => absurd (by decide) h)
  refine mm_iload_n dX11_feed_46 rfl ?_
  refine mm_iconst (v := 1) dX11_feed_47 (by decide) ?_
  refine mm_isub dX11_feed_48 ?_
  refine mm_istore [some (.ref 0), some (.long b), none, some (.int 1), some (.int (1 - 1))] dX11_feed_49 (by decide) rfl ?_
  refine mm_iload dX11_feed_51 rfl ?_
  refine mm_if_lt 77 dX11_feed_53 (by decide) (fun h => absurd h (by decide)) (fun _ => ?_)
  refine mm_aload_n dX11_feed_56 rfl rfl ?_
  refine mm_get3 (ci := 11) in_X11 rfl (k := 0) (by decide) rfl kF_X11_14 dX11_feed_57 h0 (Nat.le_of_ble_eq_true rfl) rfl ?_
  refine mm_lload_n dX11_feed_60 rfl ?_
  refine mm_bipush (v := 8) dX11_feed_61 (by decide) ?_
  refine mm_iload dX11_feed_63 rfl ?_
  refine mm_imul dX11_feed_65 ?_
  refine mm_lushr dX11_feed_66 ?_
  refine mm_l2i dX11_feed_67 ?_
  refine mm_callV3 (ci := 0) wM_X0_add kM_X11_83 wI_X0_add wS_X0_add dX11_feed_68 (k345_X0_add hst _ b h1 h2) h1 (Nat.le_of_ble_eq_true rfl) rfl rfl rfl (Nat.le_of_ble_eq_true rfl) (by omega) (by omega) (fun v S9 hq => ?_)
  obtain ⟨M346, z346⟩ := S9
  obtain ⟨rfl, hz346, g346_2, g346_1, g346_F⟩ := hq
  cases hz346
  refine ⟨fun h => ⟨h, rfl⟩, ?_⟩
  refine mm_iinc (v := (-1)) [some (.ref 0), some (.long b), none, some (.int 1), some (.int (-1))] dX11_feed_71 rfl (by decide) (by decide) rfl ?_
  refine mm_goto 51 dX11_feed_74 (by decide) ?_
  refine mm_iload dX11_feed_51 rfl ?_
  refine mm_if_lt 77 dX11_feed_53 (by decide) (fun _ => ?_) (fun h => absurd (by decide) h)
  refine mm_aload_n dX11_feed_77 rfl rfl ?_
  refine mm_get3 (ci := 11) in_X11 rfl (k := 0) (by decide) rfl kF_X11_14 dX11_feed_78 (mm_frN (g346_F _ (by decide) (by decide)) h0) (Nat.le_of_ble_eq_true rfl) rfl ?_
  refine mm_callV3 (ci := 0) wM_X0_size kM_X11_74 wI_X0_size wS_X0_size dX11_feed_81 (k347_X0_size hst _ b g346_1) g346_1 (Nat.le_of_ble_eq_true rfl) rfl rfl rfl (Nat.le_of_ble_eq_true rfl) (by omega) (by omega) (fun v S9 hq => ?_)
  obtain ⟨rfl, rfl⟩ := hq
  refine ⟨fun h => ⟨h, rfl⟩, ?_⟩
  refine mm_iret dX11_feed_84 rfl rfl ?_ (by omega) (by omega)
  refine ⟨rfl, rfl, fun x hx => ?_⟩
  dsimp only
  exact mm_frN (g346_F _ (by omega) (by omega) ) (rfl)

set_option maxHeartbeats 4000000 in
set_option maxRecDepth 100000 in
theorem k349_X0_size {g : mm_G} {l : Launch} (hst : l.stackTraces = false) {d : Nat} (M : Nat → mm_C) (b : Int64) (h1 : M 1 = .inr (0, [.ref 2, .int 0, .int 0])) : mm_Cm g l yX0_size (.code yX0_size cX0_size 1 (some .int)) d 0 0 [.ref 1] (M, 1186, false) (fun v S' => v = some (.int 0) ∧ S' = (M, 1186, false)) := by
  refine mm_Cm_of hst (by decide) (Nat.le_of_ble_eq_true rfl) ?_
  show mm_V g l RX0 "size" cX0_size 1 (some .int) [] d 0 0 _ 0 [some (.ref 1)] [] (M, 1186, false) 0 0
  refine mm_aload_n dX0_size_0 rfl rfl ?_
  refine mm_get3 (ci := 0) in_X0 rfl (k := 1) (by decide) rfl kF_X0_19 dX0_size_1 h1 (Nat.le_of_ble_eq_true rfl) rfl ?_
  refine mm_iret dX0_size_4 rfl rfl ?_ (by omega) (by omega)
  exact ⟨rfl, rfl⟩

set_option maxHeartbeats 4000000 in
set_option maxRecDepth 100000 in
theorem k351_X0_add {g : mm_G} {l : Launch} (hst : l.stackTraces = false) {d : Nat} (M : Nat → mm_C) (b : Int64) (h1 : M 1 = .inr (0, [.ref 2, .int 0, .int 0])) (h2 : M 2 = .inl (2, 700, .inl (fun _ => 0))) : mm_Cm g l yX0_add (.code yX0_add cX0_add 2 none) d 0 0 [.ref 1, .int ((((b : Int64).toUInt64 >>> ((8 * (2 - 1) : Int32).toInt64.toUInt64 &&& Int64.toUInt64 63)).toInt64 : Int64).toInt32)] (M, 1186, false) (fun v S' => v = none ∧ S'.2 = (1186, false) ∧ S'.1 2 = .inl (2, 700, .inl (upd (fun _ => 0) ((0 : Int32).toNatClampNeg) (vp_nar .byte (((((b : Int64).toUInt64 >>> ((8 * (2 - 1) : Int32).toInt64.toUInt64 &&& Int64.toUInt64 63)).toInt64 : Int64).toInt32 : Int32).toInt8.toInt32)))) ∧ S'.1 1 = .inr (0, [.ref 2, .int (0 + 1), .int 0]) ∧ ∀ j, j ≠ 2 → j ≠ 1 → S'.1 j = M j) := by
  refine mm_Cm_of hst (by decide) (Nat.le_of_ble_eq_true rfl) ?_
  show mm_V g l RX0 "add" cX0_add 2 none [] d 0 0 _ 0 [some (.ref 1), some (.int ((((b : Int64).toUInt64 >>> ((8 * (2 - 1) : Int32).toInt64.toUInt64 &&& Int64.toUInt64 63)).toInt64 : Int64).toInt32))] [] (M, 1186, false) 0 0
  refine mm_aload_n dX0_add_0 rfl rfl ?_
  refine mm_get3 (ci := 0) in_X0 rfl (k := 1) (by decide) rfl kF_X0_19 dX0_add_1 h1 (Nat.le_of_ble_eq_true rfl) rfl ?_
  refine mm_if_lt 43 dX0_add_4 (by decide) (fun h => absurd h (by decide)) (fun _ => ?_)
  refine mm_aload_n dX0_add_7 rfl rfl ?_
  refine mm_get3 (ci := 0) in_X0 rfl (k := 1) (by decide) rfl kF_X0_19 dX0_add_8 h1 (Nat.le_of_ble_eq_true rfl) rfl ?_
  refine mm_aload_n dX0_add_11 rfl rfl ?_
  refine mm_get3 (ci := 0) in_X0 rfl (k := 0) (by decide) rfl kF_X0_13 dX0_add_12 h1 (Nat.le_of_ble_eq_true rfl) rfl ?_
  refine mm_alen3 (v := 700) (fun _ => rfl) h2 (Nat.le_of_ble_eq_true rfl) rfl dX0_add_15 ?_
  refine mm_icmp_ge 43 dX0_add_16 (by decide) (fun h => absurd h (by decide)) (fun _ => ?_)
  refine mm_aload_n dX0_add_19 rfl rfl ?_
  refine mm_get3 (ci := 0) in_X0 rfl (k := 0) (by decide) rfl kF_X0_13 dX0_add_20 h1 (Nat.le_of_ble_eq_true rfl) rfl ?_
  refine mm_aload_n dX0_add_23 rfl rfl ?_
  refine mm_get3 (ci := 0) in_X0 rfl (k := 1) (by decide) rfl kF_X0_19 dX0_add_24 h1 (Nat.le_of_ble_eq_true rfl) rfl ?_
  refine mm_iload_n dX0_add_27 rfl ?_
  refine mm_i2b dX0_add_28 ?_
  refine mm_bast3 h2 (Nat.le_of_ble_eq_true rfl) (by unfold vp_in; decide) dX0_add_29 ?_
  refine mm_aload_n dX0_add_30 rfl rfl ?_
  refine mm_dup dX0_add_31 rfl ?_
  refine mm_get3 (ci := 0) in_X0 rfl (k := 1) (by decide) rfl kF_X0_19 dX0_add_32 (mm_upN (by decide) h1) (Nat.le_of_ble_eq_true rfl) rfl ?_
  refine mm_iconst (v := 1) dX0_add_35 (by decide) ?_
  refine mm_iadd dX0_add_36 ?_
  refine mm_put3 (ci := 0) (fs1 := [.ref 2, .int (0 + 1), .int 0]) in_X0 tyX0_ok nmX0 rfl (k := 1) (by decide) rfl rfl kF_X0_19 dX0_add_37 (mm_fit_int _) (mm_upN (by decide) h1) (Nat.le_of_ble_eq_true rfl) (Nat.le_of_ble_eq_true rfl) rfl ?_
  refine mm_goto 48 dX0_add_40 (by decide) ?_
  refine mm_vret dX0_add_48 rfl ?_ (by omega) (by omega)
  refine ⟨rfl, rfl, ?_⟩
  dsimp only
  exact ⟨(mm_upN (by decide) mm_up_s), mm_up_s, fun x e2 e1 => mm_upN e1 (mm_upN e2 (rfl))⟩

set_option maxHeartbeats 4000000 in
set_option maxRecDepth 100000 in
theorem k353_X0_add {g : mm_G} {l : Launch} (hst : l.stackTraces = false) {d : Nat} (M : Nat → mm_C) (b : Int64) (h1 : M 1 = .inr (0, [.ref 2, .int (0 + 1), .int 0])) (h2 : M 2 = .inl (2, 700, .inl (upd (fun _ => 0) ((0 : Int32).toNatClampNeg) (vp_nar .byte (((((b : Int64).toUInt64 >>> ((8 * (2 - 1) : Int32).toInt64.toUInt64 &&& Int64.toUInt64 63)).toInt64 : Int64).toInt32 : Int32).toInt8.toInt32))))) : mm_Cm g l yX0_add (.code yX0_add cX0_add 2 none) d 0 0 [.ref 1, .int ((((b : Int64).toUInt64 >>> ((8 * 0 : Int32).toInt64.toUInt64 &&& Int64.toUInt64 63)).toInt64 : Int64).toInt32)] (M, 1186, false) (fun v S' => v = none ∧ S'.2 = (1186, false) ∧ S'.1 2 = .inl (2, 700, .inl (upd (upd (fun _ => 0) ((0 : Int32).toNatClampNeg) (vp_nar .byte (((((b : Int64).toUInt64 >>> ((8 * (2 - 1) : Int32).toInt64.toUInt64 &&& Int64.toUInt64 63)).toInt64 : Int64).toInt32 : Int32).toInt8.toInt32))) ((0 + 1 : Int32).toNatClampNeg) (vp_nar .byte (((((b : Int64).toUInt64 >>> ((8 * 0 : Int32).toInt64.toUInt64 &&& Int64.toUInt64 63)).toInt64 : Int64).toInt32 : Int32).toInt8.toInt32)))) ∧ S'.1 1 = .inr (0, [.ref 2, .int ((0 + 1) + 1), .int 0]) ∧ ∀ j, j ≠ 2 → j ≠ 1 → S'.1 j = M j) := by
  refine mm_Cm_of hst (by decide) (Nat.le_of_ble_eq_true rfl) ?_
  show mm_V g l RX0 "add" cX0_add 2 none [] d 0 0 _ 0 [some (.ref 1), some (.int ((((b : Int64).toUInt64 >>> ((8 * 0 : Int32).toInt64.toUInt64 &&& Int64.toUInt64 63)).toInt64 : Int64).toInt32))] [] (M, 1186, false) 0 0
  refine mm_aload_n dX0_add_0 rfl rfl ?_
  refine mm_get3 (ci := 0) in_X0 rfl (k := 1) (by decide) rfl kF_X0_19 dX0_add_1 h1 (Nat.le_of_ble_eq_true rfl) rfl ?_
  refine mm_if_lt 43 dX0_add_4 (by decide) (fun h => absurd h (by decide)) (fun _ => ?_)
  refine mm_aload_n dX0_add_7 rfl rfl ?_
  refine mm_get3 (ci := 0) in_X0 rfl (k := 1) (by decide) rfl kF_X0_19 dX0_add_8 h1 (Nat.le_of_ble_eq_true rfl) rfl ?_
  refine mm_aload_n dX0_add_11 rfl rfl ?_
  refine mm_get3 (ci := 0) in_X0 rfl (k := 0) (by decide) rfl kF_X0_13 dX0_add_12 h1 (Nat.le_of_ble_eq_true rfl) rfl ?_
  refine mm_alen3 (v := 700) (fun _ => rfl) h2 (Nat.le_of_ble_eq_true rfl) rfl dX0_add_15 ?_
  refine mm_icmp_ge 43 dX0_add_16 (by decide) (fun h => absurd h (by decide)) (fun _ => ?_)
  refine mm_aload_n dX0_add_19 rfl rfl ?_
  refine mm_get3 (ci := 0) in_X0 rfl (k := 0) (by decide) rfl kF_X0_13 dX0_add_20 h1 (Nat.le_of_ble_eq_true rfl) rfl ?_
  refine mm_aload_n dX0_add_23 rfl rfl ?_
  refine mm_get3 (ci := 0) in_X0 rfl (k := 1) (by decide) rfl kF_X0_19 dX0_add_24 h1 (Nat.le_of_ble_eq_true rfl) rfl ?_
  refine mm_iload_n dX0_add_27 rfl ?_
  refine mm_i2b dX0_add_28 ?_
  refine mm_bast3 h2 (Nat.le_of_ble_eq_true rfl) (by unfold vp_in; decide) dX0_add_29 ?_
  refine mm_aload_n dX0_add_30 rfl rfl ?_
  refine mm_dup dX0_add_31 rfl ?_
  refine mm_get3 (ci := 0) in_X0 rfl (k := 1) (by decide) rfl kF_X0_19 dX0_add_32 (mm_upN (by decide) h1) (Nat.le_of_ble_eq_true rfl) rfl ?_
  refine mm_iconst (v := 1) dX0_add_35 (by decide) ?_
  refine mm_iadd dX0_add_36 ?_
  refine mm_put3 (ci := 0) (fs1 := [.ref 2, .int ((0 + 1) + 1), .int 0]) in_X0 tyX0_ok nmX0 rfl (k := 1) (by decide) rfl rfl kF_X0_19 dX0_add_37 (mm_fit_int _) (mm_upN (by decide) h1) (Nat.le_of_ble_eq_true rfl) (Nat.le_of_ble_eq_true rfl) rfl ?_
  refine mm_goto 48 dX0_add_40 (by decide) ?_
  refine mm_vret dX0_add_48 rfl ?_ (by omega) (by omega)
  refine ⟨rfl, rfl, ?_⟩
  dsimp only
  exact ⟨(mm_upN (by decide) mm_up_s), mm_up_s, fun x e2 e1 => mm_upN e1 (mm_upN e2 (rfl))⟩

set_option maxHeartbeats 4000000 in
set_option maxRecDepth 100000 in
theorem k355_X0_size {g : mm_G} {l : Launch} (hst : l.stackTraces = false) {d : Nat} (M : Nat → mm_C) (b : Int64) (h1 : M 1 = .inr (0, [.ref 2, .int ((0 + 1) + 1), .int 0])) : mm_Cm g l yX0_size (.code yX0_size cX0_size 1 (some .int)) d 0 0 [.ref 1] (M, 1186, false) (fun v S' => v = some (.int ((0 + 1) + 1)) ∧ S' = (M, 1186, false)) := by
  refine mm_Cm_of hst (by decide) (Nat.le_of_ble_eq_true rfl) ?_
  show mm_V g l RX0 "size" cX0_size 1 (some .int) [] d 0 0 _ 0 [some (.ref 1)] [] (M, 1186, false) 0 0
  refine mm_aload_n dX0_size_0 rfl rfl ?_
  refine mm_get3 (ci := 0) in_X0 rfl (k := 1) (by decide) rfl kF_X0_19 dX0_size_1 h1 (Nat.le_of_ble_eq_true rfl) rfl ?_
  refine mm_iret dX0_size_4 rfl rfl ?_ (by omega) (by omega)
  exact ⟨rfl, rfl⟩

set_option maxHeartbeats 4000000 in
set_option maxRecDepth 100000 in
theorem f_feed_2 {g : mm_G} {l : Launch} (hst : l.stackTraces = false) {d : Nat} (M : Nat → mm_C) (b : Int64) (h0 : M 0 = .inr (11, [.ref 1, .ref 3, .ref 5, .ref 197, .ref 389, .ref 1094, .ref 1095, .ref 1097, .int (-1)])) (h1 : M 1 = .inr (0, [.ref 2, .int 0, .int 0])) (h2 : M 2 = .inl (2, 700, .inl (fun _ => 0))) : mm_Ct g l yX11_feed (.code yX11_feed cX11_feed 5 (some .int)) (d + 1) 0 0 [.ref 0, .long b, .int 2] (M, 1186, false) (fun r S' => r = .inl (some (.int ((0 + 1) + 1))) ∧ S'.2 = (1186, false) ∧ ∀ j, 1101 ≤ j → S'.1 j = M j) := by
  refine mm_Ct_of hst (by decide) (Nat.le_of_ble_eq_true rfl) ?_
  show mm_V g l RX11 "feed" cX11_feed 5 (some .int) [] (d + 1) 0 0 _ 0 [some (.ref 0), some (.long b), none, some (.int 2), none] [] (M, 1186, false) 0 0
  refine mm_iload_n dX11_feed_0 rfl ?_
  refine mm_iconst (v := 1) dX11_feed_1 (by decide) ?_
  refine mm_icmp_lt 11 dX11_feed_2 (by decide) (fun h => absurd h (by decide)) (fun _ => ?_)
  refine mm_iload_n dX11_feed_5 rfl ?_
  refine mm_bipush (v := 8) dX11_feed_6 (by decide) ?_
  refine mm_icmp_le 21 dX11_feed_8 (by decide) (fun _ => ?_) (fun h => absurd (by decide) h)
  refine mm_aload_n dX11_feed_21 rfl rfl ?_
  refine mm_get3 (ci := 11) in_X11 rfl (k := 0) (by decide) rfl kF_X11_14 dX11_feed_22 h0 (Nat.le_of_ble_eq_true rfl) rfl ?_
  refine mm_callV3 (ci := 0) wM_X0_size kM_X11_74 wI_X0_size wS_X0_size dX11_feed_25 (k349_X0_size hst _ b h1) h1 (Nat.le_of_ble_eq_true rfl) rfl rfl rfl (Nat.le_of_ble_eq_true rfl) (by omega) (by omega) (fun v S9 hq => ?_)
  obtain ⟨rfl, rfl⟩ := hq
  refine ⟨fun h => ⟨h, rfl⟩, ?_⟩
  refine mm_iload_n dX11_feed_28 rfl ?_
  refine mm_iadd dX11_feed_29 ?_
  refine mm_sipush (v := 700) dX11_feed_30 (by decide) ?_
  refine mm_icmp_le 46 dX11_feed_33 (by decide) (fun _ => ?_) (fun h => absurd (by decide) h)
  refine mm_iload_n dX11_feed_46 rfl ?_
  refine mm_iconst (v := 1) dX11_feed_47 (by decide) ?_
  refine mm_isub dX11_feed_48 ?_
  refine mm_istore [some (.ref 0), some (.long b), none, some (.int 2), some (.int (2 - 1))] dX11_feed_49 (by decide) rfl ?_
  refine mm_iload dX11_feed_51 rfl ?_
  refine mm_if_lt 77 dX11_feed_53 (by decide) (fun h => absurd h (by decide)) (fun _ => ?_)
  refine mm_aload_n dX11_feed_56 rfl rfl ?_
  refine mm_get3 (ci := 11) in_X11 rfl (k := 0) (by decide) rfl kF_X11_14 dX11_feed_57 h0 (Nat.le_of_ble_eq_true rfl) rfl ?_
  refine mm_lload_n dX11_feed_60 rfl ?_
  refine mm_bipush (v := 8) dX11_feed_61 (by decide) ?_
  refine mm_iload dX11_feed_63 rfl ?_
  refine mm_imul dX11_feed_65 ?_
  refine mm_lushr dX11_feed_66 ?_
  refine mm_l2i dX11_feed_67 ?_
  refine mm_callV3 (ci := 0) wM_X0_add kM_X11_83 wI_X0_add wS_X0_add dX11_feed_68 (k351_X0_add hst _ b h1 h2) h1 (Nat.le_of_ble_eq_true rfl) rfl rfl rfl (Nat.le_of_ble_eq_true rfl) (by omega) (by omega) (fun v S9 hq => ?_)
  obtain ⟨M352, z352⟩ := S9
  obtain ⟨rfl, hz352, g352_2, g352_1, g352_F⟩ := hq
  cases hz352
  refine ⟨fun h => ⟨h, rfl⟩, ?_⟩
  refine mm_iinc (v := 0) [some (.ref 0), some (.long b), none, some (.int 2), some (.int 0)] dX11_feed_71 rfl (by decide) (by decide) rfl ?_
  refine mm_goto 51 dX11_feed_74 (by decide) ?_
  refine mm_iload dX11_feed_51 rfl ?_
  refine mm_if_lt 77 dX11_feed_53 (by decide) (fun h => absurd h (by decide)) (fun _ => ?_)
  refine mm_aload_n dX11_feed_56 rfl rfl ?_
  refine mm_get3 (ci := 11) in_X11 rfl (k := 0) (by decide) rfl kF_X11_14 dX11_feed_57 (mm_frN (g352_F _ (by decide) (by decide)) h0) (Nat.le_of_ble_eq_true rfl) rfl ?_
  refine mm_lload_n dX11_feed_60 rfl ?_
  refine mm_bipush (v := 8) dX11_feed_61 (by decide) ?_
  refine mm_iload dX11_feed_63 rfl ?_
  refine mm_imul dX11_feed_65 ?_
  refine mm_lushr dX11_feed_66 ?_
  refine mm_l2i dX11_feed_67 ?_
  refine mm_callV3 (ci := 0) wM_X0_add kM_X11_83 wI_X0_add wS_X0_add dX11_feed_68 (k353_X0_add hst _ b g352_1 g352_2) g352_1 (Nat.le_of_ble_eq_true rfl) rfl rfl rfl (Nat.le_of_ble_eq_true rfl) (by omega) (by omega) (fun v S9 hq => ?_)
  obtain ⟨M354, z354⟩ := S9
  obtain ⟨rfl, hz354, g354_2, g354_1, g354_F⟩ := hq
  cases hz354
  refine ⟨fun h => ⟨h, rfl⟩, ?_⟩
  refine mm_iinc (v := (-1)) [some (.ref 0), some (.long b), none, some (.int 2), some (.int (-1))] dX11_feed_71 rfl (by decide) (by decide) rfl ?_
  refine mm_goto 51 dX11_feed_74 (by decide) ?_
  refine mm_iload dX11_feed_51 rfl ?_
  refine mm_if_lt 77 dX11_feed_53 (by decide) (fun _ => ?_) (fun h => absurd (by decide) h)
  refine mm_aload_n dX11_feed_77 rfl rfl ?_
  refine mm_get3 (ci := 11) in_X11 rfl (k := 0) (by decide) rfl kF_X11_14 dX11_feed_78 (mm_frN (g354_F _ (by decide) (by decide)) (mm_frN (g352_F _ (by decide) (by decide)) h0)) (Nat.le_of_ble_eq_true rfl) rfl ?_
  refine mm_callV3 (ci := 0) wM_X0_size kM_X11_74 wI_X0_size wS_X0_size dX11_feed_81 (k355_X0_size hst _ b g354_1) g354_1 (Nat.le_of_ble_eq_true rfl) rfl rfl rfl (Nat.le_of_ble_eq_true rfl) (by omega) (by omega) (fun v S9 hq => ?_)
  obtain ⟨rfl, rfl⟩ := hq
  refine ⟨fun h => ⟨h, rfl⟩, ?_⟩
  refine mm_iret dX11_feed_84 rfl rfl ?_ (by omega) (by omega)
  refine ⟨rfl, rfl, fun x hx => ?_⟩
  dsimp only
  exact mm_frN (g354_F _ (by omega) (by omega) ) (mm_frN (g352_F _ (by omega) (by omega) ) (rfl))

set_option maxHeartbeats 4000000 in
set_option maxRecDepth 100000 in
theorem k357_X0_size {g : mm_G} {l : Launch} (hst : l.stackTraces = false) {d : Nat} (M : Nat → mm_C) (b : Int64) (h1 : M 1 = .inr (0, [.ref 2, .int 0, .int 0])) : mm_Cm g l yX0_size (.code yX0_size cX0_size 1 (some .int)) d 0 0 [.ref 1] (M, 1186, false) (fun v S' => v = some (.int 0) ∧ S' = (M, 1186, false)) := by
  refine mm_Cm_of hst (by decide) (Nat.le_of_ble_eq_true rfl) ?_
  show mm_V g l RX0 "size" cX0_size 1 (some .int) [] d 0 0 _ 0 [some (.ref 1)] [] (M, 1186, false) 0 0
  refine mm_aload_n dX0_size_0 rfl rfl ?_
  refine mm_get3 (ci := 0) in_X0 rfl (k := 1) (by decide) rfl kF_X0_19 dX0_size_1 h1 (Nat.le_of_ble_eq_true rfl) rfl ?_
  refine mm_iret dX0_size_4 rfl rfl ?_ (by omega) (by omega)
  exact ⟨rfl, rfl⟩

set_option maxHeartbeats 4000000 in
set_option maxRecDepth 100000 in
theorem k359_X0_add {g : mm_G} {l : Launch} (hst : l.stackTraces = false) {d : Nat} (M : Nat → mm_C) (b : Int64) (h1 : M 1 = .inr (0, [.ref 2, .int 0, .int 0])) (h2 : M 2 = .inl (2, 700, .inl (fun _ => 0))) : mm_Cm g l yX0_add (.code yX0_add cX0_add 2 none) d 0 0 [.ref 1, .int ((((b : Int64).toUInt64 >>> ((8 * (3 - 1) : Int32).toInt64.toUInt64 &&& Int64.toUInt64 63)).toInt64 : Int64).toInt32)] (M, 1186, false) (fun v S' => v = none ∧ S'.2 = (1186, false) ∧ S'.1 2 = .inl (2, 700, .inl (upd (fun _ => 0) ((0 : Int32).toNatClampNeg) (vp_nar .byte (((((b : Int64).toUInt64 >>> ((8 * (3 - 1) : Int32).toInt64.toUInt64 &&& Int64.toUInt64 63)).toInt64 : Int64).toInt32 : Int32).toInt8.toInt32)))) ∧ S'.1 1 = .inr (0, [.ref 2, .int (0 + 1), .int 0]) ∧ ∀ j, j ≠ 2 → j ≠ 1 → S'.1 j = M j) := by
  refine mm_Cm_of hst (by decide) (Nat.le_of_ble_eq_true rfl) ?_
  show mm_V g l RX0 "add" cX0_add 2 none [] d 0 0 _ 0 [some (.ref 1), some (.int ((((b : Int64).toUInt64 >>> ((8 * (3 - 1) : Int32).toInt64.toUInt64 &&& Int64.toUInt64 63)).toInt64 : Int64).toInt32))] [] (M, 1186, false) 0 0
  refine mm_aload_n dX0_add_0 rfl rfl ?_
  refine mm_get3 (ci := 0) in_X0 rfl (k := 1) (by decide) rfl kF_X0_19 dX0_add_1 h1 (Nat.le_of_ble_eq_true rfl) rfl ?_
  refine mm_if_lt 43 dX0_add_4 (by decide) (fun h => absurd h (by decide)) (fun _ => ?_)
  refine mm_aload_n dX0_add_7 rfl rfl ?_
  refine mm_get3 (ci := 0) in_X0 rfl (k := 1) (by decide) rfl kF_X0_19 dX0_add_8 h1 (Nat.le_of_ble_eq_true rfl) rfl ?_
  refine mm_aload_n dX0_add_11 rfl rfl ?_
  refine mm_get3 (ci := 0) in_X0 rfl (k := 0) (by decide) rfl kF_X0_13 dX0_add_12 h1 (Nat.le_of_ble_eq_true rfl) rfl ?_
  refine mm_alen3 (v := 700) (fun _ => rfl) h2 (Nat.le_of_ble_eq_true rfl) rfl dX0_add_15 ?_
  refine mm_icmp_ge 43 dX0_add_16 (by decide) (fun h => absurd h (by decide)) (fun _ => ?_)
  refine mm_aload_n dX0_add_19 rfl rfl ?_
  refine mm_get3 (ci := 0) in_X0 rfl (k := 0) (by decide) rfl kF_X0_13 dX0_add_20 h1 (Nat.le_of_ble_eq_true rfl) rfl ?_
  refine mm_aload_n dX0_add_23 rfl rfl ?_
  refine mm_get3 (ci := 0) in_X0 rfl (k := 1) (by decide) rfl kF_X0_19 dX0_add_24 h1 (Nat.le_of_ble_eq_true rfl) rfl ?_
  refine mm_iload_n dX0_add_27 rfl ?_
  refine mm_i2b dX0_add_28 ?_
  refine mm_bast3 h2 (Nat.le_of_ble_eq_true rfl) (by unfold vp_in; decide) dX0_add_29 ?_
  refine mm_aload_n dX0_add_30 rfl rfl ?_
  refine mm_dup dX0_add_31 rfl ?_
  refine mm_get3 (ci := 0) in_X0 rfl (k := 1) (by decide) rfl kF_X0_19 dX0_add_32 (mm_upN (by decide) h1) (Nat.le_of_ble_eq_true rfl) rfl ?_
  refine mm_iconst (v := 1) dX0_add_35 (by decide) ?_
  refine mm_iadd dX0_add_36 ?_
  refine mm_put3 (ci := 0) (fs1 := [.ref 2, .int (0 + 1), .int 0]) in_X0 tyX0_ok nmX0 rfl (k := 1) (by decide) rfl rfl kF_X0_19 dX0_add_37 (mm_fit_int _) (mm_upN (by decide) h1) (Nat.le_of_ble_eq_true rfl) (Nat.le_of_ble_eq_true rfl) rfl ?_
  refine mm_goto 48 dX0_add_40 (by decide) ?_
  refine mm_vret dX0_add_48 rfl ?_ (by omega) (by omega)
  refine ⟨rfl, rfl, ?_⟩
  dsimp only
  exact ⟨(mm_upN (by decide) mm_up_s), mm_up_s, fun x e2 e1 => mm_upN e1 (mm_upN e2 (rfl))⟩

set_option maxHeartbeats 4000000 in
set_option maxRecDepth 100000 in
theorem k361_X0_add {g : mm_G} {l : Launch} (hst : l.stackTraces = false) {d : Nat} (M : Nat → mm_C) (b : Int64) (h1 : M 1 = .inr (0, [.ref 2, .int (0 + 1), .int 0])) (h2 : M 2 = .inl (2, 700, .inl (upd (fun _ => 0) ((0 : Int32).toNatClampNeg) (vp_nar .byte (((((b : Int64).toUInt64 >>> ((8 * (3 - 1) : Int32).toInt64.toUInt64 &&& Int64.toUInt64 63)).toInt64 : Int64).toInt32 : Int32).toInt8.toInt32))))) : mm_Cm g l yX0_add (.code yX0_add cX0_add 2 none) d 0 0 [.ref 1, .int ((((b : Int64).toUInt64 >>> ((8 * 1 : Int32).toInt64.toUInt64 &&& Int64.toUInt64 63)).toInt64 : Int64).toInt32)] (M, 1186, false) (fun v S' => v = none ∧ S'.2 = (1186, false) ∧ S'.1 2 = .inl (2, 700, .inl (upd (upd (fun _ => 0) ((0 : Int32).toNatClampNeg) (vp_nar .byte (((((b : Int64).toUInt64 >>> ((8 * (3 - 1) : Int32).toInt64.toUInt64 &&& Int64.toUInt64 63)).toInt64 : Int64).toInt32 : Int32).toInt8.toInt32))) ((0 + 1 : Int32).toNatClampNeg) (vp_nar .byte (((((b : Int64).toUInt64 >>> ((8 * 1 : Int32).toInt64.toUInt64 &&& Int64.toUInt64 63)).toInt64 : Int64).toInt32 : Int32).toInt8.toInt32)))) ∧ S'.1 1 = .inr (0, [.ref 2, .int ((0 + 1) + 1), .int 0]) ∧ ∀ j, j ≠ 2 → j ≠ 1 → S'.1 j = M j) := by
  refine mm_Cm_of hst (by decide) (Nat.le_of_ble_eq_true rfl) ?_
  show mm_V g l RX0 "add" cX0_add 2 none [] d 0 0 _ 0 [some (.ref 1), some (.int ((((b : Int64).toUInt64 >>> ((8 * 1 : Int32).toInt64.toUInt64 &&& Int64.toUInt64 63)).toInt64 : Int64).toInt32))] [] (M, 1186, false) 0 0
  refine mm_aload_n dX0_add_0 rfl rfl ?_
  refine mm_get3 (ci := 0) in_X0 rfl (k := 1) (by decide) rfl kF_X0_19 dX0_add_1 h1 (Nat.le_of_ble_eq_true rfl) rfl ?_
  refine mm_if_lt 43 dX0_add_4 (by decide) (fun h => absurd h (by decide)) (fun _ => ?_)
  refine mm_aload_n dX0_add_7 rfl rfl ?_
  refine mm_get3 (ci := 0) in_X0 rfl (k := 1) (by decide) rfl kF_X0_19 dX0_add_8 h1 (Nat.le_of_ble_eq_true rfl) rfl ?_
  refine mm_aload_n dX0_add_11 rfl rfl ?_
  refine mm_get3 (ci := 0) in_X0 rfl (k := 0) (by decide) rfl kF_X0_13 dX0_add_12 h1 (Nat.le_of_ble_eq_true rfl) rfl ?_
  refine mm_alen3 (v := 700) (fun _ => rfl) h2 (Nat.le_of_ble_eq_true rfl) rfl dX0_add_15 ?_
  refine mm_icmp_ge 43 dX0_add_16 (by decide) (fun h => absurd h (by decide)) (fun _ => ?_)
  refine mm_aload_n dX0_add_19 rfl rfl ?_
  refine mm_get3 (ci := 0) in_X0 rfl (k := 0) (by decide) rfl kF_X0_13 dX0_add_20 h1 (Nat.le_of_ble_eq_true rfl) rfl ?_
  refine mm_aload_n dX0_add_23 rfl rfl ?_
  refine mm_get3 (ci := 0) in_X0 rfl (k := 1) (by decide) rfl kF_X0_19 dX0_add_24 h1 (Nat.le_of_ble_eq_true rfl) rfl ?_
  refine mm_iload_n dX0_add_27 rfl ?_
  refine mm_i2b dX0_add_28 ?_
  refine mm_bast3 h2 (Nat.le_of_ble_eq_true rfl) (by unfold vp_in; decide) dX0_add_29 ?_
  refine mm_aload_n dX0_add_30 rfl rfl ?_
  refine mm_dup dX0_add_31 rfl ?_
  refine mm_get3 (ci := 0) in_X0 rfl (k := 1) (by decide) rfl kF_X0_19 dX0_add_32 (mm_upN (by decide) h1) (Nat.le_of_ble_eq_true rfl) rfl ?_
  refine mm_iconst (v := 1) dX0_add_35 (by decide) ?_
  refine mm_iadd dX0_add_36 ?_
  refine mm_put3 (ci := 0) (fs1 := [.ref 2, .int ((0 + 1) + 1), .int 0]) in_X0 tyX0_ok nmX0 rfl (k := 1) (by decide) rfl rfl kF_X0_19 dX0_add_37 (mm_fit_int _) (mm_upN (by decide) h1) (Nat.le_of_ble_eq_true rfl) (Nat.le_of_ble_eq_true rfl) rfl ?_
  refine mm_goto 48 dX0_add_40 (by decide) ?_
  refine mm_vret dX0_add_48 rfl ?_ (by omega) (by omega)
  refine ⟨rfl, rfl, ?_⟩
  dsimp only
  exact ⟨(mm_upN (by decide) mm_up_s), mm_up_s, fun x e2 e1 => mm_upN e1 (mm_upN e2 (rfl))⟩

set_option maxHeartbeats 4000000 in
set_option maxRecDepth 100000 in
theorem k363_X0_add {g : mm_G} {l : Launch} (hst : l.stackTraces = false) {d : Nat} (M : Nat → mm_C) (b : Int64) (h1 : M 1 = .inr (0, [.ref 2, .int ((0 + 1) + 1), .int 0])) (h2 : M 2 = .inl (2, 700, .inl (upd (upd (fun _ => 0) ((0 : Int32).toNatClampNeg) (vp_nar .byte (((((b : Int64).toUInt64 >>> ((8 * (3 - 1) : Int32).toInt64.toUInt64 &&& Int64.toUInt64 63)).toInt64 : Int64).toInt32 : Int32).toInt8.toInt32))) ((0 + 1 : Int32).toNatClampNeg) (vp_nar .byte (((((b : Int64).toUInt64 >>> ((8 * 1 : Int32).toInt64.toUInt64 &&& Int64.toUInt64 63)).toInt64 : Int64).toInt32 : Int32).toInt8.toInt32))))) : mm_Cm g l yX0_add (.code yX0_add cX0_add 2 none) d 0 0 [.ref 1, .int ((((b : Int64).toUInt64 >>> ((8 * 0 : Int32).toInt64.toUInt64 &&& Int64.toUInt64 63)).toInt64 : Int64).toInt32)] (M, 1186, false) (fun v S' => v = none ∧ S'.2 = (1186, false) ∧ S'.1 2 = .inl (2, 700, .inl (upd (upd (upd (fun _ => 0) ((0 : Int32).toNatClampNeg) (vp_nar .byte (((((b : Int64).toUInt64 >>> ((8 * (3 - 1) : Int32).toInt64.toUInt64 &&& Int64.toUInt64 63)).toInt64 : Int64).toInt32 : Int32).toInt8.toInt32))) ((0 + 1 : Int32).toNatClampNeg) (vp_nar .byte (((((b : Int64).toUInt64 >>> ((8 * 1 : Int32).toInt64.toUInt64 &&& Int64.toUInt64 63)).toInt64 : Int64).toInt32 : Int32).toInt8.toInt32))) (((0 + 1) + 1 : Int32).toNatClampNeg) (vp_nar .byte (((((b : Int64).toUInt64 >>> ((8 * 0 : Int32).toInt64.toUInt64 &&& Int64.toUInt64 63)).toInt64 : Int64).toInt32 : Int32).toInt8.toInt32)))) ∧ S'.1 1 = .inr (0, [.ref 2, .int (((0 + 1) + 1) + 1), .int 0]) ∧ ∀ j, j ≠ 2 → j ≠ 1 → S'.1 j = M j) := by
  refine mm_Cm_of hst (by decide) (Nat.le_of_ble_eq_true rfl) ?_
  show mm_V g l RX0 "add" cX0_add 2 none [] d 0 0 _ 0 [some (.ref 1), some (.int ((((b : Int64).toUInt64 >>> ((8 * 0 : Int32).toInt64.toUInt64 &&& Int64.toUInt64 63)).toInt64 : Int64).toInt32))] [] (M, 1186, false) 0 0
  refine mm_aload_n dX0_add_0 rfl rfl ?_
  refine mm_get3 (ci := 0) in_X0 rfl (k := 1) (by decide) rfl kF_X0_19 dX0_add_1 h1 (Nat.le_of_ble_eq_true rfl) rfl ?_
  refine mm_if_lt 43 dX0_add_4 (by decide) (fun h => absurd h (by decide)) (fun _ => ?_)
  refine mm_aload_n dX0_add_7 rfl rfl ?_
  refine mm_get3 (ci := 0) in_X0 rfl (k := 1) (by decide) rfl kF_X0_19 dX0_add_8 h1 (Nat.le_of_ble_eq_true rfl) rfl ?_
  refine mm_aload_n dX0_add_11 rfl rfl ?_
  refine mm_get3 (ci := 0) in_X0 rfl (k := 0) (by decide) rfl kF_X0_13 dX0_add_12 h1 (Nat.le_of_ble_eq_true rfl) rfl ?_
  refine mm_alen3 (v := 700) (fun _ => rfl) h2 (Nat.le_of_ble_eq_true rfl) rfl dX0_add_15 ?_
  refine mm_icmp_ge 43 dX0_add_16 (by decide) (fun h => absurd h (by decide)) (fun _ => ?_)
  refine mm_aload_n dX0_add_19 rfl rfl ?_
  refine mm_get3 (ci := 0) in_X0 rfl (k := 0) (by decide) rfl kF_X0_13 dX0_add_20 h1 (Nat.le_of_ble_eq_true rfl) rfl ?_
  refine mm_aload_n dX0_add_23 rfl rfl ?_
  refine mm_get3 (ci := 0) in_X0 rfl (k := 1) (by decide) rfl kF_X0_19 dX0_add_24 h1 (Nat.le_of_ble_eq_true rfl) rfl ?_
  refine mm_iload_n dX0_add_27 rfl ?_
  refine mm_i2b dX0_add_28 ?_
  refine mm_bast3 h2 (Nat.le_of_ble_eq_true rfl) (by unfold vp_in; decide) dX0_add_29 ?_
  refine mm_aload_n dX0_add_30 rfl rfl ?_
  refine mm_dup dX0_add_31 rfl ?_
  refine mm_get3 (ci := 0) in_X0 rfl (k := 1) (by decide) rfl kF_X0_19 dX0_add_32 (mm_upN (by decide) h1) (Nat.le_of_ble_eq_true rfl) rfl ?_
  refine mm_iconst (v := 1) dX0_add_35 (by decide) ?_
  refine mm_iadd dX0_add_36 ?_
  refine mm_put3 (ci := 0) (fs1 := [.ref 2, .int (((0 + 1) + 1) + 1), .int 0]) in_X0 tyX0_ok nmX0 rfl (k := 1) (by decide) rfl rfl kF_X0_19 dX0_add_37 (mm_fit_int _) (mm_upN (by decide) h1) (Nat.le_of_ble_eq_true rfl) (Nat.le_of_ble_eq_true rfl) rfl ?_
  refine mm_goto 48 dX0_add_40 (by decide) ?_
  refine mm_vret dX0_add_48 rfl ?_ (by omega) (by omega)
  refine ⟨rfl, rfl, ?_⟩
  dsimp only
  exact ⟨(mm_upN (by decide) mm_up_s), mm_up_s, fun x e2 e1 => mm_upN e1 (mm_upN e2 (rfl))⟩

set_option maxHeartbeats 4000000 in
set_option maxRecDepth 100000 in
theorem k365_X0_size {g : mm_G} {l : Launch} (hst : l.stackTraces = false) {d : Nat} (M : Nat → mm_C) (b : Int64) (h1 : M 1 = .inr (0, [.ref 2, .int (((0 + 1) + 1) + 1), .int 0])) : mm_Cm g l yX0_size (.code yX0_size cX0_size 1 (some .int)) d 0 0 [.ref 1] (M, 1186, false) (fun v S' => v = some (.int (((0 + 1) + 1) + 1)) ∧ S' = (M, 1186, false)) := by
  refine mm_Cm_of hst (by decide) (Nat.le_of_ble_eq_true rfl) ?_
  show mm_V g l RX0 "size" cX0_size 1 (some .int) [] d 0 0 _ 0 [some (.ref 1)] [] (M, 1186, false) 0 0
  refine mm_aload_n dX0_size_0 rfl rfl ?_
  refine mm_get3 (ci := 0) in_X0 rfl (k := 1) (by decide) rfl kF_X0_19 dX0_size_1 h1 (Nat.le_of_ble_eq_true rfl) rfl ?_
  refine mm_iret dX0_size_4 rfl rfl ?_ (by omega) (by omega)
  exact ⟨rfl, rfl⟩

set_option maxHeartbeats 4000000 in
set_option maxRecDepth 100000 in
theorem f_feed_3 {g : mm_G} {l : Launch} (hst : l.stackTraces = false) {d : Nat} (M : Nat → mm_C) (b : Int64) (h0 : M 0 = .inr (11, [.ref 1, .ref 3, .ref 5, .ref 197, .ref 389, .ref 1094, .ref 1095, .ref 1097, .int (-1)])) (h1 : M 1 = .inr (0, [.ref 2, .int 0, .int 0])) (h2 : M 2 = .inl (2, 700, .inl (fun _ => 0))) : mm_Ct g l yX11_feed (.code yX11_feed cX11_feed 5 (some .int)) (d + 1) 0 0 [.ref 0, .long b, .int 3] (M, 1186, false) (fun r S' => r = .inl (some (.int (((0 + 1) + 1) + 1))) ∧ S'.2 = (1186, false) ∧ ∀ j, 1101 ≤ j → S'.1 j = M j) := by
  refine mm_Ct_of hst (by decide) (Nat.le_of_ble_eq_true rfl) ?_
  show mm_V g l RX11 "feed" cX11_feed 5 (some .int) [] (d + 1) 0 0 _ 0 [some (.ref 0), some (.long b), none, some (.int 3), none] [] (M, 1186, false) 0 0
  refine mm_iload_n dX11_feed_0 rfl ?_
  refine mm_iconst (v := 1) dX11_feed_1 (by decide) ?_
  refine mm_icmp_lt 11 dX11_feed_2 (by decide) (fun h => absurd h (by decide)) (fun _ => ?_)
  refine mm_iload_n dX11_feed_5 rfl ?_
  refine mm_bipush (v := 8) dX11_feed_6 (by decide) ?_
  refine mm_icmp_le 21 dX11_feed_8 (by decide) (fun _ => ?_) (fun h => absurd (by decide) h)
  refine mm_aload_n dX11_feed_21 rfl rfl ?_
  refine mm_get3 (ci := 11) in_X11 rfl (k := 0) (by decide) rfl kF_X11_14 dX11_feed_22 h0 (Nat.le_of_ble_eq_true rfl) rfl ?_
  refine mm_callV3 (ci := 0) wM_X0_size kM_X11_74 wI_X0_size wS_X0_size dX11_feed_25 (k357_X0_size hst _ b h1) h1 (Nat.le_of_ble_eq_true rfl) rfl rfl rfl (Nat.le_of_ble_eq_true rfl) (by omega) (by omega) (fun v S9 hq => ?_)
  obtain ⟨rfl, rfl⟩ := hq
  refine ⟨fun h => ⟨h, rfl⟩, ?_⟩
  refine mm_iload_n dX11_feed_28 rfl ?_
  refine mm_iadd dX11_feed_29 ?_
  refine mm_sipush (v := 700) dX11_feed_30 (by decide) ?_
  refine mm_icmp_le 46 dX11_feed_33 (by decide) (fun _ => ?_) (fun h => absurd (by decide) h)
  refine mm_iload_n dX11_feed_46 rfl ?_
  refine mm_iconst (v := 1) dX11_feed_47 (by decide) ?_
  refine mm_isub dX11_feed_48 ?_
  refine mm_istore [some (.ref 0), some (.long b), none, some (.int 3), some (.int (3 - 1))] dX11_feed_49 (by decide) rfl ?_
  refine mm_iload dX11_feed_51 rfl ?_
  refine mm_if_lt 77 dX11_feed_53 (by decide) (fun h => absurd h (by decide)) (fun _ => ?_)
  refine mm_aload_n dX11_feed_56 rfl rfl ?_
  refine mm_get3 (ci := 11) in_X11 rfl (k := 0) (by decide) rfl kF_X11_14 dX11_feed_57 h0 (Nat.le_of_ble_eq_true rfl) rfl ?_
  refine mm_lload_n dX11_feed_60 rfl ?_
  refine mm_bipush (v := 8) dX11_feed_61 (by decide) ?_
  refine mm_iload dX11_feed_63 rfl ?_
  refine mm_imul dX11_feed_65 ?_
  refine mm_lushr dX11_feed_66 ?_
  refine mm_l2i dX11_feed_67 ?_
  refine mm_callV3 (ci := 0) wM_X0_add kM_X11_83 wI_X0_add wS_X0_add dX11_feed_68 (k359_X0_add hst _ b h1 h2) h1 (Nat.le_of_ble_eq_true rfl) rfl rfl rfl (Nat.le_of_ble_eq_true rfl) (by omega) (by omega) (fun v S9 hq => ?_)
  obtain ⟨M360, z360⟩ := S9
  obtain ⟨rfl, hz360, g360_2, g360_1, g360_F⟩ := hq
  cases hz360
  refine ⟨fun h => ⟨h, rfl⟩, ?_⟩
  refine mm_iinc (v := 1) [some (.ref 0), some (.long b), none, some (.int 3), some (.int 1)] dX11_feed_71 rfl (by decide) (by decide) rfl ?_
  refine mm_goto 51 dX11_feed_74 (by decide) ?_
  refine mm_iload dX11_feed_51 rfl ?_
  refine mm_if_lt 77 dX11_feed_53 (by decide) (fun h => absurd h (by decide)) (fun _ => ?_)
  refine mm_aload_n dX11_feed_56 rfl rfl ?_
  refine mm_get3 (ci := 11) in_X11 rfl (k := 0) (by decide) rfl kF_X11_14 dX11_feed_57 (mm_frN (g360_F _ (by decide) (by decide)) h0) (Nat.le_of_ble_eq_true rfl) rfl ?_
  refine mm_lload_n dX11_feed_60 rfl ?_
  refine mm_bipush (v := 8) dX11_feed_61 (by decide) ?_
  refine mm_iload dX11_feed_63 rfl ?_
  refine mm_imul dX11_feed_65 ?_
  refine mm_lushr dX11_feed_66 ?_
  refine mm_l2i dX11_feed_67 ?_
  refine mm_callV3 (ci := 0) wM_X0_add kM_X11_83 wI_X0_add wS_X0_add dX11_feed_68 (k361_X0_add hst _ b g360_1 g360_2) g360_1 (Nat.le_of_ble_eq_true rfl) rfl rfl rfl (Nat.le_of_ble_eq_true rfl) (by omega) (by omega) (fun v S9 hq => ?_)
  obtain ⟨M362, z362⟩ := S9
  obtain ⟨rfl, hz362, g362_2, g362_1, g362_F⟩ := hq
  cases hz362
  refine ⟨fun h => ⟨h, rfl⟩, ?_⟩
  refine mm_iinc (v := 0) [some (.ref 0), some (.long b), none, some (.int 3), some (.int 0)] dX11_feed_71 rfl (by decide) (by decide) rfl ?_
  refine mm_goto 51 dX11_feed_74 (by decide) ?_
  refine mm_iload dX11_feed_51 rfl ?_
  refine mm_if_lt 77 dX11_feed_53 (by decide) (fun h => absurd h (by decide)) (fun _ => ?_)
  refine mm_aload_n dX11_feed_56 rfl rfl ?_
  refine mm_get3 (ci := 11) in_X11 rfl (k := 0) (by decide) rfl kF_X11_14 dX11_feed_57 (mm_frN (g362_F _ (by decide) (by decide)) (mm_frN (g360_F _ (by decide) (by decide)) h0)) (Nat.le_of_ble_eq_true rfl) rfl ?_
  refine mm_lload_n dX11_feed_60 rfl ?_
  refine mm_bipush (v := 8) dX11_feed_61 (by decide) ?_
  refine mm_iload dX11_feed_63 rfl ?_
  refine mm_imul dX11_feed_65 ?_
  refine mm_lushr dX11_feed_66 ?_
  refine mm_l2i dX11_feed_67 ?_
  refine mm_callV3 (ci := 0) wM_X0_add kM_X11_83 wI_X0_add wS_X0_add dX11_feed_68 (k363_X0_add hst _ b g362_1 g362_2) g362_1 (Nat.le_of_ble_eq_true rfl) rfl rfl rfl (Nat.le_of_ble_eq_true rfl) (by omega) (by omega) (fun v S9 hq => ?_)
  obtain ⟨M364, z364⟩ := S9
  obtain ⟨rfl, hz364, g364_2, g364_1, g364_F⟩ := hq
  cases hz364
  refine ⟨fun h => ⟨h, rfl⟩, ?_⟩
  refine mm_iinc (v := (-1)) [some (.ref 0), some (.long b), none, some (.int 3), some (.int (-1))] dX11_feed_71 rfl (by decide) (by decide) rfl ?_
  refine mm_goto 51 dX11_feed_74 (by decide) ?_
  refine mm_iload dX11_feed_51 rfl ?_
  refine mm_if_lt 77 dX11_feed_53 (by decide) (fun _ => ?_) (fun h => absurd (by decide) h)
  refine mm_aload_n dX11_feed_77 rfl rfl ?_
  refine mm_get3 (ci := 11) in_X11 rfl (k := 0) (by decide) rfl kF_X11_14 dX11_feed_78 (mm_frN (g364_F _ (by decide) (by decide)) (mm_frN (g362_F _ (by decide) (by decide)) (mm_frN (g360_F _ (by decide) (by decide)) h0))) (Nat.le_of_ble_eq_true rfl) rfl ?_
  refine mm_callV3 (ci := 0) wM_X0_size kM_X11_74 wI_X0_size wS_X0_size dX11_feed_81 (k365_X0_size hst _ b g364_1) g364_1 (Nat.le_of_ble_eq_true rfl) rfl rfl rfl (Nat.le_of_ble_eq_true rfl) (by omega) (by omega) (fun v S9 hq => ?_)
  obtain ⟨rfl, rfl⟩ := hq
  refine ⟨fun h => ⟨h, rfl⟩, ?_⟩
  refine mm_iret dX11_feed_84 rfl rfl ?_ (by omega) (by omega)
  refine ⟨rfl, rfl, fun x hx => ?_⟩
  dsimp only
  exact mm_frN (g364_F _ (by omega) (by omega) ) (mm_frN (g362_F _ (by omega) (by omega) ) (mm_frN (g360_F _ (by omega) (by omega) ) (rfl)))

set_option maxHeartbeats 4000000 in
set_option maxRecDepth 100000 in
theorem k367_X0_size {g : mm_G} {l : Launch} (hst : l.stackTraces = false) {d : Nat} (M : Nat → mm_C) (b : Int64) (h1 : M 1 = .inr (0, [.ref 2, .int 0, .int 0])) : mm_Cm g l yX0_size (.code yX0_size cX0_size 1 (some .int)) d 0 0 [.ref 1] (M, 1186, false) (fun v S' => v = some (.int 0) ∧ S' = (M, 1186, false)) := by
  refine mm_Cm_of hst (by decide) (Nat.le_of_ble_eq_true rfl) ?_
  show mm_V g l RX0 "size" cX0_size 1 (some .int) [] d 0 0 _ 0 [some (.ref 1)] [] (M, 1186, false) 0 0
  refine mm_aload_n dX0_size_0 rfl rfl ?_
  refine mm_get3 (ci := 0) in_X0 rfl (k := 1) (by decide) rfl kF_X0_19 dX0_size_1 h1 (Nat.le_of_ble_eq_true rfl) rfl ?_
  refine mm_iret dX0_size_4 rfl rfl ?_ (by omega) (by omega)
  exact ⟨rfl, rfl⟩

set_option maxHeartbeats 4000000 in
set_option maxRecDepth 100000 in
theorem k369_X0_add {g : mm_G} {l : Launch} (hst : l.stackTraces = false) {d : Nat} (M : Nat → mm_C) (b : Int64) (h1 : M 1 = .inr (0, [.ref 2, .int 0, .int 0])) (h2 : M 2 = .inl (2, 700, .inl (fun _ => 0))) : mm_Cm g l yX0_add (.code yX0_add cX0_add 2 none) d 0 0 [.ref 1, .int ((((b : Int64).toUInt64 >>> ((8 * (4 - 1) : Int32).toInt64.toUInt64 &&& Int64.toUInt64 63)).toInt64 : Int64).toInt32)] (M, 1186, false) (fun v S' => v = none ∧ S'.2 = (1186, false) ∧ S'.1 2 = .inl (2, 700, .inl (upd (fun _ => 0) ((0 : Int32).toNatClampNeg) (vp_nar .byte (((((b : Int64).toUInt64 >>> ((8 * (4 - 1) : Int32).toInt64.toUInt64 &&& Int64.toUInt64 63)).toInt64 : Int64).toInt32 : Int32).toInt8.toInt32)))) ∧ S'.1 1 = .inr (0, [.ref 2, .int (0 + 1), .int 0]) ∧ ∀ j, j ≠ 2 → j ≠ 1 → S'.1 j = M j) := by
  refine mm_Cm_of hst (by decide) (Nat.le_of_ble_eq_true rfl) ?_
  show mm_V g l RX0 "add" cX0_add 2 none [] d 0 0 _ 0 [some (.ref 1), some (.int ((((b : Int64).toUInt64 >>> ((8 * (4 - 1) : Int32).toInt64.toUInt64 &&& Int64.toUInt64 63)).toInt64 : Int64).toInt32))] [] (M, 1186, false) 0 0
  refine mm_aload_n dX0_add_0 rfl rfl ?_
  refine mm_get3 (ci := 0) in_X0 rfl (k := 1) (by decide) rfl kF_X0_19 dX0_add_1 h1 (Nat.le_of_ble_eq_true rfl) rfl ?_
  refine mm_if_lt 43 dX0_add_4 (by decide) (fun h => absurd h (by decide)) (fun _ => ?_)
  refine mm_aload_n dX0_add_7 rfl rfl ?_
  refine mm_get3 (ci := 0) in_X0 rfl (k := 1) (by decide) rfl kF_X0_19 dX0_add_8 h1 (Nat.le_of_ble_eq_true rfl) rfl ?_
  refine mm_aload_n dX0_add_11 rfl rfl ?_
  refine mm_get3 (ci := 0) in_X0 rfl (k := 0) (by decide) rfl kF_X0_13 dX0_add_12 h1 (Nat.le_of_ble_eq_true rfl) rfl ?_
  refine mm_alen3 (v := 700) (fun _ => rfl) h2 (Nat.le_of_ble_eq_true rfl) rfl dX0_add_15 ?_
  refine mm_icmp_ge 43 dX0_add_16 (by decide) (fun h => absurd h (by decide)) (fun _ => ?_)
  refine mm_aload_n dX0_add_19 rfl rfl ?_
  refine mm_get3 (ci := 0) in_X0 rfl (k := 0) (by decide) rfl kF_X0_13 dX0_add_20 h1 (Nat.le_of_ble_eq_true rfl) rfl ?_
  refine mm_aload_n dX0_add_23 rfl rfl ?_
  refine mm_get3 (ci := 0) in_X0 rfl (k := 1) (by decide) rfl kF_X0_19 dX0_add_24 h1 (Nat.le_of_ble_eq_true rfl) rfl ?_
  refine mm_iload_n dX0_add_27 rfl ?_
  refine mm_i2b dX0_add_28 ?_
  refine mm_bast3 h2 (Nat.le_of_ble_eq_true rfl) (by unfold vp_in; decide) dX0_add_29 ?_
  refine mm_aload_n dX0_add_30 rfl rfl ?_
  refine mm_dup dX0_add_31 rfl ?_
  refine mm_get3 (ci := 0) in_X0 rfl (k := 1) (by decide) rfl kF_X0_19 dX0_add_32 (mm_upN (by decide) h1) (Nat.le_of_ble_eq_true rfl) rfl ?_
  refine mm_iconst (v := 1) dX0_add_35 (by decide) ?_
  refine mm_iadd dX0_add_36 ?_
  refine mm_put3 (ci := 0) (fs1 := [.ref 2, .int (0 + 1), .int 0]) in_X0 tyX0_ok nmX0 rfl (k := 1) (by decide) rfl rfl kF_X0_19 dX0_add_37 (mm_fit_int _) (mm_upN (by decide) h1) (Nat.le_of_ble_eq_true rfl) (Nat.le_of_ble_eq_true rfl) rfl ?_
  refine mm_goto 48 dX0_add_40 (by decide) ?_
  refine mm_vret dX0_add_48 rfl ?_ (by omega) (by omega)
  refine ⟨rfl, rfl, ?_⟩
  dsimp only
  exact ⟨(mm_upN (by decide) mm_up_s), mm_up_s, fun x e2 e1 => mm_upN e1 (mm_upN e2 (rfl))⟩

set_option maxHeartbeats 4000000 in
set_option maxRecDepth 100000 in
theorem k371_X0_add {g : mm_G} {l : Launch} (hst : l.stackTraces = false) {d : Nat} (M : Nat → mm_C) (b : Int64) (h1 : M 1 = .inr (0, [.ref 2, .int (0 + 1), .int 0])) (h2 : M 2 = .inl (2, 700, .inl (upd (fun _ => 0) ((0 : Int32).toNatClampNeg) (vp_nar .byte (((((b : Int64).toUInt64 >>> ((8 * (4 - 1) : Int32).toInt64.toUInt64 &&& Int64.toUInt64 63)).toInt64 : Int64).toInt32 : Int32).toInt8.toInt32))))) : mm_Cm g l yX0_add (.code yX0_add cX0_add 2 none) d 0 0 [.ref 1, .int ((((b : Int64).toUInt64 >>> ((8 * 2 : Int32).toInt64.toUInt64 &&& Int64.toUInt64 63)).toInt64 : Int64).toInt32)] (M, 1186, false) (fun v S' => v = none ∧ S'.2 = (1186, false) ∧ S'.1 2 = .inl (2, 700, .inl (upd (upd (fun _ => 0) ((0 : Int32).toNatClampNeg) (vp_nar .byte (((((b : Int64).toUInt64 >>> ((8 * (4 - 1) : Int32).toInt64.toUInt64 &&& Int64.toUInt64 63)).toInt64 : Int64).toInt32 : Int32).toInt8.toInt32))) ((0 + 1 : Int32).toNatClampNeg) (vp_nar .byte (((((b : Int64).toUInt64 >>> ((8 * 2 : Int32).toInt64.toUInt64 &&& Int64.toUInt64 63)).toInt64 : Int64).toInt32 : Int32).toInt8.toInt32)))) ∧ S'.1 1 = .inr (0, [.ref 2, .int ((0 + 1) + 1), .int 0]) ∧ ∀ j, j ≠ 2 → j ≠ 1 → S'.1 j = M j) := by
  refine mm_Cm_of hst (by decide) (Nat.le_of_ble_eq_true rfl) ?_
  show mm_V g l RX0 "add" cX0_add 2 none [] d 0 0 _ 0 [some (.ref 1), some (.int ((((b : Int64).toUInt64 >>> ((8 * 2 : Int32).toInt64.toUInt64 &&& Int64.toUInt64 63)).toInt64 : Int64).toInt32))] [] (M, 1186, false) 0 0
  refine mm_aload_n dX0_add_0 rfl rfl ?_
  refine mm_get3 (ci := 0) in_X0 rfl (k := 1) (by decide) rfl kF_X0_19 dX0_add_1 h1 (Nat.le_of_ble_eq_true rfl) rfl ?_
  refine mm_if_lt 43 dX0_add_4 (by decide) (fun h => absurd h (by decide)) (fun _ => ?_)
  refine mm_aload_n dX0_add_7 rfl rfl ?_
  refine mm_get3 (ci := 0) in_X0 rfl (k := 1) (by decide) rfl kF_X0_19 dX0_add_8 h1 (Nat.le_of_ble_eq_true rfl) rfl ?_
  refine mm_aload_n dX0_add_11 rfl rfl ?_
  refine mm_get3 (ci := 0) in_X0 rfl (k := 0) (by decide) rfl kF_X0_13 dX0_add_12 h1 (Nat.le_of_ble_eq_true rfl) rfl ?_
  refine mm_alen3 (v := 700) (fun _ => rfl) h2 (Nat.le_of_ble_eq_true rfl) rfl dX0_add_15 ?_
  refine mm_icmp_ge 43 dX0_add_16 (by decide) (fun h => absurd h (by decide)) (fun _ => ?_)
  refine mm_aload_n dX0_add_19 rfl rfl ?_
  refine mm_get3 (ci := 0) in_X0 rfl (k := 0) (by decide) rfl kF_X0_13 dX0_add_20 h1 (Nat.le_of_ble_eq_true rfl) rfl ?_
  refine mm_aload_n dX0_add_23 rfl rfl ?_
  refine mm_get3 (ci := 0) in_X0 rfl (k := 1) (by decide) rfl kF_X0_19 dX0_add_24 h1 (Nat.le_of_ble_eq_true rfl) rfl ?_
  refine mm_iload_n dX0_add_27 rfl ?_
  refine mm_i2b dX0_add_28 ?_
  refine mm_bast3 h2 (Nat.le_of_ble_eq_true rfl) (by unfold vp_in; decide) dX0_add_29 ?_
  refine mm_aload_n dX0_add_30 rfl rfl ?_
  refine mm_dup dX0_add_31 rfl ?_
  refine mm_get3 (ci := 0) in_X0 rfl (k := 1) (by decide) rfl kF_X0_19 dX0_add_32 (mm_upN (by decide) h1) (Nat.le_of_ble_eq_true rfl) rfl ?_
  refine mm_iconst (v := 1) dX0_add_35 (by decide) ?_
  refine mm_iadd dX0_add_36 ?_
  refine mm_put3 (ci := 0) (fs1 := [.ref 2, .int ((0 + 1) + 1), .int 0]) in_X0 tyX0_ok nmX0 rfl (k := 1) (by decide) rfl rfl kF_X0_19 dX0_add_37 (mm_fit_int _) (mm_upN (by decide) h1) (Nat.le_of_ble_eq_true rfl) (Nat.le_of_ble_eq_true rfl) rfl ?_
  refine mm_goto 48 dX0_add_40 (by decide) ?_
  refine mm_vret dX0_add_48 rfl ?_ (by omega) (by omega)
  refine ⟨rfl, rfl, ?_⟩
  dsimp only
  exact ⟨(mm_upN (by decide) mm_up_s), mm_up_s, fun x e2 e1 => mm_upN e1 (mm_upN e2 (rfl))⟩

set_option maxHeartbeats 4000000 in
set_option maxRecDepth 100000 in
theorem k373_X0_add {g : mm_G} {l : Launch} (hst : l.stackTraces = false) {d : Nat} (M : Nat → mm_C) (b : Int64) (h1 : M 1 = .inr (0, [.ref 2, .int ((0 + 1) + 1), .int 0])) (h2 : M 2 = .inl (2, 700, .inl (upd (upd (fun _ => 0) ((0 : Int32).toNatClampNeg) (vp_nar .byte (((((b : Int64).toUInt64 >>> ((8 * (4 - 1) : Int32).toInt64.toUInt64 &&& Int64.toUInt64 63)).toInt64 : Int64).toInt32 : Int32).toInt8.toInt32))) ((0 + 1 : Int32).toNatClampNeg) (vp_nar .byte (((((b : Int64).toUInt64 >>> ((8 * 2 : Int32).toInt64.toUInt64 &&& Int64.toUInt64 63)).toInt64 : Int64).toInt32 : Int32).toInt8.toInt32))))) : mm_Cm g l yX0_add (.code yX0_add cX0_add 2 none) d 0 0 [.ref 1, .int ((((b : Int64).toUInt64 >>> ((8 * 1 : Int32).toInt64.toUInt64 &&& Int64.toUInt64 63)).toInt64 : Int64).toInt32)] (M, 1186, false) (fun v S' => v = none ∧ S'.2 = (1186, false) ∧ S'.1 2 = .inl (2, 700, .inl (upd (upd (upd (fun _ => 0) ((0 : Int32).toNatClampNeg) (vp_nar .byte (((((b : Int64).toUInt64 >>> ((8 * (4 - 1) : Int32).toInt64.toUInt64 &&& Int64.toUInt64 63)).toInt64 : Int64).toInt32 : Int32).toInt8.toInt32))) ((0 + 1 : Int32).toNatClampNeg) (vp_nar .byte (((((b : Int64).toUInt64 >>> ((8 * 2 : Int32).toInt64.toUInt64 &&& Int64.toUInt64 63)).toInt64 : Int64).toInt32 : Int32).toInt8.toInt32))) (((0 + 1) + 1 : Int32).toNatClampNeg) (vp_nar .byte (((((b : Int64).toUInt64 >>> ((8 * 1 : Int32).toInt64.toUInt64 &&& Int64.toUInt64 63)).toInt64 : Int64).toInt32 : Int32).toInt8.toInt32)))) ∧ S'.1 1 = .inr (0, [.ref 2, .int (((0 + 1) + 1) + 1), .int 0]) ∧ ∀ j, j ≠ 2 → j ≠ 1 → S'.1 j = M j) := by
  refine mm_Cm_of hst (by decide) (Nat.le_of_ble_eq_true rfl) ?_
  show mm_V g l RX0 "add" cX0_add 2 none [] d 0 0 _ 0 [some (.ref 1), some (.int ((((b : Int64).toUInt64 >>> ((8 * 1 : Int32).toInt64.toUInt64 &&& Int64.toUInt64 63)).toInt64 : Int64).toInt32))] [] (M, 1186, false) 0 0
  refine mm_aload_n dX0_add_0 rfl rfl ?_
  refine mm_get3 (ci := 0) in_X0 rfl (k := 1) (by decide) rfl kF_X0_19 dX0_add_1 h1 (Nat.le_of_ble_eq_true rfl) rfl ?_
  refine mm_if_lt 43 dX0_add_4 (by decide) (fun h => absurd h (by decide)) (fun _ => ?_)
  refine mm_aload_n dX0_add_7 rfl rfl ?_
  refine mm_get3 (ci := 0) in_X0 rfl (k := 1) (by decide) rfl kF_X0_19 dX0_add_8 h1 (Nat.le_of_ble_eq_true rfl) rfl ?_
  refine mm_aload_n dX0_add_11 rfl rfl ?_
  refine mm_get3 (ci := 0) in_X0 rfl (k := 0) (by decide) rfl kF_X0_13 dX0_add_12 h1 (Nat.le_of_ble_eq_true rfl) rfl ?_
  refine mm_alen3 (v := 700) (fun _ => rfl) h2 (Nat.le_of_ble_eq_true rfl) rfl dX0_add_15 ?_
  refine mm_icmp_ge 43 dX0_add_16 (by decide) (fun h => absurd h (by decide)) (fun _ => ?_)
  refine mm_aload_n dX0_add_19 rfl rfl ?_
  refine mm_get3 (ci := 0) in_X0 rfl (k := 0) (by decide) rfl kF_X0_13 dX0_add_20 h1 (Nat.le_of_ble_eq_true rfl) rfl ?_
  refine mm_aload_n dX0_add_23 rfl rfl ?_
  refine mm_get3 (ci := 0) in_X0 rfl (k := 1) (by decide) rfl kF_X0_19 dX0_add_24 h1 (Nat.le_of_ble_eq_true rfl) rfl ?_
  refine mm_iload_n dX0_add_27 rfl ?_
  refine mm_i2b dX0_add_28 ?_
  refine mm_bast3 h2 (Nat.le_of_ble_eq_true rfl) (by unfold vp_in; decide) dX0_add_29 ?_
  refine mm_aload_n dX0_add_30 rfl rfl ?_
  refine mm_dup dX0_add_31 rfl ?_
  refine mm_get3 (ci := 0) in_X0 rfl (k := 1) (by decide) rfl kF_X0_19 dX0_add_32 (mm_upN (by decide) h1) (Nat.le_of_ble_eq_true rfl) rfl ?_
  refine mm_iconst (v := 1) dX0_add_35 (by decide) ?_
  refine mm_iadd dX0_add_36 ?_
  refine mm_put3 (ci := 0) (fs1 := [.ref 2, .int (((0 + 1) + 1) + 1), .int 0]) in_X0 tyX0_ok nmX0 rfl (k := 1) (by decide) rfl rfl kF_X0_19 dX0_add_37 (mm_fit_int _) (mm_upN (by decide) h1) (Nat.le_of_ble_eq_true rfl) (Nat.le_of_ble_eq_true rfl) rfl ?_
  refine mm_goto 48 dX0_add_40 (by decide) ?_
  refine mm_vret dX0_add_48 rfl ?_ (by omega) (by omega)
  refine ⟨rfl, rfl, ?_⟩
  dsimp only
  exact ⟨(mm_upN (by decide) mm_up_s), mm_up_s, fun x e2 e1 => mm_upN e1 (mm_upN e2 (rfl))⟩

set_option maxHeartbeats 4000000 in
set_option maxRecDepth 100000 in
theorem k375_X0_add {g : mm_G} {l : Launch} (hst : l.stackTraces = false) {d : Nat} (M : Nat → mm_C) (b : Int64) (h1 : M 1 = .inr (0, [.ref 2, .int (((0 + 1) + 1) + 1), .int 0])) (h2 : M 2 = .inl (2, 700, .inl (upd (upd (upd (fun _ => 0) ((0 : Int32).toNatClampNeg) (vp_nar .byte (((((b : Int64).toUInt64 >>> ((8 * (4 - 1) : Int32).toInt64.toUInt64 &&& Int64.toUInt64 63)).toInt64 : Int64).toInt32 : Int32).toInt8.toInt32))) ((0 + 1 : Int32).toNatClampNeg) (vp_nar .byte (((((b : Int64).toUInt64 >>> ((8 * 2 : Int32).toInt64.toUInt64 &&& Int64.toUInt64 63)).toInt64 : Int64).toInt32 : Int32).toInt8.toInt32))) (((0 + 1) + 1 : Int32).toNatClampNeg) (vp_nar .byte (((((b : Int64).toUInt64 >>> ((8 * 1 : Int32).toInt64.toUInt64 &&& Int64.toUInt64 63)).toInt64 : Int64).toInt32 : Int32).toInt8.toInt32))))) : mm_Cm g l yX0_add (.code yX0_add cX0_add 2 none) d 0 0 [.ref 1, .int ((((b : Int64).toUInt64 >>> ((8 * 0 : Int32).toInt64.toUInt64 &&& Int64.toUInt64 63)).toInt64 : Int64).toInt32)] (M, 1186, false) (fun v S' => v = none ∧ S'.2 = (1186, false) ∧ S'.1 2 = .inl (2, 700, .inl (upd (upd (upd (upd (fun _ => 0) ((0 : Int32).toNatClampNeg) (vp_nar .byte (((((b : Int64).toUInt64 >>> ((8 * (4 - 1) : Int32).toInt64.toUInt64 &&& Int64.toUInt64 63)).toInt64 : Int64).toInt32 : Int32).toInt8.toInt32))) ((0 + 1 : Int32).toNatClampNeg) (vp_nar .byte (((((b : Int64).toUInt64 >>> ((8 * 2 : Int32).toInt64.toUInt64 &&& Int64.toUInt64 63)).toInt64 : Int64).toInt32 : Int32).toInt8.toInt32))) (((0 + 1) + 1 : Int32).toNatClampNeg) (vp_nar .byte (((((b : Int64).toUInt64 >>> ((8 * 1 : Int32).toInt64.toUInt64 &&& Int64.toUInt64 63)).toInt64 : Int64).toInt32 : Int32).toInt8.toInt32))) ((((0 + 1) + 1) + 1 : Int32).toNatClampNeg) (vp_nar .byte (((((b : Int64).toUInt64 >>> ((8 * 0 : Int32).toInt64.toUInt64 &&& Int64.toUInt64 63)).toInt64 : Int64).toInt32 : Int32).toInt8.toInt32)))) ∧ S'.1 1 = .inr (0, [.ref 2, .int ((((0 + 1) + 1) + 1) + 1), .int 0]) ∧ ∀ j, j ≠ 2 → j ≠ 1 → S'.1 j = M j) := by
  refine mm_Cm_of hst (by decide) (Nat.le_of_ble_eq_true rfl) ?_
  show mm_V g l RX0 "add" cX0_add 2 none [] d 0 0 _ 0 [some (.ref 1), some (.int ((((b : Int64).toUInt64 >>> ((8 * 0 : Int32).toInt64.toUInt64 &&& Int64.toUInt64 63)).toInt64 : Int64).toInt32))] [] (M, 1186, false) 0 0
  refine mm_aload_n dX0_add_0 rfl rfl ?_
  refine mm_get3 (ci := 0) in_X0 rfl (k := 1) (by decide) rfl kF_X0_19 dX0_add_1 h1 (Nat.le_of_ble_eq_true rfl) rfl ?_
  refine mm_if_lt 43 dX0_add_4 (by decide) (fun h => absurd h (by decide)) (fun _ => ?_)
  refine mm_aload_n dX0_add_7 rfl rfl ?_
  refine mm_get3 (ci := 0) in_X0 rfl (k := 1) (by decide) rfl kF_X0_19 dX0_add_8 h1 (Nat.le_of_ble_eq_true rfl) rfl ?_
  refine mm_aload_n dX0_add_11 rfl rfl ?_
  refine mm_get3 (ci := 0) in_X0 rfl (k := 0) (by decide) rfl kF_X0_13 dX0_add_12 h1 (Nat.le_of_ble_eq_true rfl) rfl ?_
  refine mm_alen3 (v := 700) (fun _ => rfl) h2 (Nat.le_of_ble_eq_true rfl) rfl dX0_add_15 ?_
  refine mm_icmp_ge 43 dX0_add_16 (by decide) (fun h => absurd h (by decide)) (fun _ => ?_)
  refine mm_aload_n dX0_add_19 rfl rfl ?_
  refine mm_get3 (ci := 0) in_X0 rfl (k := 0) (by decide) rfl kF_X0_13 dX0_add_20 h1 (Nat.le_of_ble_eq_true rfl) rfl ?_
  refine mm_aload_n dX0_add_23 rfl rfl ?_
  refine mm_get3 (ci := 0) in_X0 rfl (k := 1) (by decide) rfl kF_X0_19 dX0_add_24 h1 (Nat.le_of_ble_eq_true rfl) rfl ?_
  refine mm_iload_n dX0_add_27 rfl ?_
  refine mm_i2b dX0_add_28 ?_
  refine mm_bast3 h2 (Nat.le_of_ble_eq_true rfl) (by unfold vp_in; decide) dX0_add_29 ?_
  refine mm_aload_n dX0_add_30 rfl rfl ?_
  refine mm_dup dX0_add_31 rfl ?_
  refine mm_get3 (ci := 0) in_X0 rfl (k := 1) (by decide) rfl kF_X0_19 dX0_add_32 (mm_upN (by decide) h1) (Nat.le_of_ble_eq_true rfl) rfl ?_
  refine mm_iconst (v := 1) dX0_add_35 (by decide) ?_
  refine mm_iadd dX0_add_36 ?_
  refine mm_put3 (ci := 0) (fs1 := [.ref 2, .int ((((0 + 1) + 1) + 1) + 1), .int 0]) in_X0 tyX0_ok nmX0 rfl (k := 1) (by decide) rfl rfl kF_X0_19 dX0_add_37 (mm_fit_int _) (mm_upN (by decide) h1) (Nat.le_of_ble_eq_true rfl) (Nat.le_of_ble_eq_true rfl) rfl ?_
  refine mm_goto 48 dX0_add_40 (by decide) ?_
  refine mm_vret dX0_add_48 rfl ?_ (by omega) (by omega)
  refine ⟨rfl, rfl, ?_⟩
  dsimp only
  exact ⟨(mm_upN (by decide) mm_up_s), mm_up_s, fun x e2 e1 => mm_upN e1 (mm_upN e2 (rfl))⟩

set_option maxHeartbeats 4000000 in
set_option maxRecDepth 100000 in
theorem k377_X0_size {g : mm_G} {l : Launch} (hst : l.stackTraces = false) {d : Nat} (M : Nat → mm_C) (b : Int64) (h1 : M 1 = .inr (0, [.ref 2, .int ((((0 + 1) + 1) + 1) + 1), .int 0])) : mm_Cm g l yX0_size (.code yX0_size cX0_size 1 (some .int)) d 0 0 [.ref 1] (M, 1186, false) (fun v S' => v = some (.int ((((0 + 1) + 1) + 1) + 1)) ∧ S' = (M, 1186, false)) := by
  refine mm_Cm_of hst (by decide) (Nat.le_of_ble_eq_true rfl) ?_
  show mm_V g l RX0 "size" cX0_size 1 (some .int) [] d 0 0 _ 0 [some (.ref 1)] [] (M, 1186, false) 0 0
  refine mm_aload_n dX0_size_0 rfl rfl ?_
  refine mm_get3 (ci := 0) in_X0 rfl (k := 1) (by decide) rfl kF_X0_19 dX0_size_1 h1 (Nat.le_of_ble_eq_true rfl) rfl ?_
  refine mm_iret dX0_size_4 rfl rfl ?_ (by omega) (by omega)
  exact ⟨rfl, rfl⟩

set_option maxHeartbeats 4000000 in
set_option maxRecDepth 100000 in
theorem f_feed_4 {g : mm_G} {l : Launch} (hst : l.stackTraces = false) {d : Nat} (M : Nat → mm_C) (b : Int64) (h0 : M 0 = .inr (11, [.ref 1, .ref 3, .ref 5, .ref 197, .ref 389, .ref 1094, .ref 1095, .ref 1097, .int (-1)])) (h1 : M 1 = .inr (0, [.ref 2, .int 0, .int 0])) (h2 : M 2 = .inl (2, 700, .inl (fun _ => 0))) : mm_Ct g l yX11_feed (.code yX11_feed cX11_feed 5 (some .int)) (d + 1) 0 0 [.ref 0, .long b, .int 4] (M, 1186, false) (fun r S' => r = .inl (some (.int ((((0 + 1) + 1) + 1) + 1))) ∧ S'.2 = (1186, false) ∧ ∀ j, 1101 ≤ j → S'.1 j = M j) := by
  refine mm_Ct_of hst (by decide) (Nat.le_of_ble_eq_true rfl) ?_
  show mm_V g l RX11 "feed" cX11_feed 5 (some .int) [] (d + 1) 0 0 _ 0 [some (.ref 0), some (.long b), none, some (.int 4), none] [] (M, 1186, false) 0 0
  refine mm_iload_n dX11_feed_0 rfl ?_
  refine mm_iconst (v := 1) dX11_feed_1 (by decide) ?_
  refine mm_icmp_lt 11 dX11_feed_2 (by decide) (fun h => absurd h (by decide)) (fun _ => ?_)
  refine mm_iload_n dX11_feed_5 rfl ?_
  refine mm_bipush (v := 8) dX11_feed_6 (by decide) ?_
  refine mm_icmp_le 21 dX11_feed_8 (by decide) (fun _ => ?_) (fun h => absurd (by decide) h)
  refine mm_aload_n dX11_feed_21 rfl rfl ?_
  refine mm_get3 (ci := 11) in_X11 rfl (k := 0) (by decide) rfl kF_X11_14 dX11_feed_22 h0 (Nat.le_of_ble_eq_true rfl) rfl ?_
  refine mm_callV3 (ci := 0) wM_X0_size kM_X11_74 wI_X0_size wS_X0_size dX11_feed_25 (k367_X0_size hst _ b h1) h1 (Nat.le_of_ble_eq_true rfl) rfl rfl rfl (Nat.le_of_ble_eq_true rfl) (by omega) (by omega) (fun v S9 hq => ?_)
  obtain ⟨rfl, rfl⟩ := hq
  refine ⟨fun h => ⟨h, rfl⟩, ?_⟩
  refine mm_iload_n dX11_feed_28 rfl ?_
  refine mm_iadd dX11_feed_29 ?_
  refine mm_sipush (v := 700) dX11_feed_30 (by decide) ?_
  refine mm_icmp_le 46 dX11_feed_33 (by decide) (fun _ => ?_) (fun h => absurd (by decide) h)
  refine mm_iload_n dX11_feed_46 rfl ?_
  refine mm_iconst (v := 1) dX11_feed_47 (by decide) ?_
  refine mm_isub dX11_feed_48 ?_
  refine mm_istore [some (.ref 0), some (.long b), none, some (.int 4), some (.int (4 - 1))] dX11_feed_49 (by decide) rfl ?_
  refine mm_iload dX11_feed_51 rfl ?_
  refine mm_if_lt 77 dX11_feed_53 (by decide) (fun h => absurd h (by decide)) (fun _ => ?_)
  refine mm_aload_n dX11_feed_56 rfl rfl ?_
  refine mm_get3 (ci := 11) in_X11 rfl (k := 0) (by decide) rfl kF_X11_14 dX11_feed_57 h0 (Nat.le_of_ble_eq_true rfl) rfl ?_
  refine mm_lload_n dX11_feed_60 rfl ?_
  refine mm_bipush (v := 8) dX11_feed_61 (by decide) ?_
  refine mm_iload dX11_feed_63 rfl ?_
  refine mm_imul dX11_feed_65 ?_
  refine mm_lushr dX11_feed_66 ?_
  refine mm_l2i dX11_feed_67 ?_
  refine mm_callV3 (ci := 0) wM_X0_add kM_X11_83 wI_X0_add wS_X0_add dX11_feed_68 (k369_X0_add hst _ b h1 h2) h1 (Nat.le_of_ble_eq_true rfl) rfl rfl rfl (Nat.le_of_ble_eq_true rfl) (by omega) (by omega) (fun v S9 hq => ?_)
  obtain ⟨M370, z370⟩ := S9
  obtain ⟨rfl, hz370, g370_2, g370_1, g370_F⟩ := hq
  cases hz370
  refine ⟨fun h => ⟨h, rfl⟩, ?_⟩
  refine mm_iinc (v := 2) [some (.ref 0), some (.long b), none, some (.int 4), some (.int 2)] dX11_feed_71 rfl (by decide) (by decide) rfl ?_
  refine mm_goto 51 dX11_feed_74 (by decide) ?_
  refine mm_iload dX11_feed_51 rfl ?_
  refine mm_if_lt 77 dX11_feed_53 (by decide) (fun h => absurd h (by decide)) (fun _ => ?_)
  refine mm_aload_n dX11_feed_56 rfl rfl ?_
  refine mm_get3 (ci := 11) in_X11 rfl (k := 0) (by decide) rfl kF_X11_14 dX11_feed_57 (mm_frN (g370_F _ (by decide) (by decide)) h0) (Nat.le_of_ble_eq_true rfl) rfl ?_
  refine mm_lload_n dX11_feed_60 rfl ?_
  refine mm_bipush (v := 8) dX11_feed_61 (by decide) ?_
  refine mm_iload dX11_feed_63 rfl ?_
  refine mm_imul dX11_feed_65 ?_
  refine mm_lushr dX11_feed_66 ?_
  refine mm_l2i dX11_feed_67 ?_
  refine mm_callV3 (ci := 0) wM_X0_add kM_X11_83 wI_X0_add wS_X0_add dX11_feed_68 (k371_X0_add hst _ b g370_1 g370_2) g370_1 (Nat.le_of_ble_eq_true rfl) rfl rfl rfl (Nat.le_of_ble_eq_true rfl) (by omega) (by omega) (fun v S9 hq => ?_)
  obtain ⟨M372, z372⟩ := S9
  obtain ⟨rfl, hz372, g372_2, g372_1, g372_F⟩ := hq
  cases hz372
  refine ⟨fun h => ⟨h, rfl⟩, ?_⟩
  refine mm_iinc (v := 1) [some (.ref 0), some (.long b), none, some (.int 4), some (.int 1)] dX11_feed_71 rfl (by decide) (by decide) rfl ?_
  refine mm_goto 51 dX11_feed_74 (by decide) ?_
  refine mm_iload dX11_feed_51 rfl ?_
  refine mm_if_lt 77 dX11_feed_53 (by decide) (fun h => absurd h (by decide)) (fun _ => ?_)
  refine mm_aload_n dX11_feed_56 rfl rfl ?_
  refine mm_get3 (ci := 11) in_X11 rfl (k := 0) (by decide) rfl kF_X11_14 dX11_feed_57 (mm_frN (g372_F _ (by decide) (by decide)) (mm_frN (g370_F _ (by decide) (by decide)) h0)) (Nat.le_of_ble_eq_true rfl) rfl ?_
  refine mm_lload_n dX11_feed_60 rfl ?_
  refine mm_bipush (v := 8) dX11_feed_61 (by decide) ?_
  refine mm_iload dX11_feed_63 rfl ?_
  refine mm_imul dX11_feed_65 ?_
  refine mm_lushr dX11_feed_66 ?_
  refine mm_l2i dX11_feed_67 ?_
  refine mm_callV3 (ci := 0) wM_X0_add kM_X11_83 wI_X0_add wS_X0_add dX11_feed_68 (k373_X0_add hst _ b g372_1 g372_2) g372_1 (Nat.le_of_ble_eq_true rfl) rfl rfl rfl (Nat.le_of_ble_eq_true rfl) (by omega) (by omega) (fun v S9 hq => ?_)
  obtain ⟨M374, z374⟩ := S9
  obtain ⟨rfl, hz374, g374_2, g374_1, g374_F⟩ := hq
  cases hz374
  refine ⟨fun h => ⟨h, rfl⟩, ?_⟩
  refine mm_iinc (v := 0) [some (.ref 0), some (.long b), none, some (.int 4), some (.int 0)] dX11_feed_71 rfl (by decide) (by decide) rfl ?_
  refine mm_goto 51 dX11_feed_74 (by decide) ?_
  refine mm_iload dX11_feed_51 rfl ?_
  refine mm_if_lt 77 dX11_feed_53 (by decide) (fun h => absurd h (by decide)) (fun _ => ?_)
  refine mm_aload_n dX11_feed_56 rfl rfl ?_
  refine mm_get3 (ci := 11) in_X11 rfl (k := 0) (by decide) rfl kF_X11_14 dX11_feed_57 (mm_frN (g374_F _ (by decide) (by decide)) (mm_frN (g372_F _ (by decide) (by decide)) (mm_frN (g370_F _ (by decide) (by decide)) h0))) (Nat.le_of_ble_eq_true rfl) rfl ?_
  refine mm_lload_n dX11_feed_60 rfl ?_
  refine mm_bipush (v := 8) dX11_feed_61 (by decide) ?_
  refine mm_iload dX11_feed_63 rfl ?_
  refine mm_imul dX11_feed_65 ?_
  refine mm_lushr dX11_feed_66 ?_
  refine mm_l2i dX11_feed_67 ?_
  refine mm_callV3 (ci := 0) wM_X0_add kM_X11_83 wI_X0_add wS_X0_add dX11_feed_68 (k375_X0_add hst _ b g374_1 g374_2) g374_1 (Nat.le_of_ble_eq_true rfl) rfl rfl rfl (Nat.le_of_ble_eq_true rfl) (by omega) (by omega) (fun v S9 hq => ?_)
  obtain ⟨M376, z376⟩ := S9
  obtain ⟨rfl, hz376, g376_2, g376_1, g376_F⟩ := hq
  cases hz376
  refine ⟨fun h => ⟨h, rfl⟩, ?_⟩
  refine mm_iinc (v := (-1)) [some (.ref 0), some (.long b), none, some (.int 4), some (.int (-1))] dX11_feed_71 rfl (by decide) (by decide) rfl ?_
  refine mm_goto 51 dX11_feed_74 (by decide) ?_
  refine mm_iload dX11_feed_51 rfl ?_
  refine mm_if_lt 77 dX11_feed_53 (by decide) (fun _ => ?_) (fun h => absurd (by decide) h)
  refine mm_aload_n dX11_feed_77 rfl rfl ?_
  refine mm_get3 (ci := 11) in_X11 rfl (k := 0) (by decide) rfl kF_X11_14 dX11_feed_78 (mm_frN (g376_F _ (by decide) (by decide)) (mm_frN (g374_F _ (by decide) (by decide)) (mm_frN (g372_F _ (by decide) (by decide)) (mm_frN (g370_F _ (by decide) (by decide)) h0)))) (Nat.le_of_ble_eq_true rfl) rfl ?_
  refine mm_callV3 (ci := 0) wM_X0_size kM_X11_74 wI_X0_size wS_X0_size dX11_feed_81 (k377_X0_size hst _ b g376_1) g376_1 (Nat.le_of_ble_eq_true rfl) rfl rfl rfl (Nat.le_of_ble_eq_true rfl) (by omega) (by omega) (fun v S9 hq => ?_)
  obtain ⟨rfl, rfl⟩ := hq
  refine ⟨fun h => ⟨h, rfl⟩, ?_⟩
  refine mm_iret dX11_feed_84 rfl rfl ?_ (by omega) (by omega)
  refine ⟨rfl, rfl, fun x hx => ?_⟩
  dsimp only
  exact mm_frN (g376_F _ (by omega) (by omega) ) (mm_frN (g374_F _ (by omega) (by omega) ) (mm_frN (g372_F _ (by omega) (by omega) ) (mm_frN (g370_F _ (by omega) (by omega) ) (rfl))))

set_option maxHeartbeats 4000000 in
set_option maxRecDepth 100000 in
theorem k379_X0_size {g : mm_G} {l : Launch} (hst : l.stackTraces = false) {d : Nat} (M : Nat → mm_C) (b : Int64) (h1 : M 1 = .inr (0, [.ref 2, .int 0, .int 0])) : mm_Cm g l yX0_size (.code yX0_size cX0_size 1 (some .int)) d 0 0 [.ref 1] (M, 1186, false) (fun v S' => v = some (.int 0) ∧ S' = (M, 1186, false)) := by
  refine mm_Cm_of hst (by decide) (Nat.le_of_ble_eq_true rfl) ?_
  show mm_V g l RX0 "size" cX0_size 1 (some .int) [] d 0 0 _ 0 [some (.ref 1)] [] (M, 1186, false) 0 0
  refine mm_aload_n dX0_size_0 rfl rfl ?_
  refine mm_get3 (ci := 0) in_X0 rfl (k := 1) (by decide) rfl kF_X0_19 dX0_size_1 h1 (Nat.le_of_ble_eq_true rfl) rfl ?_
  refine mm_iret dX0_size_4 rfl rfl ?_ (by omega) (by omega)
  exact ⟨rfl, rfl⟩

set_option maxHeartbeats 4000000 in
set_option maxRecDepth 100000 in
theorem k381_X0_add {g : mm_G} {l : Launch} (hst : l.stackTraces = false) {d : Nat} (M : Nat → mm_C) (b : Int64) (h1 : M 1 = .inr (0, [.ref 2, .int 0, .int 0])) (h2 : M 2 = .inl (2, 700, .inl (fun _ => 0))) : mm_Cm g l yX0_add (.code yX0_add cX0_add 2 none) d 0 0 [.ref 1, .int ((((b : Int64).toUInt64 >>> ((8 * (5 - 1) : Int32).toInt64.toUInt64 &&& Int64.toUInt64 63)).toInt64 : Int64).toInt32)] (M, 1186, false) (fun v S' => v = none ∧ S'.2 = (1186, false) ∧ S'.1 2 = .inl (2, 700, .inl (upd (fun _ => 0) ((0 : Int32).toNatClampNeg) (vp_nar .byte (((((b : Int64).toUInt64 >>> ((8 * (5 - 1) : Int32).toInt64.toUInt64 &&& Int64.toUInt64 63)).toInt64 : Int64).toInt32 : Int32).toInt8.toInt32)))) ∧ S'.1 1 = .inr (0, [.ref 2, .int (0 + 1), .int 0]) ∧ ∀ j, j ≠ 2 → j ≠ 1 → S'.1 j = M j) := by
  refine mm_Cm_of hst (by decide) (Nat.le_of_ble_eq_true rfl) ?_
  show mm_V g l RX0 "add" cX0_add 2 none [] d 0 0 _ 0 [some (.ref 1), some (.int ((((b : Int64).toUInt64 >>> ((8 * (5 - 1) : Int32).toInt64.toUInt64 &&& Int64.toUInt64 63)).toInt64 : Int64).toInt32))] [] (M, 1186, false) 0 0
  refine mm_aload_n dX0_add_0 rfl rfl ?_
  refine mm_get3 (ci := 0) in_X0 rfl (k := 1) (by decide) rfl kF_X0_19 dX0_add_1 h1 (Nat.le_of_ble_eq_true rfl) rfl ?_
  refine mm_if_lt 43 dX0_add_4 (by decide) (fun h => absurd h (by decide)) (fun _ => ?_)
  refine mm_aload_n dX0_add_7 rfl rfl ?_
  refine mm_get3 (ci := 0) in_X0 rfl (k := 1) (by decide) rfl kF_X0_19 dX0_add_8 h1 (Nat.le_of_ble_eq_true rfl) rfl ?_
  refine mm_aload_n dX0_add_11 rfl rfl ?_
  refine mm_get3 (ci := 0) in_X0 rfl (k := 0) (by decide) rfl kF_X0_13 dX0_add_12 h1 (Nat.le_of_ble_eq_true rfl) rfl ?_
  refine mm_alen3 (v := 700) (fun _ => rfl) h2 (Nat.le_of_ble_eq_true rfl) rfl dX0_add_15 ?_
  refine mm_icmp_ge 43 dX0_add_16 (by decide) (fun h => absurd h (by decide)) (fun _ => ?_)
  refine mm_aload_n dX0_add_19 rfl rfl ?_
  refine mm_get3 (ci := 0) in_X0 rfl (k := 0) (by decide) rfl kF_X0_13 dX0_add_20 h1 (Nat.le_of_ble_eq_true rfl) rfl ?_
  refine mm_aload_n dX0_add_23 rfl rfl ?_
  refine mm_get3 (ci := 0) in_X0 rfl (k := 1) (by decide) rfl kF_X0_19 dX0_add_24 h1 (Nat.le_of_ble_eq_true rfl) rfl ?_
  refine mm_iload_n dX0_add_27 rfl ?_
  refine mm_i2b dX0_add_28 ?_
  refine mm_bast3 h2 (Nat.le_of_ble_eq_true rfl) (by unfold vp_in; decide) dX0_add_29 ?_
  refine mm_aload_n dX0_add_30 rfl rfl ?_
  refine mm_dup dX0_add_31 rfl ?_
  refine mm_get3 (ci := 0) in_X0 rfl (k := 1) (by decide) rfl kF_X0_19 dX0_add_32 (mm_upN (by decide) h1) (Nat.le_of_ble_eq_true rfl) rfl ?_
  refine mm_iconst (v := 1) dX0_add_35 (by decide) ?_
  refine mm_iadd dX0_add_36 ?_
  refine mm_put3 (ci := 0) (fs1 := [.ref 2, .int (0 + 1), .int 0]) in_X0 tyX0_ok nmX0 rfl (k := 1) (by decide) rfl rfl kF_X0_19 dX0_add_37 (mm_fit_int _) (mm_upN (by decide) h1) (Nat.le_of_ble_eq_true rfl) (Nat.le_of_ble_eq_true rfl) rfl ?_
  refine mm_goto 48 dX0_add_40 (by decide) ?_
  refine mm_vret dX0_add_48 rfl ?_ (by omega) (by omega)
  refine ⟨rfl, rfl, ?_⟩
  dsimp only
  exact ⟨(mm_upN (by decide) mm_up_s), mm_up_s, fun x e2 e1 => mm_upN e1 (mm_upN e2 (rfl))⟩

set_option maxHeartbeats 4000000 in
set_option maxRecDepth 100000 in
theorem k383_X0_add {g : mm_G} {l : Launch} (hst : l.stackTraces = false) {d : Nat} (M : Nat → mm_C) (b : Int64) (h1 : M 1 = .inr (0, [.ref 2, .int (0 + 1), .int 0])) (h2 : M 2 = .inl (2, 700, .inl (upd (fun _ => 0) ((0 : Int32).toNatClampNeg) (vp_nar .byte (((((b : Int64).toUInt64 >>> ((8 * (5 - 1) : Int32).toInt64.toUInt64 &&& Int64.toUInt64 63)).toInt64 : Int64).toInt32 : Int32).toInt8.toInt32))))) : mm_Cm g l yX0_add (.code yX0_add cX0_add 2 none) d 0 0 [.ref 1, .int ((((b : Int64).toUInt64 >>> ((8 * 3 : Int32).toInt64.toUInt64 &&& Int64.toUInt64 63)).toInt64 : Int64).toInt32)] (M, 1186, false) (fun v S' => v = none ∧ S'.2 = (1186, false) ∧ S'.1 2 = .inl (2, 700, .inl (upd (upd (fun _ => 0) ((0 : Int32).toNatClampNeg) (vp_nar .byte (((((b : Int64).toUInt64 >>> ((8 * (5 - 1) : Int32).toInt64.toUInt64 &&& Int64.toUInt64 63)).toInt64 : Int64).toInt32 : Int32).toInt8.toInt32))) ((0 + 1 : Int32).toNatClampNeg) (vp_nar .byte (((((b : Int64).toUInt64 >>> ((8 * 3 : Int32).toInt64.toUInt64 &&& Int64.toUInt64 63)).toInt64 : Int64).toInt32 : Int32).toInt8.toInt32)))) ∧ S'.1 1 = .inr (0, [.ref 2, .int ((0 + 1) + 1), .int 0]) ∧ ∀ j, j ≠ 2 → j ≠ 1 → S'.1 j = M j) := by
  refine mm_Cm_of hst (by decide) (Nat.le_of_ble_eq_true rfl) ?_
  show mm_V g l RX0 "add" cX0_add 2 none [] d 0 0 _ 0 [some (.ref 1), some (.int ((((b : Int64).toUInt64 >>> ((8 * 3 : Int32).toInt64.toUInt64 &&& Int64.toUInt64 63)).toInt64 : Int64).toInt32))] [] (M, 1186, false) 0 0
  refine mm_aload_n dX0_add_0 rfl rfl ?_
  refine mm_get3 (ci := 0) in_X0 rfl (k := 1) (by decide) rfl kF_X0_19 dX0_add_1 h1 (Nat.le_of_ble_eq_true rfl) rfl ?_
  refine mm_if_lt 43 dX0_add_4 (by decide) (fun h => absurd h (by decide)) (fun _ => ?_)
  refine mm_aload_n dX0_add_7 rfl rfl ?_
  refine mm_get3 (ci := 0) in_X0 rfl (k := 1) (by decide) rfl kF_X0_19 dX0_add_8 h1 (Nat.le_of_ble_eq_true rfl) rfl ?_
  refine mm_aload_n dX0_add_11 rfl rfl ?_
  refine mm_get3 (ci := 0) in_X0 rfl (k := 0) (by decide) rfl kF_X0_13 dX0_add_12 h1 (Nat.le_of_ble_eq_true rfl) rfl ?_
  refine mm_alen3 (v := 700) (fun _ => rfl) h2 (Nat.le_of_ble_eq_true rfl) rfl dX0_add_15 ?_
  refine mm_icmp_ge 43 dX0_add_16 (by decide) (fun h => absurd h (by decide)) (fun _ => ?_)
  refine mm_aload_n dX0_add_19 rfl rfl ?_
  refine mm_get3 (ci := 0) in_X0 rfl (k := 0) (by decide) rfl kF_X0_13 dX0_add_20 h1 (Nat.le_of_ble_eq_true rfl) rfl ?_
  refine mm_aload_n dX0_add_23 rfl rfl ?_
  refine mm_get3 (ci := 0) in_X0 rfl (k := 1) (by decide) rfl kF_X0_19 dX0_add_24 h1 (Nat.le_of_ble_eq_true rfl) rfl ?_
  refine mm_iload_n dX0_add_27 rfl ?_
  refine mm_i2b dX0_add_28 ?_
  refine mm_bast3 h2 (Nat.le_of_ble_eq_true rfl) (by unfold vp_in; decide) dX0_add_29 ?_
  refine mm_aload_n dX0_add_30 rfl rfl ?_
  refine mm_dup dX0_add_31 rfl ?_
  refine mm_get3 (ci := 0) in_X0 rfl (k := 1) (by decide) rfl kF_X0_19 dX0_add_32 (mm_upN (by decide) h1) (Nat.le_of_ble_eq_true rfl) rfl ?_
  refine mm_iconst (v := 1) dX0_add_35 (by decide) ?_
  refine mm_iadd dX0_add_36 ?_
  refine mm_put3 (ci := 0) (fs1 := [.ref 2, .int ((0 + 1) + 1), .int 0]) in_X0 tyX0_ok nmX0 rfl (k := 1) (by decide) rfl rfl kF_X0_19 dX0_add_37 (mm_fit_int _) (mm_upN (by decide) h1) (Nat.le_of_ble_eq_true rfl) (Nat.le_of_ble_eq_true rfl) rfl ?_
  refine mm_goto 48 dX0_add_40 (by decide) ?_
  refine mm_vret dX0_add_48 rfl ?_ (by omega) (by omega)
  refine ⟨rfl, rfl, ?_⟩
  dsimp only
  exact ⟨(mm_upN (by decide) mm_up_s), mm_up_s, fun x e2 e1 => mm_upN e1 (mm_upN e2 (rfl))⟩

set_option maxHeartbeats 4000000 in
set_option maxRecDepth 100000 in
theorem k385_X0_add {g : mm_G} {l : Launch} (hst : l.stackTraces = false) {d : Nat} (M : Nat → mm_C) (b : Int64) (h1 : M 1 = .inr (0, [.ref 2, .int ((0 + 1) + 1), .int 0])) (h2 : M 2 = .inl (2, 700, .inl (upd (upd (fun _ => 0) ((0 : Int32).toNatClampNeg) (vp_nar .byte (((((b : Int64).toUInt64 >>> ((8 * (5 - 1) : Int32).toInt64.toUInt64 &&& Int64.toUInt64 63)).toInt64 : Int64).toInt32 : Int32).toInt8.toInt32))) ((0 + 1 : Int32).toNatClampNeg) (vp_nar .byte (((((b : Int64).toUInt64 >>> ((8 * 3 : Int32).toInt64.toUInt64 &&& Int64.toUInt64 63)).toInt64 : Int64).toInt32 : Int32).toInt8.toInt32))))) : mm_Cm g l yX0_add (.code yX0_add cX0_add 2 none) d 0 0 [.ref 1, .int ((((b : Int64).toUInt64 >>> ((8 * 2 : Int32).toInt64.toUInt64 &&& Int64.toUInt64 63)).toInt64 : Int64).toInt32)] (M, 1186, false) (fun v S' => v = none ∧ S'.2 = (1186, false) ∧ S'.1 2 = .inl (2, 700, .inl (upd (upd (upd (fun _ => 0) ((0 : Int32).toNatClampNeg) (vp_nar .byte (((((b : Int64).toUInt64 >>> ((8 * (5 - 1) : Int32).toInt64.toUInt64 &&& Int64.toUInt64 63)).toInt64 : Int64).toInt32 : Int32).toInt8.toInt32))) ((0 + 1 : Int32).toNatClampNeg) (vp_nar .byte (((((b : Int64).toUInt64 >>> ((8 * 3 : Int32).toInt64.toUInt64 &&& Int64.toUInt64 63)).toInt64 : Int64).toInt32 : Int32).toInt8.toInt32))) (((0 + 1) + 1 : Int32).toNatClampNeg) (vp_nar .byte (((((b : Int64).toUInt64 >>> ((8 * 2 : Int32).toInt64.toUInt64 &&& Int64.toUInt64 63)).toInt64 : Int64).toInt32 : Int32).toInt8.toInt32)))) ∧ S'.1 1 = .inr (0, [.ref 2, .int (((0 + 1) + 1) + 1), .int 0]) ∧ ∀ j, j ≠ 2 → j ≠ 1 → S'.1 j = M j) := by
  refine mm_Cm_of hst (by decide) (Nat.le_of_ble_eq_true rfl) ?_
  show mm_V g l RX0 "add" cX0_add 2 none [] d 0 0 _ 0 [some (.ref 1), some (.int ((((b : Int64).toUInt64 >>> ((8 * 2 : Int32).toInt64.toUInt64 &&& Int64.toUInt64 63)).toInt64 : Int64).toInt32))] [] (M, 1186, false) 0 0
  refine mm_aload_n dX0_add_0 rfl rfl ?_
  refine mm_get3 (ci := 0) in_X0 rfl (k := 1) (by decide) rfl kF_X0_19 dX0_add_1 h1 (Nat.le_of_ble_eq_true rfl) rfl ?_
  refine mm_if_lt 43 dX0_add_4 (by decide) (fun h => absurd h (by decide)) (fun _ => ?_)
  refine mm_aload_n dX0_add_7 rfl rfl ?_
  refine mm_get3 (ci := 0) in_X0 rfl (k := 1) (by decide) rfl kF_X0_19 dX0_add_8 h1 (Nat.le_of_ble_eq_true rfl) rfl ?_
  refine mm_aload_n dX0_add_11 rfl rfl ?_
  refine mm_get3 (ci := 0) in_X0 rfl (k := 0) (by decide) rfl kF_X0_13 dX0_add_12 h1 (Nat.le_of_ble_eq_true rfl) rfl ?_
  refine mm_alen3 (v := 700) (fun _ => rfl) h2 (Nat.le_of_ble_eq_true rfl) rfl dX0_add_15 ?_
  refine mm_icmp_ge 43 dX0_add_16 (by decide) (fun h => absurd h (by decide)) (fun _ => ?_)
  refine mm_aload_n dX0_add_19 rfl rfl ?_
  refine mm_get3 (ci := 0) in_X0 rfl (k := 0) (by decide) rfl kF_X0_13 dX0_add_20 h1 (Nat.le_of_ble_eq_true rfl) rfl ?_
  refine mm_aload_n dX0_add_23 rfl rfl ?_
  refine mm_get3 (ci := 0) in_X0 rfl (k := 1) (by decide) rfl kF_X0_19 dX0_add_24 h1 (Nat.le_of_ble_eq_true rfl) rfl ?_
  refine mm_iload_n dX0_add_27 rfl ?_
  refine mm_i2b dX0_add_28 ?_
  refine mm_bast3 h2 (Nat.le_of_ble_eq_true rfl) (by unfold vp_in; decide) dX0_add_29 ?_
  refine mm_aload_n dX0_add_30 rfl rfl ?_
  refine mm_dup dX0_add_31 rfl ?_
  refine mm_get3 (ci := 0) in_X0 rfl (k := 1) (by decide) rfl kF_X0_19 dX0_add_32 (mm_upN (by decide) h1) (Nat.le_of_ble_eq_true rfl) rfl ?_
  refine mm_iconst (v := 1) dX0_add_35 (by decide) ?_
  refine mm_iadd dX0_add_36 ?_
  refine mm_put3 (ci := 0) (fs1 := [.ref 2, .int (((0 + 1) + 1) + 1), .int 0]) in_X0 tyX0_ok nmX0 rfl (k := 1) (by decide) rfl rfl kF_X0_19 dX0_add_37 (mm_fit_int _) (mm_upN (by decide) h1) (Nat.le_of_ble_eq_true rfl) (Nat.le_of_ble_eq_true rfl) rfl ?_
  refine mm_goto 48 dX0_add_40 (by decide) ?_
  refine mm_vret dX0_add_48 rfl ?_ (by omega) (by omega)
  refine ⟨rfl, rfl, ?_⟩
  dsimp only
  exact ⟨(mm_upN (by decide) mm_up_s), mm_up_s, fun x e2 e1 => mm_upN e1 (mm_upN e2 (rfl))⟩

set_option maxHeartbeats 4000000 in
set_option maxRecDepth 100000 in
theorem k387_X0_add {g : mm_G} {l : Launch} (hst : l.stackTraces = false) {d : Nat} (M : Nat → mm_C) (b : Int64) (h1 : M 1 = .inr (0, [.ref 2, .int (((0 + 1) + 1) + 1), .int 0])) (h2 : M 2 = .inl (2, 700, .inl (upd (upd (upd (fun _ => 0) ((0 : Int32).toNatClampNeg) (vp_nar .byte (((((b : Int64).toUInt64 >>> ((8 * (5 - 1) : Int32).toInt64.toUInt64 &&& Int64.toUInt64 63)).toInt64 : Int64).toInt32 : Int32).toInt8.toInt32))) ((0 + 1 : Int32).toNatClampNeg) (vp_nar .byte (((((b : Int64).toUInt64 >>> ((8 * 3 : Int32).toInt64.toUInt64 &&& Int64.toUInt64 63)).toInt64 : Int64).toInt32 : Int32).toInt8.toInt32))) (((0 + 1) + 1 : Int32).toNatClampNeg) (vp_nar .byte (((((b : Int64).toUInt64 >>> ((8 * 2 : Int32).toInt64.toUInt64 &&& Int64.toUInt64 63)).toInt64 : Int64).toInt32 : Int32).toInt8.toInt32))))) : mm_Cm g l yX0_add (.code yX0_add cX0_add 2 none) d 0 0 [.ref 1, .int ((((b : Int64).toUInt64 >>> ((8 * 1 : Int32).toInt64.toUInt64 &&& Int64.toUInt64 63)).toInt64 : Int64).toInt32)] (M, 1186, false) (fun v S' => v = none ∧ S'.2 = (1186, false) ∧ S'.1 2 = .inl (2, 700, .inl (upd (upd (upd (upd (fun _ => 0) ((0 : Int32).toNatClampNeg) (vp_nar .byte (((((b : Int64).toUInt64 >>> ((8 * (5 - 1) : Int32).toInt64.toUInt64 &&& Int64.toUInt64 63)).toInt64 : Int64).toInt32 : Int32).toInt8.toInt32))) ((0 + 1 : Int32).toNatClampNeg) (vp_nar .byte (((((b : Int64).toUInt64 >>> ((8 * 3 : Int32).toInt64.toUInt64 &&& Int64.toUInt64 63)).toInt64 : Int64).toInt32 : Int32).toInt8.toInt32))) (((0 + 1) + 1 : Int32).toNatClampNeg) (vp_nar .byte (((((b : Int64).toUInt64 >>> ((8 * 2 : Int32).toInt64.toUInt64 &&& Int64.toUInt64 63)).toInt64 : Int64).toInt32 : Int32).toInt8.toInt32))) ((((0 + 1) + 1) + 1 : Int32).toNatClampNeg) (vp_nar .byte (((((b : Int64).toUInt64 >>> ((8 * 1 : Int32).toInt64.toUInt64 &&& Int64.toUInt64 63)).toInt64 : Int64).toInt32 : Int32).toInt8.toInt32)))) ∧ S'.1 1 = .inr (0, [.ref 2, .int ((((0 + 1) + 1) + 1) + 1), .int 0]) ∧ ∀ j, j ≠ 2 → j ≠ 1 → S'.1 j = M j) := by
  refine mm_Cm_of hst (by decide) (Nat.le_of_ble_eq_true rfl) ?_
  show mm_V g l RX0 "add" cX0_add 2 none [] d 0 0 _ 0 [some (.ref 1), some (.int ((((b : Int64).toUInt64 >>> ((8 * 1 : Int32).toInt64.toUInt64 &&& Int64.toUInt64 63)).toInt64 : Int64).toInt32))] [] (M, 1186, false) 0 0
  refine mm_aload_n dX0_add_0 rfl rfl ?_
  refine mm_get3 (ci := 0) in_X0 rfl (k := 1) (by decide) rfl kF_X0_19 dX0_add_1 h1 (Nat.le_of_ble_eq_true rfl) rfl ?_
  refine mm_if_lt 43 dX0_add_4 (by decide) (fun h => absurd h (by decide)) (fun _ => ?_)
  refine mm_aload_n dX0_add_7 rfl rfl ?_
  refine mm_get3 (ci := 0) in_X0 rfl (k := 1) (by decide) rfl kF_X0_19 dX0_add_8 h1 (Nat.le_of_ble_eq_true rfl) rfl ?_
  refine mm_aload_n dX0_add_11 rfl rfl ?_
  refine mm_get3 (ci := 0) in_X0 rfl (k := 0) (by decide) rfl kF_X0_13 dX0_add_12 h1 (Nat.le_of_ble_eq_true rfl) rfl ?_
  refine mm_alen3 (v := 700) (fun _ => rfl) h2 (Nat.le_of_ble_eq_true rfl) rfl dX0_add_15 ?_
  refine mm_icmp_ge 43 dX0_add_16 (by decide) (fun h => absurd h (by decide)) (fun _ => ?_)
  refine mm_aload_n dX0_add_19 rfl rfl ?_
  refine mm_get3 (ci := 0) in_X0 rfl (k := 0) (by decide) rfl kF_X0_13 dX0_add_20 h1 (Nat.le_of_ble_eq_true rfl) rfl ?_
  refine mm_aload_n dX0_add_23 rfl rfl ?_
  refine mm_get3 (ci := 0) in_X0 rfl (k := 1) (by decide) rfl kF_X0_19 dX0_add_24 h1 (Nat.le_of_ble_eq_true rfl) rfl ?_
  refine mm_iload_n dX0_add_27 rfl ?_
  refine mm_i2b dX0_add_28 ?_
  refine mm_bast3 h2 (Nat.le_of_ble_eq_true rfl) (by unfold vp_in; decide) dX0_add_29 ?_
  refine mm_aload_n dX0_add_30 rfl rfl ?_
  refine mm_dup dX0_add_31 rfl ?_
  refine mm_get3 (ci := 0) in_X0 rfl (k := 1) (by decide) rfl kF_X0_19 dX0_add_32 (mm_upN (by decide) h1) (Nat.le_of_ble_eq_true rfl) rfl ?_
  refine mm_iconst (v := 1) dX0_add_35 (by decide) ?_
  refine mm_iadd dX0_add_36 ?_
  refine mm_put3 (ci := 0) (fs1 := [.ref 2, .int ((((0 + 1) + 1) + 1) + 1), .int 0]) in_X0 tyX0_ok nmX0 rfl (k := 1) (by decide) rfl rfl kF_X0_19 dX0_add_37 (mm_fit_int _) (mm_upN (by decide) h1) (Nat.le_of_ble_eq_true rfl) (Nat.le_of_ble_eq_true rfl) rfl ?_
  refine mm_goto 48 dX0_add_40 (by decide) ?_
  refine mm_vret dX0_add_48 rfl ?_ (by omega) (by omega)
  refine ⟨rfl, rfl, ?_⟩
  dsimp only
  exact ⟨(mm_upN (by decide) mm_up_s), mm_up_s, fun x e2 e1 => mm_upN e1 (mm_upN e2 (rfl))⟩

set_option maxHeartbeats 4000000 in
set_option maxRecDepth 100000 in
theorem k389_X0_add {g : mm_G} {l : Launch} (hst : l.stackTraces = false) {d : Nat} (M : Nat → mm_C) (b : Int64) (h1 : M 1 = .inr (0, [.ref 2, .int ((((0 + 1) + 1) + 1) + 1), .int 0])) (h2 : M 2 = .inl (2, 700, .inl (upd (upd (upd (upd (fun _ => 0) ((0 : Int32).toNatClampNeg) (vp_nar .byte (((((b : Int64).toUInt64 >>> ((8 * (5 - 1) : Int32).toInt64.toUInt64 &&& Int64.toUInt64 63)).toInt64 : Int64).toInt32 : Int32).toInt8.toInt32))) ((0 + 1 : Int32).toNatClampNeg) (vp_nar .byte (((((b : Int64).toUInt64 >>> ((8 * 3 : Int32).toInt64.toUInt64 &&& Int64.toUInt64 63)).toInt64 : Int64).toInt32 : Int32).toInt8.toInt32))) (((0 + 1) + 1 : Int32).toNatClampNeg) (vp_nar .byte (((((b : Int64).toUInt64 >>> ((8 * 2 : Int32).toInt64.toUInt64 &&& Int64.toUInt64 63)).toInt64 : Int64).toInt32 : Int32).toInt8.toInt32))) ((((0 + 1) + 1) + 1 : Int32).toNatClampNeg) (vp_nar .byte (((((b : Int64).toUInt64 >>> ((8 * 1 : Int32).toInt64.toUInt64 &&& Int64.toUInt64 63)).toInt64 : Int64).toInt32 : Int32).toInt8.toInt32))))) : mm_Cm g l yX0_add (.code yX0_add cX0_add 2 none) d 0 0 [.ref 1, .int ((((b : Int64).toUInt64 >>> ((8 * 0 : Int32).toInt64.toUInt64 &&& Int64.toUInt64 63)).toInt64 : Int64).toInt32)] (M, 1186, false) (fun v S' => v = none ∧ S'.2 = (1186, false) ∧ S'.1 2 = .inl (2, 700, .inl (upd (upd (upd (upd (upd (fun _ => 0) ((0 : Int32).toNatClampNeg) (vp_nar .byte (((((b : Int64).toUInt64 >>> ((8 * (5 - 1) : Int32).toInt64.toUInt64 &&& Int64.toUInt64 63)).toInt64 : Int64).toInt32 : Int32).toInt8.toInt32))) ((0 + 1 : Int32).toNatClampNeg) (vp_nar .byte (((((b : Int64).toUInt64 >>> ((8 * 3 : Int32).toInt64.toUInt64 &&& Int64.toUInt64 63)).toInt64 : Int64).toInt32 : Int32).toInt8.toInt32))) (((0 + 1) + 1 : Int32).toNatClampNeg) (vp_nar .byte (((((b : Int64).toUInt64 >>> ((8 * 2 : Int32).toInt64.toUInt64 &&& Int64.toUInt64 63)).toInt64 : Int64).toInt32 : Int32).toInt8.toInt32))) ((((0 + 1) + 1) + 1 : Int32).toNatClampNeg) (vp_nar .byte (((((b : Int64).toUInt64 >>> ((8 * 1 : Int32).toInt64.toUInt64 &&& Int64.toUInt64 63)).toInt64 : Int64).toInt32 : Int32).toInt8.toInt32))) (((((0 + 1) + 1) + 1) + 1 : Int32).toNatClampNeg) (vp_nar .byte (((((b : Int64).toUInt64 >>> ((8 * 0 : Int32).toInt64.toUInt64 &&& Int64.toUInt64 63)).toInt64 : Int64).toInt32 : Int32).toInt8.toInt32)))) ∧ S'.1 1 = .inr (0, [.ref 2, .int (((((0 + 1) + 1) + 1) + 1) + 1), .int 0]) ∧ ∀ j, j ≠ 2 → j ≠ 1 → S'.1 j = M j) := by
  refine mm_Cm_of hst (by decide) (Nat.le_of_ble_eq_true rfl) ?_
  show mm_V g l RX0 "add" cX0_add 2 none [] d 0 0 _ 0 [some (.ref 1), some (.int ((((b : Int64).toUInt64 >>> ((8 * 0 : Int32).toInt64.toUInt64 &&& Int64.toUInt64 63)).toInt64 : Int64).toInt32))] [] (M, 1186, false) 0 0
  refine mm_aload_n dX0_add_0 rfl rfl ?_
  refine mm_get3 (ci := 0) in_X0 rfl (k := 1) (by decide) rfl kF_X0_19 dX0_add_1 h1 (Nat.le_of_ble_eq_true rfl) rfl ?_
  refine mm_if_lt 43 dX0_add_4 (by decide) (fun h => absurd h (by decide)) (fun _ => ?_)
  refine mm_aload_n dX0_add_7 rfl rfl ?_
  refine mm_get3 (ci := 0) in_X0 rfl (k := 1) (by decide) rfl kF_X0_19 dX0_add_8 h1 (Nat.le_of_ble_eq_true rfl) rfl ?_
  refine mm_aload_n dX0_add_11 rfl rfl ?_
  refine mm_get3 (ci := 0) in_X0 rfl (k := 0) (by decide) rfl kF_X0_13 dX0_add_12 h1 (Nat.le_of_ble_eq_true rfl) rfl ?_
  refine mm_alen3 (v := 700) (fun _ => rfl) h2 (Nat.le_of_ble_eq_true rfl) rfl dX0_add_15 ?_
  refine mm_icmp_ge 43 dX0_add_16 (by decide) (fun h => absurd h (by decide)) (fun _ => ?_)
  refine mm_aload_n dX0_add_19 rfl rfl ?_
  refine mm_get3 (ci := 0) in_X0 rfl (k := 0) (by decide) rfl kF_X0_13 dX0_add_20 h1 (Nat.le_of_ble_eq_true rfl) rfl ?_
  refine mm_aload_n dX0_add_23 rfl rfl ?_
  refine mm_get3 (ci := 0) in_X0 rfl (k := 1) (by decide) rfl kF_X0_19 dX0_add_24 h1 (Nat.le_of_ble_eq_true rfl) rfl ?_
  refine mm_iload_n dX0_add_27 rfl ?_
  refine mm_i2b dX0_add_28 ?_
  refine mm_bast3 h2 (Nat.le_of_ble_eq_true rfl) (by unfold vp_in; decide) dX0_add_29 ?_
  refine mm_aload_n dX0_add_30 rfl rfl ?_
  refine mm_dup dX0_add_31 rfl ?_
  refine mm_get3 (ci := 0) in_X0 rfl (k := 1) (by decide) rfl kF_X0_19 dX0_add_32 (mm_upN (by decide) h1) (Nat.le_of_ble_eq_true rfl) rfl ?_
  refine mm_iconst (v := 1) dX0_add_35 (by decide) ?_
  refine mm_iadd dX0_add_36 ?_
  refine mm_put3 (ci := 0) (fs1 := [.ref 2, .int (((((0 + 1) + 1) + 1) + 1) + 1), .int 0]) in_X0 tyX0_ok nmX0 rfl (k := 1) (by decide) rfl rfl kF_X0_19 dX0_add_37 (mm_fit_int _) (mm_upN (by decide) h1) (Nat.le_of_ble_eq_true rfl) (Nat.le_of_ble_eq_true rfl) rfl ?_
  refine mm_goto 48 dX0_add_40 (by decide) ?_
  refine mm_vret dX0_add_48 rfl ?_ (by omega) (by omega)
  refine ⟨rfl, rfl, ?_⟩
  dsimp only
  exact ⟨(mm_upN (by decide) mm_up_s), mm_up_s, fun x e2 e1 => mm_upN e1 (mm_upN e2 (rfl))⟩

set_option maxHeartbeats 4000000 in
set_option maxRecDepth 100000 in
theorem k391_X0_size {g : mm_G} {l : Launch} (hst : l.stackTraces = false) {d : Nat} (M : Nat → mm_C) (b : Int64) (h1 : M 1 = .inr (0, [.ref 2, .int (((((0 + 1) + 1) + 1) + 1) + 1), .int 0])) : mm_Cm g l yX0_size (.code yX0_size cX0_size 1 (some .int)) d 0 0 [.ref 1] (M, 1186, false) (fun v S' => v = some (.int (((((0 + 1) + 1) + 1) + 1) + 1)) ∧ S' = (M, 1186, false)) := by
  refine mm_Cm_of hst (by decide) (Nat.le_of_ble_eq_true rfl) ?_
  show mm_V g l RX0 "size" cX0_size 1 (some .int) [] d 0 0 _ 0 [some (.ref 1)] [] (M, 1186, false) 0 0
  refine mm_aload_n dX0_size_0 rfl rfl ?_
  refine mm_get3 (ci := 0) in_X0 rfl (k := 1) (by decide) rfl kF_X0_19 dX0_size_1 h1 (Nat.le_of_ble_eq_true rfl) rfl ?_
  refine mm_iret dX0_size_4 rfl rfl ?_ (by omega) (by omega)
  exact ⟨rfl, rfl⟩

set_option maxHeartbeats 4000000 in
set_option maxRecDepth 100000 in
theorem f_feed_5 {g : mm_G} {l : Launch} (hst : l.stackTraces = false) {d : Nat} (M : Nat → mm_C) (b : Int64) (h0 : M 0 = .inr (11, [.ref 1, .ref 3, .ref 5, .ref 197, .ref 389, .ref 1094, .ref 1095, .ref 1097, .int (-1)])) (h1 : M 1 = .inr (0, [.ref 2, .int 0, .int 0])) (h2 : M 2 = .inl (2, 700, .inl (fun _ => 0))) : mm_Ct g l yX11_feed (.code yX11_feed cX11_feed 5 (some .int)) (d + 1) 0 0 [.ref 0, .long b, .int 5] (M, 1186, false) (fun r S' => r = .inl (some (.int (((((0 + 1) + 1) + 1) + 1) + 1))) ∧ S'.2 = (1186, false) ∧ ∀ j, 1101 ≤ j → S'.1 j = M j) := by
  refine mm_Ct_of hst (by decide) (Nat.le_of_ble_eq_true rfl) ?_
  show mm_V g l RX11 "feed" cX11_feed 5 (some .int) [] (d + 1) 0 0 _ 0 [some (.ref 0), some (.long b), none, some (.int 5), none] [] (M, 1186, false) 0 0
  refine mm_iload_n dX11_feed_0 rfl ?_
  refine mm_iconst (v := 1) dX11_feed_1 (by decide) ?_
  refine mm_icmp_lt 11 dX11_feed_2 (by decide) (fun h => absurd h (by decide)) (fun _ => ?_)
  refine mm_iload_n dX11_feed_5 rfl ?_
  refine mm_bipush (v := 8) dX11_feed_6 (by decide) ?_
  refine mm_icmp_le 21 dX11_feed_8 (by decide) (fun _ => ?_) (fun h => absurd (by decide) h)
  refine mm_aload_n dX11_feed_21 rfl rfl ?_
  refine mm_get3 (ci := 11) in_X11 rfl (k := 0) (by decide) rfl kF_X11_14 dX11_feed_22 h0 (Nat.le_of_ble_eq_true rfl) rfl ?_
  refine mm_callV3 (ci := 0) wM_X0_size kM_X11_74 wI_X0_size wS_X0_size dX11_feed_25 (k379_X0_size hst _ b h1) h1 (Nat.le_of_ble_eq_true rfl) rfl rfl rfl (Nat.le_of_ble_eq_true rfl) (by omega) (by omega) (fun v S9 hq => ?_)
  obtain ⟨rfl, rfl⟩ := hq
  refine ⟨fun h => ⟨h, rfl⟩, ?_⟩
  refine mm_iload_n dX11_feed_28 rfl ?_
  refine mm_iadd dX11_feed_29 ?_
  refine mm_sipush (v := 700) dX11_feed_30 (by decide) ?_
  refine mm_icmp_le 46 dX11_feed_33 (by decide) (fun _ => ?_) (fun h => absurd (by decide) h)
  refine mm_iload_n dX11_feed_46 rfl ?_
  refine mm_iconst (v := 1) dX11_feed_47 (by decide) ?_
  refine mm_isub dX11_feed_48 ?_
  refine mm_istore [some (.ref 0), some (.long b), none, some (.int 5), some (.int (5 - 1))] dX11_feed_49 (by decide) rfl ?_
  refine mm_iload dX11_feed_51 rfl ?_
  refine mm_if_lt 77 dX11_feed_53 (by decide) (fun h => absurd h (by decide)) (fun _ => ?_)
  refine mm_aload_n dX11_feed_56 rfl rfl ?_
  refine mm_get3 (ci := 11) in_X11 rfl (k := 0) (by decide) rfl kF_X11_14 dX11_feed_57 h0 (Nat.le_of_ble_eq_true rfl) rfl ?_
  refine mm_lload_n dX11_feed_60 rfl ?_
  refine mm_bipush (v := 8) dX11_feed_61 (by decide) ?_
  refine mm_iload dX11_feed_63 rfl ?_
  refine mm_imul dX11_feed_65 ?_
  refine mm_lushr dX11_feed_66 ?_
  refine mm_l2i dX11_feed_67 ?_
  refine mm_callV3 (ci := 0) wM_X0_add kM_X11_83 wI_X0_add wS_X0_add dX11_feed_68 (k381_X0_add hst _ b h1 h2) h1 (Nat.le_of_ble_eq_true rfl) rfl rfl rfl (Nat.le_of_ble_eq_true rfl) (by omega) (by omega) (fun v S9 hq => ?_)
  obtain ⟨M382, z382⟩ := S9
  obtain ⟨rfl, hz382, g382_2, g382_1, g382_F⟩ := hq
  cases hz382
  refine ⟨fun h => ⟨h, rfl⟩, ?_⟩
  refine mm_iinc (v := 3) [some (.ref 0), some (.long b), none, some (.int 5), some (.int 3)] dX11_feed_71 rfl (by decide) (by decide) rfl ?_
  refine mm_goto 51 dX11_feed_74 (by decide) ?_
  refine mm_iload dX11_feed_51 rfl ?_
  refine mm_if_lt 77 dX11_feed_53 (by decide) (fun h => absurd h (by decide)) (fun _ => ?_)
  refine mm_aload_n dX11_feed_56 rfl rfl ?_
  refine mm_get3 (ci := 11) in_X11 rfl (k := 0) (by decide) rfl kF_X11_14 dX11_feed_57 (mm_frN (g382_F _ (by decide) (by decide)) h0) (Nat.le_of_ble_eq_true rfl) rfl ?_
  refine mm_lload_n dX11_feed_60 rfl ?_
  refine mm_bipush (v := 8) dX11_feed_61 (by decide) ?_
  refine mm_iload dX11_feed_63 rfl ?_
  refine mm_imul dX11_feed_65 ?_
  refine mm_lushr dX11_feed_66 ?_
  refine mm_l2i dX11_feed_67 ?_
  refine mm_callV3 (ci := 0) wM_X0_add kM_X11_83 wI_X0_add wS_X0_add dX11_feed_68 (k383_X0_add hst _ b g382_1 g382_2) g382_1 (Nat.le_of_ble_eq_true rfl) rfl rfl rfl (Nat.le_of_ble_eq_true rfl) (by omega) (by omega) (fun v S9 hq => ?_)
  obtain ⟨M384, z384⟩ := S9
  obtain ⟨rfl, hz384, g384_2, g384_1, g384_F⟩ := hq
  cases hz384
  refine ⟨fun h => ⟨h, rfl⟩, ?_⟩
  refine mm_iinc (v := 2) [some (.ref 0), some (.long b), none, some (.int 5), some (.int 2)] dX11_feed_71 rfl (by decide) (by decide) rfl ?_
  refine mm_goto 51 dX11_feed_74 (by decide) ?_
  refine mm_iload dX11_feed_51 rfl ?_
  refine mm_if_lt 77 dX11_feed_53 (by decide) (fun h => absurd h (by decide)) (fun _ => ?_)
  refine mm_aload_n dX11_feed_56 rfl rfl ?_
  refine mm_get3 (ci := 11) in_X11 rfl (k := 0) (by decide) rfl kF_X11_14 dX11_feed_57 (mm_frN (g384_F _ (by decide) (by decide)) (mm_frN (g382_F _ (by decide) (by decide)) h0)) (Nat.le_of_ble_eq_true rfl) rfl ?_
  refine mm_lload_n dX11_feed_60 rfl ?_
  refine mm_bipush (v := 8) dX11_feed_61 (by decide) ?_
  refine mm_iload dX11_feed_63 rfl ?_
  refine mm_imul dX11_feed_65 ?_
  refine mm_lushr dX11_feed_66 ?_
  refine mm_l2i dX11_feed_67 ?_
  refine mm_callV3 (ci := 0) wM_X0_add kM_X11_83 wI_X0_add wS_X0_add dX11_feed_68 (k385_X0_add hst _ b g384_1 g384_2) g384_1 (Nat.le_of_ble_eq_true rfl) rfl rfl rfl (Nat.le_of_ble_eq_true rfl) (by omega) (by omega) (fun v S9 hq => ?_)
  obtain ⟨M386, z386⟩ := S9
  obtain ⟨rfl, hz386, g386_2, g386_1, g386_F⟩ := hq
  cases hz386
  refine ⟨fun h => ⟨h, rfl⟩, ?_⟩
  refine mm_iinc (v := 1) [some (.ref 0), some (.long b), none, some (.int 5), some (.int 1)] dX11_feed_71 rfl (by decide) (by decide) rfl ?_
  refine mm_goto 51 dX11_feed_74 (by decide) ?_
  refine mm_iload dX11_feed_51 rfl ?_
  refine mm_if_lt 77 dX11_feed_53 (by decide) (fun h => absurd h (by decide)) (fun _ => ?_)
  refine mm_aload_n dX11_feed_56 rfl rfl ?_
  refine mm_get3 (ci := 11) in_X11 rfl (k := 0) (by decide) rfl kF_X11_14 dX11_feed_57 (mm_frN (g386_F _ (by decide) (by decide)) (mm_frN (g384_F _ (by decide) (by decide)) (mm_frN (g382_F _ (by decide) (by decide)) h0))) (Nat.le_of_ble_eq_true rfl) rfl ?_
  refine mm_lload_n dX11_feed_60 rfl ?_
  refine mm_bipush (v := 8) dX11_feed_61 (by decide) ?_
  refine mm_iload dX11_feed_63 rfl ?_
  refine mm_imul dX11_feed_65 ?_
  refine mm_lushr dX11_feed_66 ?_
  refine mm_l2i dX11_feed_67 ?_
  refine mm_callV3 (ci := 0) wM_X0_add kM_X11_83 wI_X0_add wS_X0_add dX11_feed_68 (k387_X0_add hst _ b g386_1 g386_2) g386_1 (Nat.le_of_ble_eq_true rfl) rfl rfl rfl (Nat.le_of_ble_eq_true rfl) (by omega) (by omega) (fun v S9 hq => ?_)
  obtain ⟨M388, z388⟩ := S9
  obtain ⟨rfl, hz388, g388_2, g388_1, g388_F⟩ := hq
  cases hz388
  refine ⟨fun h => ⟨h, rfl⟩, ?_⟩
  refine mm_iinc (v := 0) [some (.ref 0), some (.long b), none, some (.int 5), some (.int 0)] dX11_feed_71 rfl (by decide) (by decide) rfl ?_
  refine mm_goto 51 dX11_feed_74 (by decide) ?_
  refine mm_iload dX11_feed_51 rfl ?_
  refine mm_if_lt 77 dX11_feed_53 (by decide) (fun h => absurd h (by decide)) (fun _ => ?_)
  refine mm_aload_n dX11_feed_56 rfl rfl ?_
  refine mm_get3 (ci := 11) in_X11 rfl (k := 0) (by decide) rfl kF_X11_14 dX11_feed_57 (mm_frN (g388_F _ (by decide) (by decide)) (mm_frN (g386_F _ (by decide) (by decide)) (mm_frN (g384_F _ (by decide) (by decide)) (mm_frN (g382_F _ (by decide) (by decide)) h0)))) (Nat.le_of_ble_eq_true rfl) rfl ?_
  refine mm_lload_n dX11_feed_60 rfl ?_
  refine mm_bipush (v := 8) dX11_feed_61 (by decide) ?_
  refine mm_iload dX11_feed_63 rfl ?_
  refine mm_imul dX11_feed_65 ?_
  refine mm_lushr dX11_feed_66 ?_
  refine mm_l2i dX11_feed_67 ?_
  refine mm_callV3 (ci := 0) wM_X0_add kM_X11_83 wI_X0_add wS_X0_add dX11_feed_68 (k389_X0_add hst _ b g388_1 g388_2) g388_1 (Nat.le_of_ble_eq_true rfl) rfl rfl rfl (Nat.le_of_ble_eq_true rfl) (by omega) (by omega) (fun v S9 hq => ?_)
  obtain ⟨M390, z390⟩ := S9
  obtain ⟨rfl, hz390, g390_2, g390_1, g390_F⟩ := hq
  cases hz390
  refine ⟨fun h => ⟨h, rfl⟩, ?_⟩
  refine mm_iinc (v := (-1)) [some (.ref 0), some (.long b), none, some (.int 5), some (.int (-1))] dX11_feed_71 rfl (by decide) (by decide) rfl ?_
  refine mm_goto 51 dX11_feed_74 (by decide) ?_
  refine mm_iload dX11_feed_51 rfl ?_
  refine mm_if_lt 77 dX11_feed_53 (by decide) (fun _ => ?_) (fun h => absurd (by decide) h)
  refine mm_aload_n dX11_feed_77 rfl rfl ?_
  refine mm_get3 (ci := 11) in_X11 rfl (k := 0) (by decide) rfl kF_X11_14 dX11_feed_78 (mm_frN (g390_F _ (by decide) (by decide)) (mm_frN (g388_F _ (by decide) (by decide)) (mm_frN (g386_F _ (by decide) (by decide)) (mm_frN (g384_F _ (by decide) (by decide)) (mm_frN (g382_F _ (by decide) (by decide)) h0))))) (Nat.le_of_ble_eq_true rfl) rfl ?_
  refine mm_callV3 (ci := 0) wM_X0_size kM_X11_74 wI_X0_size wS_X0_size dX11_feed_81 (k391_X0_size hst _ b g390_1) g390_1 (Nat.le_of_ble_eq_true rfl) rfl rfl rfl (Nat.le_of_ble_eq_true rfl) (by omega) (by omega) (fun v S9 hq => ?_)
  obtain ⟨rfl, rfl⟩ := hq
  refine ⟨fun h => ⟨h, rfl⟩, ?_⟩
  refine mm_iret dX11_feed_84 rfl rfl ?_ (by omega) (by omega)
  refine ⟨rfl, rfl, fun x hx => ?_⟩
  dsimp only
  exact mm_frN (g390_F _ (by omega) (by omega) ) (mm_frN (g388_F _ (by omega) (by omega) ) (mm_frN (g386_F _ (by omega) (by omega) ) (mm_frN (g384_F _ (by omega) (by omega) ) (mm_frN (g382_F _ (by omega) (by omega) ) (rfl)))))

set_option maxHeartbeats 4000000 in
set_option maxRecDepth 100000 in
theorem k393_X0_size {g : mm_G} {l : Launch} (hst : l.stackTraces = false) {d : Nat} (M : Nat → mm_C) (b : Int64) (h1 : M 1 = .inr (0, [.ref 2, .int 0, .int 0])) : mm_Cm g l yX0_size (.code yX0_size cX0_size 1 (some .int)) d 0 0 [.ref 1] (M, 1186, false) (fun v S' => v = some (.int 0) ∧ S' = (M, 1186, false)) := by
  refine mm_Cm_of hst (by decide) (Nat.le_of_ble_eq_true rfl) ?_
  show mm_V g l RX0 "size" cX0_size 1 (some .int) [] d 0 0 _ 0 [some (.ref 1)] [] (M, 1186, false) 0 0
  refine mm_aload_n dX0_size_0 rfl rfl ?_
  refine mm_get3 (ci := 0) in_X0 rfl (k := 1) (by decide) rfl kF_X0_19 dX0_size_1 h1 (Nat.le_of_ble_eq_true rfl) rfl ?_
  refine mm_iret dX0_size_4 rfl rfl ?_ (by omega) (by omega)
  exact ⟨rfl, rfl⟩

set_option maxHeartbeats 4000000 in
set_option maxRecDepth 100000 in
theorem k395_X0_add {g : mm_G} {l : Launch} (hst : l.stackTraces = false) {d : Nat} (M : Nat → mm_C) (b : Int64) (h1 : M 1 = .inr (0, [.ref 2, .int 0, .int 0])) (h2 : M 2 = .inl (2, 700, .inl (fun _ => 0))) : mm_Cm g l yX0_add (.code yX0_add cX0_add 2 none) d 0 0 [.ref 1, .int ((((b : Int64).toUInt64 >>> ((8 * (6 - 1) : Int32).toInt64.toUInt64 &&& Int64.toUInt64 63)).toInt64 : Int64).toInt32)] (M, 1186, false) (fun v S' => v = none ∧ S'.2 = (1186, false) ∧ S'.1 2 = .inl (2, 700, .inl (upd (fun _ => 0) ((0 : Int32).toNatClampNeg) (vp_nar .byte (((((b : Int64).toUInt64 >>> ((8 * (6 - 1) : Int32).toInt64.toUInt64 &&& Int64.toUInt64 63)).toInt64 : Int64).toInt32 : Int32).toInt8.toInt32)))) ∧ S'.1 1 = .inr (0, [.ref 2, .int (0 + 1), .int 0]) ∧ ∀ j, j ≠ 2 → j ≠ 1 → S'.1 j = M j) := by
  refine mm_Cm_of hst (by decide) (Nat.le_of_ble_eq_true rfl) ?_
  show mm_V g l RX0 "add" cX0_add 2 none [] d 0 0 _ 0 [some (.ref 1), some (.int ((((b : Int64).toUInt64 >>> ((8 * (6 - 1) : Int32).toInt64.toUInt64 &&& Int64.toUInt64 63)).toInt64 : Int64).toInt32))] [] (M, 1186, false) 0 0
  refine mm_aload_n dX0_add_0 rfl rfl ?_
  refine mm_get3 (ci := 0) in_X0 rfl (k := 1) (by decide) rfl kF_X0_19 dX0_add_1 h1 (Nat.le_of_ble_eq_true rfl) rfl ?_
  refine mm_if_lt 43 dX0_add_4 (by decide) (fun h => absurd h (by decide)) (fun _ => ?_)
  refine mm_aload_n dX0_add_7 rfl rfl ?_
  refine mm_get3 (ci := 0) in_X0 rfl (k := 1) (by decide) rfl kF_X0_19 dX0_add_8 h1 (Nat.le_of_ble_eq_true rfl) rfl ?_
  refine mm_aload_n dX0_add_11 rfl rfl ?_
  refine mm_get3 (ci := 0) in_X0 rfl (k := 0) (by decide) rfl kF_X0_13 dX0_add_12 h1 (Nat.le_of_ble_eq_true rfl) rfl ?_
  refine mm_alen3 (v := 700) (fun _ => rfl) h2 (Nat.le_of_ble_eq_true rfl) rfl dX0_add_15 ?_
  refine mm_icmp_ge 43 dX0_add_16 (by decide) (fun h => absurd h (by decide)) (fun _ => ?_)
  refine mm_aload_n dX0_add_19 rfl rfl ?_
  refine mm_get3 (ci := 0) in_X0 rfl (k := 0) (by decide) rfl kF_X0_13 dX0_add_20 h1 (Nat.le_of_ble_eq_true rfl) rfl ?_
  refine mm_aload_n dX0_add_23 rfl rfl ?_
  refine mm_get3 (ci := 0) in_X0 rfl (k := 1) (by decide) rfl kF_X0_19 dX0_add_24 h1 (Nat.le_of_ble_eq_true rfl) rfl ?_
  refine mm_iload_n dX0_add_27 rfl ?_
  refine mm_i2b dX0_add_28 ?_
  refine mm_bast3 h2 (Nat.le_of_ble_eq_true rfl) (by unfold vp_in; decide) dX0_add_29 ?_
  refine mm_aload_n dX0_add_30 rfl rfl ?_
  refine mm_dup dX0_add_31 rfl ?_
  refine mm_get3 (ci := 0) in_X0 rfl (k := 1) (by decide) rfl kF_X0_19 dX0_add_32 (mm_upN (by decide) h1) (Nat.le_of_ble_eq_true rfl) rfl ?_
  refine mm_iconst (v := 1) dX0_add_35 (by decide) ?_
  refine mm_iadd dX0_add_36 ?_
  refine mm_put3 (ci := 0) (fs1 := [.ref 2, .int (0 + 1), .int 0]) in_X0 tyX0_ok nmX0 rfl (k := 1) (by decide) rfl rfl kF_X0_19 dX0_add_37 (mm_fit_int _) (mm_upN (by decide) h1) (Nat.le_of_ble_eq_true rfl) (Nat.le_of_ble_eq_true rfl) rfl ?_
  refine mm_goto 48 dX0_add_40 (by decide) ?_
  refine mm_vret dX0_add_48 rfl ?_ (by omega) (by omega)
  refine ⟨rfl, rfl, ?_⟩
  dsimp only
  exact ⟨(mm_upN (by decide) mm_up_s), mm_up_s, fun x e2 e1 => mm_upN e1 (mm_upN e2 (rfl))⟩

set_option maxHeartbeats 4000000 in
set_option maxRecDepth 100000 in
theorem k397_X0_add {g : mm_G} {l : Launch} (hst : l.stackTraces = false) {d : Nat} (M : Nat → mm_C) (b : Int64) (h1 : M 1 = .inr (0, [.ref 2, .int (0 + 1), .int 0])) (h2 : M 2 = .inl (2, 700, .inl (upd (fun _ => 0) ((0 : Int32).toNatClampNeg) (vp_nar .byte (((((b : Int64).toUInt64 >>> ((8 * (6 - 1) : Int32).toInt64.toUInt64 &&& Int64.toUInt64 63)).toInt64 : Int64).toInt32 : Int32).toInt8.toInt32))))) : mm_Cm g l yX0_add (.code yX0_add cX0_add 2 none) d 0 0 [.ref 1, .int ((((b : Int64).toUInt64 >>> ((8 * 4 : Int32).toInt64.toUInt64 &&& Int64.toUInt64 63)).toInt64 : Int64).toInt32)] (M, 1186, false) (fun v S' => v = none ∧ S'.2 = (1186, false) ∧ S'.1 2 = .inl (2, 700, .inl (upd (upd (fun _ => 0) ((0 : Int32).toNatClampNeg) (vp_nar .byte (((((b : Int64).toUInt64 >>> ((8 * (6 - 1) : Int32).toInt64.toUInt64 &&& Int64.toUInt64 63)).toInt64 : Int64).toInt32 : Int32).toInt8.toInt32))) ((0 + 1 : Int32).toNatClampNeg) (vp_nar .byte (((((b : Int64).toUInt64 >>> ((8 * 4 : Int32).toInt64.toUInt64 &&& Int64.toUInt64 63)).toInt64 : Int64).toInt32 : Int32).toInt8.toInt32)))) ∧ S'.1 1 = .inr (0, [.ref 2, .int ((0 + 1) + 1), .int 0]) ∧ ∀ j, j ≠ 2 → j ≠ 1 → S'.1 j = M j) := by
  refine mm_Cm_of hst (by decide) (Nat.le_of_ble_eq_true rfl) ?_
  show mm_V g l RX0 "add" cX0_add 2 none [] d 0 0 _ 0 [some (.ref 1), some (.int ((((b : Int64).toUInt64 >>> ((8 * 4 : Int32).toInt64.toUInt64 &&& Int64.toUInt64 63)).toInt64 : Int64).toInt32))] [] (M, 1186, false) 0 0
  refine mm_aload_n dX0_add_0 rfl rfl ?_
  refine mm_get3 (ci := 0) in_X0 rfl (k := 1) (by decide) rfl kF_X0_19 dX0_add_1 h1 (Nat.le_of_ble_eq_true rfl) rfl ?_
  refine mm_if_lt 43 dX0_add_4 (by decide) (fun h => absurd h (by decide)) (fun _ => ?_)
  refine mm_aload_n dX0_add_7 rfl rfl ?_
  refine mm_get3 (ci := 0) in_X0 rfl (k := 1) (by decide) rfl kF_X0_19 dX0_add_8 h1 (Nat.le_of_ble_eq_true rfl) rfl ?_
  refine mm_aload_n dX0_add_11 rfl rfl ?_
  refine mm_get3 (ci := 0) in_X0 rfl (k := 0) (by decide) rfl kF_X0_13 dX0_add_12 h1 (Nat.le_of_ble_eq_true rfl) rfl ?_
  refine mm_alen3 (v := 700) (fun _ => rfl) h2 (Nat.le_of_ble_eq_true rfl) rfl dX0_add_15 ?_
  refine mm_icmp_ge 43 dX0_add_16 (by decide) (fun h => absurd h (by decide)) (fun _ => ?_)
  refine mm_aload_n dX0_add_19 rfl rfl ?_
  refine mm_get3 (ci := 0) in_X0 rfl (k := 0) (by decide) rfl kF_X0_13 dX0_add_20 h1 (Nat.le_of_ble_eq_true rfl) rfl ?_
  refine mm_aload_n dX0_add_23 rfl rfl ?_
  refine mm_get3 (ci := 0) in_X0 rfl (k := 1) (by decide) rfl kF_X0_19 dX0_add_24 h1 (Nat.le_of_ble_eq_true rfl) rfl ?_
  refine mm_iload_n dX0_add_27 rfl ?_
  refine mm_i2b dX0_add_28 ?_
  refine mm_bast3 h2 (Nat.le_of_ble_eq_true rfl) (by unfold vp_in; decide) dX0_add_29 ?_
  refine mm_aload_n dX0_add_30 rfl rfl ?_
  refine mm_dup dX0_add_31 rfl ?_
  refine mm_get3 (ci := 0) in_X0 rfl (k := 1) (by decide) rfl kF_X0_19 dX0_add_32 (mm_upN (by decide) h1) (Nat.le_of_ble_eq_true rfl) rfl ?_
  refine mm_iconst (v := 1) dX0_add_35 (by decide) ?_
  refine mm_iadd dX0_add_36 ?_
  refine mm_put3 (ci := 0) (fs1 := [.ref 2, .int ((0 + 1) + 1), .int 0]) in_X0 tyX0_ok nmX0 rfl (k := 1) (by decide) rfl rfl kF_X0_19 dX0_add_37 (mm_fit_int _) (mm_upN (by decide) h1) (Nat.le_of_ble_eq_true rfl) (Nat.le_of_ble_eq_true rfl) rfl ?_
  refine mm_goto 48 dX0_add_40 (by decide) ?_
  refine mm_vret dX0_add_48 rfl ?_ (by omega) (by omega)
  refine ⟨rfl, rfl, ?_⟩
  dsimp only
  exact ⟨(mm_upN (by decide) mm_up_s), mm_up_s, fun x e2 e1 => mm_upN e1 (mm_upN e2 (rfl))⟩

set_option maxHeartbeats 4000000 in
set_option maxRecDepth 100000 in
theorem k399_X0_add {g : mm_G} {l : Launch} (hst : l.stackTraces = false) {d : Nat} (M : Nat → mm_C) (b : Int64) (h1 : M 1 = .inr (0, [.ref 2, .int ((0 + 1) + 1), .int 0])) (h2 : M 2 = .inl (2, 700, .inl (upd (upd (fun _ => 0) ((0 : Int32).toNatClampNeg) (vp_nar .byte (((((b : Int64).toUInt64 >>> ((8 * (6 - 1) : Int32).toInt64.toUInt64 &&& Int64.toUInt64 63)).toInt64 : Int64).toInt32 : Int32).toInt8.toInt32))) ((0 + 1 : Int32).toNatClampNeg) (vp_nar .byte (((((b : Int64).toUInt64 >>> ((8 * 4 : Int32).toInt64.toUInt64 &&& Int64.toUInt64 63)).toInt64 : Int64).toInt32 : Int32).toInt8.toInt32))))) : mm_Cm g l yX0_add (.code yX0_add cX0_add 2 none) d 0 0 [.ref 1, .int ((((b : Int64).toUInt64 >>> ((8 * 3 : Int32).toInt64.toUInt64 &&& Int64.toUInt64 63)).toInt64 : Int64).toInt32)] (M, 1186, false) (fun v S' => v = none ∧ S'.2 = (1186, false) ∧ S'.1 2 = .inl (2, 700, .inl (upd (upd (upd (fun _ => 0) ((0 : Int32).toNatClampNeg) (vp_nar .byte (((((b : Int64).toUInt64 >>> ((8 * (6 - 1) : Int32).toInt64.toUInt64 &&& Int64.toUInt64 63)).toInt64 : Int64).toInt32 : Int32).toInt8.toInt32))) ((0 + 1 : Int32).toNatClampNeg) (vp_nar .byte (((((b : Int64).toUInt64 >>> ((8 * 4 : Int32).toInt64.toUInt64 &&& Int64.toUInt64 63)).toInt64 : Int64).toInt32 : Int32).toInt8.toInt32))) (((0 + 1) + 1 : Int32).toNatClampNeg) (vp_nar .byte (((((b : Int64).toUInt64 >>> ((8 * 3 : Int32).toInt64.toUInt64 &&& Int64.toUInt64 63)).toInt64 : Int64).toInt32 : Int32).toInt8.toInt32)))) ∧ S'.1 1 = .inr (0, [.ref 2, .int (((0 + 1) + 1) + 1), .int 0]) ∧ ∀ j, j ≠ 2 → j ≠ 1 → S'.1 j = M j) := by
  refine mm_Cm_of hst (by decide) (Nat.le_of_ble_eq_true rfl) ?_
  show mm_V g l RX0 "add" cX0_add 2 none [] d 0 0 _ 0 [some (.ref 1), some (.int ((((b : Int64).toUInt64 >>> ((8 * 3 : Int32).toInt64.toUInt64 &&& Int64.toUInt64 63)).toInt64 : Int64).toInt32))] [] (M, 1186, false) 0 0
  refine mm_aload_n dX0_add_0 rfl rfl ?_
  refine mm_get3 (ci := 0) in_X0 rfl (k := 1) (by decide) rfl kF_X0_19 dX0_add_1 h1 (Nat.le_of_ble_eq_true rfl) rfl ?_
  refine mm_if_lt 43 dX0_add_4 (by decide) (fun h => absurd h (by decide)) (fun _ => ?_)
  refine mm_aload_n dX0_add_7 rfl rfl ?_
  refine mm_get3 (ci := 0) in_X0 rfl (k := 1) (by decide) rfl kF_X0_19 dX0_add_8 h1 (Nat.le_of_ble_eq_true rfl) rfl ?_
  refine mm_aload_n dX0_add_11 rfl rfl ?_
  refine mm_get3 (ci := 0) in_X0 rfl (k := 0) (by decide) rfl kF_X0_13 dX0_add_12 h1 (Nat.le_of_ble_eq_true rfl) rfl ?_
  refine mm_alen3 (v := 700) (fun _ => rfl) h2 (Nat.le_of_ble_eq_true rfl) rfl dX0_add_15 ?_
  refine mm_icmp_ge 43 dX0_add_16 (by decide) (fun h => absurd h (by decide)) (fun _ => ?_)
  refine mm_aload_n dX0_add_19 rfl rfl ?_
  refine mm_get3 (ci := 0) in_X0 rfl (k := 0) (by decide) rfl kF_X0_13 dX0_add_20 h1 (Nat.le_of_ble_eq_true rfl) rfl ?_
  refine mm_aload_n dX0_add_23 rfl rfl ?_
  refine mm_get3 (ci := 0) in_X0 rfl (k := 1) (by decide) rfl kF_X0_19 dX0_add_24 h1 (Nat.le_of_ble_eq_true rfl) rfl ?_
  refine mm_iload_n dX0_add_27 rfl ?_
  refine mm_i2b dX0_add_28 ?_
  refine mm_bast3 h2 (Nat.le_of_ble_eq_true rfl) (by unfold vp_in; decide) dX0_add_29 ?_
  refine mm_aload_n dX0_add_30 rfl rfl ?_
  refine mm_dup dX0_add_31 rfl ?_
  refine mm_get3 (ci := 0) in_X0 rfl (k := 1) (by decide) rfl kF_X0_19 dX0_add_32 (mm_upN (by decide) h1) (Nat.le_of_ble_eq_true rfl) rfl ?_
  refine mm_iconst (v := 1) dX0_add_35 (by decide) ?_
  refine mm_iadd dX0_add_36 ?_
  refine mm_put3 (ci := 0) (fs1 := [.ref 2, .int (((0 + 1) + 1) + 1), .int 0]) in_X0 tyX0_ok nmX0 rfl (k := 1) (by decide) rfl rfl kF_X0_19 dX0_add_37 (mm_fit_int _) (mm_upN (by decide) h1) (Nat.le_of_ble_eq_true rfl) (Nat.le_of_ble_eq_true rfl) rfl ?_
  refine mm_goto 48 dX0_add_40 (by decide) ?_
  refine mm_vret dX0_add_48 rfl ?_ (by omega) (by omega)
  refine ⟨rfl, rfl, ?_⟩
  dsimp only
  exact ⟨(mm_upN (by decide) mm_up_s), mm_up_s, fun x e2 e1 => mm_upN e1 (mm_upN e2 (rfl))⟩

set_option maxHeartbeats 4000000 in
set_option maxRecDepth 100000 in
theorem k401_X0_add {g : mm_G} {l : Launch} (hst : l.stackTraces = false) {d : Nat} (M : Nat → mm_C) (b : Int64) (h1 : M 1 = .inr (0, [.ref 2, .int (((0 + 1) + 1) + 1), .int 0])) (h2 : M 2 = .inl (2, 700, .inl (upd (upd (upd (fun _ => 0) ((0 : Int32).toNatClampNeg) (vp_nar .byte (((((b : Int64).toUInt64 >>> ((8 * (6 - 1) : Int32).toInt64.toUInt64 &&& Int64.toUInt64 63)).toInt64 : Int64).toInt32 : Int32).toInt8.toInt32))) ((0 + 1 : Int32).toNatClampNeg) (vp_nar .byte (((((b : Int64).toUInt64 >>> ((8 * 4 : Int32).toInt64.toUInt64 &&& Int64.toUInt64 63)).toInt64 : Int64).toInt32 : Int32).toInt8.toInt32))) (((0 + 1) + 1 : Int32).toNatClampNeg) (vp_nar .byte (((((b : Int64).toUInt64 >>> ((8 * 3 : Int32).toInt64.toUInt64 &&& Int64.toUInt64 63)).toInt64 : Int64).toInt32 : Int32).toInt8.toInt32))))) : mm_Cm g l yX0_add (.code yX0_add cX0_add 2 none) d 0 0 [.ref 1, .int ((((b : Int64).toUInt64 >>> ((8 * 2 : Int32).toInt64.toUInt64 &&& Int64.toUInt64 63)).toInt64 : Int64).toInt32)] (M, 1186, false) (fun v S' => v = none ∧ S'.2 = (1186, false) ∧ S'.1 2 = .inl (2, 700, .inl (upd (upd (upd (upd (fun _ => 0) ((0 : Int32).toNatClampNeg) (vp_nar .byte (((((b : Int64).toUInt64 >>> ((8 * (6 - 1) : Int32).toInt64.toUInt64 &&& Int64.toUInt64 63)).toInt64 : Int64).toInt32 : Int32).toInt8.toInt32))) ((0 + 1 : Int32).toNatClampNeg) (vp_nar .byte (((((b : Int64).toUInt64 >>> ((8 * 4 : Int32).toInt64.toUInt64 &&& Int64.toUInt64 63)).toInt64 : Int64).toInt32 : Int32).toInt8.toInt32))) (((0 + 1) + 1 : Int32).toNatClampNeg) (vp_nar .byte (((((b : Int64).toUInt64 >>> ((8 * 3 : Int32).toInt64.toUInt64 &&& Int64.toUInt64 63)).toInt64 : Int64).toInt32 : Int32).toInt8.toInt32))) ((((0 + 1) + 1) + 1 : Int32).toNatClampNeg) (vp_nar .byte (((((b : Int64).toUInt64 >>> ((8 * 2 : Int32).toInt64.toUInt64 &&& Int64.toUInt64 63)).toInt64 : Int64).toInt32 : Int32).toInt8.toInt32)))) ∧ S'.1 1 = .inr (0, [.ref 2, .int ((((0 + 1) + 1) + 1) + 1), .int 0]) ∧ ∀ j, j ≠ 2 → j ≠ 1 → S'.1 j = M j) := by
  refine mm_Cm_of hst (by decide) (Nat.le_of_ble_eq_true rfl) ?_
  show mm_V g l RX0 "add" cX0_add 2 none [] d 0 0 _ 0 [some (.ref 1), some (.int ((((b : Int64).toUInt64 >>> ((8 * 2 : Int32).toInt64.toUInt64 &&& Int64.toUInt64 63)).toInt64 : Int64).toInt32))] [] (M, 1186, false) 0 0
  refine mm_aload_n dX0_add_0 rfl rfl ?_
  refine mm_get3 (ci := 0) in_X0 rfl (k := 1) (by decide) rfl kF_X0_19 dX0_add_1 h1 (Nat.le_of_ble_eq_true rfl) rfl ?_
  refine mm_if_lt 43 dX0_add_4 (by decide) (fun h => absurd h (by decide)) (fun _ => ?_)
  refine mm_aload_n dX0_add_7 rfl rfl ?_
  refine mm_get3 (ci := 0) in_X0 rfl (k := 1) (by decide) rfl kF_X0_19 dX0_add_8 h1 (Nat.le_of_ble_eq_true rfl) rfl ?_
  refine mm_aload_n dX0_add_11 rfl rfl ?_
  refine mm_get3 (ci := 0) in_X0 rfl (k := 0) (by decide) rfl kF_X0_13 dX0_add_12 h1 (Nat.le_of_ble_eq_true rfl) rfl ?_
  refine mm_alen3 (v := 700) (fun _ => rfl) h2 (Nat.le_of_ble_eq_true rfl) rfl dX0_add_15 ?_
  refine mm_icmp_ge 43 dX0_add_16 (by decide) (fun h => absurd h (by decide)) (fun _ => ?_)
  refine mm_aload_n dX0_add_19 rfl rfl ?_
  refine mm_get3 (ci := 0) in_X0 rfl (k := 0) (by decide) rfl kF_X0_13 dX0_add_20 h1 (Nat.le_of_ble_eq_true rfl) rfl ?_
  refine mm_aload_n dX0_add_23 rfl rfl ?_
  refine mm_get3 (ci := 0) in_X0 rfl (k := 1) (by decide) rfl kF_X0_19 dX0_add_24 h1 (Nat.le_of_ble_eq_true rfl) rfl ?_
  refine mm_iload_n dX0_add_27 rfl ?_
  refine mm_i2b dX0_add_28 ?_
  refine mm_bast3 h2 (Nat.le_of_ble_eq_true rfl) (by unfold vp_in; decide) dX0_add_29 ?_
  refine mm_aload_n dX0_add_30 rfl rfl ?_
  refine mm_dup dX0_add_31 rfl ?_
  refine mm_get3 (ci := 0) in_X0 rfl (k := 1) (by decide) rfl kF_X0_19 dX0_add_32 (mm_upN (by decide) h1) (Nat.le_of_ble_eq_true rfl) rfl ?_
  refine mm_iconst (v := 1) dX0_add_35 (by decide) ?_
  refine mm_iadd dX0_add_36 ?_
  refine mm_put3 (ci := 0) (fs1 := [.ref 2, .int ((((0 + 1) + 1) + 1) + 1), .int 0]) in_X0 tyX0_ok nmX0 rfl (k := 1) (by decide) rfl rfl kF_X0_19 dX0_add_37 (mm_fit_int _) (mm_upN (by decide) h1) (Nat.le_of_ble_eq_true rfl) (Nat.le_of_ble_eq_true rfl) rfl ?_
  refine mm_goto 48 dX0_add_40 (by decide) ?_
  refine mm_vret dX0_add_48 rfl ?_ (by omega) (by omega)
  refine ⟨rfl, rfl, ?_⟩
  dsimp only
  exact ⟨(mm_upN (by decide) mm_up_s), mm_up_s, fun x e2 e1 => mm_upN e1 (mm_upN e2 (rfl))⟩

set_option maxHeartbeats 4000000 in
set_option maxRecDepth 100000 in
theorem k403_X0_add {g : mm_G} {l : Launch} (hst : l.stackTraces = false) {d : Nat} (M : Nat → mm_C) (b : Int64) (h1 : M 1 = .inr (0, [.ref 2, .int ((((0 + 1) + 1) + 1) + 1), .int 0])) (h2 : M 2 = .inl (2, 700, .inl (upd (upd (upd (upd (fun _ => 0) ((0 : Int32).toNatClampNeg) (vp_nar .byte (((((b : Int64).toUInt64 >>> ((8 * (6 - 1) : Int32).toInt64.toUInt64 &&& Int64.toUInt64 63)).toInt64 : Int64).toInt32 : Int32).toInt8.toInt32))) ((0 + 1 : Int32).toNatClampNeg) (vp_nar .byte (((((b : Int64).toUInt64 >>> ((8 * 4 : Int32).toInt64.toUInt64 &&& Int64.toUInt64 63)).toInt64 : Int64).toInt32 : Int32).toInt8.toInt32))) (((0 + 1) + 1 : Int32).toNatClampNeg) (vp_nar .byte (((((b : Int64).toUInt64 >>> ((8 * 3 : Int32).toInt64.toUInt64 &&& Int64.toUInt64 63)).toInt64 : Int64).toInt32 : Int32).toInt8.toInt32))) ((((0 + 1) + 1) + 1 : Int32).toNatClampNeg) (vp_nar .byte (((((b : Int64).toUInt64 >>> ((8 * 2 : Int32).toInt64.toUInt64 &&& Int64.toUInt64 63)).toInt64 : Int64).toInt32 : Int32).toInt8.toInt32))))) : mm_Cm g l yX0_add (.code yX0_add cX0_add 2 none) d 0 0 [.ref 1, .int ((((b : Int64).toUInt64 >>> ((8 * 1 : Int32).toInt64.toUInt64 &&& Int64.toUInt64 63)).toInt64 : Int64).toInt32)] (M, 1186, false) (fun v S' => v = none ∧ S'.2 = (1186, false) ∧ S'.1 2 = .inl (2, 700, .inl (upd (upd (upd (upd (upd (fun _ => 0) ((0 : Int32).toNatClampNeg) (vp_nar .byte (((((b : Int64).toUInt64 >>> ((8 * (6 - 1) : Int32).toInt64.toUInt64 &&& Int64.toUInt64 63)).toInt64 : Int64).toInt32 : Int32).toInt8.toInt32))) ((0 + 1 : Int32).toNatClampNeg) (vp_nar .byte (((((b : Int64).toUInt64 >>> ((8 * 4 : Int32).toInt64.toUInt64 &&& Int64.toUInt64 63)).toInt64 : Int64).toInt32 : Int32).toInt8.toInt32))) (((0 + 1) + 1 : Int32).toNatClampNeg) (vp_nar .byte (((((b : Int64).toUInt64 >>> ((8 * 3 : Int32).toInt64.toUInt64 &&& Int64.toUInt64 63)).toInt64 : Int64).toInt32 : Int32).toInt8.toInt32))) ((((0 + 1) + 1) + 1 : Int32).toNatClampNeg) (vp_nar .byte (((((b : Int64).toUInt64 >>> ((8 * 2 : Int32).toInt64.toUInt64 &&& Int64.toUInt64 63)).toInt64 : Int64).toInt32 : Int32).toInt8.toInt32))) (((((0 + 1) + 1) + 1) + 1 : Int32).toNatClampNeg) (vp_nar .byte (((((b : Int64).toUInt64 >>> ((8 * 1 : Int32).toInt64.toUInt64 &&& Int64.toUInt64 63)).toInt64 : Int64).toInt32 : Int32).toInt8.toInt32)))) ∧ S'.1 1 = .inr (0, [.ref 2, .int (((((0 + 1) + 1) + 1) + 1) + 1), .int 0]) ∧ ∀ j, j ≠ 2 → j ≠ 1 → S'.1 j = M j) := by
  refine mm_Cm_of hst (by decide) (Nat.le_of_ble_eq_true rfl) ?_
  show mm_V g l RX0 "add" cX0_add 2 none [] d 0 0 _ 0 [some (.ref 1), some (.int ((((b : Int64).toUInt64 >>> ((8 * 1 : Int32).toInt64.toUInt64 &&& Int64.toUInt64 63)).toInt64 : Int64).toInt32))] [] (M, 1186, false) 0 0
  refine mm_aload_n dX0_add_0 rfl rfl ?_
  refine mm_get3 (ci := 0) in_X0 rfl (k := 1) (by decide) rfl kF_X0_19 dX0_add_1 h1 (Nat.le_of_ble_eq_true rfl) rfl ?_
  refine mm_if_lt 43 dX0_add_4 (by decide) (fun h => absurd h (by decide)) (fun _ => ?_)
  refine mm_aload_n dX0_add_7 rfl rfl ?_
  refine mm_get3 (ci := 0) in_X0 rfl (k := 1) (by decide) rfl kF_X0_19 dX0_add_8 h1 (Nat.le_of_ble_eq_true rfl) rfl ?_
  refine mm_aload_n dX0_add_11 rfl rfl ?_
  refine mm_get3 (ci := 0) in_X0 rfl (k := 0) (by decide) rfl kF_X0_13 dX0_add_12 h1 (Nat.le_of_ble_eq_true rfl) rfl ?_
  refine mm_alen3 (v := 700) (fun _ => rfl) h2 (Nat.le_of_ble_eq_true rfl) rfl dX0_add_15 ?_
  refine mm_icmp_ge 43 dX0_add_16 (by decide) (fun h => absurd h (by decide)) (fun _ => ?_)
  refine mm_aload_n dX0_add_19 rfl rfl ?_
  refine mm_get3 (ci := 0) in_X0 rfl (k := 0) (by decide) rfl kF_X0_13 dX0_add_20 h1 (Nat.le_of_ble_eq_true rfl) rfl ?_
  refine mm_aload_n dX0_add_23 rfl rfl ?_
  refine mm_get3 (ci := 0) in_X0 rfl (k := 1) (by decide) rfl kF_X0_19 dX0_add_24 h1 (Nat.le_of_ble_eq_true rfl) rfl ?_
  refine mm_iload_n dX0_add_27 rfl ?_
  refine mm_i2b dX0_add_28 ?_
  refine mm_bast3 h2 (Nat.le_of_ble_eq_true rfl) (by unfold vp_in; decide) dX0_add_29 ?_
  refine mm_aload_n dX0_add_30 rfl rfl ?_
  refine mm_dup dX0_add_31 rfl ?_
  refine mm_get3 (ci := 0) in_X0 rfl (k := 1) (by decide) rfl kF_X0_19 dX0_add_32 (mm_upN (by decide) h1) (Nat.le_of_ble_eq_true rfl) rfl ?_
  refine mm_iconst (v := 1) dX0_add_35 (by decide) ?_
  refine mm_iadd dX0_add_36 ?_
  refine mm_put3 (ci := 0) (fs1 := [.ref 2, .int (((((0 + 1) + 1) + 1) + 1) + 1), .int 0]) in_X0 tyX0_ok nmX0 rfl (k := 1) (by decide) rfl rfl kF_X0_19 dX0_add_37 (mm_fit_int _) (mm_upN (by decide) h1) (Nat.le_of_ble_eq_true rfl) (Nat.le_of_ble_eq_true rfl) rfl ?_
  refine mm_goto 48 dX0_add_40 (by decide) ?_
  refine mm_vret dX0_add_48 rfl ?_ (by omega) (by omega)
  refine ⟨rfl, rfl, ?_⟩
  dsimp only
  exact ⟨(mm_upN (by decide) mm_up_s), mm_up_s, fun x e2 e1 => mm_upN e1 (mm_upN e2 (rfl))⟩

set_option maxHeartbeats 4000000 in
set_option maxRecDepth 100000 in
theorem k405_X0_add {g : mm_G} {l : Launch} (hst : l.stackTraces = false) {d : Nat} (M : Nat → mm_C) (b : Int64) (h1 : M 1 = .inr (0, [.ref 2, .int (((((0 + 1) + 1) + 1) + 1) + 1), .int 0])) (h2 : M 2 = .inl (2, 700, .inl (upd (upd (upd (upd (upd (fun _ => 0) ((0 : Int32).toNatClampNeg) (vp_nar .byte (((((b : Int64).toUInt64 >>> ((8 * (6 - 1) : Int32).toInt64.toUInt64 &&& Int64.toUInt64 63)).toInt64 : Int64).toInt32 : Int32).toInt8.toInt32))) ((0 + 1 : Int32).toNatClampNeg) (vp_nar .byte (((((b : Int64).toUInt64 >>> ((8 * 4 : Int32).toInt64.toUInt64 &&& Int64.toUInt64 63)).toInt64 : Int64).toInt32 : Int32).toInt8.toInt32))) (((0 + 1) + 1 : Int32).toNatClampNeg) (vp_nar .byte (((((b : Int64).toUInt64 >>> ((8 * 3 : Int32).toInt64.toUInt64 &&& Int64.toUInt64 63)).toInt64 : Int64).toInt32 : Int32).toInt8.toInt32))) ((((0 + 1) + 1) + 1 : Int32).toNatClampNeg) (vp_nar .byte (((((b : Int64).toUInt64 >>> ((8 * 2 : Int32).toInt64.toUInt64 &&& Int64.toUInt64 63)).toInt64 : Int64).toInt32 : Int32).toInt8.toInt32))) (((((0 + 1) + 1) + 1) + 1 : Int32).toNatClampNeg) (vp_nar .byte (((((b : Int64).toUInt64 >>> ((8 * 1 : Int32).toInt64.toUInt64 &&& Int64.toUInt64 63)).toInt64 : Int64).toInt32 : Int32).toInt8.toInt32))))) : mm_Cm g l yX0_add (.code yX0_add cX0_add 2 none) d 0 0 [.ref 1, .int ((((b : Int64).toUInt64 >>> ((8 * 0 : Int32).toInt64.toUInt64 &&& Int64.toUInt64 63)).toInt64 : Int64).toInt32)] (M, 1186, false) (fun v S' => v = none ∧ S'.2 = (1186, false) ∧ S'.1 2 = .inl (2, 700, .inl (upd (upd (upd (upd (upd (upd (fun _ => 0) ((0 : Int32).toNatClampNeg) (vp_nar .byte (((((b : Int64).toUInt64 >>> ((8 * (6 - 1) : Int32).toInt64.toUInt64 &&& Int64.toUInt64 63)).toInt64 : Int64).toInt32 : Int32).toInt8.toInt32))) ((0 + 1 : Int32).toNatClampNeg) (vp_nar .byte (((((b : Int64).toUInt64 >>> ((8 * 4 : Int32).toInt64.toUInt64 &&& Int64.toUInt64 63)).toInt64 : Int64).toInt32 : Int32).toInt8.toInt32))) (((0 + 1) + 1 : Int32).toNatClampNeg) (vp_nar .byte (((((b : Int64).toUInt64 >>> ((8 * 3 : Int32).toInt64.toUInt64 &&& Int64.toUInt64 63)).toInt64 : Int64).toInt32 : Int32).toInt8.toInt32))) ((((0 + 1) + 1) + 1 : Int32).toNatClampNeg) (vp_nar .byte (((((b : Int64).toUInt64 >>> ((8 * 2 : Int32).toInt64.toUInt64 &&& Int64.toUInt64 63)).toInt64 : Int64).toInt32 : Int32).toInt8.toInt32))) (((((0 + 1) + 1) + 1) + 1 : Int32).toNatClampNeg) (vp_nar .byte (((((b : Int64).toUInt64 >>> ((8 * 1 : Int32).toInt64.toUInt64 &&& Int64.toUInt64 63)).toInt64 : Int64).toInt32 : Int32).toInt8.toInt32))) ((((((0 + 1) + 1) + 1) + 1) + 1 : Int32).toNatClampNeg) (vp_nar .byte (((((b : Int64).toUInt64 >>> ((8 * 0 : Int32).toInt64.toUInt64 &&& Int64.toUInt64 63)).toInt64 : Int64).toInt32 : Int32).toInt8.toInt32)))) ∧ S'.1 1 = .inr (0, [.ref 2, .int ((((((0 + 1) + 1) + 1) + 1) + 1) + 1), .int 0]) ∧ ∀ j, j ≠ 2 → j ≠ 1 → S'.1 j = M j) := by
  refine mm_Cm_of hst (by decide) (Nat.le_of_ble_eq_true rfl) ?_
  show mm_V g l RX0 "add" cX0_add 2 none [] d 0 0 _ 0 [some (.ref 1), some (.int ((((b : Int64).toUInt64 >>> ((8 * 0 : Int32).toInt64.toUInt64 &&& Int64.toUInt64 63)).toInt64 : Int64).toInt32))] [] (M, 1186, false) 0 0
  refine mm_aload_n dX0_add_0 rfl rfl ?_
  refine mm_get3 (ci := 0) in_X0 rfl (k := 1) (by decide) rfl kF_X0_19 dX0_add_1 h1 (Nat.le_of_ble_eq_true rfl) rfl ?_
  refine mm_if_lt 43 dX0_add_4 (by decide) (fun h => absurd h (by decide)) (fun _ => ?_)
  refine mm_aload_n dX0_add_7 rfl rfl ?_
  refine mm_get3 (ci := 0) in_X0 rfl (k := 1) (by decide) rfl kF_X0_19 dX0_add_8 h1 (Nat.le_of_ble_eq_true rfl) rfl ?_
  refine mm_aload_n dX0_add_11 rfl rfl ?_
  refine mm_get3 (ci := 0) in_X0 rfl (k := 0) (by decide) rfl kF_X0_13 dX0_add_12 h1 (Nat.le_of_ble_eq_true rfl) rfl ?_
  refine mm_alen3 (v := 700) (fun _ => rfl) h2 (Nat.le_of_ble_eq_true rfl) rfl dX0_add_15 ?_
  refine mm_icmp_ge 43 dX0_add_16 (by decide) (fun h => absurd h (by decide)) (fun _ => ?_)
  refine mm_aload_n dX0_add_19 rfl rfl ?_
  refine mm_get3 (ci := 0) in_X0 rfl (k := 0) (by decide) rfl kF_X0_13 dX0_add_20 h1 (Nat.le_of_ble_eq_true rfl) rfl ?_
  refine mm_aload_n dX0_add_23 rfl rfl ?_
  refine mm_get3 (ci := 0) in_X0 rfl (k := 1) (by decide) rfl kF_X0_19 dX0_add_24 h1 (Nat.le_of_ble_eq_true rfl) rfl ?_
  refine mm_iload_n dX0_add_27 rfl ?_
  refine mm_i2b dX0_add_28 ?_
  refine mm_bast3 h2 (Nat.le_of_ble_eq_true rfl) (by unfold vp_in; decide) dX0_add_29 ?_
  refine mm_aload_n dX0_add_30 rfl rfl ?_
  refine mm_dup dX0_add_31 rfl ?_
  refine mm_get3 (ci := 0) in_X0 rfl (k := 1) (by decide) rfl kF_X0_19 dX0_add_32 (mm_upN (by decide) h1) (Nat.le_of_ble_eq_true rfl) rfl ?_
  refine mm_iconst (v := 1) dX0_add_35 (by decide) ?_
  refine mm_iadd dX0_add_36 ?_
  refine mm_put3 (ci := 0) (fs1 := [.ref 2, .int ((((((0 + 1) + 1) + 1) + 1) + 1) + 1), .int 0]) in_X0 tyX0_ok nmX0 rfl (k := 1) (by decide) rfl rfl kF_X0_19 dX0_add_37 (mm_fit_int _) (mm_upN (by decide) h1) (Nat.le_of_ble_eq_true rfl) (Nat.le_of_ble_eq_true rfl) rfl ?_
  refine mm_goto 48 dX0_add_40 (by decide) ?_
  refine mm_vret dX0_add_48 rfl ?_ (by omega) (by omega)
  refine ⟨rfl, rfl, ?_⟩
  dsimp only
  exact ⟨(mm_upN (by decide) mm_up_s), mm_up_s, fun x e2 e1 => mm_upN e1 (mm_upN e2 (rfl))⟩

set_option maxHeartbeats 4000000 in
set_option maxRecDepth 100000 in
theorem k407_X0_size {g : mm_G} {l : Launch} (hst : l.stackTraces = false) {d : Nat} (M : Nat → mm_C) (b : Int64) (h1 : M 1 = .inr (0, [.ref 2, .int ((((((0 + 1) + 1) + 1) + 1) + 1) + 1), .int 0])) : mm_Cm g l yX0_size (.code yX0_size cX0_size 1 (some .int)) d 0 0 [.ref 1] (M, 1186, false) (fun v S' => v = some (.int ((((((0 + 1) + 1) + 1) + 1) + 1) + 1)) ∧ S' = (M, 1186, false)) := by
  refine mm_Cm_of hst (by decide) (Nat.le_of_ble_eq_true rfl) ?_
  show mm_V g l RX0 "size" cX0_size 1 (some .int) [] d 0 0 _ 0 [some (.ref 1)] [] (M, 1186, false) 0 0
  refine mm_aload_n dX0_size_0 rfl rfl ?_
  refine mm_get3 (ci := 0) in_X0 rfl (k := 1) (by decide) rfl kF_X0_19 dX0_size_1 h1 (Nat.le_of_ble_eq_true rfl) rfl ?_
  refine mm_iret dX0_size_4 rfl rfl ?_ (by omega) (by omega)
  exact ⟨rfl, rfl⟩

set_option maxHeartbeats 4000000 in
set_option maxRecDepth 100000 in
theorem f_feed_6 {g : mm_G} {l : Launch} (hst : l.stackTraces = false) {d : Nat} (M : Nat → mm_C) (b : Int64) (h0 : M 0 = .inr (11, [.ref 1, .ref 3, .ref 5, .ref 197, .ref 389, .ref 1094, .ref 1095, .ref 1097, .int (-1)])) (h1 : M 1 = .inr (0, [.ref 2, .int 0, .int 0])) (h2 : M 2 = .inl (2, 700, .inl (fun _ => 0))) : mm_Ct g l yX11_feed (.code yX11_feed cX11_feed 5 (some .int)) (d + 1) 0 0 [.ref 0, .long b, .int 6] (M, 1186, false) (fun r S' => r = .inl (some (.int ((((((0 + 1) + 1) + 1) + 1) + 1) + 1))) ∧ S'.2 = (1186, false) ∧ ∀ j, 1101 ≤ j → S'.1 j = M j) := by
  refine mm_Ct_of hst (by decide) (Nat.le_of_ble_eq_true rfl) ?_
  show mm_V g l RX11 "feed" cX11_feed 5 (some .int) [] (d + 1) 0 0 _ 0 [some (.ref 0), some (.long b), none, some (.int 6), none] [] (M, 1186, false) 0 0
  refine mm_iload_n dX11_feed_0 rfl ?_
  refine mm_iconst (v := 1) dX11_feed_1 (by decide) ?_
  refine mm_icmp_lt 11 dX11_feed_2 (by decide) (fun h => absurd h (by decide)) (fun _ => ?_)
  refine mm_iload_n dX11_feed_5 rfl ?_
  refine mm_bipush (v := 8) dX11_feed_6 (by decide) ?_
  refine mm_icmp_le 21 dX11_feed_8 (by decide) (fun _ => ?_) (fun h => absurd (by decide) h)
  refine mm_aload_n dX11_feed_21 rfl rfl ?_
  refine mm_get3 (ci := 11) in_X11 rfl (k := 0) (by decide) rfl kF_X11_14 dX11_feed_22 h0 (Nat.le_of_ble_eq_true rfl) rfl ?_
  refine mm_callV3 (ci := 0) wM_X0_size kM_X11_74 wI_X0_size wS_X0_size dX11_feed_25 (k393_X0_size hst _ b h1) h1 (Nat.le_of_ble_eq_true rfl) rfl rfl rfl (Nat.le_of_ble_eq_true rfl) (by omega) (by omega) (fun v S9 hq => ?_)
  obtain ⟨rfl, rfl⟩ := hq
  refine ⟨fun h => ⟨h, rfl⟩, ?_⟩
  refine mm_iload_n dX11_feed_28 rfl ?_
  refine mm_iadd dX11_feed_29 ?_
  refine mm_sipush (v := 700) dX11_feed_30 (by decide) ?_
  refine mm_icmp_le 46 dX11_feed_33 (by decide) (fun _ => ?_) (fun h => absurd (by decide) h)
  refine mm_iload_n dX11_feed_46 rfl ?_
  refine mm_iconst (v := 1) dX11_feed_47 (by decide) ?_
  refine mm_isub dX11_feed_48 ?_
  refine mm_istore [some (.ref 0), some (.long b), none, some (.int 6), some (.int (6 - 1))] dX11_feed_49 (by decide) rfl ?_
  refine mm_iload dX11_feed_51 rfl ?_
  refine mm_if_lt 77 dX11_feed_53 (by decide) (fun h => absurd h (by decide)) (fun _ => ?_)
  refine mm_aload_n dX11_feed_56 rfl rfl ?_
  refine mm_get3 (ci := 11) in_X11 rfl (k := 0) (by decide) rfl kF_X11_14 dX11_feed_57 h0 (Nat.le_of_ble_eq_true rfl) rfl ?_
  refine mm_lload_n dX11_feed_60 rfl ?_
  refine mm_bipush (v := 8) dX11_feed_61 (by decide) ?_
  refine mm_iload dX11_feed_63 rfl ?_
  refine mm_imul dX11_feed_65 ?_
  refine mm_lushr dX11_feed_66 ?_
  refine mm_l2i dX11_feed_67 ?_
  refine mm_callV3 (ci := 0) wM_X0_add kM_X11_83 wI_X0_add wS_X0_add dX11_feed_68 (k395_X0_add hst _ b h1 h2) h1 (Nat.le_of_ble_eq_true rfl) rfl rfl rfl (Nat.le_of_ble_eq_true rfl) (by omega) (by omega) (fun v S9 hq => ?_)
  obtain ⟨M396, z396⟩ := S9
  obtain ⟨rfl, hz396, g396_2, g396_1, g396_F⟩ := hq
  cases hz396
  refine ⟨fun h => ⟨h, rfl⟩, ?_⟩
  refine mm_iinc (v := 4) [some (.ref 0), some (.long b), none, some (.int 6), some (.int 4)] dX11_feed_71 rfl (by decide) (by decide) rfl ?_
  refine mm_goto 51 dX11_feed_74 (by decide) ?_
  refine mm_iload dX11_feed_51 rfl ?_
  refine mm_if_lt 77 dX11_feed_53 (by decide) (fun h => absurd h (by decide)) (fun _ => ?_)
  refine mm_aload_n dX11_feed_56 rfl rfl ?_
  refine mm_get3 (ci := 11) in_X11 rfl (k := 0) (by decide) rfl kF_X11_14 dX11_feed_57 (mm_frN (g396_F _ (by decide) (by decide)) h0) (Nat.le_of_ble_eq_true rfl) rfl ?_
  refine mm_lload_n dX11_feed_60 rfl ?_
  refine mm_bipush (v := 8) dX11_feed_61 (by decide) ?_
  refine mm_iload dX11_feed_63 rfl ?_
  refine mm_imul dX11_feed_65 ?_
  refine mm_lushr dX11_feed_66 ?_
  refine mm_l2i dX11_feed_67 ?_
  refine mm_callV3 (ci := 0) wM_X0_add kM_X11_83 wI_X0_add wS_X0_add dX11_feed_68 (k397_X0_add hst _ b g396_1 g396_2) g396_1 (Nat.le_of_ble_eq_true rfl) rfl rfl rfl (Nat.le_of_ble_eq_true rfl) (by omega) (by omega) (fun v S9 hq => ?_)
  obtain ⟨M398, z398⟩ := S9
  obtain ⟨rfl, hz398, g398_2, g398_1, g398_F⟩ := hq
  cases hz398
  refine ⟨fun h => ⟨h, rfl⟩, ?_⟩
  refine mm_iinc (v := 3) [some (.ref 0), some (.long b), none, some (.int 6), some (.int 3)] dX11_feed_71 rfl (by decide) (by decide) rfl ?_
  refine mm_goto 51 dX11_feed_74 (by decide) ?_
  refine mm_iload dX11_feed_51 rfl ?_
  refine mm_if_lt 77 dX11_feed_53 (by decide) (fun h => absurd h (by decide)) (fun _ => ?_)
  refine mm_aload_n dX11_feed_56 rfl rfl ?_
  refine mm_get3 (ci := 11) in_X11 rfl (k := 0) (by decide) rfl kF_X11_14 dX11_feed_57 (mm_frN (g398_F _ (by decide) (by decide)) (mm_frN (g396_F _ (by decide) (by decide)) h0)) (Nat.le_of_ble_eq_true rfl) rfl ?_
  refine mm_lload_n dX11_feed_60 rfl ?_
  refine mm_bipush (v := 8) dX11_feed_61 (by decide) ?_
  refine mm_iload dX11_feed_63 rfl ?_
  refine mm_imul dX11_feed_65 ?_
  refine mm_lushr dX11_feed_66 ?_
  refine mm_l2i dX11_feed_67 ?_
  refine mm_callV3 (ci := 0) wM_X0_add kM_X11_83 wI_X0_add wS_X0_add dX11_feed_68 (k399_X0_add hst _ b g398_1 g398_2) g398_1 (Nat.le_of_ble_eq_true rfl) rfl rfl rfl (Nat.le_of_ble_eq_true rfl) (by omega) (by omega) (fun v S9 hq => ?_)
  obtain ⟨M400, z400⟩ := S9
  obtain ⟨rfl, hz400, g400_2, g400_1, g400_F⟩ := hq
  cases hz400
  refine ⟨fun h => ⟨h, rfl⟩, ?_⟩
  refine mm_iinc (v := 2) [some (.ref 0), some (.long b), none, some (.int 6), some (.int 2)] dX11_feed_71 rfl (by decide) (by decide) rfl ?_
  refine mm_goto 51 dX11_feed_74 (by decide) ?_
  refine mm_iload dX11_feed_51 rfl ?_
  refine mm_if_lt 77 dX11_feed_53 (by decide) (fun h => absurd h (by decide)) (fun _ => ?_)
  refine mm_aload_n dX11_feed_56 rfl rfl ?_
  refine mm_get3 (ci := 11) in_X11 rfl (k := 0) (by decide) rfl kF_X11_14 dX11_feed_57 (mm_frN (g400_F _ (by decide) (by decide)) (mm_frN (g398_F _ (by decide) (by decide)) (mm_frN (g396_F _ (by decide) (by decide)) h0))) (Nat.le_of_ble_eq_true rfl) rfl ?_
  refine mm_lload_n dX11_feed_60 rfl ?_
  refine mm_bipush (v := 8) dX11_feed_61 (by decide) ?_
  refine mm_iload dX11_feed_63 rfl ?_
  refine mm_imul dX11_feed_65 ?_
  refine mm_lushr dX11_feed_66 ?_
  refine mm_l2i dX11_feed_67 ?_
  refine mm_callV3 (ci := 0) wM_X0_add kM_X11_83 wI_X0_add wS_X0_add dX11_feed_68 (k401_X0_add hst _ b g400_1 g400_2) g400_1 (Nat.le_of_ble_eq_true rfl) rfl rfl rfl (Nat.le_of_ble_eq_true rfl) (by omega) (by omega) (fun v S9 hq => ?_)
  obtain ⟨M402, z402⟩ := S9
  obtain ⟨rfl, hz402, g402_2, g402_1, g402_F⟩ := hq
  cases hz402
  refine ⟨fun h => ⟨h, rfl⟩, ?_⟩
  refine mm_iinc (v := 1) [some (.ref 0), some (.long b), none, some (.int 6), some (.int 1)] dX11_feed_71 rfl (by decide) (by decide) rfl ?_
  refine mm_goto 51 dX11_feed_74 (by decide) ?_
  refine mm_iload dX11_feed_51 rfl ?_
  refine mm_if_lt 77 dX11_feed_53 (by decide) (fun h => absurd h (by decide)) (fun _ => ?_)
  refine mm_aload_n dX11_feed_56 rfl rfl ?_
  refine mm_get3 (ci := 11) in_X11 rfl (k := 0) (by decide) rfl kF_X11_14 dX11_feed_57 (mm_frN (g402_F _ (by decide) (by decide)) (mm_frN (g400_F _ (by decide) (by decide)) (mm_frN (g398_F _ (by decide) (by decide)) (mm_frN (g396_F _ (by decide) (by decide)) h0)))) (Nat.le_of_ble_eq_true rfl) rfl ?_
  refine mm_lload_n dX11_feed_60 rfl ?_
  refine mm_bipush (v := 8) dX11_feed_61 (by decide) ?_
  refine mm_iload dX11_feed_63 rfl ?_
  refine mm_imul dX11_feed_65 ?_
  refine mm_lushr dX11_feed_66 ?_
  refine mm_l2i dX11_feed_67 ?_
  refine mm_callV3 (ci := 0) wM_X0_add kM_X11_83 wI_X0_add wS_X0_add dX11_feed_68 (k403_X0_add hst _ b g402_1 g402_2) g402_1 (Nat.le_of_ble_eq_true rfl) rfl rfl rfl (Nat.le_of_ble_eq_true rfl) (by omega) (by omega) (fun v S9 hq => ?_)
  obtain ⟨M404, z404⟩ := S9
  obtain ⟨rfl, hz404, g404_2, g404_1, g404_F⟩ := hq
  cases hz404
  refine ⟨fun h => ⟨h, rfl⟩, ?_⟩
  refine mm_iinc (v := 0) [some (.ref 0), some (.long b), none, some (.int 6), some (.int 0)] dX11_feed_71 rfl (by decide) (by decide) rfl ?_
  refine mm_goto 51 dX11_feed_74 (by decide) ?_
  refine mm_iload dX11_feed_51 rfl ?_
  refine mm_if_lt 77 dX11_feed_53 (by decide) (fun h => absurd h (by decide)) (fun _ => ?_)
  refine mm_aload_n dX11_feed_56 rfl rfl ?_
  refine mm_get3 (ci := 11) in_X11 rfl (k := 0) (by decide) rfl kF_X11_14 dX11_feed_57 (mm_frN (g404_F _ (by decide) (by decide)) (mm_frN (g402_F _ (by decide) (by decide)) (mm_frN (g400_F _ (by decide) (by decide)) (mm_frN (g398_F _ (by decide) (by decide)) (mm_frN (g396_F _ (by decide) (by decide)) h0))))) (Nat.le_of_ble_eq_true rfl) rfl ?_
  refine mm_lload_n dX11_feed_60 rfl ?_
  refine mm_bipush (v := 8) dX11_feed_61 (by decide) ?_
  refine mm_iload dX11_feed_63 rfl ?_
  refine mm_imul dX11_feed_65 ?_
  refine mm_lushr dX11_feed_66 ?_
  refine mm_l2i dX11_feed_67 ?_
  refine mm_callV3 (ci := 0) wM_X0_add kM_X11_83 wI_X0_add wS_X0_add dX11_feed_68 (k405_X0_add hst _ b g404_1 g404_2) g404_1 (Nat.le_of_ble_eq_true rfl) rfl rfl rfl (Nat.le_of_ble_eq_true rfl) (by omega) (by omega) (fun v S9 hq => ?_)
  obtain ⟨M406, z406⟩ := S9
  obtain ⟨rfl, hz406, g406_2, g406_1, g406_F⟩ := hq
  cases hz406
  refine ⟨fun h => ⟨h, rfl⟩, ?_⟩
  refine mm_iinc (v := (-1)) [some (.ref 0), some (.long b), none, some (.int 6), some (.int (-1))] dX11_feed_71 rfl (by decide) (by decide) rfl ?_
  refine mm_goto 51 dX11_feed_74 (by decide) ?_
  refine mm_iload dX11_feed_51 rfl ?_
  refine mm_if_lt 77 dX11_feed_53 (by decide) (fun _ => ?_) (fun h => absurd (by decide) h)
  refine mm_aload_n dX11_feed_77 rfl rfl ?_
  refine mm_get3 (ci := 11) in_X11 rfl (k := 0) (by decide) rfl kF_X11_14 dX11_feed_78 (mm_frN (g406_F _ (by decide) (by decide)) (mm_frN (g404_F _ (by decide) (by decide)) (mm_frN (g402_F _ (by decide) (by decide)) (mm_frN (g400_F _ (by decide) (by decide)) (mm_frN (g398_F _ (by decide) (by decide)) (mm_frN (g396_F _ (by decide) (by decide)) h0)))))) (Nat.le_of_ble_eq_true rfl) rfl ?_
  refine mm_callV3 (ci := 0) wM_X0_size kM_X11_74 wI_X0_size wS_X0_size dX11_feed_81 (k407_X0_size hst _ b g406_1) g406_1 (Nat.le_of_ble_eq_true rfl) rfl rfl rfl (Nat.le_of_ble_eq_true rfl) (by omega) (by omega) (fun v S9 hq => ?_)
  obtain ⟨rfl, rfl⟩ := hq
  refine ⟨fun h => ⟨h, rfl⟩, ?_⟩
  refine mm_iret dX11_feed_84 rfl rfl ?_ (by omega) (by omega)
  refine ⟨rfl, rfl, fun x hx => ?_⟩
  dsimp only
  exact mm_frN (g406_F _ (by omega) (by omega) ) (mm_frN (g404_F _ (by omega) (by omega) ) (mm_frN (g402_F _ (by omega) (by omega) ) (mm_frN (g400_F _ (by omega) (by omega) ) (mm_frN (g398_F _ (by omega) (by omega) ) (mm_frN (g396_F _ (by omega) (by omega) ) (rfl))))))

set_option maxHeartbeats 4000000 in
set_option maxRecDepth 100000 in
theorem k409_X0_size {g : mm_G} {l : Launch} (hst : l.stackTraces = false) {d : Nat} (M : Nat → mm_C) (b : Int64) (h1 : M 1 = .inr (0, [.ref 2, .int 0, .int 0])) : mm_Cm g l yX0_size (.code yX0_size cX0_size 1 (some .int)) d 0 0 [.ref 1] (M, 1186, false) (fun v S' => v = some (.int 0) ∧ S' = (M, 1186, false)) := by
  refine mm_Cm_of hst (by decide) (Nat.le_of_ble_eq_true rfl) ?_
  show mm_V g l RX0 "size" cX0_size 1 (some .int) [] d 0 0 _ 0 [some (.ref 1)] [] (M, 1186, false) 0 0
  refine mm_aload_n dX0_size_0 rfl rfl ?_
  refine mm_get3 (ci := 0) in_X0 rfl (k := 1) (by decide) rfl kF_X0_19 dX0_size_1 h1 (Nat.le_of_ble_eq_true rfl) rfl ?_
  refine mm_iret dX0_size_4 rfl rfl ?_ (by omega) (by omega)
  exact ⟨rfl, rfl⟩

set_option maxHeartbeats 4000000 in
set_option maxRecDepth 100000 in
theorem k411_X0_add {g : mm_G} {l : Launch} (hst : l.stackTraces = false) {d : Nat} (M : Nat → mm_C) (b : Int64) (h1 : M 1 = .inr (0, [.ref 2, .int 0, .int 0])) (h2 : M 2 = .inl (2, 700, .inl (fun _ => 0))) : mm_Cm g l yX0_add (.code yX0_add cX0_add 2 none) d 0 0 [.ref 1, .int ((((b : Int64).toUInt64 >>> ((8 * (7 - 1) : Int32).toInt64.toUInt64 &&& Int64.toUInt64 63)).toInt64 : Int64).toInt32)] (M, 1186, false) (fun v S' => v = none ∧ S'.2 = (1186, false) ∧ S'.1 2 = .inl (2, 700, .inl (upd (fun _ => 0) ((0 : Int32).toNatClampNeg) (vp_nar .byte (((((b : Int64).toUInt64 >>> ((8 * (7 - 1) : Int32).toInt64.toUInt64 &&& Int64.toUInt64 63)).toInt64 : Int64).toInt32 : Int32).toInt8.toInt32)))) ∧ S'.1 1 = .inr (0, [.ref 2, .int (0 + 1), .int 0]) ∧ ∀ j, j ≠ 2 → j ≠ 1 → S'.1 j = M j) := by
  refine mm_Cm_of hst (by decide) (Nat.le_of_ble_eq_true rfl) ?_
  show mm_V g l RX0 "add" cX0_add 2 none [] d 0 0 _ 0 [some (.ref 1), some (.int ((((b : Int64).toUInt64 >>> ((8 * (7 - 1) : Int32).toInt64.toUInt64 &&& Int64.toUInt64 63)).toInt64 : Int64).toInt32))] [] (M, 1186, false) 0 0
  refine mm_aload_n dX0_add_0 rfl rfl ?_
  refine mm_get3 (ci := 0) in_X0 rfl (k := 1) (by decide) rfl kF_X0_19 dX0_add_1 h1 (Nat.le_of_ble_eq_true rfl) rfl ?_
  refine mm_if_lt 43 dX0_add_4 (by decide) (fun h => absurd h (by decide)) (fun _ => ?_)
  refine mm_aload_n dX0_add_7 rfl rfl ?_
  refine mm_get3 (ci := 0) in_X0 rfl (k := 1) (by decide) rfl kF_X0_19 dX0_add_8 h1 (Nat.le_of_ble_eq_true rfl) rfl ?_
  refine mm_aload_n dX0_add_11 rfl rfl ?_
  refine mm_get3 (ci := 0) in_X0 rfl (k := 0) (by decide) rfl kF_X0_13 dX0_add_12 h1 (Nat.le_of_ble_eq_true rfl) rfl ?_
  refine mm_alen3 (v := 700) (fun _ => rfl) h2 (Nat.le_of_ble_eq_true rfl) rfl dX0_add_15 ?_
  refine mm_icmp_ge 43 dX0_add_16 (by decide) (fun h => absurd h (by decide)) (fun _ => ?_)
  refine mm_aload_n dX0_add_19 rfl rfl ?_
  refine mm_get3 (ci := 0) in_X0 rfl (k := 0) (by decide) rfl kF_X0_13 dX0_add_20 h1 (Nat.le_of_ble_eq_true rfl) rfl ?_
  refine mm_aload_n dX0_add_23 rfl rfl ?_
  refine mm_get3 (ci := 0) in_X0 rfl (k := 1) (by decide) rfl kF_X0_19 dX0_add_24 h1 (Nat.le_of_ble_eq_true rfl) rfl ?_
  refine mm_iload_n dX0_add_27 rfl ?_
  refine mm_i2b dX0_add_28 ?_
  refine mm_bast3 h2 (Nat.le_of_ble_eq_true rfl) (by unfold vp_in; decide) dX0_add_29 ?_
  refine mm_aload_n dX0_add_30 rfl rfl ?_
  refine mm_dup dX0_add_31 rfl ?_
  refine mm_get3 (ci := 0) in_X0 rfl (k := 1) (by decide) rfl kF_X0_19 dX0_add_32 (mm_upN (by decide) h1) (Nat.le_of_ble_eq_true rfl) rfl ?_
  refine mm_iconst (v := 1) dX0_add_35 (by decide) ?_
  refine mm_iadd dX0_add_36 ?_
  refine mm_put3 (ci := 0) (fs1 := [.ref 2, .int (0 + 1), .int 0]) in_X0 tyX0_ok nmX0 rfl (k := 1) (by decide) rfl rfl kF_X0_19 dX0_add_37 (mm_fit_int _) (mm_upN (by decide) h1) (Nat.le_of_ble_eq_true rfl) (Nat.le_of_ble_eq_true rfl) rfl ?_
  refine mm_goto 48 dX0_add_40 (by decide) ?_
  refine mm_vret dX0_add_48 rfl ?_ (by omega) (by omega)
  refine ⟨rfl, rfl, ?_⟩
  dsimp only
  exact ⟨(mm_upN (by decide) mm_up_s), mm_up_s, fun x e2 e1 => mm_upN e1 (mm_upN e2 (rfl))⟩

set_option maxHeartbeats 4000000 in
set_option maxRecDepth 100000 in
theorem k413_X0_add {g : mm_G} {l : Launch} (hst : l.stackTraces = false) {d : Nat} (M : Nat → mm_C) (b : Int64) (h1 : M 1 = .inr (0, [.ref 2, .int (0 + 1), .int 0])) (h2 : M 2 = .inl (2, 700, .inl (upd (fun _ => 0) ((0 : Int32).toNatClampNeg) (vp_nar .byte (((((b : Int64).toUInt64 >>> ((8 * (7 - 1) : Int32).toInt64.toUInt64 &&& Int64.toUInt64 63)).toInt64 : Int64).toInt32 : Int32).toInt8.toInt32))))) : mm_Cm g l yX0_add (.code yX0_add cX0_add 2 none) d 0 0 [.ref 1, .int ((((b : Int64).toUInt64 >>> ((8 * 5 : Int32).toInt64.toUInt64 &&& Int64.toUInt64 63)).toInt64 : Int64).toInt32)] (M, 1186, false) (fun v S' => v = none ∧ S'.2 = (1186, false) ∧ S'.1 2 = .inl (2, 700, .inl (upd (upd (fun _ => 0) ((0 : Int32).toNatClampNeg) (vp_nar .byte (((((b : Int64).toUInt64 >>> ((8 * (7 - 1) : Int32).toInt64.toUInt64 &&& Int64.toUInt64 63)).toInt64 : Int64).toInt32 : Int32).toInt8.toInt32))) ((0 + 1 : Int32).toNatClampNeg) (vp_nar .byte (((((b : Int64).toUInt64 >>> ((8 * 5 : Int32).toInt64.toUInt64 &&& Int64.toUInt64 63)).toInt64 : Int64).toInt32 : Int32).toInt8.toInt32)))) ∧ S'.1 1 = .inr (0, [.ref 2, .int ((0 + 1) + 1), .int 0]) ∧ ∀ j, j ≠ 2 → j ≠ 1 → S'.1 j = M j) := by
  refine mm_Cm_of hst (by decide) (Nat.le_of_ble_eq_true rfl) ?_
  show mm_V g l RX0 "add" cX0_add 2 none [] d 0 0 _ 0 [some (.ref 1), some (.int ((((b : Int64).toUInt64 >>> ((8 * 5 : Int32).toInt64.toUInt64 &&& Int64.toUInt64 63)).toInt64 : Int64).toInt32))] [] (M, 1186, false) 0 0
  refine mm_aload_n dX0_add_0 rfl rfl ?_
  refine mm_get3 (ci := 0) in_X0 rfl (k := 1) (by decide) rfl kF_X0_19 dX0_add_1 h1 (Nat.le_of_ble_eq_true rfl) rfl ?_
  refine mm_if_lt 43 dX0_add_4 (by decide) (fun h => absurd h (by decide)) (fun _ => ?_)
  refine mm_aload_n dX0_add_7 rfl rfl ?_
  refine mm_get3 (ci := 0) in_X0 rfl (k := 1) (by decide) rfl kF_X0_19 dX0_add_8 h1 (Nat.le_of_ble_eq_true rfl) rfl ?_
  refine mm_aload_n dX0_add_11 rfl rfl ?_
  refine mm_get3 (ci := 0) in_X0 rfl (k := 0) (by decide) rfl kF_X0_13 dX0_add_12 h1 (Nat.le_of_ble_eq_true rfl) rfl ?_
  refine mm_alen3 (v := 700) (fun _ => rfl) h2 (Nat.le_of_ble_eq_true rfl) rfl dX0_add_15 ?_
  refine mm_icmp_ge 43 dX0_add_16 (by decide) (fun h => absurd h (by decide)) (fun _ => ?_)
  refine mm_aload_n dX0_add_19 rfl rfl ?_
  refine mm_get3 (ci := 0) in_X0 rfl (k := 0) (by decide) rfl kF_X0_13 dX0_add_20 h1 (Nat.le_of_ble_eq_true rfl) rfl ?_
  refine mm_aload_n dX0_add_23 rfl rfl ?_
  refine mm_get3 (ci := 0) in_X0 rfl (k := 1) (by decide) rfl kF_X0_19 dX0_add_24 h1 (Nat.le_of_ble_eq_true rfl) rfl ?_
  refine mm_iload_n dX0_add_27 rfl ?_
  refine mm_i2b dX0_add_28 ?_
  refine mm_bast3 h2 (Nat.le_of_ble_eq_true rfl) (by unfold vp_in; decide) dX0_add_29 ?_
  refine mm_aload_n dX0_add_30 rfl rfl ?_
  refine mm_dup dX0_add_31 rfl ?_
  refine mm_get3 (ci := 0) in_X0 rfl (k := 1) (by decide) rfl kF_X0_19 dX0_add_32 (mm_upN (by decide) h1) (Nat.le_of_ble_eq_true rfl) rfl ?_
  refine mm_iconst (v := 1) dX0_add_35 (by decide) ?_
  refine mm_iadd dX0_add_36 ?_
  refine mm_put3 (ci := 0) (fs1 := [.ref 2, .int ((0 + 1) + 1), .int 0]) in_X0 tyX0_ok nmX0 rfl (k := 1) (by decide) rfl rfl kF_X0_19 dX0_add_37 (mm_fit_int _) (mm_upN (by decide) h1) (Nat.le_of_ble_eq_true rfl) (Nat.le_of_ble_eq_true rfl) rfl ?_
  refine mm_goto 48 dX0_add_40 (by decide) ?_
  refine mm_vret dX0_add_48 rfl ?_ (by omega) (by omega)
  refine ⟨rfl, rfl, ?_⟩
  dsimp only
  exact ⟨(mm_upN (by decide) mm_up_s), mm_up_s, fun x e2 e1 => mm_upN e1 (mm_upN e2 (rfl))⟩

set_option maxHeartbeats 4000000 in
set_option maxRecDepth 100000 in
theorem k415_X0_add {g : mm_G} {l : Launch} (hst : l.stackTraces = false) {d : Nat} (M : Nat → mm_C) (b : Int64) (h1 : M 1 = .inr (0, [.ref 2, .int ((0 + 1) + 1), .int 0])) (h2 : M 2 = .inl (2, 700, .inl (upd (upd (fun _ => 0) ((0 : Int32).toNatClampNeg) (vp_nar .byte (((((b : Int64).toUInt64 >>> ((8 * (7 - 1) : Int32).toInt64.toUInt64 &&& Int64.toUInt64 63)).toInt64 : Int64).toInt32 : Int32).toInt8.toInt32))) ((0 + 1 : Int32).toNatClampNeg) (vp_nar .byte (((((b : Int64).toUInt64 >>> ((8 * 5 : Int32).toInt64.toUInt64 &&& Int64.toUInt64 63)).toInt64 : Int64).toInt32 : Int32).toInt8.toInt32))))) : mm_Cm g l yX0_add (.code yX0_add cX0_add 2 none) d 0 0 [.ref 1, .int ((((b : Int64).toUInt64 >>> ((8 * 4 : Int32).toInt64.toUInt64 &&& Int64.toUInt64 63)).toInt64 : Int64).toInt32)] (M, 1186, false) (fun v S' => v = none ∧ S'.2 = (1186, false) ∧ S'.1 2 = .inl (2, 700, .inl (upd (upd (upd (fun _ => 0) ((0 : Int32).toNatClampNeg) (vp_nar .byte (((((b : Int64).toUInt64 >>> ((8 * (7 - 1) : Int32).toInt64.toUInt64 &&& Int64.toUInt64 63)).toInt64 : Int64).toInt32 : Int32).toInt8.toInt32))) ((0 + 1 : Int32).toNatClampNeg) (vp_nar .byte (((((b : Int64).toUInt64 >>> ((8 * 5 : Int32).toInt64.toUInt64 &&& Int64.toUInt64 63)).toInt64 : Int64).toInt32 : Int32).toInt8.toInt32))) (((0 + 1) + 1 : Int32).toNatClampNeg) (vp_nar .byte (((((b : Int64).toUInt64 >>> ((8 * 4 : Int32).toInt64.toUInt64 &&& Int64.toUInt64 63)).toInt64 : Int64).toInt32 : Int32).toInt8.toInt32)))) ∧ S'.1 1 = .inr (0, [.ref 2, .int (((0 + 1) + 1) + 1), .int 0]) ∧ ∀ j, j ≠ 2 → j ≠ 1 → S'.1 j = M j) := by
  refine mm_Cm_of hst (by decide) (Nat.le_of_ble_eq_true rfl) ?_
  show mm_V g l RX0 "add" cX0_add 2 none [] d 0 0 _ 0 [some (.ref 1), some (.int ((((b : Int64).toUInt64 >>> ((8 * 4 : Int32).toInt64.toUInt64 &&& Int64.toUInt64 63)).toInt64 : Int64).toInt32))] [] (M, 1186, false) 0 0
  refine mm_aload_n dX0_add_0 rfl rfl ?_
  refine mm_get3 (ci := 0) in_X0 rfl (k := 1) (by decide) rfl kF_X0_19 dX0_add_1 h1 (Nat.le_of_ble_eq_true rfl) rfl ?_
  refine mm_if_lt 43 dX0_add_4 (by decide) (fun h => absurd h (by decide)) (fun _ => ?_)
  refine mm_aload_n dX0_add_7 rfl rfl ?_
  refine mm_get3 (ci := 0) in_X0 rfl (k := 1) (by decide) rfl kF_X0_19 dX0_add_8 h1 (Nat.le_of_ble_eq_true rfl) rfl ?_
  refine mm_aload_n dX0_add_11 rfl rfl ?_
  refine mm_get3 (ci := 0) in_X0 rfl (k := 0) (by decide) rfl kF_X0_13 dX0_add_12 h1 (Nat.le_of_ble_eq_true rfl) rfl ?_
  refine mm_alen3 (v := 700) (fun _ => rfl) h2 (Nat.le_of_ble_eq_true rfl) rfl dX0_add_15 ?_
  refine mm_icmp_ge 43 dX0_add_16 (by decide) (fun h => absurd h (by decide)) (fun _ => ?_)
  refine mm_aload_n dX0_add_19 rfl rfl ?_
  refine mm_get3 (ci := 0) in_X0 rfl (k := 0) (by decide) rfl kF_X0_13 dX0_add_20 h1 (Nat.le_of_ble_eq_true rfl) rfl ?_
  refine mm_aload_n dX0_add_23 rfl rfl ?_
  refine mm_get3 (ci := 0) in_X0 rfl (k := 1) (by decide) rfl kF_X0_19 dX0_add_24 h1 (Nat.le_of_ble_eq_true rfl) rfl ?_
  refine mm_iload_n dX0_add_27 rfl ?_
  refine mm_i2b dX0_add_28 ?_
  refine mm_bast3 h2 (Nat.le_of_ble_eq_true rfl) (by unfold vp_in; decide) dX0_add_29 ?_
  refine mm_aload_n dX0_add_30 rfl rfl ?_
  refine mm_dup dX0_add_31 rfl ?_
  refine mm_get3 (ci := 0) in_X0 rfl (k := 1) (by decide) rfl kF_X0_19 dX0_add_32 (mm_upN (by decide) h1) (Nat.le_of_ble_eq_true rfl) rfl ?_
  refine mm_iconst (v := 1) dX0_add_35 (by decide) ?_
  refine mm_iadd dX0_add_36 ?_
  refine mm_put3 (ci := 0) (fs1 := [.ref 2, .int (((0 + 1) + 1) + 1), .int 0]) in_X0 tyX0_ok nmX0 rfl (k := 1) (by decide) rfl rfl kF_X0_19 dX0_add_37 (mm_fit_int _) (mm_upN (by decide) h1) (Nat.le_of_ble_eq_true rfl) (Nat.le_of_ble_eq_true rfl) rfl ?_
  refine mm_goto 48 dX0_add_40 (by decide) ?_
  refine mm_vret dX0_add_48 rfl ?_ (by omega) (by omega)
  refine ⟨rfl, rfl, ?_⟩
  dsimp only
  exact ⟨(mm_upN (by decide) mm_up_s), mm_up_s, fun x e2 e1 => mm_upN e1 (mm_upN e2 (rfl))⟩

set_option maxHeartbeats 4000000 in
set_option maxRecDepth 100000 in
theorem k417_X0_add {g : mm_G} {l : Launch} (hst : l.stackTraces = false) {d : Nat} (M : Nat → mm_C) (b : Int64) (h1 : M 1 = .inr (0, [.ref 2, .int (((0 + 1) + 1) + 1), .int 0])) (h2 : M 2 = .inl (2, 700, .inl (upd (upd (upd (fun _ => 0) ((0 : Int32).toNatClampNeg) (vp_nar .byte (((((b : Int64).toUInt64 >>> ((8 * (7 - 1) : Int32).toInt64.toUInt64 &&& Int64.toUInt64 63)).toInt64 : Int64).toInt32 : Int32).toInt8.toInt32))) ((0 + 1 : Int32).toNatClampNeg) (vp_nar .byte (((((b : Int64).toUInt64 >>> ((8 * 5 : Int32).toInt64.toUInt64 &&& Int64.toUInt64 63)).toInt64 : Int64).toInt32 : Int32).toInt8.toInt32))) (((0 + 1) + 1 : Int32).toNatClampNeg) (vp_nar .byte (((((b : Int64).toUInt64 >>> ((8 * 4 : Int32).toInt64.toUInt64 &&& Int64.toUInt64 63)).toInt64 : Int64).toInt32 : Int32).toInt8.toInt32))))) : mm_Cm g l yX0_add (.code yX0_add cX0_add 2 none) d 0 0 [.ref 1, .int ((((b : Int64).toUInt64 >>> ((8 * 3 : Int32).toInt64.toUInt64 &&& Int64.toUInt64 63)).toInt64 : Int64).toInt32)] (M, 1186, false) (fun v S' => v = none ∧ S'.2 = (1186, false) ∧ S'.1 2 = .inl (2, 700, .inl (upd (upd (upd (upd (fun _ => 0) ((0 : Int32).toNatClampNeg) (vp_nar .byte (((((b : Int64).toUInt64 >>> ((8 * (7 - 1) : Int32).toInt64.toUInt64 &&& Int64.toUInt64 63)).toInt64 : Int64).toInt32 : Int32).toInt8.toInt32))) ((0 + 1 : Int32).toNatClampNeg) (vp_nar .byte (((((b : Int64).toUInt64 >>> ((8 * 5 : Int32).toInt64.toUInt64 &&& Int64.toUInt64 63)).toInt64 : Int64).toInt32 : Int32).toInt8.toInt32))) (((0 + 1) + 1 : Int32).toNatClampNeg) (vp_nar .byte (((((b : Int64).toUInt64 >>> ((8 * 4 : Int32).toInt64.toUInt64 &&& Int64.toUInt64 63)).toInt64 : Int64).toInt32 : Int32).toInt8.toInt32))) ((((0 + 1) + 1) + 1 : Int32).toNatClampNeg) (vp_nar .byte (((((b : Int64).toUInt64 >>> ((8 * 3 : Int32).toInt64.toUInt64 &&& Int64.toUInt64 63)).toInt64 : Int64).toInt32 : Int32).toInt8.toInt32)))) ∧ S'.1 1 = .inr (0, [.ref 2, .int ((((0 + 1) + 1) + 1) + 1), .int 0]) ∧ ∀ j, j ≠ 2 → j ≠ 1 → S'.1 j = M j) := by
  refine mm_Cm_of hst (by decide) (Nat.le_of_ble_eq_true rfl) ?_
  show mm_V g l RX0 "add" cX0_add 2 none [] d 0 0 _ 0 [some (.ref 1), some (.int ((((b : Int64).toUInt64 >>> ((8 * 3 : Int32).toInt64.toUInt64 &&& Int64.toUInt64 63)).toInt64 : Int64).toInt32))] [] (M, 1186, false) 0 0
  refine mm_aload_n dX0_add_0 rfl rfl ?_
  refine mm_get3 (ci := 0) in_X0 rfl (k := 1) (by decide) rfl kF_X0_19 dX0_add_1 h1 (Nat.le_of_ble_eq_true rfl) rfl ?_
  refine mm_if_lt 43 dX0_add_4 (by decide) (fun h => absurd h (by decide)) (fun _ => ?_)
  refine mm_aload_n dX0_add_7 rfl rfl ?_
  refine mm_get3 (ci := 0) in_X0 rfl (k := 1) (by decide) rfl kF_X0_19 dX0_add_8 h1 (Nat.le_of_ble_eq_true rfl) rfl ?_
  refine mm_aload_n dX0_add_11 rfl rfl ?_
  refine mm_get3 (ci := 0) in_X0 rfl (k := 0) (by decide) rfl kF_X0_13 dX0_add_12 h1 (Nat.le_of_ble_eq_true rfl) rfl ?_
  refine mm_alen3 (v := 700) (fun _ => rfl) h2 (Nat.le_of_ble_eq_true rfl) rfl dX0_add_15 ?_
  refine mm_icmp_ge 43 dX0_add_16 (by decide) (fun h => absurd h (by decide)) (fun _ => ?_)
  refine mm_aload_n dX0_add_19 rfl rfl ?_
  refine mm_get3 (ci := 0) in_X0 rfl (k := 0) (by decide) rfl kF_X0_13 dX0_add_20 h1 (Nat.le_of_ble_eq_true rfl) rfl ?_
  refine mm_aload_n dX0_add_23 rfl rfl ?_
  refine mm_get3 (ci := 0) in_X0 rfl (k := 1) (by decide) rfl kF_X0_19 dX0_add_24 h1 (Nat.le_of_ble_eq_true rfl) rfl ?_
  refine mm_iload_n dX0_add_27 rfl ?_
  refine mm_i2b dX0_add_28 ?_
  refine mm_bast3 h2 (Nat.le_of_ble_eq_true rfl) (by unfold vp_in; decide) dX0_add_29 ?_
  refine mm_aload_n dX0_add_30 rfl rfl ?_
  refine mm_dup dX0_add_31 rfl ?_
  refine mm_get3 (ci := 0) in_X0 rfl (k := 1) (by decide) rfl kF_X0_19 dX0_add_32 (mm_upN (by decide) h1) (Nat.le_of_ble_eq_true rfl) rfl ?_
  refine mm_iconst (v := 1) dX0_add_35 (by decide) ?_
  refine mm_iadd dX0_add_36 ?_
  refine mm_put3 (ci := 0) (fs1 := [.ref 2, .int ((((0 + 1) + 1) + 1) + 1), .int 0]) in_X0 tyX0_ok nmX0 rfl (k := 1) (by decide) rfl rfl kF_X0_19 dX0_add_37 (mm_fit_int _) (mm_upN (by decide) h1) (Nat.le_of_ble_eq_true rfl) (Nat.le_of_ble_eq_true rfl) rfl ?_
  refine mm_goto 48 dX0_add_40 (by decide) ?_
  refine mm_vret dX0_add_48 rfl ?_ (by omega) (by omega)
  refine ⟨rfl, rfl, ?_⟩
  dsimp only
  exact ⟨(mm_upN (by decide) mm_up_s), mm_up_s, fun x e2 e1 => mm_upN e1 (mm_upN e2 (rfl))⟩

set_option maxHeartbeats 4000000 in
set_option maxRecDepth 100000 in
theorem k419_X0_add {g : mm_G} {l : Launch} (hst : l.stackTraces = false) {d : Nat} (M : Nat → mm_C) (b : Int64) (h1 : M 1 = .inr (0, [.ref 2, .int ((((0 + 1) + 1) + 1) + 1), .int 0])) (h2 : M 2 = .inl (2, 700, .inl (upd (upd (upd (upd (fun _ => 0) ((0 : Int32).toNatClampNeg) (vp_nar .byte (((((b : Int64).toUInt64 >>> ((8 * (7 - 1) : Int32).toInt64.toUInt64 &&& Int64.toUInt64 63)).toInt64 : Int64).toInt32 : Int32).toInt8.toInt32))) ((0 + 1 : Int32).toNatClampNeg) (vp_nar .byte (((((b : Int64).toUInt64 >>> ((8 * 5 : Int32).toInt64.toUInt64 &&& Int64.toUInt64 63)).toInt64 : Int64).toInt32 : Int32).toInt8.toInt32))) (((0 + 1) + 1 : Int32).toNatClampNeg) (vp_nar .byte (((((b : Int64).toUInt64 >>> ((8 * 4 : Int32).toInt64.toUInt64 &&& Int64.toUInt64 63)).toInt64 : Int64).toInt32 : Int32).toInt8.toInt32))) ((((0 + 1) + 1) + 1 : Int32).toNatClampNeg) (vp_nar .byte (((((b : Int64).toUInt64 >>> ((8 * 3 : Int32).toInt64.toUInt64 &&& Int64.toUInt64 63)).toInt64 : Int64).toInt32 : Int32).toInt8.toInt32))))) : mm_Cm g l yX0_add (.code yX0_add cX0_add 2 none) d 0 0 [.ref 1, .int ((((b : Int64).toUInt64 >>> ((8 * 2 : Int32).toInt64.toUInt64 &&& Int64.toUInt64 63)).toInt64 : Int64).toInt32)] (M, 1186, false) (fun v S' => v = none ∧ S'.2 = (1186, false) ∧ S'.1 2 = .inl (2, 700, .inl (upd (upd (upd (upd (upd (fun _ => 0) ((0 : Int32).toNatClampNeg) (vp_nar .byte (((((b : Int64).toUInt64 >>> ((8 * (7 - 1) : Int32).toInt64.toUInt64 &&& Int64.toUInt64 63)).toInt64 : Int64).toInt32 : Int32).toInt8.toInt32))) ((0 + 1 : Int32).toNatClampNeg) (vp_nar .byte (((((b : Int64).toUInt64 >>> ((8 * 5 : Int32).toInt64.toUInt64 &&& Int64.toUInt64 63)).toInt64 : Int64).toInt32 : Int32).toInt8.toInt32))) (((0 + 1) + 1 : Int32).toNatClampNeg) (vp_nar .byte (((((b : Int64).toUInt64 >>> ((8 * 4 : Int32).toInt64.toUInt64 &&& Int64.toUInt64 63)).toInt64 : Int64).toInt32 : Int32).toInt8.toInt32))) ((((0 + 1) + 1) + 1 : Int32).toNatClampNeg) (vp_nar .byte (((((b : Int64).toUInt64 >>> ((8 * 3 : Int32).toInt64.toUInt64 &&& Int64.toUInt64 63)).toInt64 : Int64).toInt32 : Int32).toInt8.toInt32))) (((((0 + 1) + 1) + 1) + 1 : Int32).toNatClampNeg) (vp_nar .byte (((((b : Int64).toUInt64 >>> ((8 * 2 : Int32).toInt64.toUInt64 &&& Int64.toUInt64 63)).toInt64 : Int64).toInt32 : Int32).toInt8.toInt32)))) ∧ S'.1 1 = .inr (0, [.ref 2, .int (((((0 + 1) + 1) + 1) + 1) + 1), .int 0]) ∧ ∀ j, j ≠ 2 → j ≠ 1 → S'.1 j = M j) := by
  refine mm_Cm_of hst (by decide) (Nat.le_of_ble_eq_true rfl) ?_
  show mm_V g l RX0 "add" cX0_add 2 none [] d 0 0 _ 0 [some (.ref 1), some (.int ((((b : Int64).toUInt64 >>> ((8 * 2 : Int32).toInt64.toUInt64 &&& Int64.toUInt64 63)).toInt64 : Int64).toInt32))] [] (M, 1186, false) 0 0
  refine mm_aload_n dX0_add_0 rfl rfl ?_
  refine mm_get3 (ci := 0) in_X0 rfl (k := 1) (by decide) rfl kF_X0_19 dX0_add_1 h1 (Nat.le_of_ble_eq_true rfl) rfl ?_
  refine mm_if_lt 43 dX0_add_4 (by decide) (fun h => absurd h (by decide)) (fun _ => ?_)
  refine mm_aload_n dX0_add_7 rfl rfl ?_
  refine mm_get3 (ci := 0) in_X0 rfl (k := 1) (by decide) rfl kF_X0_19 dX0_add_8 h1 (Nat.le_of_ble_eq_true rfl) rfl ?_
  refine mm_aload_n dX0_add_11 rfl rfl ?_
  refine mm_get3 (ci := 0) in_X0 rfl (k := 0) (by decide) rfl kF_X0_13 dX0_add_12 h1 (Nat.le_of_ble_eq_true rfl) rfl ?_
  refine mm_alen3 (v := 700) (fun _ => rfl) h2 (Nat.le_of_ble_eq_true rfl) rfl dX0_add_15 ?_
  refine mm_icmp_ge 43 dX0_add_16 (by decide) (fun h => absurd h (by decide)) (fun _ => ?_)
  refine mm_aload_n dX0_add_19 rfl rfl ?_
  refine mm_get3 (ci := 0) in_X0 rfl (k := 0) (by decide) rfl kF_X0_13 dX0_add_20 h1 (Nat.le_of_ble_eq_true rfl) rfl ?_
  refine mm_aload_n dX0_add_23 rfl rfl ?_
  refine mm_get3 (ci := 0) in_X0 rfl (k := 1) (by decide) rfl kF_X0_19 dX0_add_24 h1 (Nat.le_of_ble_eq_true rfl) rfl ?_
  refine mm_iload_n dX0_add_27 rfl ?_
  refine mm_i2b dX0_add_28 ?_
  refine mm_bast3 h2 (Nat.le_of_ble_eq_true rfl) (by unfold vp_in; decide) dX0_add_29 ?_
  refine mm_aload_n dX0_add_30 rfl rfl ?_
  refine mm_dup dX0_add_31 rfl ?_
  refine mm_get3 (ci := 0) in_X0 rfl (k := 1) (by decide) rfl kF_X0_19 dX0_add_32 (mm_upN (by decide) h1) (Nat.le_of_ble_eq_true rfl) rfl ?_
  refine mm_iconst (v := 1) dX0_add_35 (by decide) ?_
  refine mm_iadd dX0_add_36 ?_
  refine mm_put3 (ci := 0) (fs1 := [.ref 2, .int (((((0 + 1) + 1) + 1) + 1) + 1), .int 0]) in_X0 tyX0_ok nmX0 rfl (k := 1) (by decide) rfl rfl kF_X0_19 dX0_add_37 (mm_fit_int _) (mm_upN (by decide) h1) (Nat.le_of_ble_eq_true rfl) (Nat.le_of_ble_eq_true rfl) rfl ?_
  refine mm_goto 48 dX0_add_40 (by decide) ?_
  refine mm_vret dX0_add_48 rfl ?_ (by omega) (by omega)
  refine ⟨rfl, rfl, ?_⟩
  dsimp only
  exact ⟨(mm_upN (by decide) mm_up_s), mm_up_s, fun x e2 e1 => mm_upN e1 (mm_upN e2 (rfl))⟩

set_option maxHeartbeats 4000000 in
set_option maxRecDepth 100000 in
theorem k421_X0_add {g : mm_G} {l : Launch} (hst : l.stackTraces = false) {d : Nat} (M : Nat → mm_C) (b : Int64) (h1 : M 1 = .inr (0, [.ref 2, .int (((((0 + 1) + 1) + 1) + 1) + 1), .int 0])) (h2 : M 2 = .inl (2, 700, .inl (upd (upd (upd (upd (upd (fun _ => 0) ((0 : Int32).toNatClampNeg) (vp_nar .byte (((((b : Int64).toUInt64 >>> ((8 * (7 - 1) : Int32).toInt64.toUInt64 &&& Int64.toUInt64 63)).toInt64 : Int64).toInt32 : Int32).toInt8.toInt32))) ((0 + 1 : Int32).toNatClampNeg) (vp_nar .byte (((((b : Int64).toUInt64 >>> ((8 * 5 : Int32).toInt64.toUInt64 &&& Int64.toUInt64 63)).toInt64 : Int64).toInt32 : Int32).toInt8.toInt32))) (((0 + 1) + 1 : Int32).toNatClampNeg) (vp_nar .byte (((((b : Int64).toUInt64 >>> ((8 * 4 : Int32).toInt64.toUInt64 &&& Int64.toUInt64 63)).toInt64 : Int64).toInt32 : Int32).toInt8.toInt32))) ((((0 + 1) + 1) + 1 : Int32).toNatClampNeg) (vp_nar .byte (((((b : Int64).toUInt64 >>> ((8 * 3 : Int32).toInt64.toUInt64 &&& Int64.toUInt64 63)).toInt64 : Int64).toInt32 : Int32).toInt8.toInt32))) (((((0 + 1) + 1) + 1) + 1 : Int32).toNatClampNeg) (vp_nar .byte (((((b : Int64).toUInt64 >>> ((8 * 2 : Int32).toInt64.toUInt64 &&& Int64.toUInt64 63)).toInt64 : Int64).toInt32 : Int32).toInt8.toInt32))))) : mm_Cm g l yX0_add (.code yX0_add cX0_add 2 none) d 0 0 [.ref 1, .int ((((b : Int64).toUInt64 >>> ((8 * 1 : Int32).toInt64.toUInt64 &&& Int64.toUInt64 63)).toInt64 : Int64).toInt32)] (M, 1186, false) (fun v S' => v = none ∧ S'.2 = (1186, false) ∧ S'.1 2 = .inl (2, 700, .inl (upd (upd (upd (upd (upd (upd (fun _ => 0) ((0 : Int32).toNatClampNeg) (vp_nar .byte (((((b : Int64).toUInt64 >>> ((8 * (7 - 1) : Int32).toInt64.toUInt64 &&& Int64.toUInt64 63)).toInt64 : Int64).toInt32 : Int32).toInt8.toInt32))) ((0 + 1 : Int32).toNatClampNeg) (vp_nar .byte (((((b : Int64).toUInt64 >>> ((8 * 5 : Int32).toInt64.toUInt64 &&& Int64.toUInt64 63)).toInt64 : Int64).toInt32 : Int32).toInt8.toInt32))) (((0 + 1) + 1 : Int32).toNatClampNeg) (vp_nar .byte (((((b : Int64).toUInt64 >>> ((8 * 4 : Int32).toInt64.toUInt64 &&& Int64.toUInt64 63)).toInt64 : Int64).toInt32 : Int32).toInt8.toInt32))) ((((0 + 1) + 1) + 1 : Int32).toNatClampNeg) (vp_nar .byte (((((b : Int64).toUInt64 >>> ((8 * 3 : Int32).toInt64.toUInt64 &&& Int64.toUInt64 63)).toInt64 : Int64).toInt32 : Int32).toInt8.toInt32))) (((((0 + 1) + 1) + 1) + 1 : Int32).toNatClampNeg) (vp_nar .byte (((((b : Int64).toUInt64 >>> ((8 * 2 : Int32).toInt64.toUInt64 &&& Int64.toUInt64 63)).toInt64 : Int64).toInt32 : Int32).toInt8.toInt32))) ((((((0 + 1) + 1) + 1) + 1) + 1 : Int32).toNatClampNeg) (vp_nar .byte (((((b : Int64).toUInt64 >>> ((8 * 1 : Int32).toInt64.toUInt64 &&& Int64.toUInt64 63)).toInt64 : Int64).toInt32 : Int32).toInt8.toInt32)))) ∧ S'.1 1 = .inr (0, [.ref 2, .int ((((((0 + 1) + 1) + 1) + 1) + 1) + 1), .int 0]) ∧ ∀ j, j ≠ 2 → j ≠ 1 → S'.1 j = M j) := by
  refine mm_Cm_of hst (by decide) (Nat.le_of_ble_eq_true rfl) ?_
  show mm_V g l RX0 "add" cX0_add 2 none [] d 0 0 _ 0 [some (.ref 1), some (.int ((((b : Int64).toUInt64 >>> ((8 * 1 : Int32).toInt64.toUInt64 &&& Int64.toUInt64 63)).toInt64 : Int64).toInt32))] [] (M, 1186, false) 0 0
  refine mm_aload_n dX0_add_0 rfl rfl ?_
  refine mm_get3 (ci := 0) in_X0 rfl (k := 1) (by decide) rfl kF_X0_19 dX0_add_1 h1 (Nat.le_of_ble_eq_true rfl) rfl ?_
  refine mm_if_lt 43 dX0_add_4 (by decide) (fun h => absurd h (by decide)) (fun _ => ?_)
  refine mm_aload_n dX0_add_7 rfl rfl ?_
  refine mm_get3 (ci := 0) in_X0 rfl (k := 1) (by decide) rfl kF_X0_19 dX0_add_8 h1 (Nat.le_of_ble_eq_true rfl) rfl ?_
  refine mm_aload_n dX0_add_11 rfl rfl ?_
  refine mm_get3 (ci := 0) in_X0 rfl (k := 0) (by decide) rfl kF_X0_13 dX0_add_12 h1 (Nat.le_of_ble_eq_true rfl) rfl ?_
  refine mm_alen3 (v := 700) (fun _ => rfl) h2 (Nat.le_of_ble_eq_true rfl) rfl dX0_add_15 ?_
  refine mm_icmp_ge 43 dX0_add_16 (by decide) (fun h => absurd h (by decide)) (fun _ => ?_)
  refine mm_aload_n dX0_add_19 rfl rfl ?_
  refine mm_get3 (ci := 0) in_X0 rfl (k := 0) (by decide) rfl kF_X0_13 dX0_add_20 h1 (Nat.le_of_ble_eq_true rfl) rfl ?_
  refine mm_aload_n dX0_add_23 rfl rfl ?_
  refine mm_get3 (ci := 0) in_X0 rfl (k := 1) (by decide) rfl kF_X0_19 dX0_add_24 h1 (Nat.le_of_ble_eq_true rfl) rfl ?_
  refine mm_iload_n dX0_add_27 rfl ?_
  refine mm_i2b dX0_add_28 ?_
  refine mm_bast3 h2 (Nat.le_of_ble_eq_true rfl) (by unfold vp_in; decide) dX0_add_29 ?_
  refine mm_aload_n dX0_add_30 rfl rfl ?_
  refine mm_dup dX0_add_31 rfl ?_
  refine mm_get3 (ci := 0) in_X0 rfl (k := 1) (by decide) rfl kF_X0_19 dX0_add_32 (mm_upN (by decide) h1) (Nat.le_of_ble_eq_true rfl) rfl ?_
  refine mm_iconst (v := 1) dX0_add_35 (by decide) ?_
  refine mm_iadd dX0_add_36 ?_
  refine mm_put3 (ci := 0) (fs1 := [.ref 2, .int ((((((0 + 1) + 1) + 1) + 1) + 1) + 1), .int 0]) in_X0 tyX0_ok nmX0 rfl (k := 1) (by decide) rfl rfl kF_X0_19 dX0_add_37 (mm_fit_int _) (mm_upN (by decide) h1) (Nat.le_of_ble_eq_true rfl) (Nat.le_of_ble_eq_true rfl) rfl ?_
  refine mm_goto 48 dX0_add_40 (by decide) ?_
  refine mm_vret dX0_add_48 rfl ?_ (by omega) (by omega)
  refine ⟨rfl, rfl, ?_⟩
  dsimp only
  exact ⟨(mm_upN (by decide) mm_up_s), mm_up_s, fun x e2 e1 => mm_upN e1 (mm_upN e2 (rfl))⟩

set_option maxHeartbeats 4000000 in
set_option maxRecDepth 100000 in
theorem k423_X0_add {g : mm_G} {l : Launch} (hst : l.stackTraces = false) {d : Nat} (M : Nat → mm_C) (b : Int64) (h1 : M 1 = .inr (0, [.ref 2, .int ((((((0 + 1) + 1) + 1) + 1) + 1) + 1), .int 0])) (h2 : M 2 = .inl (2, 700, .inl (upd (upd (upd (upd (upd (upd (fun _ => 0) ((0 : Int32).toNatClampNeg) (vp_nar .byte (((((b : Int64).toUInt64 >>> ((8 * (7 - 1) : Int32).toInt64.toUInt64 &&& Int64.toUInt64 63)).toInt64 : Int64).toInt32 : Int32).toInt8.toInt32))) ((0 + 1 : Int32).toNatClampNeg) (vp_nar .byte (((((b : Int64).toUInt64 >>> ((8 * 5 : Int32).toInt64.toUInt64 &&& Int64.toUInt64 63)).toInt64 : Int64).toInt32 : Int32).toInt8.toInt32))) (((0 + 1) + 1 : Int32).toNatClampNeg) (vp_nar .byte (((((b : Int64).toUInt64 >>> ((8 * 4 : Int32).toInt64.toUInt64 &&& Int64.toUInt64 63)).toInt64 : Int64).toInt32 : Int32).toInt8.toInt32))) ((((0 + 1) + 1) + 1 : Int32).toNatClampNeg) (vp_nar .byte (((((b : Int64).toUInt64 >>> ((8 * 3 : Int32).toInt64.toUInt64 &&& Int64.toUInt64 63)).toInt64 : Int64).toInt32 : Int32).toInt8.toInt32))) (((((0 + 1) + 1) + 1) + 1 : Int32).toNatClampNeg) (vp_nar .byte (((((b : Int64).toUInt64 >>> ((8 * 2 : Int32).toInt64.toUInt64 &&& Int64.toUInt64 63)).toInt64 : Int64).toInt32 : Int32).toInt8.toInt32))) ((((((0 + 1) + 1) + 1) + 1) + 1 : Int32).toNatClampNeg) (vp_nar .byte (((((b : Int64).toUInt64 >>> ((8 * 1 : Int32).toInt64.toUInt64 &&& Int64.toUInt64 63)).toInt64 : Int64).toInt32 : Int32).toInt8.toInt32))))) : mm_Cm g l yX0_add (.code yX0_add cX0_add 2 none) d 0 0 [.ref 1, .int ((((b : Int64).toUInt64 >>> ((8 * 0 : Int32).toInt64.toUInt64 &&& Int64.toUInt64 63)).toInt64 : Int64).toInt32)] (M, 1186, false) (fun v S' => v = none ∧ S'.2 = (1186, false) ∧ S'.1 2 = .inl (2, 700, .inl (upd (upd (upd (upd (upd (upd (upd (fun _ => 0) ((0 : Int32).toNatClampNeg) (vp_nar .byte (((((b : Int64).toUInt64 >>> ((8 * (7 - 1) : Int32).toInt64.toUInt64 &&& Int64.toUInt64 63)).toInt64 : Int64).toInt32 : Int32).toInt8.toInt32))) ((0 + 1 : Int32).toNatClampNeg) (vp_nar .byte (((((b : Int64).toUInt64 >>> ((8 * 5 : Int32).toInt64.toUInt64 &&& Int64.toUInt64 63)).toInt64 : Int64).toInt32 : Int32).toInt8.toInt32))) (((0 + 1) + 1 : Int32).toNatClampNeg) (vp_nar .byte (((((b : Int64).toUInt64 >>> ((8 * 4 : Int32).toInt64.toUInt64 &&& Int64.toUInt64 63)).toInt64 : Int64).toInt32 : Int32).toInt8.toInt32))) ((((0 + 1) + 1) + 1 : Int32).toNatClampNeg) (vp_nar .byte (((((b : Int64).toUInt64 >>> ((8 * 3 : Int32).toInt64.toUInt64 &&& Int64.toUInt64 63)).toInt64 : Int64).toInt32 : Int32).toInt8.toInt32))) (((((0 + 1) + 1) + 1) + 1 : Int32).toNatClampNeg) (vp_nar .byte (((((b : Int64).toUInt64 >>> ((8 * 2 : Int32).toInt64.toUInt64 &&& Int64.toUInt64 63)).toInt64 : Int64).toInt32 : Int32).toInt8.toInt32))) ((((((0 + 1) + 1) + 1) + 1) + 1 : Int32).toNatClampNeg) (vp_nar .byte (((((b : Int64).toUInt64 >>> ((8 * 1 : Int32).toInt64.toUInt64 &&& Int64.toUInt64 63)).toInt64 : Int64).toInt32 : Int32).toInt8.toInt32))) (((((((0 + 1) + 1) + 1) + 1) + 1) + 1 : Int32).toNatClampNeg) (vp_nar .byte (((((b : Int64).toUInt64 >>> ((8 * 0 : Int32).toInt64.toUInt64 &&& Int64.toUInt64 63)).toInt64 : Int64).toInt32 : Int32).toInt8.toInt32)))) ∧ S'.1 1 = .inr (0, [.ref 2, .int (((((((0 + 1) + 1) + 1) + 1) + 1) + 1) + 1), .int 0]) ∧ ∀ j, j ≠ 2 → j ≠ 1 → S'.1 j = M j) := by
  refine mm_Cm_of hst (by decide) (Nat.le_of_ble_eq_true rfl) ?_
  show mm_V g l RX0 "add" cX0_add 2 none [] d 0 0 _ 0 [some (.ref 1), some (.int ((((b : Int64).toUInt64 >>> ((8 * 0 : Int32).toInt64.toUInt64 &&& Int64.toUInt64 63)).toInt64 : Int64).toInt32))] [] (M, 1186, false) 0 0
  refine mm_aload_n dX0_add_0 rfl rfl ?_
  refine mm_get3 (ci := 0) in_X0 rfl (k := 1) (by decide) rfl kF_X0_19 dX0_add_1 h1 (Nat.le_of_ble_eq_true rfl) rfl ?_
  refine mm_if_lt 43 dX0_add_4 (by decide) (fun h => absurd h (by decide)) (fun _ => ?_)
  refine mm_aload_n dX0_add_7 rfl rfl ?_
  refine mm_get3 (ci := 0) in_X0 rfl (k := 1) (by decide) rfl kF_X0_19 dX0_add_8 h1 (Nat.le_of_ble_eq_true rfl) rfl ?_
  refine mm_aload_n dX0_add_11 rfl rfl ?_
  refine mm_get3 (ci := 0) in_X0 rfl (k := 0) (by decide) rfl kF_X0_13 dX0_add_12 h1 (Nat.le_of_ble_eq_true rfl) rfl ?_
  refine mm_alen3 (v := 700) (fun _ => rfl) h2 (Nat.le_of_ble_eq_true rfl) rfl dX0_add_15 ?_
  refine mm_icmp_ge 43 dX0_add_16 (by decide) (fun h => absurd h (by decide)) (fun _ => ?_)
  refine mm_aload_n dX0_add_19 rfl rfl ?_
  refine mm_get3 (ci := 0) in_X0 rfl (k := 0) (by decide) rfl kF_X0_13 dX0_add_20 h1 (Nat.le_of_ble_eq_true rfl) rfl ?_
  refine mm_aload_n dX0_add_23 rfl rfl ?_
  refine mm_get3 (ci := 0) in_X0 rfl (k := 1) (by decide) rfl kF_X0_19 dX0_add_24 h1 (Nat.le_of_ble_eq_true rfl) rfl ?_
  refine mm_iload_n dX0_add_27 rfl ?_
  refine mm_i2b dX0_add_28 ?_
  refine mm_bast3 h2 (Nat.le_of_ble_eq_true rfl) (by unfold vp_in; decide) dX0_add_29 ?_
  refine mm_aload_n dX0_add_30 rfl rfl ?_
  refine mm_dup dX0_add_31 rfl ?_
  refine mm_get3 (ci := 0) in_X0 rfl (k := 1) (by decide) rfl kF_X0_19 dX0_add_32 (mm_upN (by decide) h1) (Nat.le_of_ble_eq_true rfl) rfl ?_
  refine mm_iconst (v := 1) dX0_add_35 (by decide) ?_
  refine mm_iadd dX0_add_36 ?_
  refine mm_put3 (ci := 0) (fs1 := [.ref 2, .int (((((((0 + 1) + 1) + 1) + 1) + 1) + 1) + 1), .int 0]) in_X0 tyX0_ok nmX0 rfl (k := 1) (by decide) rfl rfl kF_X0_19 dX0_add_37 (mm_fit_int _) (mm_upN (by decide) h1) (Nat.le_of_ble_eq_true rfl) (Nat.le_of_ble_eq_true rfl) rfl ?_
  refine mm_goto 48 dX0_add_40 (by decide) ?_
  refine mm_vret dX0_add_48 rfl ?_ (by omega) (by omega)
  refine ⟨rfl, rfl, ?_⟩
  dsimp only
  exact ⟨(mm_upN (by decide) mm_up_s), mm_up_s, fun x e2 e1 => mm_upN e1 (mm_upN e2 (rfl))⟩

set_option maxHeartbeats 4000000 in
set_option maxRecDepth 100000 in
theorem k425_X0_size {g : mm_G} {l : Launch} (hst : l.stackTraces = false) {d : Nat} (M : Nat → mm_C) (b : Int64) (h1 : M 1 = .inr (0, [.ref 2, .int (((((((0 + 1) + 1) + 1) + 1) + 1) + 1) + 1), .int 0])) : mm_Cm g l yX0_size (.code yX0_size cX0_size 1 (some .int)) d 0 0 [.ref 1] (M, 1186, false) (fun v S' => v = some (.int (((((((0 + 1) + 1) + 1) + 1) + 1) + 1) + 1)) ∧ S' = (M, 1186, false)) := by
  refine mm_Cm_of hst (by decide) (Nat.le_of_ble_eq_true rfl) ?_
  show mm_V g l RX0 "size" cX0_size 1 (some .int) [] d 0 0 _ 0 [some (.ref 1)] [] (M, 1186, false) 0 0
  refine mm_aload_n dX0_size_0 rfl rfl ?_
  refine mm_get3 (ci := 0) in_X0 rfl (k := 1) (by decide) rfl kF_X0_19 dX0_size_1 h1 (Nat.le_of_ble_eq_true rfl) rfl ?_
  refine mm_iret dX0_size_4 rfl rfl ?_ (by omega) (by omega)
  exact ⟨rfl, rfl⟩

set_option maxHeartbeats 4000000 in
set_option maxRecDepth 100000 in
theorem f_feed_7 {g : mm_G} {l : Launch} (hst : l.stackTraces = false) {d : Nat} (M : Nat → mm_C) (b : Int64) (h0 : M 0 = .inr (11, [.ref 1, .ref 3, .ref 5, .ref 197, .ref 389, .ref 1094, .ref 1095, .ref 1097, .int (-1)])) (h1 : M 1 = .inr (0, [.ref 2, .int 0, .int 0])) (h2 : M 2 = .inl (2, 700, .inl (fun _ => 0))) : mm_Ct g l yX11_feed (.code yX11_feed cX11_feed 5 (some .int)) (d + 1) 0 0 [.ref 0, .long b, .int 7] (M, 1186, false) (fun r S' => r = .inl (some (.int (((((((0 + 1) + 1) + 1) + 1) + 1) + 1) + 1))) ∧ S'.2 = (1186, false) ∧ ∀ j, 1101 ≤ j → S'.1 j = M j) := by
  refine mm_Ct_of hst (by decide) (Nat.le_of_ble_eq_true rfl) ?_
  show mm_V g l RX11 "feed" cX11_feed 5 (some .int) [] (d + 1) 0 0 _ 0 [some (.ref 0), some (.long b), none, some (.int 7), none] [] (M, 1186, false) 0 0
  refine mm_iload_n dX11_feed_0 rfl ?_
  refine mm_iconst (v := 1) dX11_feed_1 (by decide) ?_
  refine mm_icmp_lt 11 dX11_feed_2 (by decide) (fun h => absurd h (by decide)) (fun _ => ?_)
  refine mm_iload_n dX11_feed_5 rfl ?_
  refine mm_bipush (v := 8) dX11_feed_6 (by decide) ?_
  refine mm_icmp_le 21 dX11_feed_8 (by decide) (fun _ => ?_) (fun h => absurd (by decide) h)
  refine mm_aload_n dX11_feed_21 rfl rfl ?_
  refine mm_get3 (ci := 11) in_X11 rfl (k := 0) (by decide) rfl kF_X11_14 dX11_feed_22 h0 (Nat.le_of_ble_eq_true rfl) rfl ?_
  refine mm_callV3 (ci := 0) wM_X0_size kM_X11_74 wI_X0_size wS_X0_size dX11_feed_25 (k409_X0_size hst _ b h1) h1 (Nat.le_of_ble_eq_true rfl) rfl rfl rfl (Nat.le_of_ble_eq_true rfl) (by omega) (by omega) (fun v S9 hq => ?_)
  obtain ⟨rfl, rfl⟩ := hq
  refine ⟨fun h => ⟨h, rfl⟩, ?_⟩
  refine mm_iload_n dX11_feed_28 rfl ?_
  refine mm_iadd dX11_feed_29 ?_
  refine mm_sipush (v := 700) dX11_feed_30 (by decide) ?_
  refine mm_icmp_le 46 dX11_feed_33 (by decide) (fun _ => ?_) (fun h => absurd (by decide) h)
  refine mm_iload_n dX11_feed_46 rfl ?_
  refine mm_iconst (v := 1) dX11_feed_47 (by decide) ?_
  refine mm_isub dX11_feed_48 ?_
  refine mm_istore [some (.ref 0), some (.long b), none, some (.int 7), some (.int (7 - 1))] dX11_feed_49 (by decide) rfl ?_
  refine mm_iload dX11_feed_51 rfl ?_
  refine mm_if_lt 77 dX11_feed_53 (by decide) (fun h => absurd h (by decide)) (fun _ => ?_)
  refine mm_aload_n dX11_feed_56 rfl rfl ?_
  refine mm_get3 (ci := 11) in_X11 rfl (k := 0) (by decide) rfl kF_X11_14 dX11_feed_57 h0 (Nat.le_of_ble_eq_true rfl) rfl ?_
  refine mm_lload_n dX11_feed_60 rfl ?_
  refine mm_bipush (v := 8) dX11_feed_61 (by decide) ?_
  refine mm_iload dX11_feed_63 rfl ?_
  refine mm_imul dX11_feed_65 ?_
  refine mm_lushr dX11_feed_66 ?_
  refine mm_l2i dX11_feed_67 ?_
  refine mm_callV3 (ci := 0) wM_X0_add kM_X11_83 wI_X0_add wS_X0_add dX11_feed_68 (k411_X0_add hst _ b h1 h2) h1 (Nat.le_of_ble_eq_true rfl) rfl rfl rfl (Nat.le_of_ble_eq_true rfl) (by omega) (by omega) (fun v S9 hq => ?_)
  obtain ⟨M412, z412⟩ := S9
  obtain ⟨rfl, hz412, g412_2, g412_1, g412_F⟩ := hq
  cases hz412
  refine ⟨fun h => ⟨h, rfl⟩, ?_⟩
  refine mm_iinc (v := 5) [some (.ref 0), some (.long b), none, some (.int 7), some (.int 5)] dX11_feed_71 rfl (by decide) (by decide) rfl ?_
  refine mm_goto 51 dX11_feed_74 (by decide) ?_
  refine mm_iload dX11_feed_51 rfl ?_
  refine mm_if_lt 77 dX11_feed_53 (by decide) (fun h => absurd h (by decide)) (fun _ => ?_)
  refine mm_aload_n dX11_feed_56 rfl rfl ?_
  refine mm_get3 (ci := 11) in_X11 rfl (k := 0) (by decide) rfl kF_X11_14 dX11_feed_57 (mm_frN (g412_F _ (by decide) (by decide)) h0) (Nat.le_of_ble_eq_true rfl) rfl ?_
  refine mm_lload_n dX11_feed_60 rfl ?_
  refine mm_bipush (v := 8) dX11_feed_61 (by decide) ?_
  refine mm_iload dX11_feed_63 rfl ?_
  refine mm_imul dX11_feed_65 ?_
  refine mm_lushr dX11_feed_66 ?_
  refine mm_l2i dX11_feed_67 ?_
  refine mm_callV3 (ci := 0) wM_X0_add kM_X11_83 wI_X0_add wS_X0_add dX11_feed_68 (k413_X0_add hst _ b g412_1 g412_2) g412_1 (Nat.le_of_ble_eq_true rfl) rfl rfl rfl (Nat.le_of_ble_eq_true rfl) (by omega) (by omega) (fun v S9 hq => ?_)
  obtain ⟨M414, z414⟩ := S9
  obtain ⟨rfl, hz414, g414_2, g414_1, g414_F⟩ := hq
  cases hz414
  refine ⟨fun h => ⟨h, rfl⟩, ?_⟩
  refine mm_iinc (v := 4) [some (.ref 0), some (.long b), none, some (.int 7), some (.int 4)] dX11_feed_71 rfl (by decide) (by decide) rfl ?_
  refine mm_goto 51 dX11_feed_74 (by decide) ?_
  refine mm_iload dX11_feed_51 rfl ?_
  refine mm_if_lt 77 dX11_feed_53 (by decide) (fun h => absurd h (by decide)) (fun _ => ?_)
  refine mm_aload_n dX11_feed_56 rfl rfl ?_
  refine mm_get3 (ci := 11) in_X11 rfl (k := 0) (by decide) rfl kF_X11_14 dX11_feed_57 (mm_frN (g414_F _ (by decide) (by decide)) (mm_frN (g412_F _ (by decide) (by decide)) h0)) (Nat.le_of_ble_eq_true rfl) rfl ?_
  refine mm_lload_n dX11_feed_60 rfl ?_
  refine mm_bipush (v := 8) dX11_feed_61 (by decide) ?_
  refine mm_iload dX11_feed_63 rfl ?_
  refine mm_imul dX11_feed_65 ?_
  refine mm_lushr dX11_feed_66 ?_
  refine mm_l2i dX11_feed_67 ?_
  refine mm_callV3 (ci := 0) wM_X0_add kM_X11_83 wI_X0_add wS_X0_add dX11_feed_68 (k415_X0_add hst _ b g414_1 g414_2) g414_1 (Nat.le_of_ble_eq_true rfl) rfl rfl rfl (Nat.le_of_ble_eq_true rfl) (by omega) (by omega) (fun v S9 hq => ?_)
  obtain ⟨M416, z416⟩ := S9
  obtain ⟨rfl, hz416, g416_2, g416_1, g416_F⟩ := hq
  cases hz416
  refine ⟨fun h => ⟨h, rfl⟩, ?_⟩
  refine mm_iinc (v := 3) [some (.ref 0), some (.long b), none, some (.int 7), some (.int 3)] dX11_feed_71 rfl (by decide) (by decide) rfl ?_
  refine mm_goto 51 dX11_feed_74 (by decide) ?_
  refine mm_iload dX11_feed_51 rfl ?_
  refine mm_if_lt 77 dX11_feed_53 (by decide) (fun h => absurd h (by decide)) (fun _ => ?_)
  refine mm_aload_n dX11_feed_56 rfl rfl ?_
  refine mm_get3 (ci := 11) in_X11 rfl (k := 0) (by decide) rfl kF_X11_14 dX11_feed_57 (mm_frN (g416_F _ (by decide) (by decide)) (mm_frN (g414_F _ (by decide) (by decide)) (mm_frN (g412_F _ (by decide) (by decide)) h0))) (Nat.le_of_ble_eq_true rfl) rfl ?_
  refine mm_lload_n dX11_feed_60 rfl ?_
  refine mm_bipush (v := 8) dX11_feed_61 (by decide) ?_
  refine mm_iload dX11_feed_63 rfl ?_
  refine mm_imul dX11_feed_65 ?_
  refine mm_lushr dX11_feed_66 ?_
  refine mm_l2i dX11_feed_67 ?_
  refine mm_callV3 (ci := 0) wM_X0_add kM_X11_83 wI_X0_add wS_X0_add dX11_feed_68 (k417_X0_add hst _ b g416_1 g416_2) g416_1 (Nat.le_of_ble_eq_true rfl) rfl rfl rfl (Nat.le_of_ble_eq_true rfl) (by omega) (by omega) (fun v S9 hq => ?_)
  obtain ⟨M418, z418⟩ := S9
  obtain ⟨rfl, hz418, g418_2, g418_1, g418_F⟩ := hq
  cases hz418
  refine ⟨fun h => ⟨h, rfl⟩, ?_⟩
  refine mm_iinc (v := 2) [some (.ref 0), some (.long b), none, some (.int 7), some (.int 2)] dX11_feed_71 rfl (by decide) (by decide) rfl ?_
  refine mm_goto 51 dX11_feed_74 (by decide) ?_
  refine mm_iload dX11_feed_51 rfl ?_
  refine mm_if_lt 77 dX11_feed_53 (by decide) (fun h => absurd h (by decide)) (fun _ => ?_)
  refine mm_aload_n dX11_feed_56 rfl rfl ?_
  refine mm_get3 (ci := 11) in_X11 rfl (k := 0) (by decide) rfl kF_X11_14 dX11_feed_57 (mm_frN (g418_F _ (by decide) (by decide)) (mm_frN (g416_F _ (by decide) (by decide)) (mm_frN (g414_F _ (by decide) (by decide)) (mm_frN (g412_F _ (by decide) (by decide)) h0)))) (Nat.le_of_ble_eq_true rfl) rfl ?_
  refine mm_lload_n dX11_feed_60 rfl ?_
  refine mm_bipush (v := 8) dX11_feed_61 (by decide) ?_
  refine mm_iload dX11_feed_63 rfl ?_
  refine mm_imul dX11_feed_65 ?_
  refine mm_lushr dX11_feed_66 ?_
  refine mm_l2i dX11_feed_67 ?_
  refine mm_callV3 (ci := 0) wM_X0_add kM_X11_83 wI_X0_add wS_X0_add dX11_feed_68 (k419_X0_add hst _ b g418_1 g418_2) g418_1 (Nat.le_of_ble_eq_true rfl) rfl rfl rfl (Nat.le_of_ble_eq_true rfl) (by omega) (by omega) (fun v S9 hq => ?_)
  obtain ⟨M420, z420⟩ := S9
  obtain ⟨rfl, hz420, g420_2, g420_1, g420_F⟩ := hq
  cases hz420
  refine ⟨fun h => ⟨h, rfl⟩, ?_⟩
  refine mm_iinc (v := 1) [some (.ref 0), some (.long b), none, some (.int 7), some (.int 1)] dX11_feed_71 rfl (by decide) (by decide) rfl ?_
  refine mm_goto 51 dX11_feed_74 (by decide) ?_
  refine mm_iload dX11_feed_51 rfl ?_
  refine mm_if_lt 77 dX11_feed_53 (by decide) (fun h => absurd h (by decide)) (fun _ => ?_)
  refine mm_aload_n dX11_feed_56 rfl rfl ?_
  refine mm_get3 (ci := 11) in_X11 rfl (k := 0) (by decide) rfl kF_X11_14 dX11_feed_57 (mm_frN (g420_F _ (by decide) (by decide)) (mm_frN (g418_F _ (by decide) (by decide)) (mm_frN (g416_F _ (by decide) (by decide)) (mm_frN (g414_F _ (by decide) (by decide)) (mm_frN (g412_F _ (by decide) (by decide)) h0))))) (Nat.le_of_ble_eq_true rfl) rfl ?_
  refine mm_lload_n dX11_feed_60 rfl ?_
  refine mm_bipush (v := 8) dX11_feed_61 (by decide) ?_
  refine mm_iload dX11_feed_63 rfl ?_
  refine mm_imul dX11_feed_65 ?_
  refine mm_lushr dX11_feed_66 ?_
  refine mm_l2i dX11_feed_67 ?_
  refine mm_callV3 (ci := 0) wM_X0_add kM_X11_83 wI_X0_add wS_X0_add dX11_feed_68 (k421_X0_add hst _ b g420_1 g420_2) g420_1 (Nat.le_of_ble_eq_true rfl) rfl rfl rfl (Nat.le_of_ble_eq_true rfl) (by omega) (by omega) (fun v S9 hq => ?_)
  obtain ⟨M422, z422⟩ := S9
  obtain ⟨rfl, hz422, g422_2, g422_1, g422_F⟩ := hq
  cases hz422
  refine ⟨fun h => ⟨h, rfl⟩, ?_⟩
  refine mm_iinc (v := 0) [some (.ref 0), some (.long b), none, some (.int 7), some (.int 0)] dX11_feed_71 rfl (by decide) (by decide) rfl ?_
  refine mm_goto 51 dX11_feed_74 (by decide) ?_
  refine mm_iload dX11_feed_51 rfl ?_
  refine mm_if_lt 77 dX11_feed_53 (by decide) (fun h => absurd h (by decide)) (fun _ => ?_)
  refine mm_aload_n dX11_feed_56 rfl rfl ?_
  refine mm_get3 (ci := 11) in_X11 rfl (k := 0) (by decide) rfl kF_X11_14 dX11_feed_57 (mm_frN (g422_F _ (by decide) (by decide)) (mm_frN (g420_F _ (by decide) (by decide)) (mm_frN (g418_F _ (by decide) (by decide)) (mm_frN (g416_F _ (by decide) (by decide)) (mm_frN (g414_F _ (by decide) (by decide)) (mm_frN (g412_F _ (by decide) (by decide)) h0)))))) (Nat.le_of_ble_eq_true rfl) rfl ?_
  refine mm_lload_n dX11_feed_60 rfl ?_
  refine mm_bipush (v := 8) dX11_feed_61 (by decide) ?_
  refine mm_iload dX11_feed_63 rfl ?_
  refine mm_imul dX11_feed_65 ?_
  refine mm_lushr dX11_feed_66 ?_
  refine mm_l2i dX11_feed_67 ?_
  refine mm_callV3 (ci := 0) wM_X0_add kM_X11_83 wI_X0_add wS_X0_add dX11_feed_68 (k423_X0_add hst _ b g422_1 g422_2) g422_1 (Nat.le_of_ble_eq_true rfl) rfl rfl rfl (Nat.le_of_ble_eq_true rfl) (by omega) (by omega) (fun v S9 hq => ?_)
  obtain ⟨M424, z424⟩ := S9
  obtain ⟨rfl, hz424, g424_2, g424_1, g424_F⟩ := hq
  cases hz424
  refine ⟨fun h => ⟨h, rfl⟩, ?_⟩
  refine mm_iinc (v := (-1)) [some (.ref 0), some (.long b), none, some (.int 7), some (.int (-1))] dX11_feed_71 rfl (by decide) (by decide) rfl ?_
  refine mm_goto 51 dX11_feed_74 (by decide) ?_
  refine mm_iload dX11_feed_51 rfl ?_
  refine mm_if_lt 77 dX11_feed_53 (by decide) (fun _ => ?_) (fun h => absurd (by decide) h)
  refine mm_aload_n dX11_feed_77 rfl rfl ?_
  refine mm_get3 (ci := 11) in_X11 rfl (k := 0) (by decide) rfl kF_X11_14 dX11_feed_78 (mm_frN (g424_F _ (by decide) (by decide)) (mm_frN (g422_F _ (by decide) (by decide)) (mm_frN (g420_F _ (by decide) (by decide)) (mm_frN (g418_F _ (by decide) (by decide)) (mm_frN (g416_F _ (by decide) (by decide)) (mm_frN (g414_F _ (by decide) (by decide)) (mm_frN (g412_F _ (by decide) (by decide)) h0))))))) (Nat.le_of_ble_eq_true rfl) rfl ?_
  refine mm_callV3 (ci := 0) wM_X0_size kM_X11_74 wI_X0_size wS_X0_size dX11_feed_81 (k425_X0_size hst _ b g424_1) g424_1 (Nat.le_of_ble_eq_true rfl) rfl rfl rfl (Nat.le_of_ble_eq_true rfl) (by omega) (by omega) (fun v S9 hq => ?_)
  obtain ⟨rfl, rfl⟩ := hq
  refine ⟨fun h => ⟨h, rfl⟩, ?_⟩
  refine mm_iret dX11_feed_84 rfl rfl ?_ (by omega) (by omega)
  refine ⟨rfl, rfl, fun x hx => ?_⟩
  dsimp only
  exact mm_frN (g424_F _ (by omega) (by omega) ) (mm_frN (g422_F _ (by omega) (by omega) ) (mm_frN (g420_F _ (by omega) (by omega) ) (mm_frN (g418_F _ (by omega) (by omega) ) (mm_frN (g416_F _ (by omega) (by omega) ) (mm_frN (g414_F _ (by omega) (by omega) ) (mm_frN (g412_F _ (by omega) (by omega) ) (rfl)))))))

set_option maxHeartbeats 4000000 in
set_option maxRecDepth 100000 in
theorem k427_X0_size {g : mm_G} {l : Launch} (hst : l.stackTraces = false) {d : Nat} (M : Nat → mm_C) (b : Int64) (h1 : M 1 = .inr (0, [.ref 2, .int 0, .int 0])) : mm_Cm g l yX0_size (.code yX0_size cX0_size 1 (some .int)) d 0 0 [.ref 1] (M, 1186, false) (fun v S' => v = some (.int 0) ∧ S' = (M, 1186, false)) := by
  refine mm_Cm_of hst (by decide) (Nat.le_of_ble_eq_true rfl) ?_
  show mm_V g l RX0 "size" cX0_size 1 (some .int) [] d 0 0 _ 0 [some (.ref 1)] [] (M, 1186, false) 0 0
  refine mm_aload_n dX0_size_0 rfl rfl ?_
  refine mm_get3 (ci := 0) in_X0 rfl (k := 1) (by decide) rfl kF_X0_19 dX0_size_1 h1 (Nat.le_of_ble_eq_true rfl) rfl ?_
  refine mm_iret dX0_size_4 rfl rfl ?_ (by omega) (by omega)
  exact ⟨rfl, rfl⟩

set_option maxHeartbeats 4000000 in
set_option maxRecDepth 100000 in
theorem k429_X0_add {g : mm_G} {l : Launch} (hst : l.stackTraces = false) {d : Nat} (M : Nat → mm_C) (b : Int64) (h1 : M 1 = .inr (0, [.ref 2, .int 0, .int 0])) (h2 : M 2 = .inl (2, 700, .inl (fun _ => 0))) : mm_Cm g l yX0_add (.code yX0_add cX0_add 2 none) d 0 0 [.ref 1, .int ((((b : Int64).toUInt64 >>> ((8 * (8 - 1) : Int32).toInt64.toUInt64 &&& Int64.toUInt64 63)).toInt64 : Int64).toInt32)] (M, 1186, false) (fun v S' => v = none ∧ S'.2 = (1186, false) ∧ S'.1 2 = .inl (2, 700, .inl (upd (fun _ => 0) ((0 : Int32).toNatClampNeg) (vp_nar .byte (((((b : Int64).toUInt64 >>> ((8 * (8 - 1) : Int32).toInt64.toUInt64 &&& Int64.toUInt64 63)).toInt64 : Int64).toInt32 : Int32).toInt8.toInt32)))) ∧ S'.1 1 = .inr (0, [.ref 2, .int (0 + 1), .int 0]) ∧ ∀ j, j ≠ 2 → j ≠ 1 → S'.1 j = M j) := by
  refine mm_Cm_of hst (by decide) (Nat.le_of_ble_eq_true rfl) ?_
  show mm_V g l RX0 "add" cX0_add 2 none [] d 0 0 _ 0 [some (.ref 1), some (.int ((((b : Int64).toUInt64 >>> ((8 * (8 - 1) : Int32).toInt64.toUInt64 &&& Int64.toUInt64 63)).toInt64 : Int64).toInt32))] [] (M, 1186, false) 0 0
  refine mm_aload_n dX0_add_0 rfl rfl ?_
  refine mm_get3 (ci := 0) in_X0 rfl (k := 1) (by decide) rfl kF_X0_19 dX0_add_1 h1 (Nat.le_of_ble_eq_true rfl) rfl ?_
  refine mm_if_lt 43 dX0_add_4 (by decide) (fun h => absurd h (by decide)) (fun _ => ?_)
  refine mm_aload_n dX0_add_7 rfl rfl ?_
  refine mm_get3 (ci := 0) in_X0 rfl (k := 1) (by decide) rfl kF_X0_19 dX0_add_8 h1 (Nat.le_of_ble_eq_true rfl) rfl ?_
  refine mm_aload_n dX0_add_11 rfl rfl ?_
  refine mm_get3 (ci := 0) in_X0 rfl (k := 0) (by decide) rfl kF_X0_13 dX0_add_12 h1 (Nat.le_of_ble_eq_true rfl) rfl ?_
  refine mm_alen3 (v := 700) (fun _ => rfl) h2 (Nat.le_of_ble_eq_true rfl) rfl dX0_add_15 ?_
  refine mm_icmp_ge 43 dX0_add_16 (by decide) (fun h => absurd h (by decide)) (fun _ => ?_)
  refine mm_aload_n dX0_add_19 rfl rfl ?_
  refine mm_get3 (ci := 0) in_X0 rfl (k := 0) (by decide) rfl kF_X0_13 dX0_add_20 h1 (Nat.le_of_ble_eq_true rfl) rfl ?_
  refine mm_aload_n dX0_add_23 rfl rfl ?_
  refine mm_get3 (ci := 0) in_X0 rfl (k := 1) (by decide) rfl kF_X0_19 dX0_add_24 h1 (Nat.le_of_ble_eq_true rfl) rfl ?_
  refine mm_iload_n dX0_add_27 rfl ?_
  refine mm_i2b dX0_add_28 ?_
  refine mm_bast3 h2 (Nat.le_of_ble_eq_true rfl) (by unfold vp_in; decide) dX0_add_29 ?_
  refine mm_aload_n dX0_add_30 rfl rfl ?_
  refine mm_dup dX0_add_31 rfl ?_
  refine mm_get3 (ci := 0) in_X0 rfl (k := 1) (by decide) rfl kF_X0_19 dX0_add_32 (mm_upN (by decide) h1) (Nat.le_of_ble_eq_true rfl) rfl ?_
  refine mm_iconst (v := 1) dX0_add_35 (by decide) ?_
  refine mm_iadd dX0_add_36 ?_
  refine mm_put3 (ci := 0) (fs1 := [.ref 2, .int (0 + 1), .int 0]) in_X0 tyX0_ok nmX0 rfl (k := 1) (by decide) rfl rfl kF_X0_19 dX0_add_37 (mm_fit_int _) (mm_upN (by decide) h1) (Nat.le_of_ble_eq_true rfl) (Nat.le_of_ble_eq_true rfl) rfl ?_
  refine mm_goto 48 dX0_add_40 (by decide) ?_
  refine mm_vret dX0_add_48 rfl ?_ (by omega) (by omega)
  refine ⟨rfl, rfl, ?_⟩
  dsimp only
  exact ⟨(mm_upN (by decide) mm_up_s), mm_up_s, fun x e2 e1 => mm_upN e1 (mm_upN e2 (rfl))⟩

set_option maxHeartbeats 4000000 in
set_option maxRecDepth 100000 in
theorem k431_X0_add {g : mm_G} {l : Launch} (hst : l.stackTraces = false) {d : Nat} (M : Nat → mm_C) (b : Int64) (h1 : M 1 = .inr (0, [.ref 2, .int (0 + 1), .int 0])) (h2 : M 2 = .inl (2, 700, .inl (upd (fun _ => 0) ((0 : Int32).toNatClampNeg) (vp_nar .byte (((((b : Int64).toUInt64 >>> ((8 * (8 - 1) : Int32).toInt64.toUInt64 &&& Int64.toUInt64 63)).toInt64 : Int64).toInt32 : Int32).toInt8.toInt32))))) : mm_Cm g l yX0_add (.code yX0_add cX0_add 2 none) d 0 0 [.ref 1, .int ((((b : Int64).toUInt64 >>> ((8 * 6 : Int32).toInt64.toUInt64 &&& Int64.toUInt64 63)).toInt64 : Int64).toInt32)] (M, 1186, false) (fun v S' => v = none ∧ S'.2 = (1186, false) ∧ S'.1 2 = .inl (2, 700, .inl (upd (upd (fun _ => 0) ((0 : Int32).toNatClampNeg) (vp_nar .byte (((((b : Int64).toUInt64 >>> ((8 * (8 - 1) : Int32).toInt64.toUInt64 &&& Int64.toUInt64 63)).toInt64 : Int64).toInt32 : Int32).toInt8.toInt32))) ((0 + 1 : Int32).toNatClampNeg) (vp_nar .byte (((((b : Int64).toUInt64 >>> ((8 * 6 : Int32).toInt64.toUInt64 &&& Int64.toUInt64 63)).toInt64 : Int64).toInt32 : Int32).toInt8.toInt32)))) ∧ S'.1 1 = .inr (0, [.ref 2, .int ((0 + 1) + 1), .int 0]) ∧ ∀ j, j ≠ 2 → j ≠ 1 → S'.1 j = M j) := by
  refine mm_Cm_of hst (by decide) (Nat.le_of_ble_eq_true rfl) ?_
  show mm_V g l RX0 "add" cX0_add 2 none [] d 0 0 _ 0 [some (.ref 1), some (.int ((((b : Int64).toUInt64 >>> ((8 * 6 : Int32).toInt64.toUInt64 &&& Int64.toUInt64 63)).toInt64 : Int64).toInt32))] [] (M, 1186, false) 0 0
  refine mm_aload_n dX0_add_0 rfl rfl ?_
  refine mm_get3 (ci := 0) in_X0 rfl (k := 1) (by decide) rfl kF_X0_19 dX0_add_1 h1 (Nat.le_of_ble_eq_true rfl) rfl ?_
  refine mm_if_lt 43 dX0_add_4 (by decide) (fun h => absurd h (by decide)) (fun _ => ?_)
  refine mm_aload_n dX0_add_7 rfl rfl ?_
  refine mm_get3 (ci := 0) in_X0 rfl (k := 1) (by decide) rfl kF_X0_19 dX0_add_8 h1 (Nat.le_of_ble_eq_true rfl) rfl ?_
  refine mm_aload_n dX0_add_11 rfl rfl ?_
  refine mm_get3 (ci := 0) in_X0 rfl (k := 0) (by decide) rfl kF_X0_13 dX0_add_12 h1 (Nat.le_of_ble_eq_true rfl) rfl ?_
  refine mm_alen3 (v := 700) (fun _ => rfl) h2 (Nat.le_of_ble_eq_true rfl) rfl dX0_add_15 ?_
  refine mm_icmp_ge 43 dX0_add_16 (by decide) (fun h => absurd h (by decide)) (fun _ => ?_)
  refine mm_aload_n dX0_add_19 rfl rfl ?_
  refine mm_get3 (ci := 0) in_X0 rfl (k := 0) (by decide) rfl kF_X0_13 dX0_add_20 h1 (Nat.le_of_ble_eq_true rfl) rfl ?_
  refine mm_aload_n dX0_add_23 rfl rfl ?_
  refine mm_get3 (ci := 0) in_X0 rfl (k := 1) (by decide) rfl kF_X0_19 dX0_add_24 h1 (Nat.le_of_ble_eq_true rfl) rfl ?_
  refine mm_iload_n dX0_add_27 rfl ?_
  refine mm_i2b dX0_add_28 ?_
  refine mm_bast3 h2 (Nat.le_of_ble_eq_true rfl) (by unfold vp_in; decide) dX0_add_29 ?_
  refine mm_aload_n dX0_add_30 rfl rfl ?_
  refine mm_dup dX0_add_31 rfl ?_
  refine mm_get3 (ci := 0) in_X0 rfl (k := 1) (by decide) rfl kF_X0_19 dX0_add_32 (mm_upN (by decide) h1) (Nat.le_of_ble_eq_true rfl) rfl ?_
  refine mm_iconst (v := 1) dX0_add_35 (by decide) ?_
  refine mm_iadd dX0_add_36 ?_
  refine mm_put3 (ci := 0) (fs1 := [.ref 2, .int ((0 + 1) + 1), .int 0]) in_X0 tyX0_ok nmX0 rfl (k := 1) (by decide) rfl rfl kF_X0_19 dX0_add_37 (mm_fit_int _) (mm_upN (by decide) h1) (Nat.le_of_ble_eq_true rfl) (Nat.le_of_ble_eq_true rfl) rfl ?_
  refine mm_goto 48 dX0_add_40 (by decide) ?_
  refine mm_vret dX0_add_48 rfl ?_ (by omega) (by omega)
  refine ⟨rfl, rfl, ?_⟩
  dsimp only
  exact ⟨(mm_upN (by decide) mm_up_s), mm_up_s, fun x e2 e1 => mm_upN e1 (mm_upN e2 (rfl))⟩

set_option maxHeartbeats 4000000 in
set_option maxRecDepth 100000 in
theorem k433_X0_add {g : mm_G} {l : Launch} (hst : l.stackTraces = false) {d : Nat} (M : Nat → mm_C) (b : Int64) (h1 : M 1 = .inr (0, [.ref 2, .int ((0 + 1) + 1), .int 0])) (h2 : M 2 = .inl (2, 700, .inl (upd (upd (fun _ => 0) ((0 : Int32).toNatClampNeg) (vp_nar .byte (((((b : Int64).toUInt64 >>> ((8 * (8 - 1) : Int32).toInt64.toUInt64 &&& Int64.toUInt64 63)).toInt64 : Int64).toInt32 : Int32).toInt8.toInt32))) ((0 + 1 : Int32).toNatClampNeg) (vp_nar .byte (((((b : Int64).toUInt64 >>> ((8 * 6 : Int32).toInt64.toUInt64 &&& Int64.toUInt64 63)).toInt64 : Int64).toInt32 : Int32).toInt8.toInt32))))) : mm_Cm g l yX0_add (.code yX0_add cX0_add 2 none) d 0 0 [.ref 1, .int ((((b : Int64).toUInt64 >>> ((8 * 5 : Int32).toInt64.toUInt64 &&& Int64.toUInt64 63)).toInt64 : Int64).toInt32)] (M, 1186, false) (fun v S' => v = none ∧ S'.2 = (1186, false) ∧ S'.1 2 = .inl (2, 700, .inl (upd (upd (upd (fun _ => 0) ((0 : Int32).toNatClampNeg) (vp_nar .byte (((((b : Int64).toUInt64 >>> ((8 * (8 - 1) : Int32).toInt64.toUInt64 &&& Int64.toUInt64 63)).toInt64 : Int64).toInt32 : Int32).toInt8.toInt32))) ((0 + 1 : Int32).toNatClampNeg) (vp_nar .byte (((((b : Int64).toUInt64 >>> ((8 * 6 : Int32).toInt64.toUInt64 &&& Int64.toUInt64 63)).toInt64 : Int64).toInt32 : Int32).toInt8.toInt32))) (((0 + 1) + 1 : Int32).toNatClampNeg) (vp_nar .byte (((((b : Int64).toUInt64 >>> ((8 * 5 : Int32).toInt64.toUInt64 &&& Int64.toUInt64 63)).toInt64 : Int64).toInt32 : Int32).toInt8.toInt32)))) ∧ S'.1 1 = .inr (0, [.ref 2, .int (((0 + 1) + 1) + 1), .int 0]) ∧ ∀ j, j ≠ 2 → j ≠ 1 → S'.1 j = M j) := by
  refine mm_Cm_of hst (by decide) (Nat.le_of_ble_eq_true rfl) ?_
  show mm_V g l RX0 "add" cX0_add 2 none [] d 0 0 _ 0 [some (.ref 1), some (.int ((((b : Int64).toUInt64 >>> ((8 * 5 : Int32).toInt64.toUInt64 &&& Int64.toUInt64 63)).toInt64 : Int64).toInt32))] [] (M, 1186, false) 0 0
  refine mm_aload_n dX0_add_0 rfl rfl ?_
  refine mm_get3 (ci := 0) in_X0 rfl (k := 1) (by decide) rfl kF_X0_19 dX0_add_1 h1 (Nat.le_of_ble_eq_true rfl) rfl ?_
  refine mm_if_lt 43 dX0_add_4 (by decide) (fun h => absurd h (by decide)) (fun _ => ?_)
  refine mm_aload_n dX0_add_7 rfl rfl ?_
  refine mm_get3 (ci := 0) in_X0 rfl (k := 1) (by decide) rfl kF_X0_19 dX0_add_8 h1 (Nat.le_of_ble_eq_true rfl) rfl ?_
  refine mm_aload_n dX0_add_11 rfl rfl ?_
  refine mm_get3 (ci := 0) in_X0 rfl (k := 0) (by decide) rfl kF_X0_13 dX0_add_12 h1 (Nat.le_of_ble_eq_true rfl) rfl ?_
  refine mm_alen3 (v := 700) (fun _ => rfl) h2 (Nat.le_of_ble_eq_true rfl) rfl dX0_add_15 ?_
  refine mm_icmp_ge 43 dX0_add_16 (by decide) (fun h => absurd h (by decide)) (fun _ => ?_)
  refine mm_aload_n dX0_add_19 rfl rfl ?_
  refine mm_get3 (ci := 0) in_X0 rfl (k := 0) (by decide) rfl kF_X0_13 dX0_add_20 h1 (Nat.le_of_ble_eq_true rfl) rfl ?_
  refine mm_aload_n dX0_add_23 rfl rfl ?_
  refine mm_get3 (ci := 0) in_X0 rfl (k := 1) (by decide) rfl kF_X0_19 dX0_add_24 h1 (Nat.le_of_ble_eq_true rfl) rfl ?_
  refine mm_iload_n dX0_add_27 rfl ?_
  refine mm_i2b dX0_add_28 ?_
  refine mm_bast3 h2 (Nat.le_of_ble_eq_true rfl) (by unfold vp_in; decide) dX0_add_29 ?_
  refine mm_aload_n dX0_add_30 rfl rfl ?_
  refine mm_dup dX0_add_31 rfl ?_
  refine mm_get3 (ci := 0) in_X0 rfl (k := 1) (by decide) rfl kF_X0_19 dX0_add_32 (mm_upN (by decide) h1) (Nat.le_of_ble_eq_true rfl) rfl ?_
  refine mm_iconst (v := 1) dX0_add_35 (by decide) ?_
  refine mm_iadd dX0_add_36 ?_
  refine mm_put3 (ci := 0) (fs1 := [.ref 2, .int (((0 + 1) + 1) + 1), .int 0]) in_X0 tyX0_ok nmX0 rfl (k := 1) (by decide) rfl rfl kF_X0_19 dX0_add_37 (mm_fit_int _) (mm_upN (by decide) h1) (Nat.le_of_ble_eq_true rfl) (Nat.le_of_ble_eq_true rfl) rfl ?_
  refine mm_goto 48 dX0_add_40 (by decide) ?_
  refine mm_vret dX0_add_48 rfl ?_ (by omega) (by omega)
  refine ⟨rfl, rfl, ?_⟩
  dsimp only
  exact ⟨(mm_upN (by decide) mm_up_s), mm_up_s, fun x e2 e1 => mm_upN e1 (mm_upN e2 (rfl))⟩

set_option maxHeartbeats 4000000 in
set_option maxRecDepth 100000 in
theorem k435_X0_add {g : mm_G} {l : Launch} (hst : l.stackTraces = false) {d : Nat} (M : Nat → mm_C) (b : Int64) (h1 : M 1 = .inr (0, [.ref 2, .int (((0 + 1) + 1) + 1), .int 0])) (h2 : M 2 = .inl (2, 700, .inl (upd (upd (upd (fun _ => 0) ((0 : Int32).toNatClampNeg) (vp_nar .byte (((((b : Int64).toUInt64 >>> ((8 * (8 - 1) : Int32).toInt64.toUInt64 &&& Int64.toUInt64 63)).toInt64 : Int64).toInt32 : Int32).toInt8.toInt32))) ((0 + 1 : Int32).toNatClampNeg) (vp_nar .byte (((((b : Int64).toUInt64 >>> ((8 * 6 : Int32).toInt64.toUInt64 &&& Int64.toUInt64 63)).toInt64 : Int64).toInt32 : Int32).toInt8.toInt32))) (((0 + 1) + 1 : Int32).toNatClampNeg) (vp_nar .byte (((((b : Int64).toUInt64 >>> ((8 * 5 : Int32).toInt64.toUInt64 &&& Int64.toUInt64 63)).toInt64 : Int64).toInt32 : Int32).toInt8.toInt32))))) : mm_Cm g l yX0_add (.code yX0_add cX0_add 2 none) d 0 0 [.ref 1, .int ((((b : Int64).toUInt64 >>> ((8 * 4 : Int32).toInt64.toUInt64 &&& Int64.toUInt64 63)).toInt64 : Int64).toInt32)] (M, 1186, false) (fun v S' => v = none ∧ S'.2 = (1186, false) ∧ S'.1 2 = .inl (2, 700, .inl (upd (upd (upd (upd (fun _ => 0) ((0 : Int32).toNatClampNeg) (vp_nar .byte (((((b : Int64).toUInt64 >>> ((8 * (8 - 1) : Int32).toInt64.toUInt64 &&& Int64.toUInt64 63)).toInt64 : Int64).toInt32 : Int32).toInt8.toInt32))) ((0 + 1 : Int32).toNatClampNeg) (vp_nar .byte (((((b : Int64).toUInt64 >>> ((8 * 6 : Int32).toInt64.toUInt64 &&& Int64.toUInt64 63)).toInt64 : Int64).toInt32 : Int32).toInt8.toInt32))) (((0 + 1) + 1 : Int32).toNatClampNeg) (vp_nar .byte (((((b : Int64).toUInt64 >>> ((8 * 5 : Int32).toInt64.toUInt64 &&& Int64.toUInt64 63)).toInt64 : Int64).toInt32 : Int32).toInt8.toInt32))) ((((0 + 1) + 1) + 1 : Int32).toNatClampNeg) (vp_nar .byte (((((b : Int64).toUInt64 >>> ((8 * 4 : Int32).toInt64.toUInt64 &&& Int64.toUInt64 63)).toInt64 : Int64).toInt32 : Int32).toInt8.toInt32)))) ∧ S'.1 1 = .inr (0, [.ref 2, .int ((((0 + 1) + 1) + 1) + 1), .int 0]) ∧ ∀ j, j ≠ 2 → j ≠ 1 → S'.1 j = M j) := by
  refine mm_Cm_of hst (by decide) (Nat.le_of_ble_eq_true rfl) ?_
  show mm_V g l RX0 "add" cX0_add 2 none [] d 0 0 _ 0 [some (.ref 1), some (.int ((((b : Int64).toUInt64 >>> ((8 * 4 : Int32).toInt64.toUInt64 &&& Int64.toUInt64 63)).toInt64 : Int64).toInt32))] [] (M, 1186, false) 0 0
  refine mm_aload_n dX0_add_0 rfl rfl ?_
  refine mm_get3 (ci := 0) in_X0 rfl (k := 1) (by decide) rfl kF_X0_19 dX0_add_1 h1 (Nat.le_of_ble_eq_true rfl) rfl ?_
  refine mm_if_lt 43 dX0_add_4 (by decide) (fun h => absurd h (by decide)) (fun _ => ?_)
  refine mm_aload_n dX0_add_7 rfl rfl ?_
  refine mm_get3 (ci := 0) in_X0 rfl (k := 1) (by decide) rfl kF_X0_19 dX0_add_8 h1 (Nat.le_of_ble_eq_true rfl) rfl ?_
  refine mm_aload_n dX0_add_11 rfl rfl ?_
  refine mm_get3 (ci := 0) in_X0 rfl (k := 0) (by decide) rfl kF_X0_13 dX0_add_12 h1 (Nat.le_of_ble_eq_true rfl) rfl ?_
  refine mm_alen3 (v := 700) (fun _ => rfl) h2 (Nat.le_of_ble_eq_true rfl) rfl dX0_add_15 ?_
  refine mm_icmp_ge 43 dX0_add_16 (by decide) (fun h => absurd h (by decide)) (fun _ => ?_)
  refine mm_aload_n dX0_add_19 rfl rfl ?_
  refine mm_get3 (ci := 0) in_X0 rfl (k := 0) (by decide) rfl kF_X0_13 dX0_add_20 h1 (Nat.le_of_ble_eq_true rfl) rfl ?_
  refine mm_aload_n dX0_add_23 rfl rfl ?_
  refine mm_get3 (ci := 0) in_X0 rfl (k := 1) (by decide) rfl kF_X0_19 dX0_add_24 h1 (Nat.le_of_ble_eq_true rfl) rfl ?_
  refine mm_iload_n dX0_add_27 rfl ?_
  refine mm_i2b dX0_add_28 ?_
  refine mm_bast3 h2 (Nat.le_of_ble_eq_true rfl) (by unfold vp_in; decide) dX0_add_29 ?_
  refine mm_aload_n dX0_add_30 rfl rfl ?_
  refine mm_dup dX0_add_31 rfl ?_
  refine mm_get3 (ci := 0) in_X0 rfl (k := 1) (by decide) rfl kF_X0_19 dX0_add_32 (mm_upN (by decide) h1) (Nat.le_of_ble_eq_true rfl) rfl ?_
  refine mm_iconst (v := 1) dX0_add_35 (by decide) ?_
  refine mm_iadd dX0_add_36 ?_
  refine mm_put3 (ci := 0) (fs1 := [.ref 2, .int ((((0 + 1) + 1) + 1) + 1), .int 0]) in_X0 tyX0_ok nmX0 rfl (k := 1) (by decide) rfl rfl kF_X0_19 dX0_add_37 (mm_fit_int _) (mm_upN (by decide) h1) (Nat.le_of_ble_eq_true rfl) (Nat.le_of_ble_eq_true rfl) rfl ?_
  refine mm_goto 48 dX0_add_40 (by decide) ?_
  refine mm_vret dX0_add_48 rfl ?_ (by omega) (by omega)
  refine ⟨rfl, rfl, ?_⟩
  dsimp only
  exact ⟨(mm_upN (by decide) mm_up_s), mm_up_s, fun x e2 e1 => mm_upN e1 (mm_upN e2 (rfl))⟩

set_option maxHeartbeats 4000000 in
set_option maxRecDepth 100000 in
theorem k437_X0_add {g : mm_G} {l : Launch} (hst : l.stackTraces = false) {d : Nat} (M : Nat → mm_C) (b : Int64) (h1 : M 1 = .inr (0, [.ref 2, .int ((((0 + 1) + 1) + 1) + 1), .int 0])) (h2 : M 2 = .inl (2, 700, .inl (upd (upd (upd (upd (fun _ => 0) ((0 : Int32).toNatClampNeg) (vp_nar .byte (((((b : Int64).toUInt64 >>> ((8 * (8 - 1) : Int32).toInt64.toUInt64 &&& Int64.toUInt64 63)).toInt64 : Int64).toInt32 : Int32).toInt8.toInt32))) ((0 + 1 : Int32).toNatClampNeg) (vp_nar .byte (((((b : Int64).toUInt64 >>> ((8 * 6 : Int32).toInt64.toUInt64 &&& Int64.toUInt64 63)).toInt64 : Int64).toInt32 : Int32).toInt8.toInt32))) (((0 + 1) + 1 : Int32).toNatClampNeg) (vp_nar .byte (((((b : Int64).toUInt64 >>> ((8 * 5 : Int32).toInt64.toUInt64 &&& Int64.toUInt64 63)).toInt64 : Int64).toInt32 : Int32).toInt8.toInt32))) ((((0 + 1) + 1) + 1 : Int32).toNatClampNeg) (vp_nar .byte (((((b : Int64).toUInt64 >>> ((8 * 4 : Int32).toInt64.toUInt64 &&& Int64.toUInt64 63)).toInt64 : Int64).toInt32 : Int32).toInt8.toInt32))))) : mm_Cm g l yX0_add (.code yX0_add cX0_add 2 none) d 0 0 [.ref 1, .int ((((b : Int64).toUInt64 >>> ((8 * 3 : Int32).toInt64.toUInt64 &&& Int64.toUInt64 63)).toInt64 : Int64).toInt32)] (M, 1186, false) (fun v S' => v = none ∧ S'.2 = (1186, false) ∧ S'.1 2 = .inl (2, 700, .inl (upd (upd (upd (upd (upd (fun _ => 0) ((0 : Int32).toNatClampNeg) (vp_nar .byte (((((b : Int64).toUInt64 >>> ((8 * (8 - 1) : Int32).toInt64.toUInt64 &&& Int64.toUInt64 63)).toInt64 : Int64).toInt32 : Int32).toInt8.toInt32))) ((0 + 1 : Int32).toNatClampNeg) (vp_nar .byte (((((b : Int64).toUInt64 >>> ((8 * 6 : Int32).toInt64.toUInt64 &&& Int64.toUInt64 63)).toInt64 : Int64).toInt32 : Int32).toInt8.toInt32))) (((0 + 1) + 1 : Int32).toNatClampNeg) (vp_nar .byte (((((b : Int64).toUInt64 >>> ((8 * 5 : Int32).toInt64.toUInt64 &&& Int64.toUInt64 63)).toInt64 : Int64).toInt32 : Int32).toInt8.toInt32))) ((((0 + 1) + 1) + 1 : Int32).toNatClampNeg) (vp_nar .byte (((((b : Int64).toUInt64 >>> ((8 * 4 : Int32).toInt64.toUInt64 &&& Int64.toUInt64 63)).toInt64 : Int64).toInt32 : Int32).toInt8.toInt32))) (((((0 + 1) + 1) + 1) + 1 : Int32).toNatClampNeg) (vp_nar .byte (((((b : Int64).toUInt64 >>> ((8 * 3 : Int32).toInt64.toUInt64 &&& Int64.toUInt64 63)).toInt64 : Int64).toInt32 : Int32).toInt8.toInt32)))) ∧ S'.1 1 = .inr (0, [.ref 2, .int (((((0 + 1) + 1) + 1) + 1) + 1), .int 0]) ∧ ∀ j, j ≠ 2 → j ≠ 1 → S'.1 j = M j) := by
  refine mm_Cm_of hst (by decide) (Nat.le_of_ble_eq_true rfl) ?_
  show mm_V g l RX0 "add" cX0_add 2 none [] d 0 0 _ 0 [some (.ref 1), some (.int ((((b : Int64).toUInt64 >>> ((8 * 3 : Int32).toInt64.toUInt64 &&& Int64.toUInt64 63)).toInt64 : Int64).toInt32))] [] (M, 1186, false) 0 0
  refine mm_aload_n dX0_add_0 rfl rfl ?_
  refine mm_get3 (ci := 0) in_X0 rfl (k := 1) (by decide) rfl kF_X0_19 dX0_add_1 h1 (Nat.le_of_ble_eq_true rfl) rfl ?_
  refine mm_if_lt 43 dX0_add_4 (by decide) (fun h => absurd h (by decide)) (fun _ => ?_)
  refine mm_aload_n dX0_add_7 rfl rfl ?_
  refine mm_get3 (ci := 0) in_X0 rfl (k := 1) (by decide) rfl kF_X0_19 dX0_add_8 h1 (Nat.le_of_ble_eq_true rfl) rfl ?_
  refine mm_aload_n dX0_add_11 rfl rfl ?_
  refine mm_get3 (ci := 0) in_X0 rfl (k := 0) (by decide) rfl kF_X0_13 dX0_add_12 h1 (Nat.le_of_ble_eq_true rfl) rfl ?_
  refine mm_alen3 (v := 700) (fun _ => rfl) h2 (Nat.le_of_ble_eq_true rfl) rfl dX0_add_15 ?_
  refine mm_icmp_ge 43 dX0_add_16 (by decide) (fun h => absurd h (by decide)) (fun _ => ?_)
  refine mm_aload_n dX0_add_19 rfl rfl ?_
  refine mm_get3 (ci := 0) in_X0 rfl (k := 0) (by decide) rfl kF_X0_13 dX0_add_20 h1 (Nat.le_of_ble_eq_true rfl) rfl ?_
  refine mm_aload_n dX0_add_23 rfl rfl ?_
  refine mm_get3 (ci := 0) in_X0 rfl (k := 1) (by decide) rfl kF_X0_19 dX0_add_24 h1 (Nat.le_of_ble_eq_true rfl) rfl ?_
  refine mm_iload_n dX0_add_27 rfl ?_
  refine mm_i2b dX0_add_28 ?_
  refine mm_bast3 h2 (Nat.le_of_ble_eq_true rfl) (by unfold vp_in; decide) dX0_add_29 ?_
  refine mm_aload_n dX0_add_30 rfl rfl ?_
  refine mm_dup dX0_add_31 rfl ?_
  refine mm_get3 (ci := 0) in_X0 rfl (k := 1) (by decide) rfl kF_X0_19 dX0_add_32 (mm_upN (by decide) h1) (Nat.le_of_ble_eq_true rfl) rfl ?_
  refine mm_iconst (v := 1) dX0_add_35 (by decide) ?_
  refine mm_iadd dX0_add_36 ?_
  refine mm_put3 (ci := 0) (fs1 := [.ref 2, .int (((((0 + 1) + 1) + 1) + 1) + 1), .int 0]) in_X0 tyX0_ok nmX0 rfl (k := 1) (by decide) rfl rfl kF_X0_19 dX0_add_37 (mm_fit_int _) (mm_upN (by decide) h1) (Nat.le_of_ble_eq_true rfl) (Nat.le_of_ble_eq_true rfl) rfl ?_
  refine mm_goto 48 dX0_add_40 (by decide) ?_
  refine mm_vret dX0_add_48 rfl ?_ (by omega) (by omega)
  refine ⟨rfl, rfl, ?_⟩
  dsimp only
  exact ⟨(mm_upN (by decide) mm_up_s), mm_up_s, fun x e2 e1 => mm_upN e1 (mm_upN e2 (rfl))⟩

set_option maxHeartbeats 4000000 in
set_option maxRecDepth 100000 in
theorem k439_X0_add {g : mm_G} {l : Launch} (hst : l.stackTraces = false) {d : Nat} (M : Nat → mm_C) (b : Int64) (h1 : M 1 = .inr (0, [.ref 2, .int (((((0 + 1) + 1) + 1) + 1) + 1), .int 0])) (h2 : M 2 = .inl (2, 700, .inl (upd (upd (upd (upd (upd (fun _ => 0) ((0 : Int32).toNatClampNeg) (vp_nar .byte (((((b : Int64).toUInt64 >>> ((8 * (8 - 1) : Int32).toInt64.toUInt64 &&& Int64.toUInt64 63)).toInt64 : Int64).toInt32 : Int32).toInt8.toInt32))) ((0 + 1 : Int32).toNatClampNeg) (vp_nar .byte (((((b : Int64).toUInt64 >>> ((8 * 6 : Int32).toInt64.toUInt64 &&& Int64.toUInt64 63)).toInt64 : Int64).toInt32 : Int32).toInt8.toInt32))) (((0 + 1) + 1 : Int32).toNatClampNeg) (vp_nar .byte (((((b : Int64).toUInt64 >>> ((8 * 5 : Int32).toInt64.toUInt64 &&& Int64.toUInt64 63)).toInt64 : Int64).toInt32 : Int32).toInt8.toInt32))) ((((0 + 1) + 1) + 1 : Int32).toNatClampNeg) (vp_nar .byte (((((b : Int64).toUInt64 >>> ((8 * 4 : Int32).toInt64.toUInt64 &&& Int64.toUInt64 63)).toInt64 : Int64).toInt32 : Int32).toInt8.toInt32))) (((((0 + 1) + 1) + 1) + 1 : Int32).toNatClampNeg) (vp_nar .byte (((((b : Int64).toUInt64 >>> ((8 * 3 : Int32).toInt64.toUInt64 &&& Int64.toUInt64 63)).toInt64 : Int64).toInt32 : Int32).toInt8.toInt32))))) : mm_Cm g l yX0_add (.code yX0_add cX0_add 2 none) d 0 0 [.ref 1, .int ((((b : Int64).toUInt64 >>> ((8 * 2 : Int32).toInt64.toUInt64 &&& Int64.toUInt64 63)).toInt64 : Int64).toInt32)] (M, 1186, false) (fun v S' => v = none ∧ S'.2 = (1186, false) ∧ S'.1 2 = .inl (2, 700, .inl (upd (upd (upd (upd (upd (upd (fun _ => 0) ((0 : Int32).toNatClampNeg) (vp_nar .byte (((((b : Int64).toUInt64 >>> ((8 * (8 - 1) : Int32).toInt64.toUInt64 &&& Int64.toUInt64 63)).toInt64 : Int64).toInt32 : Int32).toInt8.toInt32))) ((0 + 1 : Int32).toNatClampNeg) (vp_nar .byte (((((b : Int64).toUInt64 >>> ((8 * 6 : Int32).toInt64.toUInt64 &&& Int64.toUInt64 63)).toInt64 : Int64).toInt32 : Int32).toInt8.toInt32))) (((0 + 1) + 1 : Int32).toNatClampNeg) (vp_nar .byte (((((b : Int64).toUInt64 >>> ((8 * 5 : Int32).toInt64.toUInt64 &&& Int64.toUInt64 63)).toInt64 : Int64).toInt32 : Int32).toInt8.toInt32))) ((((0 + 1) + 1) + 1 : Int32).toNatClampNeg) (vp_nar .byte (((((b : Int64).toUInt64 >>> ((8 * 4 : Int32).toInt64.toUInt64 &&& Int64.toUInt64 63)).toInt64 : Int64).toInt32 : Int32).toInt8.toInt32))) (((((0 + 1) + 1) + 1) + 1 : Int32).toNatClampNeg) (vp_nar .byte (((((b : Int64).toUInt64 >>> ((8 * 3 : Int32).toInt64.toUInt64 &&& Int64.toUInt64 63)).toInt64 : Int64).toInt32 : Int32).toInt8.toInt32))) ((((((0 + 1) + 1) + 1) + 1) + 1 : Int32).toNatClampNeg) (vp_nar .byte (((((b : Int64).toUInt64 >>> ((8 * 2 : Int32).toInt64.toUInt64 &&& Int64.toUInt64 63)).toInt64 : Int64).toInt32 : Int32).toInt8.toInt32)))) ∧ S'.1 1 = .inr (0, [.ref 2, .int ((((((0 + 1) + 1) + 1) + 1) + 1) + 1), .int 0]) ∧ ∀ j, j ≠ 2 → j ≠ 1 → S'.1 j = M j) := by
  refine mm_Cm_of hst (by decide) (Nat.le_of_ble_eq_true rfl) ?_
  show mm_V g l RX0 "add" cX0_add 2 none [] d 0 0 _ 0 [some (.ref 1), some (.int ((((b : Int64).toUInt64 >>> ((8 * 2 : Int32).toInt64.toUInt64 &&& Int64.toUInt64 63)).toInt64 : Int64).toInt32))] [] (M, 1186, false) 0 0
  refine mm_aload_n dX0_add_0 rfl rfl ?_
  refine mm_get3 (ci := 0) in_X0 rfl (k := 1) (by decide) rfl kF_X0_19 dX0_add_1 h1 (Nat.le_of_ble_eq_true rfl) rfl ?_
  refine mm_if_lt 43 dX0_add_4 (by decide) (fun h => absurd h (by decide)) (fun _ => ?_)
  refine mm_aload_n dX0_add_7 rfl rfl ?_
  refine mm_get3 (ci := 0) in_X0 rfl (k := 1) (by decide) rfl kF_X0_19 dX0_add_8 h1 (Nat.le_of_ble_eq_true rfl) rfl ?_
  refine mm_aload_n dX0_add_11 rfl rfl ?_
  refine mm_get3 (ci := 0) in_X0 rfl (k := 0) (by decide) rfl kF_X0_13 dX0_add_12 h1 (Nat.le_of_ble_eq_true rfl) rfl ?_
  refine mm_alen3 (v := 700) (fun _ => rfl) h2 (Nat.le_of_ble_eq_true rfl) rfl dX0_add_15 ?_
  refine mm_icmp_ge 43 dX0_add_16 (by decide) (fun h => absurd h (by decide)) (fun _ => ?_)
  refine mm_aload_n dX0_add_19 rfl rfl ?_
  refine mm_get3 (ci := 0) in_X0 rfl (k := 0) (by decide) rfl kF_X0_13 dX0_add_20 h1 (Nat.le_of_ble_eq_true rfl) rfl ?_
  refine mm_aload_n dX0_add_23 rfl rfl ?_
  refine mm_get3 (ci := 0) in_X0 rfl (k := 1) (by decide) rfl kF_X0_19 dX0_add_24 h1 (Nat.le_of_ble_eq_true rfl) rfl ?_
  refine mm_iload_n dX0_add_27 rfl ?_
  refine mm_i2b dX0_add_28 ?_
  refine mm_bast3 h2 (Nat.le_of_ble_eq_true rfl) (by unfold vp_in; decide) dX0_add_29 ?_
  refine mm_aload_n dX0_add_30 rfl rfl ?_
  refine mm_dup dX0_add_31 rfl ?_
  refine mm_get3 (ci := 0) in_X0 rfl (k := 1) (by decide) rfl kF_X0_19 dX0_add_32 (mm_upN (by decide) h1) (Nat.le_of_ble_eq_true rfl) rfl ?_
  refine mm_iconst (v := 1) dX0_add_35 (by decide) ?_
  refine mm_iadd dX0_add_36 ?_
  refine mm_put3 (ci := 0) (fs1 := [.ref 2, .int ((((((0 + 1) + 1) + 1) + 1) + 1) + 1), .int 0]) in_X0 tyX0_ok nmX0 rfl (k := 1) (by decide) rfl rfl kF_X0_19 dX0_add_37 (mm_fit_int _) (mm_upN (by decide) h1) (Nat.le_of_ble_eq_true rfl) (Nat.le_of_ble_eq_true rfl) rfl ?_
  refine mm_goto 48 dX0_add_40 (by decide) ?_
  refine mm_vret dX0_add_48 rfl ?_ (by omega) (by omega)
  refine ⟨rfl, rfl, ?_⟩
  dsimp only
  exact ⟨(mm_upN (by decide) mm_up_s), mm_up_s, fun x e2 e1 => mm_upN e1 (mm_upN e2 (rfl))⟩

set_option maxHeartbeats 4000000 in
set_option maxRecDepth 100000 in
theorem k441_X0_add {g : mm_G} {l : Launch} (hst : l.stackTraces = false) {d : Nat} (M : Nat → mm_C) (b : Int64) (h1 : M 1 = .inr (0, [.ref 2, .int ((((((0 + 1) + 1) + 1) + 1) + 1) + 1), .int 0])) (h2 : M 2 = .inl (2, 700, .inl (upd (upd (upd (upd (upd (upd (fun _ => 0) ((0 : Int32).toNatClampNeg) (vp_nar .byte (((((b : Int64).toUInt64 >>> ((8 * (8 - 1) : Int32).toInt64.toUInt64 &&& Int64.toUInt64 63)).toInt64 : Int64).toInt32 : Int32).toInt8.toInt32))) ((0 + 1 : Int32).toNatClampNeg) (vp_nar .byte (((((b : Int64).toUInt64 >>> ((8 * 6 : Int32).toInt64.toUInt64 &&& Int64.toUInt64 63)).toInt64 : Int64).toInt32 : Int32).toInt8.toInt32))) (((0 + 1) + 1 : Int32).toNatClampNeg) (vp_nar .byte (((((b : Int64).toUInt64 >>> ((8 * 5 : Int32).toInt64.toUInt64 &&& Int64.toUInt64 63)).toInt64 : Int64).toInt32 : Int32).toInt8.toInt32))) ((((0 + 1) + 1) + 1 : Int32).toNatClampNeg) (vp_nar .byte (((((b : Int64).toUInt64 >>> ((8 * 4 : Int32).toInt64.toUInt64 &&& Int64.toUInt64 63)).toInt64 : Int64).toInt32 : Int32).toInt8.toInt32))) (((((0 + 1) + 1) + 1) + 1 : Int32).toNatClampNeg) (vp_nar .byte (((((b : Int64).toUInt64 >>> ((8 * 3 : Int32).toInt64.toUInt64 &&& Int64.toUInt64 63)).toInt64 : Int64).toInt32 : Int32).toInt8.toInt32))) ((((((0 + 1) + 1) + 1) + 1) + 1 : Int32).toNatClampNeg) (vp_nar .byte (((((b : Int64).toUInt64 >>> ((8 * 2 : Int32).toInt64.toUInt64 &&& Int64.toUInt64 63)).toInt64 : Int64).toInt32 : Int32).toInt8.toInt32))))) : mm_Cm g l yX0_add (.code yX0_add cX0_add 2 none) d 0 0 [.ref 1, .int ((((b : Int64).toUInt64 >>> ((8 * 1 : Int32).toInt64.toUInt64 &&& Int64.toUInt64 63)).toInt64 : Int64).toInt32)] (M, 1186, false) (fun v S' => v = none ∧ S'.2 = (1186, false) ∧ S'.1 2 = .inl (2, 700, .inl (upd (upd (upd (upd (upd (upd (upd (fun _ => 0) ((0 : Int32).toNatClampNeg) (vp_nar .byte (((((b : Int64).toUInt64 >>> ((8 * (8 - 1) : Int32).toInt64.toUInt64 &&& Int64.toUInt64 63)).toInt64 : Int64).toInt32 : Int32).toInt8.toInt32))) ((0 + 1 : Int32).toNatClampNeg) (vp_nar .byte (((((b : Int64).toUInt64 >>> ((8 * 6 : Int32).toInt64.toUInt64 &&& Int64.toUInt64 63)).toInt64 : Int64).toInt32 : Int32).toInt8.toInt32))) (((0 + 1) + 1 : Int32).toNatClampNeg) (vp_nar .byte (((((b : Int64).toUInt64 >>> ((8 * 5 : Int32).toInt64.toUInt64 &&& Int64.toUInt64 63)).toInt64 : Int64).toInt32 : Int32).toInt8.toInt32))) ((((0 + 1) + 1) + 1 : Int32).toNatClampNeg) (vp_nar .byte (((((b : Int64).toUInt64 >>> ((8 * 4 : Int32).toInt64.toUInt64 &&& Int64.toUInt64 63)).toInt64 : Int64).toInt32 : Int32).toInt8.toInt32))) (((((0 + 1) + 1) + 1) + 1 : Int32).toNatClampNeg) (vp_nar .byte (((((b : Int64).toUInt64 >>> ((8 * 3 : Int32).toInt64.toUInt64 &&& Int64.toUInt64 63)).toInt64 : Int64).toInt32 : Int32).toInt8.toInt32))) ((((((0 + 1) + 1) + 1) + 1) + 1 : Int32).toNatClampNeg) (vp_nar .byte (((((b : Int64).toUInt64 >>> ((8 * 2 : Int32).toInt64.toUInt64 &&& Int64.toUInt64 63)).toInt64 : Int64).toInt32 : Int32).toInt8.toInt32))) (((((((0 + 1) + 1) + 1) + 1) + 1) + 1 : Int32).toNatClampNeg) (vp_nar .byte (((((b : Int64).toUInt64 >>> ((8 * 1 : Int32).toInt64.toUInt64 &&& Int64.toUInt64 63)).toInt64 : Int64).toInt32 : Int32).toInt8.toInt32)))) ∧ S'.1 1 = .inr (0, [.ref 2, .int (((((((0 + 1) + 1) + 1) + 1) + 1) + 1) + 1), .int 0]) ∧ ∀ j, j ≠ 2 → j ≠ 1 → S'.1 j = M j) := by
  refine mm_Cm_of hst (by decide) (Nat.le_of_ble_eq_true rfl) ?_
  show mm_V g l RX0 "add" cX0_add 2 none [] d 0 0 _ 0 [some (.ref 1), some (.int ((((b : Int64).toUInt64 >>> ((8 * 1 : Int32).toInt64.toUInt64 &&& Int64.toUInt64 63)).toInt64 : Int64).toInt32))] [] (M, 1186, false) 0 0
  refine mm_aload_n dX0_add_0 rfl rfl ?_
  refine mm_get3 (ci := 0) in_X0 rfl (k := 1) (by decide) rfl kF_X0_19 dX0_add_1 h1 (Nat.le_of_ble_eq_true rfl) rfl ?_
  refine mm_if_lt 43 dX0_add_4 (by decide) (fun h => absurd h (by decide)) (fun _ => ?_)
  refine mm_aload_n dX0_add_7 rfl rfl ?_
  refine mm_get3 (ci := 0) in_X0 rfl (k := 1) (by decide) rfl kF_X0_19 dX0_add_8 h1 (Nat.le_of_ble_eq_true rfl) rfl ?_
  refine mm_aload_n dX0_add_11 rfl rfl ?_
  refine mm_get3 (ci := 0) in_X0 rfl (k := 0) (by decide) rfl kF_X0_13 dX0_add_12 h1 (Nat.le_of_ble_eq_true rfl) rfl ?_
  refine mm_alen3 (v := 700) (fun _ => rfl) h2 (Nat.le_of_ble_eq_true rfl) rfl dX0_add_15 ?_
  refine mm_icmp_ge 43 dX0_add_16 (by decide) (fun h => absurd h (by decide)) (fun _ => ?_)
  refine mm_aload_n dX0_add_19 rfl rfl ?_
  refine mm_get3 (ci := 0) in_X0 rfl (k := 0) (by decide) rfl kF_X0_13 dX0_add_20 h1 (Nat.le_of_ble_eq_true rfl) rfl ?_
  refine mm_aload_n dX0_add_23 rfl rfl ?_
  refine mm_get3 (ci := 0) in_X0 rfl (k := 1) (by decide) rfl kF_X0_19 dX0_add_24 h1 (Nat.le_of_ble_eq_true rfl) rfl ?_
  refine mm_iload_n dX0_add_27 rfl ?_
  refine mm_i2b dX0_add_28 ?_
  refine mm_bast3 h2 (Nat.le_of_ble_eq_true rfl) (by unfold vp_in; decide) dX0_add_29 ?_
  refine mm_aload_n dX0_add_30 rfl rfl ?_
  refine mm_dup dX0_add_31 rfl ?_
  refine mm_get3 (ci := 0) in_X0 rfl (k := 1) (by decide) rfl kF_X0_19 dX0_add_32 (mm_upN (by decide) h1) (Nat.le_of_ble_eq_true rfl) rfl ?_
  refine mm_iconst (v := 1) dX0_add_35 (by decide) ?_
  refine mm_iadd dX0_add_36 ?_
  refine mm_put3 (ci := 0) (fs1 := [.ref 2, .int (((((((0 + 1) + 1) + 1) + 1) + 1) + 1) + 1), .int 0]) in_X0 tyX0_ok nmX0 rfl (k := 1) (by decide) rfl rfl kF_X0_19 dX0_add_37 (mm_fit_int _) (mm_upN (by decide) h1) (Nat.le_of_ble_eq_true rfl) (Nat.le_of_ble_eq_true rfl) rfl ?_
  refine mm_goto 48 dX0_add_40 (by decide) ?_
  refine mm_vret dX0_add_48 rfl ?_ (by omega) (by omega)
  refine ⟨rfl, rfl, ?_⟩
  dsimp only
  exact ⟨(mm_upN (by decide) mm_up_s), mm_up_s, fun x e2 e1 => mm_upN e1 (mm_upN e2 (rfl))⟩

set_option maxHeartbeats 4000000 in
set_option maxRecDepth 100000 in
theorem k443_X0_add {g : mm_G} {l : Launch} (hst : l.stackTraces = false) {d : Nat} (M : Nat → mm_C) (b : Int64) (h1 : M 1 = .inr (0, [.ref 2, .int (((((((0 + 1) + 1) + 1) + 1) + 1) + 1) + 1), .int 0])) (h2 : M 2 = .inl (2, 700, .inl (upd (upd (upd (upd (upd (upd (upd (fun _ => 0) ((0 : Int32).toNatClampNeg) (vp_nar .byte (((((b : Int64).toUInt64 >>> ((8 * (8 - 1) : Int32).toInt64.toUInt64 &&& Int64.toUInt64 63)).toInt64 : Int64).toInt32 : Int32).toInt8.toInt32))) ((0 + 1 : Int32).toNatClampNeg) (vp_nar .byte (((((b : Int64).toUInt64 >>> ((8 * 6 : Int32).toInt64.toUInt64 &&& Int64.toUInt64 63)).toInt64 : Int64).toInt32 : Int32).toInt8.toInt32))) (((0 + 1) + 1 : Int32).toNatClampNeg) (vp_nar .byte (((((b : Int64).toUInt64 >>> ((8 * 5 : Int32).toInt64.toUInt64 &&& Int64.toUInt64 63)).toInt64 : Int64).toInt32 : Int32).toInt8.toInt32))) ((((0 + 1) + 1) + 1 : Int32).toNatClampNeg) (vp_nar .byte (((((b : Int64).toUInt64 >>> ((8 * 4 : Int32).toInt64.toUInt64 &&& Int64.toUInt64 63)).toInt64 : Int64).toInt32 : Int32).toInt8.toInt32))) (((((0 + 1) + 1) + 1) + 1 : Int32).toNatClampNeg) (vp_nar .byte (((((b : Int64).toUInt64 >>> ((8 * 3 : Int32).toInt64.toUInt64 &&& Int64.toUInt64 63)).toInt64 : Int64).toInt32 : Int32).toInt8.toInt32))) ((((((0 + 1) + 1) + 1) + 1) + 1 : Int32).toNatClampNeg) (vp_nar .byte (((((b : Int64).toUInt64 >>> ((8 * 2 : Int32).toInt64.toUInt64 &&& Int64.toUInt64 63)).toInt64 : Int64).toInt32 : Int32).toInt8.toInt32))) (((((((0 + 1) + 1) + 1) + 1) + 1) + 1 : Int32).toNatClampNeg) (vp_nar .byte (((((b : Int64).toUInt64 >>> ((8 * 1 : Int32).toInt64.toUInt64 &&& Int64.toUInt64 63)).toInt64 : Int64).toInt32 : Int32).toInt8.toInt32))))) : mm_Cm g l yX0_add (.code yX0_add cX0_add 2 none) d 0 0 [.ref 1, .int ((((b : Int64).toUInt64 >>> ((8 * 0 : Int32).toInt64.toUInt64 &&& Int64.toUInt64 63)).toInt64 : Int64).toInt32)] (M, 1186, false) (fun v S' => v = none ∧ S'.2 = (1186, false) ∧ S'.1 2 = .inl (2, 700, .inl (upd (upd (upd (upd (upd (upd (upd (upd (fun _ => 0) ((0 : Int32).toNatClampNeg) (vp_nar .byte (((((b : Int64).toUInt64 >>> ((8 * (8 - 1) : Int32).toInt64.toUInt64 &&& Int64.toUInt64 63)).toInt64 : Int64).toInt32 : Int32).toInt8.toInt32))) ((0 + 1 : Int32).toNatClampNeg) (vp_nar .byte (((((b : Int64).toUInt64 >>> ((8 * 6 : Int32).toInt64.toUInt64 &&& Int64.toUInt64 63)).toInt64 : Int64).toInt32 : Int32).toInt8.toInt32))) (((0 + 1) + 1 : Int32).toNatClampNeg) (vp_nar .byte (((((b : Int64).toUInt64 >>> ((8 * 5 : Int32).toInt64.toUInt64 &&& Int64.toUInt64 63)).toInt64 : Int64).toInt32 : Int32).toInt8.toInt32))) ((((0 + 1) + 1) + 1 : Int32).toNatClampNeg) (vp_nar .byte (((((b : Int64).toUInt64 >>> ((8 * 4 : Int32).toInt64.toUInt64 &&& Int64.toUInt64 63)).toInt64 : Int64).toInt32 : Int32).toInt8.toInt32))) (((((0 + 1) + 1) + 1) + 1 : Int32).toNatClampNeg) (vp_nar .byte (((((b : Int64).toUInt64 >>> ((8 * 3 : Int32).toInt64.toUInt64 &&& Int64.toUInt64 63)).toInt64 : Int64).toInt32 : Int32).toInt8.toInt32))) ((((((0 + 1) + 1) + 1) + 1) + 1 : Int32).toNatClampNeg) (vp_nar .byte (((((b : Int64).toUInt64 >>> ((8 * 2 : Int32).toInt64.toUInt64 &&& Int64.toUInt64 63)).toInt64 : Int64).toInt32 : Int32).toInt8.toInt32))) (((((((0 + 1) + 1) + 1) + 1) + 1) + 1 : Int32).toNatClampNeg) (vp_nar .byte (((((b : Int64).toUInt64 >>> ((8 * 1 : Int32).toInt64.toUInt64 &&& Int64.toUInt64 63)).toInt64 : Int64).toInt32 : Int32).toInt8.toInt32))) ((((((((0 + 1) + 1) + 1) + 1) + 1) + 1) + 1 : Int32).toNatClampNeg) (vp_nar .byte (((((b : Int64).toUInt64 >>> ((8 * 0 : Int32).toInt64.toUInt64 &&& Int64.toUInt64 63)).toInt64 : Int64).toInt32 : Int32).toInt8.toInt32)))) ∧ S'.1 1 = .inr (0, [.ref 2, .int ((((((((0 + 1) + 1) + 1) + 1) + 1) + 1) + 1) + 1), .int 0]) ∧ ∀ j, j ≠ 2 → j ≠ 1 → S'.1 j = M j) := by
  refine mm_Cm_of hst (by decide) (Nat.le_of_ble_eq_true rfl) ?_
  show mm_V g l RX0 "add" cX0_add 2 none [] d 0 0 _ 0 [some (.ref 1), some (.int ((((b : Int64).toUInt64 >>> ((8 * 0 : Int32).toInt64.toUInt64 &&& Int64.toUInt64 63)).toInt64 : Int64).toInt32))] [] (M, 1186, false) 0 0
  refine mm_aload_n dX0_add_0 rfl rfl ?_
  refine mm_get3 (ci := 0) in_X0 rfl (k := 1) (by decide) rfl kF_X0_19 dX0_add_1 h1 (Nat.le_of_ble_eq_true rfl) rfl ?_
  refine mm_if_lt 43 dX0_add_4 (by decide) (fun h => absurd h (by decide)) (fun _ => ?_)
  refine mm_aload_n dX0_add_7 rfl rfl ?_
  refine mm_get3 (ci := 0) in_X0 rfl (k := 1) (by decide) rfl kF_X0_19 dX0_add_8 h1 (Nat.le_of_ble_eq_true rfl) rfl ?_
  refine mm_aload_n dX0_add_11 rfl rfl ?_
  refine mm_get3 (ci := 0) in_X0 rfl (k := 0) (by decide) rfl kF_X0_13 dX0_add_12 h1 (Nat.le_of_ble_eq_true rfl) rfl ?_
  refine mm_alen3 (v := 700) (fun _ => rfl) h2 (Nat.le_of_ble_eq_true rfl) rfl dX0_add_15 ?_
  refine mm_icmp_ge 43 dX0_add_16 (by decide) (fun h => absurd h (by decide)) (fun _ => ?_)
  refine mm_aload_n dX0_add_19 rfl rfl ?_
  refine mm_get3 (ci := 0) in_X0 rfl (k := 0) (by decide) rfl kF_X0_13 dX0_add_20 h1 (Nat.le_of_ble_eq_true rfl) rfl ?_
  refine mm_aload_n dX0_add_23 rfl rfl ?_
  refine mm_get3 (ci := 0) in_X0 rfl (k := 1) (by decide) rfl kF_X0_19 dX0_add_24 h1 (Nat.le_of_ble_eq_true rfl) rfl ?_
  refine mm_iload_n dX0_add_27 rfl ?_
  refine mm_i2b dX0_add_28 ?_
  refine mm_bast3 h2 (Nat.le_of_ble_eq_true rfl) (by unfold vp_in; decide) dX0_add_29 ?_
  refine mm_aload_n dX0_add_30 rfl rfl ?_
  refine mm_dup dX0_add_31 rfl ?_
  refine mm_get3 (ci := 0) in_X0 rfl (k := 1) (by decide) rfl kF_X0_19 dX0_add_32 (mm_upN (by decide) h1) (Nat.le_of_ble_eq_true rfl) rfl ?_
  refine mm_iconst (v := 1) dX0_add_35 (by decide) ?_
  refine mm_iadd dX0_add_36 ?_
  refine mm_put3 (ci := 0) (fs1 := [.ref 2, .int ((((((((0 + 1) + 1) + 1) + 1) + 1) + 1) + 1) + 1), .int 0]) in_X0 tyX0_ok nmX0 rfl (k := 1) (by decide) rfl rfl kF_X0_19 dX0_add_37 (mm_fit_int _) (mm_upN (by decide) h1) (Nat.le_of_ble_eq_true rfl) (Nat.le_of_ble_eq_true rfl) rfl ?_
  refine mm_goto 48 dX0_add_40 (by decide) ?_
  refine mm_vret dX0_add_48 rfl ?_ (by omega) (by omega)
  refine ⟨rfl, rfl, ?_⟩
  dsimp only
  exact ⟨(mm_upN (by decide) mm_up_s), mm_up_s, fun x e2 e1 => mm_upN e1 (mm_upN e2 (rfl))⟩

set_option maxHeartbeats 4000000 in
set_option maxRecDepth 100000 in
theorem k445_X0_size {g : mm_G} {l : Launch} (hst : l.stackTraces = false) {d : Nat} (M : Nat → mm_C) (b : Int64) (h1 : M 1 = .inr (0, [.ref 2, .int ((((((((0 + 1) + 1) + 1) + 1) + 1) + 1) + 1) + 1), .int 0])) : mm_Cm g l yX0_size (.code yX0_size cX0_size 1 (some .int)) d 0 0 [.ref 1] (M, 1186, false) (fun v S' => v = some (.int ((((((((0 + 1) + 1) + 1) + 1) + 1) + 1) + 1) + 1)) ∧ S' = (M, 1186, false)) := by
  refine mm_Cm_of hst (by decide) (Nat.le_of_ble_eq_true rfl) ?_
  show mm_V g l RX0 "size" cX0_size 1 (some .int) [] d 0 0 _ 0 [some (.ref 1)] [] (M, 1186, false) 0 0
  refine mm_aload_n dX0_size_0 rfl rfl ?_
  refine mm_get3 (ci := 0) in_X0 rfl (k := 1) (by decide) rfl kF_X0_19 dX0_size_1 h1 (Nat.le_of_ble_eq_true rfl) rfl ?_
  refine mm_iret dX0_size_4 rfl rfl ?_ (by omega) (by omega)
  exact ⟨rfl, rfl⟩

set_option maxHeartbeats 4000000 in
set_option maxRecDepth 100000 in
theorem f_feed_8 {g : mm_G} {l : Launch} (hst : l.stackTraces = false) {d : Nat} (M : Nat → mm_C) (b : Int64) (h0 : M 0 = .inr (11, [.ref 1, .ref 3, .ref 5, .ref 197, .ref 389, .ref 1094, .ref 1095, .ref 1097, .int (-1)])) (h1 : M 1 = .inr (0, [.ref 2, .int 0, .int 0])) (h2 : M 2 = .inl (2, 700, .inl (fun _ => 0))) : mm_Ct g l yX11_feed (.code yX11_feed cX11_feed 5 (some .int)) (d + 1) 0 0 [.ref 0, .long b, .int 8] (M, 1186, false) (fun r S' => r = .inl (some (.int ((((((((0 + 1) + 1) + 1) + 1) + 1) + 1) + 1) + 1))) ∧ S'.2 = (1186, false) ∧ ∀ j, 1101 ≤ j → S'.1 j = M j) := by
  refine mm_Ct_of hst (by decide) (Nat.le_of_ble_eq_true rfl) ?_
  show mm_V g l RX11 "feed" cX11_feed 5 (some .int) [] (d + 1) 0 0 _ 0 [some (.ref 0), some (.long b), none, some (.int 8), none] [] (M, 1186, false) 0 0
  refine mm_iload_n dX11_feed_0 rfl ?_
  refine mm_iconst (v := 1) dX11_feed_1 (by decide) ?_
  refine mm_icmp_lt 11 dX11_feed_2 (by decide) (fun h => absurd h (by decide)) (fun _ => ?_)
  refine mm_iload_n dX11_feed_5 rfl ?_
  refine mm_bipush (v := 8) dX11_feed_6 (by decide) ?_
  refine mm_icmp_le 21 dX11_feed_8 (by decide) (fun _ => ?_) (fun h => absurd (by decide) h)
  refine mm_aload_n dX11_feed_21 rfl rfl ?_
  refine mm_get3 (ci := 11) in_X11 rfl (k := 0) (by decide) rfl kF_X11_14 dX11_feed_22 h0 (Nat.le_of_ble_eq_true rfl) rfl ?_
  refine mm_callV3 (ci := 0) wM_X0_size kM_X11_74 wI_X0_size wS_X0_size dX11_feed_25 (k427_X0_size hst _ b h1) h1 (Nat.le_of_ble_eq_true rfl) rfl rfl rfl (Nat.le_of_ble_eq_true rfl) (by omega) (by omega) (fun v S9 hq => ?_)
  obtain ⟨rfl, rfl⟩ := hq
  refine ⟨fun h => ⟨h, rfl⟩, ?_⟩
  refine mm_iload_n dX11_feed_28 rfl ?_
  refine mm_iadd dX11_feed_29 ?_
  refine mm_sipush (v := 700) dX11_feed_30 (by decide) ?_
  refine mm_icmp_le 46 dX11_feed_33 (by decide) (fun _ => ?_) (fun h => absurd (by decide) h)
  refine mm_iload_n dX11_feed_46 rfl ?_
  refine mm_iconst (v := 1) dX11_feed_47 (by decide) ?_
  refine mm_isub dX11_feed_48 ?_
  refine mm_istore [some (.ref 0), some (.long b), none, some (.int 8), some (.int (8 - 1))] dX11_feed_49 (by decide) rfl ?_
  refine mm_iload dX11_feed_51 rfl ?_
  refine mm_if_lt 77 dX11_feed_53 (by decide) (fun h => absurd h (by decide)) (fun _ => ?_)
  refine mm_aload_n dX11_feed_56 rfl rfl ?_
  refine mm_get3 (ci := 11) in_X11 rfl (k := 0) (by decide) rfl kF_X11_14 dX11_feed_57 h0 (Nat.le_of_ble_eq_true rfl) rfl ?_
  refine mm_lload_n dX11_feed_60 rfl ?_
  refine mm_bipush (v := 8) dX11_feed_61 (by decide) ?_
  refine mm_iload dX11_feed_63 rfl ?_
  refine mm_imul dX11_feed_65 ?_
  refine mm_lushr dX11_feed_66 ?_
  refine mm_l2i dX11_feed_67 ?_
  refine mm_callV3 (ci := 0) wM_X0_add kM_X11_83 wI_X0_add wS_X0_add dX11_feed_68 (k429_X0_add hst _ b h1 h2) h1 (Nat.le_of_ble_eq_true rfl) rfl rfl rfl (Nat.le_of_ble_eq_true rfl) (by omega) (by omega) (fun v S9 hq => ?_)
  obtain ⟨M430, z430⟩ := S9
  obtain ⟨rfl, hz430, g430_2, g430_1, g430_F⟩ := hq
  cases hz430
  refine ⟨fun h => ⟨h, rfl⟩, ?_⟩
  refine mm_iinc (v := 6) [some (.ref 0), some (.long b), none, some (.int 8), some (.int 6)] dX11_feed_71 rfl (by decide) (by decide) rfl ?_
  refine mm_goto 51 dX11_feed_74 (by decide) ?_
  refine mm_iload dX11_feed_51 rfl ?_
  refine mm_if_lt 77 dX11_feed_53 (by decide) (fun h => absurd h (by decide)) (fun _ => ?_)
  refine mm_aload_n dX11_feed_56 rfl rfl ?_
  refine mm_get3 (ci := 11) in_X11 rfl (k := 0) (by decide) rfl kF_X11_14 dX11_feed_57 (mm_frN (g430_F _ (by decide) (by decide)) h0) (Nat.le_of_ble_eq_true rfl) rfl ?_
  refine mm_lload_n dX11_feed_60 rfl ?_
  refine mm_bipush (v := 8) dX11_feed_61 (by decide) ?_
  refine mm_iload dX11_feed_63 rfl ?_
  refine mm_imul dX11_feed_65 ?_
  refine mm_lushr dX11_feed_66 ?_
  refine mm_l2i dX11_feed_67 ?_
  refine mm_callV3 (ci := 0) wM_X0_add kM_X11_83 wI_X0_add wS_X0_add dX11_feed_68 (k431_X0_add hst _ b g430_1 g430_2) g430_1 (Nat.le_of_ble_eq_true rfl) rfl rfl rfl (Nat.le_of_ble_eq_true rfl) (by omega) (by omega) (fun v S9 hq => ?_)
  obtain ⟨M432, z432⟩ := S9
  obtain ⟨rfl, hz432, g432_2, g432_1, g432_F⟩ := hq
  cases hz432
  refine ⟨fun h => ⟨h, rfl⟩, ?_⟩
  refine mm_iinc (v := 5) [some (.ref 0), some (.long b), none, some (.int 8), some (.int 5)] dX11_feed_71 rfl (by decide) (by decide) rfl ?_
  refine mm_goto 51 dX11_feed_74 (by decide) ?_
  refine mm_iload dX11_feed_51 rfl ?_
  refine mm_if_lt 77 dX11_feed_53 (by decide) (fun h => absurd h (by decide)) (fun _ => ?_)
  refine mm_aload_n dX11_feed_56 rfl rfl ?_
  refine mm_get3 (ci := 11) in_X11 rfl (k := 0) (by decide) rfl kF_X11_14 dX11_feed_57 (mm_frN (g432_F _ (by decide) (by decide)) (mm_frN (g430_F _ (by decide) (by decide)) h0)) (Nat.le_of_ble_eq_true rfl) rfl ?_
  refine mm_lload_n dX11_feed_60 rfl ?_
  refine mm_bipush (v := 8) dX11_feed_61 (by decide) ?_
  refine mm_iload dX11_feed_63 rfl ?_
  refine mm_imul dX11_feed_65 ?_
  refine mm_lushr dX11_feed_66 ?_
  refine mm_l2i dX11_feed_67 ?_
  refine mm_callV3 (ci := 0) wM_X0_add kM_X11_83 wI_X0_add wS_X0_add dX11_feed_68 (k433_X0_add hst _ b g432_1 g432_2) g432_1 (Nat.le_of_ble_eq_true rfl) rfl rfl rfl (Nat.le_of_ble_eq_true rfl) (by omega) (by omega) (fun v S9 hq => ?_)
  obtain ⟨M434, z434⟩ := S9
  obtain ⟨rfl, hz434, g434_2, g434_1, g434_F⟩ := hq
  cases hz434
  refine ⟨fun h => ⟨h, rfl⟩, ?_⟩
  refine mm_iinc (v := 4) [some (.ref 0), some (.long b), none, some (.int 8), some (.int 4)] dX11_feed_71 rfl (by decide) (by decide) rfl ?_
  refine mm_goto 51 dX11_feed_74 (by decide) ?_
  refine mm_iload dX11_feed_51 rfl ?_
  refine mm_if_lt 77 dX11_feed_53 (by decide) (fun h => absurd h (by decide)) (fun _ => ?_)
  refine mm_aload_n dX11_feed_56 rfl rfl ?_
  refine mm_get3 (ci := 11) in_X11 rfl (k := 0) (by decide) rfl kF_X11_14 dX11_feed_57 (mm_frN (g434_F _ (by decide) (by decide)) (mm_frN (g432_F _ (by decide) (by decide)) (mm_frN (g430_F _ (by decide) (by decide)) h0))) (Nat.le_of_ble_eq_true rfl) rfl ?_
  refine mm_lload_n dX11_feed_60 rfl ?_
  refine mm_bipush (v := 8) dX11_feed_61 (by decide) ?_
  refine mm_iload dX11_feed_63 rfl ?_
  refine mm_imul dX11_feed_65 ?_
  refine mm_lushr dX11_feed_66 ?_
  refine mm_l2i dX11_feed_67 ?_
  refine mm_callV3 (ci := 0) wM_X0_add kM_X11_83 wI_X0_add wS_X0_add dX11_feed_68 (k435_X0_add hst _ b g434_1 g434_2) g434_1 (Nat.le_of_ble_eq_true rfl) rfl rfl rfl (Nat.le_of_ble_eq_true rfl) (by omega) (by omega) (fun v S9 hq => ?_)
  obtain ⟨M436, z436⟩ := S9
  obtain ⟨rfl, hz436, g436_2, g436_1, g436_F⟩ := hq
  cases hz436
  refine ⟨fun h => ⟨h, rfl⟩, ?_⟩
  refine mm_iinc (v := 3) [some (.ref 0), some (.long b), none, some (.int 8), some (.int 3)] dX11_feed_71 rfl (by decide) (by decide) rfl ?_
  refine mm_goto 51 dX11_feed_74 (by decide) ?_
  refine mm_iload dX11_feed_51 rfl ?_
  refine mm_if_lt 77 dX11_feed_53 (by decide) (fun h => absurd h (by decide)) (fun _ => ?_)
  refine mm_aload_n dX11_feed_56 rfl rfl ?_
  refine mm_get3 (ci := 11) in_X11 rfl (k := 0) (by decide) rfl kF_X11_14 dX11_feed_57 (mm_frN (g436_F _ (by decide) (by decide)) (mm_frN (g434_F _ (by decide) (by decide)) (mm_frN (g432_F _ (by decide) (by decide)) (mm_frN (g430_F _ (by decide) (by decide)) h0)))) (Nat.le_of_ble_eq_true rfl) rfl ?_
  refine mm_lload_n dX11_feed_60 rfl ?_
  refine mm_bipush (v := 8) dX11_feed_61 (by decide) ?_
  refine mm_iload dX11_feed_63 rfl ?_
  refine mm_imul dX11_feed_65 ?_
  refine mm_lushr dX11_feed_66 ?_
  refine mm_l2i dX11_feed_67 ?_
  refine mm_callV3 (ci := 0) wM_X0_add kM_X11_83 wI_X0_add wS_X0_add dX11_feed_68 (k437_X0_add hst _ b g436_1 g436_2) g436_1 (Nat.le_of_ble_eq_true rfl) rfl rfl rfl (Nat.le_of_ble_eq_true rfl) (by omega) (by omega) (fun v S9 hq => ?_)
  obtain ⟨M438, z438⟩ := S9
  obtain ⟨rfl, hz438, g438_2, g438_1, g438_F⟩ := hq
  cases hz438
  refine ⟨fun h => ⟨h, rfl⟩, ?_⟩
  refine mm_iinc (v := 2) [some (.ref 0), some (.long b), none, some (.int 8), some (.int 2)] dX11_feed_71 rfl (by decide) (by decide) rfl ?_
  refine mm_goto 51 dX11_feed_74 (by decide) ?_
  refine mm_iload dX11_feed_51 rfl ?_
  refine mm_if_lt 77 dX11_feed_53 (by decide) (fun h => absurd h (by decide)) (fun _ => ?_)
  refine mm_aload_n dX11_feed_56 rfl rfl ?_
  refine mm_get3 (ci := 11) in_X11 rfl (k := 0) (by decide) rfl kF_X11_14 dX11_feed_57 (mm_frN (g438_F _ (by decide) (by decide)) (mm_frN (g436_F _ (by decide) (by decide)) (mm_frN (g434_F _ (by decide) (by decide)) (mm_frN (g432_F _ (by decide) (by decide)) (mm_frN (g430_F _ (by decide) (by decide)) h0))))) (Nat.le_of_ble_eq_true rfl) rfl ?_
  refine mm_lload_n dX11_feed_60 rfl ?_
  refine mm_bipush (v := 8) dX11_feed_61 (by decide) ?_
  refine mm_iload dX11_feed_63 rfl ?_
  refine mm_imul dX11_feed_65 ?_
  refine mm_lushr dX11_feed_66 ?_
  refine mm_l2i dX11_feed_67 ?_
  refine mm_callV3 (ci := 0) wM_X0_add kM_X11_83 wI_X0_add wS_X0_add dX11_feed_68 (k439_X0_add hst _ b g438_1 g438_2) g438_1 (Nat.le_of_ble_eq_true rfl) rfl rfl rfl (Nat.le_of_ble_eq_true rfl) (by omega) (by omega) (fun v S9 hq => ?_)
  obtain ⟨M440, z440⟩ := S9
  obtain ⟨rfl, hz440, g440_2, g440_1, g440_F⟩ := hq
  cases hz440
  refine ⟨fun h => ⟨h, rfl⟩, ?_⟩
  refine mm_iinc (v := 1) [some (.ref 0), some (.long b), none, some (.int 8), some (.int 1)] dX11_feed_71 rfl (by decide) (by decide) rfl ?_
  refine mm_goto 51 dX11_feed_74 (by decide) ?_
  refine mm_iload dX11_feed_51 rfl ?_
  refine mm_if_lt 77 dX11_feed_53 (by decide) (fun h => absurd h (by decide)) (fun _ => ?_)
  refine mm_aload_n dX11_feed_56 rfl rfl ?_
  refine mm_get3 (ci := 11) in_X11 rfl (k := 0) (by decide) rfl kF_X11_14 dX11_feed_57 (mm_frN (g440_F _ (by decide) (by decide)) (mm_frN (g438_F _ (by decide) (by decide)) (mm_frN (g436_F _ (by decide) (by decide)) (mm_frN (g434_F _ (by decide) (by decide)) (mm_frN (g432_F _ (by decide) (by decide)) (mm_frN (g430_F _ (by decide) (by decide)) h0)))))) (Nat.le_of_ble_eq_true rfl) rfl ?_
  refine mm_lload_n dX11_feed_60 rfl ?_
  refine mm_bipush (v := 8) dX11_feed_61 (by decide) ?_
  refine mm_iload dX11_feed_63 rfl ?_
  refine mm_imul dX11_feed_65 ?_
  refine mm_lushr dX11_feed_66 ?_
  refine mm_l2i dX11_feed_67 ?_
  refine mm_callV3 (ci := 0) wM_X0_add kM_X11_83 wI_X0_add wS_X0_add dX11_feed_68 (k441_X0_add hst _ b g440_1 g440_2) g440_1 (Nat.le_of_ble_eq_true rfl) rfl rfl rfl (Nat.le_of_ble_eq_true rfl) (by omega) (by omega) (fun v S9 hq => ?_)
  obtain ⟨M442, z442⟩ := S9
  obtain ⟨rfl, hz442, g442_2, g442_1, g442_F⟩ := hq
  cases hz442
  refine ⟨fun h => ⟨h, rfl⟩, ?_⟩
  refine mm_iinc (v := 0) [some (.ref 0), some (.long b), none, some (.int 8), some (.int 0)] dX11_feed_71 rfl (by decide) (by decide) rfl ?_
  refine mm_goto 51 dX11_feed_74 (by decide) ?_
  refine mm_iload dX11_feed_51 rfl ?_
  refine mm_if_lt 77 dX11_feed_53 (by decide) (fun h => absurd h (by decide)) (fun _ => ?_)
  refine mm_aload_n dX11_feed_56 rfl rfl ?_
  refine mm_get3 (ci := 11) in_X11 rfl (k := 0) (by decide) rfl kF_X11_14 dX11_feed_57 (mm_frN (g442_F _ (by decide) (by decide)) (mm_frN (g440_F _ (by decide) (by decide)) (mm_frN (g438_F _ (by decide) (by decide)) (mm_frN (g436_F _ (by decide) (by decide)) (mm_frN (g434_F _ (by decide) (by decide)) (mm_frN (g432_F _ (by decide) (by decide)) (mm_frN (g430_F _ (by decide) (by decide)) h0))))))) (Nat.le_of_ble_eq_true rfl) rfl ?_
  refine mm_lload_n dX11_feed_60 rfl ?_
  refine mm_bipush (v := 8) dX11_feed_61 (by decide) ?_
  refine mm_iload dX11_feed_63 rfl ?_
  refine mm_imul dX11_feed_65 ?_
  refine mm_lushr dX11_feed_66 ?_
  refine mm_l2i dX11_feed_67 ?_
  refine mm_callV3 (ci := 0) wM_X0_add kM_X11_83 wI_X0_add wS_X0_add dX11_feed_68 (k443_X0_add hst _ b g442_1 g442_2) g442_1 (Nat.le_of_ble_eq_true rfl) rfl rfl rfl (Nat.le_of_ble_eq_true rfl) (by omega) (by omega) (fun v S9 hq => ?_)
  obtain ⟨M444, z444⟩ := S9
  obtain ⟨rfl, hz444, g444_2, g444_1, g444_F⟩ := hq
  cases hz444
  refine ⟨fun h => ⟨h, rfl⟩, ?_⟩
  refine mm_iinc (v := (-1)) [some (.ref 0), some (.long b), none, some (.int 8), some (.int (-1))] dX11_feed_71 rfl (by decide) (by decide) rfl ?_
  refine mm_goto 51 dX11_feed_74 (by decide) ?_
  refine mm_iload dX11_feed_51 rfl ?_
  refine mm_if_lt 77 dX11_feed_53 (by decide) (fun _ => ?_) (fun h => absurd (by decide) h)
  refine mm_aload_n dX11_feed_77 rfl rfl ?_
  refine mm_get3 (ci := 11) in_X11 rfl (k := 0) (by decide) rfl kF_X11_14 dX11_feed_78 (mm_frN (g444_F _ (by decide) (by decide)) (mm_frN (g442_F _ (by decide) (by decide)) (mm_frN (g440_F _ (by decide) (by decide)) (mm_frN (g438_F _ (by decide) (by decide)) (mm_frN (g436_F _ (by decide) (by decide)) (mm_frN (g434_F _ (by decide) (by decide)) (mm_frN (g432_F _ (by decide) (by decide)) (mm_frN (g430_F _ (by decide) (by decide)) h0)))))))) (Nat.le_of_ble_eq_true rfl) rfl ?_
  refine mm_callV3 (ci := 0) wM_X0_size kM_X11_74 wI_X0_size wS_X0_size dX11_feed_81 (k445_X0_size hst _ b g444_1) g444_1 (Nat.le_of_ble_eq_true rfl) rfl rfl rfl (Nat.le_of_ble_eq_true rfl) (by omega) (by omega) (fun v S9 hq => ?_)
  obtain ⟨rfl, rfl⟩ := hq
  refine ⟨fun h => ⟨h, rfl⟩, ?_⟩
  refine mm_iret dX11_feed_84 rfl rfl ?_ (by omega) (by omega)
  refine ⟨rfl, rfl, fun x hx => ?_⟩
  dsimp only
  exact mm_frN (g444_F _ (by omega) (by omega) ) (mm_frN (g442_F _ (by omega) (by omega) ) (mm_frN (g440_F _ (by omega) (by omega) ) (mm_frN (g438_F _ (by omega) (by omega) ) (mm_frN (g436_F _ (by omega) (by omega) ) (mm_frN (g434_F _ (by omega) (by omega) ) (mm_frN (g432_F _ (by omega) (by omega) ) (mm_frN (g430_F _ (by omega) (by omega) ) (rfl))))))))

set_option maxHeartbeats 4000000 in
set_option maxRecDepth 100000 in
theorem f_feed_n {g : mm_G} {l : Launch} (hst : l.stackTraces = false) {d : Nat} (M : Nat → mm_C) (b : Int64) (p : Int32) (hp : p < 1) : mm_Ct g l yX11_feed (.code yX11_feed cX11_feed 5 (some .int)) d 1 6 [.ref 0, .long b, .int p] (M, 1186, false) (fun r S' => r = .inr "java/lang/IllegalArgumentException" ∧ S'.2 = (1186, true) ∧ ∀ j, 1101 ≤ j → S'.1 j = M j) := by
  refine mm_Ct_of hst (by decide) (Nat.le_of_ble_eq_true rfl) ?_
  show mm_V g l RX11 "feed" cX11_feed 5 (some .int) [] d 1 6 _ 0 [some (.ref 0), some (.long b), none, some (.int p), none] [] (M, 1186, false) 0 0
  refine mm_iload_n dX11_feed_0 rfl ?_
  refine mm_iconst (v := 1) dX11_feed_1 (by decide) ?_
  refine mm_icmp_lt 11 dX11_feed_2 (by decide) (fun _ => ?_) (fun h => absurd hp h)
  refine mm_throw (k := 0) (text := "not 1 to 8 bytes") (by decide) kC_X11_67 wj_IllegalArgumentException rfl at_71 rfl dX11_feed_11 dX11_feed_14 dX11_feed_15 dX11_feed_17 dX11_feed_20 (Nat.le_of_ble_eq_true rfl) (by omega) (by omega) ?_
  exact ⟨rfl, rfl, fun x hx => rfl⟩

set_option maxHeartbeats 4000000 in
set_option maxRecDepth 100000 in
theorem f_feed_m {g : mm_G} {l : Launch} (hst : l.stackTraces = false) {d : Nat} (M : Nat → mm_C) (b : Int64) (p : Int32) (hp0 : ¬ p < 1) (hp : 8 < p) : mm_Ct g l yX11_feed (.code yX11_feed cX11_feed 5 (some .int)) d 1 6 [.ref 0, .long b, .int p] (M, 1186, false) (fun r S' => r = .inr "java/lang/IllegalArgumentException" ∧ S'.2 = (1186, true) ∧ ∀ j, 1101 ≤ j → S'.1 j = M j) := by
  refine mm_Ct_of hst (by decide) (Nat.le_of_ble_eq_true rfl) ?_
  show mm_V g l RX11 "feed" cX11_feed 5 (some .int) [] d 1 6 _ 0 [some (.ref 0), some (.long b), none, some (.int p), none] [] (M, 1186, false) 0 0
  refine mm_iload_n dX11_feed_0 rfl ?_
  refine mm_iconst (v := 1) dX11_feed_1 (by decide) ?_
  refine mm_icmp_lt 11 dX11_feed_2 (by decide) (fun h => absurd h hp0) (fun _ => ?_)
  refine mm_iload_n dX11_feed_5 rfl ?_
  refine mm_bipush (v := 8) dX11_feed_6 (by decide) ?_
  refine mm_icmp_le 21 dX11_feed_8 (by decide) (fun h => absurd h (Int32.not_le.mpr hp)) (fun _ => ?_)
  refine mm_throw (k := 0) (text := "not 1 to 8 bytes") (by decide) kC_X11_67 wj_IllegalArgumentException rfl at_71 rfl dX11_feed_11 dX11_feed_14 dX11_feed_15 dX11_feed_17 dX11_feed_20 (Nat.le_of_ble_eq_true rfl) (by omega) (by omega) ?_
  exact ⟨rfl, rfl, fun x hx => rfl⟩
