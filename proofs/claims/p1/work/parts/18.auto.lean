set_option maxHeartbeats 4000000 in
set_option maxRecDepth 100000 in
theorem k3_X0_clear {g : mm_G} {l : Launch} (hst : l.stackTraces = false) {d : Nat} (M : Nat → mm_C) (h7 : M 7 = .inr (0, [.ref 8, .int 0, .int 0])) : mm_Cm g l yX0_clear (.code yX0_clear cX0_clear 1 none) d 0 0 [.ref 7] (M, 1186, false) (fun v S' => v = none ∧ S'.2 = (1186, false) ∧ S'.1 7 = .inr (0, [.ref 8, .int 0, .int 0]) ∧ ∀ j, j ≠ 7 → S'.1 j = M j) := by
  refine mm_Cm_of hst (by decide) (Nat.le_of_ble_eq_true rfl) ?_
  show mm_V g l RX0 "clear" cX0_clear 1 none [] d 0 0 _ 0 [some (.ref 7)] [] (M, 1186, false) 0 0
  refine mm_aload_n dX0_clear_0 rfl rfl ?_
  refine mm_iconst (v := 0) dX0_clear_1 (by decide) ?_
  refine mm_put3 (ci := 0) (fs1 := [.ref 8, .int 0, .int 0]) in_X0 tyX0_ok nmX0 rfl (k := 1) (by decide) rfl rfl kF_X0_19 dX0_clear_2 (mm_fit_int _) h7 (Nat.le_of_ble_eq_true rfl) (Nat.le_of_ble_eq_true rfl) rfl ?_
  refine mm_aload_n dX0_clear_5 rfl rfl ?_
  refine mm_iconst (v := 0) dX0_clear_6 (by decide) ?_
  refine mm_put3 (ci := 0) (fs1 := [.ref 8, .int 0, .int 0]) in_X0 tyX0_ok nmX0 rfl (k := 2) (by decide) rfl rfl kF_X0_23 dX0_clear_7 mm_fit_z0 mm_up_s (Nat.le_of_ble_eq_true rfl) (Nat.le_of_ble_eq_true rfl) rfl ?_
  refine mm_vret dX0_clear_10 rfl ?_ (by omega) (by omega)
  refine ⟨rfl, rfl, ?_⟩
  dsimp only
  exact ⟨mm_up_s, fun x e7 => mm_upN e7 (mm_upN e7 (rfl))⟩

set_option maxHeartbeats 4000000 in
set_option maxRecDepth 100000 in
theorem k2_X6_clear {g : mm_G} {l : Launch} (hst : l.stackTraces = false) {d : Nat} (M : Nat → mm_C) (h6 : M 6 = .inr (6, [.ref 7, .ref 9, .ref 190, .int 0, .int 0])) (h7 : M 7 = .inr (0, [.ref 8, .int 0, .int 0])) (h190 : M 190 = .inl (0, 5, .inl (fun _ => 0))) : mm_Cm g l yX6_clear (.code yX6_clear cX6_clear 2 none) (d + 1) 0 0 [.ref 6] (M, 1186, false) (fun v S' => v = none ∧ S'.2 = (1186, false) ∧ S'.1 7 = .inr (0, [.ref 8, .int 0, .int 0]) ∧ S'.1 6 = .inr (6, [.ref 7, .ref 9, .ref 190, .int 0, .int 0]) ∧ S'.1 190 = .inl (0, 5, .inl (upd (upd (upd (upd (upd (fun _ => 0) ((0 : Int32).toNatClampNeg) 0) ((1 : Int32).toNatClampNeg) 0) ((2 : Int32).toNatClampNeg) 0) ((3 : Int32).toNatClampNeg) 0) ((4 : Int32).toNatClampNeg) 0)) ∧ ∀ j, j ≠ 7 → j ≠ 6 → j ≠ 190 → S'.1 j = M j) := by
  refine mm_Cm_of hst (by decide) (Nat.le_of_ble_eq_true rfl) ?_
  show mm_V g l RX6 "clear" cX6_clear 2 none [] (d + 1) 0 0 _ 0 [some (.ref 6), none] [] (M, 1186, false) 0 0
  refine mm_aload_n dX6_clear_0 rfl rfl ?_
  refine mm_get3 (ci := 6) in_X6 rfl (k := 0) (by decide) rfl kF_X6_14 dX6_clear_1 h6 (Nat.le_of_ble_eq_true rfl) rfl ?_
  refine mm_callV3 (ci := 0) wM_X0_clear kM_X6_31 wI_X0_clear wS_X0_clear dX6_clear_4 (k3_X0_clear hst _ h7) h7 (Nat.le_of_ble_eq_true rfl) rfl rfl rfl (Nat.le_of_ble_eq_true rfl) (by omega) (by omega) (fun v S9 hq => ?_)
  obtain ⟨M4, z4⟩ := S9
  obtain ⟨rfl, hz4, g4_7, g4_F⟩ := hq
  cases hz4
  refine ⟨fun h => ⟨h, rfl⟩, ?_⟩
  refine mm_aload_n dX6_clear_7 rfl rfl ?_
  refine mm_iconst (v := 0) dX6_clear_8 (by decide) ?_
  refine mm_put3 (ci := 6) (fs1 := [.ref 7, .ref 9, .ref 190, .int 0, .int 0]) in_X6 tyX6_ok nmX6 rfl (k := 3) (by decide) rfl rfl kF_X6_34 dX6_clear_9 (mm_fit_int _) (mm_frN (g4_F _ (by decide)) h6) (Nat.le_of_ble_eq_true rfl) (Nat.le_of_ble_eq_true rfl) rfl ?_
  refine mm_aload_n dX6_clear_12 rfl rfl ?_
  refine mm_iconst (v := 0) dX6_clear_13 (by decide) ?_
  refine mm_put3 (ci := 6) (fs1 := [.ref 7, .ref 9, .ref 190, .int 0, .int 0]) in_X6 tyX6_ok nmX6 rfl (k := 4) (by decide) rfl rfl kF_X6_38 dX6_clear_14 (mm_fit_int _) mm_up_s (Nat.le_of_ble_eq_true rfl) (Nat.le_of_ble_eq_true rfl) rfl ?_
  refine mm_iconst (v := 0) dX6_clear_17 (by decide) ?_
  refine mm_istore_n [some (.ref 6), some (.int 0)] dX6_clear_18 (by decide) rfl ?_
  refine mm_iload_n dX6_clear_19 rfl ?_
  refine mm_aload_n dX6_clear_20 rfl rfl ?_
  refine mm_get3 (ci := 6) in_X6 rfl (k := 2) (by decide) rfl kF_X6_27 dX6_clear_21 mm_up_s (Nat.le_of_ble_eq_true rfl) rfl ?_
  refine mm_alen3 (v := 5) (fun _ => rfl) (mm_upN (by decide) (mm_upN (by decide) (mm_frN (g4_F _ (by decide)) h190))) (Nat.le_of_ble_eq_true rfl) rfl dX6_clear_24 ?_
  refine mm_icmp_ge 41 dX6_clear_25 (by decide) (fun h => absurd h (by decide)) (fun _ => ?_)
  refine mm_aload_n dX6_clear_28 rfl rfl ?_
  refine mm_get3 (ci := 6) in_X6 rfl (k := 2) (by decide) rfl kF_X6_27 dX6_clear_29 mm_up_s (Nat.le_of_ble_eq_true rfl) rfl ?_
  refine mm_iload_n dX6_clear_32 rfl ?_
  refine mm_iconst (v := 0) dX6_clear_33 (by decide) ?_
  refine mm_iast3 (mm_upN (by decide) (mm_upN (by decide) (mm_frN (g4_F _ (by decide)) h190))) (Nat.le_of_ble_eq_true rfl) (by unfold vp_in; decide) dX6_clear_34 ?_
  refine mm_iinc (v := 1) [some (.ref 6), some (.int 1)] dX6_clear_35 rfl (by decide) (by decide) rfl ?_
  refine mm_goto 19 dX6_clear_38 (by decide) ?_
  refine mm_iload_n dX6_clear_19 rfl ?_
  refine mm_aload_n dX6_clear_20 rfl rfl ?_
  refine mm_get3 (ci := 6) in_X6 rfl (k := 2) (by decide) rfl kF_X6_27 dX6_clear_21 (mm_upN (by decide) mm_up_s) (Nat.le_of_ble_eq_true rfl) rfl ?_
  refine mm_alen3 (v := 5) (fun _ => rfl) mm_up_s (Nat.le_of_ble_eq_true rfl) rfl dX6_clear_24 ?_
  refine mm_icmp_ge 41 dX6_clear_25 (by decide) (fun h => absurd h (by decide)) (fun _ => ?_)
  refine mm_aload_n dX6_clear_28 rfl rfl ?_
  refine mm_get3 (ci := 6) in_X6 rfl (k := 2) (by decide) rfl kF_X6_27 dX6_clear_29 (mm_upN (by decide) mm_up_s) (Nat.le_of_ble_eq_true rfl) rfl ?_
  refine mm_iload_n dX6_clear_32 rfl ?_
  refine mm_iconst (v := 0) dX6_clear_33 (by decide) ?_
  refine mm_iast3 mm_up_s (Nat.le_of_ble_eq_true rfl) (by unfold vp_in; decide) dX6_clear_34 ?_
  refine mm_iinc (v := 2) [some (.ref 6), some (.int 2)] dX6_clear_35 rfl (by decide) (by decide) rfl ?_
  refine mm_goto 19 dX6_clear_38 (by decide) ?_
  refine mm_iload_n dX6_clear_19 rfl ?_
  refine mm_aload_n dX6_clear_20 rfl rfl ?_
  refine mm_get3 (ci := 6) in_X6 rfl (k := 2) (by decide) rfl kF_X6_27 dX6_clear_21 (mm_upN (by decide) (mm_upN (by decide) mm_up_s)) (Nat.le_of_ble_eq_true rfl) rfl ?_
  refine mm_alen3 (v := 5) (fun _ => rfl) mm_up_s (Nat.le_of_ble_eq_true rfl) rfl dX6_clear_24 ?_
  refine mm_icmp_ge 41 dX6_clear_25 (by decide) (fun h => absurd h (by decide)) (fun _ => ?_)
  refine mm_aload_n dX6_clear_28 rfl rfl ?_
  refine mm_get3 (ci := 6) in_X6 rfl (k := 2) (by decide) rfl kF_X6_27 dX6_clear_29 (mm_upN (by decide) (mm_upN (by decide) mm_up_s)) (Nat.le_of_ble_eq_true rfl) rfl ?_
  refine mm_iload_n dX6_clear_32 rfl ?_
  refine mm_iconst (v := 0) dX6_clear_33 (by decide) ?_
  refine mm_iast3 mm_up_s (Nat.le_of_ble_eq_true rfl) (by unfold vp_in; decide) dX6_clear_34 ?_
  refine mm_iinc (v := 3) [some (.ref 6), some (.int 3)] dX6_clear_35 rfl (by decide) (by decide) rfl ?_
  refine mm_goto 19 dX6_clear_38 (by decide) ?_
  refine mm_iload_n dX6_clear_19 rfl ?_
  refine mm_aload_n dX6_clear_20 rfl rfl ?_
  refine mm_get3 (ci := 6) in_X6 rfl (k := 2) (by decide) rfl kF_X6_27 dX6_clear_21 (mm_upN (by decide) (mm_upN (by decide) (mm_upN (by decide) mm_up_s))) (Nat.le_of_ble_eq_true rfl) rfl ?_
  refine mm_alen3 (v := 5) (fun _ => rfl) mm_up_s (Nat.le_of_ble_eq_true rfl) rfl dX6_clear_24 ?_
  refine mm_icmp_ge 41 dX6_clear_25 (by decide) (fun h => absurd h (by decide)) (fun _ => ?_)
  refine mm_aload_n dX6_clear_28 rfl rfl ?_
  refine mm_get3 (ci := 6) in_X6 rfl (k := 2) (by decide) rfl kF_X6_27 dX6_clear_29 (mm_upN (by decide) (mm_upN (by decide) (mm_upN (by decide) mm_up_s))) (Nat.le_of_ble_eq_true rfl) rfl ?_
  refine mm_iload_n dX6_clear_32 rfl ?_
  refine mm_iconst (v := 0) dX6_clear_33 (by decide) ?_
  refine mm_iast3 mm_up_s (Nat.le_of_ble_eq_true rfl) (by unfold vp_in; decide) dX6_clear_34 ?_
  refine mm_iinc (v := 4) [some (.ref 6), some (.int 4)] dX6_clear_35 rfl (by decide) (by decide) rfl ?_
  refine mm_goto 19 dX6_clear_38 (by decide) ?_
  refine mm_iload_n dX6_clear_19 rfl ?_
  refine mm_aload_n dX6_clear_20 rfl rfl ?_
  refine mm_get3 (ci := 6) in_X6 rfl (k := 2) (by decide) rfl kF_X6_27 dX6_clear_21 (mm_upN (by decide) (mm_upN (by decide) (mm_upN (by decide) (mm_upN (by decide) mm_up_s)))) (Nat.le_of_ble_eq_true rfl) rfl ?_
  refine mm_alen3 (v := 5) (fun _ => rfl) mm_up_s (Nat.le_of_ble_eq_true rfl) rfl dX6_clear_24 ?_
  refine mm_icmp_ge 41 dX6_clear_25 (by decide) (fun h => absurd h (by decide)) (fun _ => ?_)
  refine mm_aload_n dX6_clear_28 rfl rfl ?_
  refine mm_get3 (ci := 6) in_X6 rfl (k := 2) (by decide) rfl kF_X6_27 dX6_clear_29 (mm_upN (by decide) (mm_upN (by decide) (mm_upN (by decide) (mm_upN (by decide) mm_up_s)))) (Nat.le_of_ble_eq_true rfl) rfl ?_
  refine mm_iload_n dX6_clear_32 rfl ?_
  refine mm_iconst (v := 0) dX6_clear_33 (by decide) ?_
  refine mm_iast3 mm_up_s (Nat.le_of_ble_eq_true rfl) (by unfold vp_in; decide) dX6_clear_34 ?_
  refine mm_iinc (v := 5) [some (.ref 6), some (.int 5)] dX6_clear_35 rfl (by decide) (by decide) rfl ?_
  refine mm_goto 19 dX6_clear_38 (by decide) ?_
  refine mm_iload_n dX6_clear_19 rfl ?_
  refine mm_aload_n dX6_clear_20 rfl rfl ?_
  refine mm_get3 (ci := 6) in_X6 rfl (k := 2) (by decide) rfl kF_X6_27 dX6_clear_21 (mm_upN (by decide) (mm_upN (by decide) (mm_upN (by decide) (mm_upN (by decide) (mm_upN (by decide) mm_up_s))))) (Nat.le_of_ble_eq_true rfl) rfl ?_
  refine mm_alen3 (v := 5) (fun _ => rfl) mm_up_s (Nat.le_of_ble_eq_true rfl) rfl dX6_clear_24 ?_
  refine mm_icmp_ge 41 dX6_clear_25 (by decide) (fun _ => ?_) (fun h => absurd (by decide) h)
  refine mm_vret dX6_clear_41 rfl ?_ (by omega) (by omega)
  refine ⟨rfl, rfl, ?_⟩
  dsimp only
  exact ⟨(mm_upN (by decide) (mm_upN (by decide) (mm_upN (by decide) (mm_upN (by decide) (mm_upN (by decide) (mm_upN (by decide) (mm_upN (by decide) g4_7))))))), (mm_upN (by decide) (mm_upN (by decide) (mm_upN (by decide) (mm_upN (by decide) (mm_upN (by decide) mm_up_s))))), mm_up_s, fun x e7 e6 e190 => mm_upN e190 (mm_upN e190 (mm_upN e190 (mm_upN e190 (mm_upN e190 (mm_upN e6 (mm_upN e6 (mm_frN (g4_F _ e7 ) (rfl))))))))⟩

set_option maxHeartbeats 4000000 in
set_option maxRecDepth 100000 in
theorem k6_X6_text {g : mm_G} {l : Launch} (hst : l.stackTraces = false) {d : Nat} (M : Nat → mm_C) (h6 : M 6 = .inr (6, [.ref 7, .ref 9, .ref 190, .int 0, .int 0])) : mm_Cm g l yX6_text (.code yX6_text cX6_text 1 (some (.object "ProtoDesk$Bytes"))) d 0 0 [.ref 6] (M, 1186, false) (fun v S' => v = some (.ref 7) ∧ S' = (M, 1186, false)) := by
  refine mm_Cm_of hst (by decide) (Nat.le_of_ble_eq_true rfl) ?_
  show mm_V g l RX6 "text" cX6_text 1 (some (.object "ProtoDesk$Bytes")) [] d 0 0 _ 0 [some (.ref 6)] [] (M, 1186, false) 0 0
  refine mm_aload_n dX6_text_0 rfl rfl ?_
  refine mm_get3 (ci := 6) in_X6 rfl (k := 0) (by decide) rfl kF_X6_14 dX6_text_1 h6 (Nat.le_of_ble_eq_true rfl) rfl ?_
  refine mm_aret (a := some 7) dX6_text_4 rfl ?_ (by omega) (by omega)
  exact ⟨rfl, rfl⟩

set_option maxHeartbeats 4000000 in
set_option maxRecDepth 100000 in
theorem k8_X0_size {g : mm_G} {l : Launch} (hst : l.stackTraces = false) {d : Nat} (M : Nat → mm_C) (h1 : M 1 = .inr (0, [.ref 2, .int 0, .int 0])) : mm_Cm g l yX0_size (.code yX0_size cX0_size 1 (some .int)) d 0 0 [.ref 1] (M, 1186, false) (fun v S' => v = some (.int 0) ∧ S' = (M, 1186, false)) := by
  refine mm_Cm_of hst (by decide) (Nat.le_of_ble_eq_true rfl) ?_
  show mm_V g l RX0 "size" cX0_size 1 (some .int) [] d 0 0 _ 0 [some (.ref 1)] [] (M, 1186, false) 0 0
  refine mm_aload_n dX0_size_0 rfl rfl ?_
  refine mm_get3 (ci := 0) in_X0 rfl (k := 1) (by decide) rfl kF_X0_19 dX0_size_1 h1 (Nat.le_of_ble_eq_true rfl) rfl ?_
  refine mm_iret dX0_size_4 rfl rfl ?_ (by omega) (by omega)
  exact ⟨rfl, rfl⟩

set_option maxHeartbeats 4000000 in
set_option maxRecDepth 100000 in
theorem k10_X0_addAll {g : mm_G} {l : Launch} (hst : l.stackTraces = false) {d : Nat} (M : Nat → mm_C) : mm_Cm g l yX0_addAll (.code yX0_addAll cX0_addAll 5 none) d 0 0 [.ref 7, .ref 1, .int 0, .int 0] (M, 1186, false) (fun v S' => v = none ∧ S' = (M, 1186, false)) := by
  refine mm_Cm_of hst (by decide) (Nat.le_of_ble_eq_true rfl) ?_
  show mm_V g l RX0 "addAll" cX0_addAll 5 none [] d 0 0 _ 0 [some (.ref 7), some (.ref 1), some (.int 0), some (.int 0), none] [] (M, 1186, false) 0 0
  refine mm_iload_n dX0_addAll_0 rfl ?_
  refine mm_istore [some (.ref 7), some (.ref 1), some (.int 0), some (.int 0), some (.int 0)] dX0_addAll_1 (by decide) rfl ?_
  refine mm_iload dX0_addAll_3 rfl ?_
  refine mm_iload_n dX0_addAll_5 rfl ?_
  refine mm_icmp_ge 25 dX0_addAll_6 (by decide) (fun _ => ?_) (fun h => absurd (by decide) h)
  refine mm_vret dX0_addAll_25 rfl ?_ (by omega) (by omega)
  exact ⟨rfl, rfl⟩

set_option maxHeartbeats 4000000 in
set_option maxRecDepth 100000 in
theorem k13_X0_size {g : mm_G} {l : Launch} (hst : l.stackTraces = false) {d : Nat} (M : Nat → mm_C) (h7 : M 7 = .inr (0, [.ref 8, .int 0, .int 0])) : mm_Cm g l yX0_size (.code yX0_size cX0_size 1 (some .int)) d 0 0 [.ref 7] (M, 1186, false) (fun v S' => v = some (.int 0) ∧ S' = (M, 1186, false)) := by
  refine mm_Cm_of hst (by decide) (Nat.le_of_ble_eq_true rfl) ?_
  show mm_V g l RX0 "size" cX0_size 1 (some .int) [] d 0 0 _ 0 [some (.ref 7)] [] (M, 1186, false) 0 0
  refine mm_aload_n dX0_size_0 rfl rfl ?_
  refine mm_get3 (ci := 0) in_X0 rfl (k := 1) (by decide) rfl kF_X0_19 dX0_size_1 h7 (Nat.le_of_ble_eq_true rfl) rfl ?_
  refine mm_iret dX0_size_4 rfl rfl ?_ (by omega) (by omega)
  exact ⟨rfl, rfl⟩

set_option maxHeartbeats 4000000 in
set_option maxRecDepth 100000 in
theorem k15_X10_behindBlanks {g : mm_G} {l : Launch} (hst : l.stackTraces = false) {d : Nat} (M : Nat → mm_C) (h191 : M 191 = .inr (10, [.ref 7, .ref 192, .ref 193, .ref 194, .ref 195, .int 0, .int 0, .int 0])) : mm_Cm g l yX10_behindBlanks (.code yX10_behindBlanks cX10_behindBlanks 5 (some .int)) d 0 0 [.ref 191, .int 0] (M, 1186, false) (fun v S' => v = some (.int 0) ∧ S' = (M, 1186, false)) := by
  refine mm_Cm_of hst (by decide) (Nat.le_of_ble_eq_true rfl) ?_
  show mm_V g l RX10 "behindBlanks" cX10_behindBlanks 5 (some .int) [] d 0 0 _ 0 [some (.ref 191), some (.int 0), none, none, none] [] (M, 1186, false) 0 0
  refine mm_iload_n dX10_behindBlanks_0 rfl ?_
  refine mm_istore_n [some (.ref 191), some (.int 0), some (.int 0), none, none] dX10_behindBlanks_1 (by decide) rfl ?_
  refine mm_iload_n dX10_behindBlanks_2 rfl ?_
  refine mm_aload_n dX10_behindBlanks_3 rfl rfl ?_
  refine mm_get3 (ci := 10) in_X10 rfl (k := 6) (by decide) rfl kF_X10_33 dX10_behindBlanks_4 h191 (Nat.le_of_ble_eq_true rfl) rfl ?_
  refine mm_icmp_ge 92 dX10_behindBlanks_7 (by decide) (fun _ => ?_) (fun h => absurd (by decide) h)
  refine mm_aload_n dX10_behindBlanks_92 rfl rfl ?_
  refine mm_get3 (ci := 10) in_X10 rfl (k := 6) (by decide) rfl kF_X10_33 dX10_behindBlanks_93 h191 (Nat.le_of_ble_eq_true rfl) rfl ?_
  refine mm_iret dX10_behindBlanks_96 rfl rfl ?_ (by omega) (by omega)
  exact ⟨rfl, rfl⟩

set_option maxHeartbeats 4000000 in
set_option maxRecDepth 100000 in
theorem k18_X0_at {g : mm_G} {l : Launch} (hst : l.stackTraces = false) {d : Nat} (M : Nat → mm_C) (h7 : M 7 = .inr (0, [.ref 8, .int 0, .int 0])) : mm_Cm g l yX0_at (.code yX0_at cX0_at 2 (some .int)) d 0 0 [.ref 7, .int 0] (M, 1186, false) (fun v S' => v = some (.int (-1)) ∧ S' = (M, 1186, false)) := by
  refine mm_Cm_of hst (by decide) (Nat.le_of_ble_eq_true rfl) ?_
  show mm_V g l RX0 "at" cX0_at 2 (some .int) [] d 0 0 _ 0 [some (.ref 7), some (.int 0)] [] (M, 1186, false) 0 0
  refine mm_iload_n dX0_at_0 rfl ?_
  refine mm_if_lt 34 dX0_at_1 (by decide) (fun h => absurd h (by decide)) (fun _ => ?_)
  refine mm_iload_n dX0_at_4 rfl ?_
  refine mm_aload_n dX0_at_5 rfl rfl ?_
  refine mm_get3 (ci := 0) in_X0 rfl (k := 1) (by decide) rfl kF_X0_19 dX0_at_6 h7 (Nat.le_of_ble_eq_true rfl) rfl ?_
  refine mm_icmp_ge 34 dX0_at_9 (by decide) (fun _ => ?_) (fun h => absurd (by decide) h)
  refine mm_iconst (v := (-1)) dX0_at_34 (by decide) ?_
  refine mm_iret dX0_at_35 rfl rfl ?_ (by omega) (by omega)
  exact ⟨rfl, rfl⟩

set_option maxHeartbeats 4000000 in
set_option maxRecDepth 100000 in
theorem k20_X10_push {g : mm_G} {l : Launch} (hst : l.stackTraces = false) {d : Nat} (M : Nat → mm_C) (h191 : M 191 = .inr (10, [.ref 7, .ref 192, .ref 193, .ref 194, .ref 195, .int 0, .int 0, .int 0])) (h192 : M 192 = .inl (0, 701, .inl (fun _ => 0))) (h193 : M 193 = .inl (0, 701, .inl (fun _ => 0))) (h194 : M 194 = .inl (0, 701, .inl (fun _ => 0))) (h195 : M 195 = .inl (1, 701, .inr (.inl (fun _ => 0)))) : mm_Cm g l yX10_push (.code yX10_push cX10_push 6 (some .int)) d 0 0 [.ref 191, .int 0, .int 0, .int 0, .long (-1)] (M, 1186, false) (fun v S' => v = some (.int 0) ∧ S'.2 = (1186, false) ∧ S'.1 192 = .inl (0, 701, .inl (upd (fun _ => 0) ((0 : Int32).toNatClampNeg) 0)) ∧ S'.1 193 = .inl (0, 701, .inl (upd (fun _ => 0) ((0 : Int32).toNatClampNeg) 0)) ∧ S'.1 194 = .inl (0, 701, .inl (upd (fun _ => 0) ((0 : Int32).toNatClampNeg) 0)) ∧ S'.1 195 = .inl (1, 701, .inr (.inl (vp_updL (fun _ => 0) ((0 : Int32).toNatClampNeg) (-1)))) ∧ S'.1 191 = .inr (10, [.ref 7, .ref 192, .ref 193, .ref 194, .ref 195, .int (0 + 1), .int 0, .int 0]) ∧ ∀ j, j ≠ 192 → j ≠ 193 → j ≠ 194 → j ≠ 195 → j ≠ 191 → S'.1 j = M j) := by
  refine mm_Cm_of hst (by decide) (Nat.le_of_ble_eq_true rfl) ?_
  show mm_V g l RX10 "push" cX10_push 6 (some .int) [] d 0 0 _ 0 [some (.ref 191), some (.int 0), some (.int 0), some (.int 0), some (.long (-1)), none] [] (M, 1186, false) 0 0
  refine mm_aload_n dX10_push_0 rfl rfl ?_
  refine mm_get3 (ci := 10) in_X10 rfl (k := 5) (by decide) rfl kF_X10_29 dX10_push_1 h191 (Nat.le_of_ble_eq_true rfl) rfl ?_
  refine mm_if_lt 55 dX10_push_4 (by decide) (fun h => absurd h (by decide)) (fun _ => ?_)
  refine mm_aload_n dX10_push_7 rfl rfl ?_
  refine mm_get3 (ci := 10) in_X10 rfl (k := 5) (by decide) rfl kF_X10_29 dX10_push_8 h191 (Nat.le_of_ble_eq_true rfl) rfl ?_
  refine mm_aload_n dX10_push_11 rfl rfl ?_
  refine mm_get3 (ci := 10) in_X10 rfl (k := 1) (by decide) rfl kF_X10_15 dX10_push_12 h191 (Nat.le_of_ble_eq_true rfl) rfl ?_
  refine mm_alen3 (v := 701) (fun _ => rfl) h192 (Nat.le_of_ble_eq_true rfl) rfl dX10_push_15 ?_
  refine mm_icmp_ge 55 dX10_push_16 (by decide) (fun h => absurd h (by decide)) (fun _ => ?_)
  refine mm_aload_n dX10_push_19 rfl rfl ?_
  refine mm_get3 (ci := 10) in_X10 rfl (k := 5) (by decide) rfl kF_X10_29 dX10_push_20 h191 (Nat.le_of_ble_eq_true rfl) rfl ?_
  refine mm_aload_n dX10_push_23 rfl rfl ?_
  refine mm_get3 (ci := 10) in_X10 rfl (k := 2) (by decide) rfl kF_X10_19 dX10_push_24 h191 (Nat.le_of_ble_eq_true rfl) rfl ?_
  refine mm_alen3 (v := 701) (fun _ => rfl) h193 (Nat.le_of_ble_eq_true rfl) rfl dX10_push_27 ?_
  refine mm_icmp_ge 55 dX10_push_28 (by decide) (fun h => absurd h (by decide)) (fun _ => ?_)
  refine mm_aload_n dX10_push_31 rfl rfl ?_
  refine mm_get3 (ci := 10) in_X10 rfl (k := 5) (by decide) rfl kF_X10_29 dX10_push_32 h191 (Nat.le_of_ble_eq_true rfl) rfl ?_
  refine mm_aload_n dX10_push_35 rfl rfl ?_
  refine mm_get3 (ci := 10) in_X10 rfl (k := 3) (by decide) rfl kF_X10_22 dX10_push_36 h191 (Nat.le_of_ble_eq_true rfl) rfl ?_
  refine mm_alen3 (v := 701) (fun _ => rfl) h194 (Nat.le_of_ble_eq_true rfl) rfl dX10_push_39 ?_
  refine mm_icmp_ge 55 dX10_push_40 (by decide) (fun h => absurd h (by decide)) (fun _ => ?_)
  refine mm_aload_n dX10_push_43 rfl rfl ?_
  refine mm_get3 (ci := 10) in_X10 rfl (k := 5) (by decide) rfl kF_X10_29 dX10_push_44 h191 (Nat.le_of_ble_eq_true rfl) rfl ?_
  refine mm_aload_n dX10_push_47 rfl rfl ?_
  refine mm_get3 (ci := 10) in_X10 rfl (k := 4) (by decide) rfl kF_X10_25 dX10_push_48 h191 (Nat.le_of_ble_eq_true rfl) rfl ?_
  refine mm_alen3 (v := 701) (fun _ => rfl) h195 (Nat.le_of_ble_eq_true rfl) rfl dX10_push_51 ?_
  refine mm_icmp_lt 57 dX10_push_52 (by decide) (fun _ => ?_) (fun h => absurd (by decide) h)
  refine mm_aload_n dX10_push_57 rfl rfl ?_
  refine mm_get3 (ci := 10) in_X10 rfl (k := 1) (by decide) rfl kF_X10_15 dX10_push_58 h191 (Nat.le_of_ble_eq_true rfl) rfl ?_
  refine mm_aload_n dX10_push_61 rfl rfl ?_
  refine mm_get3 (ci := 10) in_X10 rfl (k := 5) (by decide) rfl kF_X10_29 dX10_push_62 h191 (Nat.le_of_ble_eq_true rfl) rfl ?_
  refine mm_iload_n dX10_push_65 rfl ?_
  refine mm_iast3 h192 (Nat.le_of_ble_eq_true rfl) (by unfold vp_in; decide) dX10_push_66 ?_
  refine mm_aload_n dX10_push_67 rfl rfl ?_
  refine mm_get3 (ci := 10) in_X10 rfl (k := 2) (by decide) rfl kF_X10_19 dX10_push_68 (mm_upN (by decide) h191) (Nat.le_of_ble_eq_true rfl) rfl ?_
  refine mm_aload_n dX10_push_71 rfl rfl ?_
  refine mm_get3 (ci := 10) in_X10 rfl (k := 5) (by decide) rfl kF_X10_29 dX10_push_72 (mm_upN (by decide) h191) (Nat.le_of_ble_eq_true rfl) rfl ?_
  refine mm_iload_n dX10_push_75 rfl ?_
  refine mm_iast3 (mm_upN (by decide) h193) (Nat.le_of_ble_eq_true rfl) (by unfold vp_in; decide) dX10_push_76 ?_
  refine mm_aload_n dX10_push_77 rfl rfl ?_
  refine mm_get3 (ci := 10) in_X10 rfl (k := 3) (by decide) rfl kF_X10_22 dX10_push_78 (mm_upN (by decide) (mm_upN (by decide) h191)) (Nat.le_of_ble_eq_true rfl) rfl ?_
  refine mm_aload_n dX10_push_81 rfl rfl ?_
  refine mm_get3 (ci := 10) in_X10 rfl (k := 5) (by decide) rfl kF_X10_29 dX10_push_82 (mm_upN (by decide) (mm_upN (by decide) h191)) (Nat.le_of_ble_eq_true rfl) rfl ?_
  refine mm_iload_n dX10_push_85 rfl ?_
  refine mm_iast3 (mm_upN (by decide) (mm_upN (by decide) h194)) (Nat.le_of_ble_eq_true rfl) (by unfold vp_in; decide) dX10_push_86 ?_
  refine mm_aload_n dX10_push_87 rfl rfl ?_
  refine mm_get3 (ci := 10) in_X10 rfl (k := 4) (by decide) rfl kF_X10_25 dX10_push_88 (mm_upN (by decide) (mm_upN (by decide) (mm_upN (by decide) h191))) (Nat.le_of_ble_eq_true rfl) rfl ?_
  refine mm_aload_n dX10_push_91 rfl rfl ?_
  refine mm_get3 (ci := 10) in_X10 rfl (k := 5) (by decide) rfl kF_X10_29 dX10_push_92 (mm_upN (by decide) (mm_upN (by decide) (mm_upN (by decide) h191))) (Nat.le_of_ble_eq_true rfl) rfl ?_
  refine mm_lload dX10_push_95 rfl ?_
  refine mm_last3 (mm_upN (by decide) (mm_upN (by decide) (mm_upN (by decide) h195))) (Nat.le_of_ble_eq_true rfl) (by unfold vp_in; decide) dX10_push_97 ?_
  refine mm_aload_n dX10_push_98 rfl rfl ?_
  refine mm_dup dX10_push_99 rfl ?_
  refine mm_get3 (ci := 10) in_X10 rfl (k := 5) (by decide) rfl kF_X10_29 dX10_push_100 (mm_upN (by decide) (mm_upN (by decide) (mm_upN (by decide) (mm_upN (by decide) h191)))) (Nat.le_of_ble_eq_true rfl) rfl ?_
  refine mm_iconst (v := 1) dX10_push_103 (by decide) ?_
  refine mm_iadd dX10_push_104 ?_
  refine mm_put3 (ci := 10) (fs1 := [.ref 7, .ref 192, .ref 193, .ref 194, .ref 195, .int (0 + 1), .int 0, .int 0]) in_X10 tyX10_ok nmX10 rfl (k := 5) (by decide) rfl rfl kF_X10_29 dX10_push_105 (mm_fit_int _) (mm_upN (by decide) (mm_upN (by decide) (mm_upN (by decide) (mm_upN (by decide) h191)))) (Nat.le_of_ble_eq_true rfl) (Nat.le_of_ble_eq_true rfl) rfl ?_
  refine mm_iload_n dX10_push_108 rfl ?_
  refine mm_iconst (v := 5) dX10_push_109 (by decide) ?_
  refine mm_icmp_ne 117 dX10_push_110 (by decide) (fun _ => ?_) (fun h => absurd h (by decide))
  refine mm_iload_n dX10_push_117 rfl ?_
  refine mm_iret dX10_push_118 rfl rfl ?_ (by omega) (by omega)
  refine ⟨rfl, rfl, ?_⟩
  dsimp only
  exact ⟨(mm_upN (by decide) (mm_upN (by decide) (mm_upN (by decide) (mm_upN (by decide) mm_up_s)))), (mm_upN (by decide) (mm_upN (by decide) (mm_upN (by decide) mm_up_s))), (mm_upN (by decide) (mm_upN (by decide) mm_up_s)), (mm_upN (by decide) mm_up_s), mm_up_s, fun x e192 e193 e194 e195 e191 => mm_upN e191 (mm_upN e195 (mm_upN e194 (mm_upN e193 (mm_upN e192 (rfl)))))⟩

set_option maxHeartbeats 4000000 in
set_option maxRecDepth 100000 in
theorem k17_X10_addWord {g : mm_G} {l : Launch} (hst : l.stackTraces = false) {d : Nat} (M : Nat → mm_C) (h7 : M 7 = .inr (0, [.ref 8, .int 0, .int 0])) (h191 : M 191 = .inr (10, [.ref 7, .ref 192, .ref 193, .ref 194, .ref 195, .int 0, .int 0, .int 0])) (h192 : M 192 = .inl (0, 701, .inl (fun _ => 0))) (h193 : M 193 = .inl (0, 701, .inl (fun _ => 0))) (h194 : M 194 = .inl (0, 701, .inl (fun _ => 0))) (h195 : M 195 = .inl (1, 701, .inr (.inl (fun _ => 0)))) : mm_Cm g l yX10_addWord (.code yX10_addWord cX10_addWord 4 (some .int)) (d + 1) 0 0 [.ref 191, .int 0] (M, 1186, false) (fun v S' => v = some (.int 0) ∧ S'.2 = (1186, false) ∧ S'.1 192 = .inl (0, 701, .inl (upd (fun _ => 0) ((0 : Int32).toNatClampNeg) 0)) ∧ S'.1 193 = .inl (0, 701, .inl (upd (fun _ => 0) ((0 : Int32).toNatClampNeg) 0)) ∧ S'.1 194 = .inl (0, 701, .inl (upd (fun _ => 0) ((0 : Int32).toNatClampNeg) 0)) ∧ S'.1 195 = .inl (1, 701, .inr (.inl (vp_updL (fun _ => 0) ((0 : Int32).toNatClampNeg) (-1)))) ∧ S'.1 191 = .inr (10, [.ref 7, .ref 192, .ref 193, .ref 194, .ref 195, .int (0 + 1), .int 0, .int 0]) ∧ ∀ j, j ≠ 192 → j ≠ 193 → j ≠ 194 → j ≠ 195 → j ≠ 191 → S'.1 j = M j) := by
  refine mm_Cm_of hst (by decide) (Nat.le_of_ble_eq_true rfl) ?_
  show mm_V g l RX10 "addWord" cX10_addWord 4 (some .int) [] (d + 1) 0 0 _ 0 [some (.ref 191), some (.int 0), none, none] [] (M, 1186, false) 0 0
  refine mm_aload_n dX10_addWord_0 rfl rfl ?_
  refine mm_get3 (ci := 10) in_X10 rfl (k := 0) (by decide) rfl kF_X10_9 dX10_addWord_1 h191 (Nat.le_of_ble_eq_true rfl) rfl ?_
  refine mm_iload_n dX10_addWord_4 rfl ?_
  refine mm_callV3 (ci := 0) wM_X0_at kM_X10_55 wI_X0_at wS_X0_at dX10_addWord_5 (k18_X0_at hst _ h7) h7 (Nat.le_of_ble_eq_true rfl) rfl rfl rfl (Nat.le_of_ble_eq_true rfl) (by omega) (by omega) (fun v S9 hq => ?_)
  obtain ⟨rfl, rfl⟩ := hq
  refine ⟨fun h => ⟨h, rfl⟩, ?_⟩
  refine mm_istore_n [some (.ref 191), some (.int 0), some (.int (-1)), none] dX10_addWord_8 (by decide) rfl ?_
  refine mm_iload_n dX10_addWord_9 rfl ?_
  refine mm_if_ge 35 dX10_addWord_10 (by decide) (fun h => absurd h (by decide)) (fun _ => ?_)
  refine mm_aload_n dX10_addWord_13 rfl rfl ?_
  refine mm_aload_n dX10_addWord_14 rfl rfl ?_
  refine mm_get3 (ci := 10) in_X10 rfl (k := 7) (by decide) rfl kF_X10_44 dX10_addWord_15 h191 (Nat.le_of_ble_eq_true rfl) rfl ?_
  refine mm_if_eq 25 dX10_addWord_18 (by decide) (fun _ => ?_) (fun h => absurd (by decide) h)
  refine mm_iconst (v := 0) dX10_addWord_25 (by decide) ?_
  refine mm_iload_n dX10_addWord_26 rfl ?_
  refine mm_iload_n dX10_addWord_27 rfl ?_
  refine mm_ldc2 kL_X10_36 dX10_addWord_28 ?_
  refine mm_callV3 (ci := 10) wM_X10_push kM_X10_58 wI_X10_push wS_X10_push dX10_addWord_31 (k20_X10_push hst _ h191 h192 h193 h194 h195) h191 (Nat.le_of_ble_eq_true rfl) rfl rfl rfl (Nat.le_of_ble_eq_true rfl) (by omega) (by omega) (fun v S9 hq => ?_)
  obtain ⟨M21, z21⟩ := S9
  obtain ⟨rfl, hz21, g21_192, g21_193, g21_194, g21_195, g21_191, g21_F⟩ := hq
  cases hz21
  refine ⟨fun h => ⟨h, rfl⟩, ?_⟩
  refine mm_iret dX10_addWord_34 rfl rfl ?_ (by omega) (by omega)
  refine ⟨rfl, rfl, ?_⟩
  dsimp only
  exact ⟨g21_192, g21_193, g21_194, g21_195, g21_191, fun x e192 e193 e194 e195 e191 => mm_frN (g21_F _ e192 e193 e194 e195 e191 ) (rfl)⟩

set_option maxHeartbeats 4000000 in
set_option maxRecDepth 100000 in
theorem k12_X10_split {g : mm_G} {l : Launch} (hst : l.stackTraces = false) {d : Nat} (M : Nat → mm_C) (h7 : M 7 = .inr (0, [.ref 8, .int 0, .int 0])) (h191 : M 191 = .inr (10, [.ref 7, .ref 192, .ref 193, .ref 194, .ref 195, .int 0, .int 0, .int 0])) (h192 : M 192 = .inl (0, 701, .inl (fun _ => 0))) (h193 : M 193 = .inl (0, 701, .inl (fun _ => 0))) (h194 : M 194 = .inl (0, 701, .inl (fun _ => 0))) (h195 : M 195 = .inl (1, 701, .inr (.inl (fun _ => 0)))) : mm_Cm g l yX10_split (.code yX10_split cX10_split 4 none) (d + 2) 0 0 [.ref 191] (M, 1186, false) (fun v S' => v = none ∧ S'.2 = (1186, false) ∧ S'.1 191 = .inr (10, [.ref 7, .ref 192, .ref 193, .ref 194, .ref 195, .int (0 + 1), .int 0, .int 0]) ∧ S'.1 192 = .inl (0, 701, .inl (upd (fun _ => 0) ((0 : Int32).toNatClampNeg) 0)) ∧ S'.1 193 = .inl (0, 701, .inl (upd (fun _ => 0) ((0 : Int32).toNatClampNeg) 0)) ∧ S'.1 194 = .inl (0, 701, .inl (upd (fun _ => 0) ((0 : Int32).toNatClampNeg) 0)) ∧ S'.1 195 = .inl (1, 701, .inr (.inl (vp_updL (fun _ => 0) ((0 : Int32).toNatClampNeg) (-1)))) ∧ ∀ j, j ≠ 191 → j ≠ 192 → j ≠ 193 → j ≠ 194 → j ≠ 195 → S'.1 j = M j) := by
  refine mm_Cm_of hst (by decide) (Nat.le_of_ble_eq_true rfl) ?_
  show mm_V g l RX10 "split" cX10_split 4 none [] (d + 2) 0 0 _ 0 [some (.ref 191), none, none, none] [] (M, 1186, false) 0 0
  refine mm_aload_n dX10_split_0 rfl rfl ?_
  refine mm_iconst (v := 0) dX10_split_1 (by decide) ?_
  refine mm_put3 (ci := 10) (fs1 := [.ref 7, .ref 192, .ref 193, .ref 194, .ref 195, .int 0, .int 0, .int 0]) in_X10 tyX10_ok nmX10 rfl (k := 5) (by decide) rfl rfl kF_X10_29 dX10_split_2 (mm_fit_int _) h191 (Nat.le_of_ble_eq_true rfl) (Nat.le_of_ble_eq_true rfl) rfl ?_
  refine mm_aload_n dX10_split_5 rfl rfl ?_
  refine mm_aload_n dX10_split_6 rfl rfl ?_
  refine mm_get3 (ci := 10) in_X10 rfl (k := 0) (by decide) rfl kF_X10_9 dX10_split_7 mm_up_s (Nat.le_of_ble_eq_true rfl) rfl ?_
  refine mm_callV3 (ci := 0) wM_X0_size kM_X10_38 wI_X0_size wS_X0_size dX10_split_10 (k13_X0_size hst _ (mm_upN (by decide) h7)) (mm_upN (by decide) h7) (Nat.le_of_ble_eq_true rfl) rfl rfl rfl (Nat.le_of_ble_eq_true rfl) (by omega) (by omega) (fun v S9 hq => ?_)
  obtain ⟨rfl, rfl⟩ := hq
  refine ⟨fun h => ⟨h, rfl⟩, ?_⟩
  refine mm_put3 (ci := 10) (fs1 := [.ref 7, .ref 192, .ref 193, .ref 194, .ref 195, .int 0, .int 0, .int 0]) in_X10 tyX10_ok nmX10 rfl (k := 6) (by decide) rfl rfl kF_X10_33 dX10_split_13 (mm_fit_int _) mm_up_s (Nat.le_of_ble_eq_true rfl) (Nat.le_of_ble_eq_true rfl) rfl ?_
  refine mm_aload_n dX10_split_16 rfl rfl ?_
  refine mm_iconst (v := 0) dX10_split_17 (by decide) ?_
  refine mm_put3 (ci := 10) (fs1 := [.ref 7, .ref 192, .ref 193, .ref 194, .ref 195, .int 0, .int 0, .int 0]) in_X10 tyX10_ok nmX10 rfl (k := 7) (by decide) rfl rfl kF_X10_44 dX10_split_18 mm_fit_z0 mm_up_s (Nat.le_of_ble_eq_true rfl) (Nat.le_of_ble_eq_true rfl) rfl ?_
  refine mm_iconst (v := 0) dX10_split_21 (by decide) ?_
  refine mm_istore_n [some (.ref 191), some (.int 0), none, none] dX10_split_22 (by decide) rfl ?_
  refine mm_iconst (v := 0) dX10_split_23 (by decide) ?_
  refine mm_istore_n [some (.ref 191), some (.int 0), some (.int 0), none] dX10_split_24 (by decide) rfl ?_
  refine mm_iload_n dX10_split_25 rfl ?_
  refine mm_sipush (v := 700) dX10_split_26 (by decide) ?_
  refine mm_icmp_gt 56 dX10_split_29 (by decide) (fun h => absurd h (by decide)) (fun _ => ?_)
  refine mm_aload_n dX10_split_32 rfl rfl ?_
  refine mm_iload_n dX10_split_33 rfl ?_
  refine mm_callV3 (ci := 10) wM_X10_behindBlanks kM_X10_48 wI_X10_behindBlanks wS_X10_behindBlanks dX10_split_34 (k15_X10_behindBlanks hst _ mm_up_s) mm_up_s (Nat.le_of_ble_eq_true rfl) rfl rfl rfl (Nat.le_of_ble_eq_true rfl) (by omega) (by omega) (fun v S9 hq => ?_)
  obtain ⟨rfl, rfl⟩ := hq
  refine ⟨fun h => ⟨h, rfl⟩, ?_⟩
  refine mm_istore_n [some (.ref 191), some (.int 0), some (.int 0), some (.int 0)] dX10_split_37 (by decide) rfl ?_
  refine mm_aload_n dX10_split_38 rfl rfl ?_
  refine mm_iload_n dX10_split_39 rfl ?_
  refine mm_callV3 (ci := 10) wM_X10_addWord kM_X10_52 wI_X10_addWord wS_X10_addWord dX10_split_40 (k17_X10_addWord hst _ (mm_upN (by decide) (mm_upN (by decide) (mm_upN (by decide) h7))) mm_up_s (mm_upN (by decide) (mm_upN (by decide) (mm_upN (by decide) h192))) (mm_upN (by decide) (mm_upN (by decide) (mm_upN (by decide) h193))) (mm_upN (by decide) (mm_upN (by decide) (mm_upN (by decide) h194))) (mm_upN (by decide) (mm_upN (by decide) (mm_upN (by decide) h195)))) mm_up_s (Nat.le_of_ble_eq_true rfl) rfl rfl rfl (Nat.le_of_ble_eq_true rfl) (by omega) (by omega) (fun v S9 hq => ?_)
  obtain ⟨M22, z22⟩ := S9
  obtain ⟨rfl, hz22, g22_192, g22_193, g22_194, g22_195, g22_191, g22_F⟩ := hq
  cases hz22
  refine ⟨fun h => ⟨h, rfl⟩, ?_⟩
  refine mm_istore_n [some (.ref 191), some (.int 0), some (.int 0), some (.int 0)] dX10_split_43 (by decide) rfl ?_
  refine mm_iload_n dX10_split_44 rfl ?_
  refine mm_iload_n dX10_split_45 rfl ?_
  refine mm_icmp_gt 50 dX10_split_46 (by decide) (fun h => absurd h (by decide)) (fun _ => ?_)
  refine mm_vret dX10_split_49 rfl ?_ (by omega) (by omega)
  refine ⟨rfl, rfl, ?_⟩
  dsimp only
  exact ⟨g22_191, g22_192, g22_193, g22_194, g22_195, fun x e191 e192 e193 e194 e195 => mm_frN (g22_F _ e192 e193 e194 e195 e191 ) (mm_upN e191 (mm_upN e191 (mm_upN e191 (rfl))))⟩

set_option maxHeartbeats 4000000 in
set_option maxRecDepth 100000 in
theorem k27_X10_codeOf {g : mm_G} {l : Launch} (hst : l.stackTraces = false) {d : Nat} (M : Nat → mm_C) (h191 : M 191 = .inr (10, [.ref 7, .ref 192, .ref 193, .ref 194, .ref 195, .int (0 + 1), .int 0, .int 0])) (h192 : M 192 = .inl (0, 701, .inl (upd (fun _ => 0) ((0 : Int32).toNatClampNeg) 0))) (h195 : M 195 = .inl (1, 701, .inr (.inl (vp_updL (fun _ => 0) ((0 : Int32).toNatClampNeg) (-1))))) : mm_Cm g l yX10_codeOf (.code yX10_codeOf cX10_codeOf 3 (some .int)) d 0 0 [.ref 191, .int 0] (M, 1186, false) (fun v S' => v = some (.int (-1)) ∧ S' = (M, 1186, false)) := by
  refine mm_Cm_of hst (by decide) (Nat.le_of_ble_eq_true rfl) ?_
  show mm_V g l RX10 "codeOf" cX10_codeOf 3 (some .int) [] d 0 0 _ 0 [some (.ref 191), some (.int 0), none] [] (M, 1186, false) 0 0
  refine mm_iload_n dX10_codeOf_0 rfl ?_
  refine mm_if_lt 44 dX10_codeOf_1 (by decide) (fun h => absurd h (by decide)) (fun _ => ?_)
  refine mm_iload_n dX10_codeOf_4 rfl ?_
  refine mm_aload_n dX10_codeOf_5 rfl rfl ?_
  refine mm_get3 (ci := 10) in_X10 rfl (k := 5) (by decide) rfl kF_X10_29 dX10_codeOf_6 h191 (Nat.le_of_ble_eq_true rfl) rfl ?_
  refine mm_icmp_ge 44 dX10_codeOf_9 (by decide) (fun h => absurd h (by decide)) (fun _ => ?_)
  refine mm_iload_n dX10_codeOf_12 rfl ?_
  refine mm_aload_n dX10_codeOf_13 rfl rfl ?_
  refine mm_get3 (ci := 10) in_X10 rfl (k := 1) (by decide) rfl kF_X10_15 dX10_codeOf_14 h191 (Nat.le_of_ble_eq_true rfl) rfl ?_
  refine mm_alen3 (v := 701) (fun _ => rfl) h192 (Nat.le_of_ble_eq_true rfl) rfl dX10_codeOf_17 ?_
  refine mm_icmp_ge 44 dX10_codeOf_18 (by decide) (fun h => absurd h (by decide)) (fun _ => ?_)
  refine mm_iload_n dX10_codeOf_21 rfl ?_
  refine mm_aload_n dX10_codeOf_22 rfl rfl ?_
  refine mm_get3 (ci := 10) in_X10 rfl (k := 4) (by decide) rfl kF_X10_25 dX10_codeOf_23 h191 (Nat.le_of_ble_eq_true rfl) rfl ?_
  refine mm_alen3 (v := 701) (fun _ => rfl) h195 (Nat.le_of_ble_eq_true rfl) rfl dX10_codeOf_26 ?_
  refine mm_icmp_ge 44 dX10_codeOf_27 (by decide) (fun h => absurd h (by decide)) (fun _ => ?_)
  refine mm_aload_n dX10_codeOf_30 rfl rfl ?_
  refine mm_get3 (ci := 10) in_X10 rfl (k := 1) (by decide) rfl kF_X10_15 dX10_codeOf_31 h191 (Nat.le_of_ble_eq_true rfl) rfl ?_
  refine mm_iload_n dX10_codeOf_34 rfl ?_
  refine mm_iald3 h192 (Nat.le_of_ble_eq_true rfl) (by unfold vp_in; decide) dX10_codeOf_35 ?_
  refine mm_iconst (v := 1) dX10_codeOf_36 (by decide) ?_
  refine mm_icmp_ne 44 dX10_codeOf_37 (by decide) (fun _ => ?_) (fun h => absurd h (by decide))
  refine mm_iconst (v := 0) dX10_codeOf_44 (by decide) ?_
  refine mm_istore_n [some (.ref 191), some (.int 0), some (.int 0)] dX10_codeOf_45 (by decide) rfl ?_
  refine mm_iload_n dX10_codeOf_46 rfl ?_
  refine mm_if_eq 60 dX10_codeOf_47 (by decide) (fun _ => ?_) (fun h => absurd (by decide) h)
  refine mm_iconst (v := (-1)) dX10_codeOf_60 (by decide) ?_
  refine mm_iret dX10_codeOf_61 rfl rfl ?_ (by omega) (by omega)
  exact ⟨rfl, rfl⟩

set_option maxHeartbeats 4000000 in
set_option maxRecDepth 100000 in
theorem k26_X5_takesWord {g : mm_G} {l : Launch} (hst : l.stackTraces = false) {d : Nat} (M : Nat → mm_C) (h191 : M 191 = .inr (10, [.ref 7, .ref 192, .ref 193, .ref 194, .ref 195, .int (0 + 1), .int 0, .int 0])) (h192 : M 192 = .inl (0, 701, .inl (upd (fun _ => 0) ((0 : Int32).toNatClampNeg) 0))) (h195 : M 195 = .inl (1, 701, .inr (.inl (vp_updL (fun _ => 0) ((0 : Int32).toNatClampNeg) (-1))))) (h196 : M 196 = .inr (5, [.ref 6, .ref 191, .null, .null, .null, .int 0, .int 0, .int 1])) : mm_Cm g l yX5_takesWord (.code yX5_takesWord cX5_takesWord 2 (some .boolean)) (d + 1) 0 0 [.ref 196, .int 24] (M, 1186, false) (fun v S' => v = some (.int 0) ∧ S' = (M, 1186, false)) := by
  refine mm_Cm_of hst (by decide) (Nat.le_of_ble_eq_true rfl) ?_
  show mm_V g l RX5 "takesWord" cX5_takesWord 2 (some .boolean) [] (d + 1) 0 0 _ 0 [some (.ref 196), some (.int 24)] [] (M, 1186, false) 0 0
  refine mm_aload_n dX5_takesWord_0 rfl rfl ?_
  refine mm_get3 (ci := 5) in_X5 rfl (k := 1) (by decide) rfl kF_X5_15 dX5_takesWord_1 h196 (Nat.le_of_ble_eq_true rfl) rfl ?_
  refine mm_aload_n dX5_takesWord_4 rfl rfl ?_
  refine mm_get3 (ci := 5) in_X5 rfl (k := 6) (by decide) rfl kF_X5_29 dX5_takesWord_5 h196 (Nat.le_of_ble_eq_true rfl) rfl ?_
  refine mm_callV3 (ci := 10) wM_X10_codeOf kM_X5_69 wI_X10_codeOf wS_X10_codeOf dX5_takesWord_8 (k27_X10_codeOf hst _ h191 h192 h195) h191 (Nat.le_of_ble_eq_true rfl) rfl rfl rfl (Nat.le_of_ble_eq_true rfl) (by omega) (by omega) (fun v S9 hq => ?_)
  obtain ⟨rfl, rfl⟩ := hq
  refine ⟨fun h => ⟨h, rfl⟩, ?_⟩
  refine mm_iload_n dX5_takesWord_11 rfl ?_
  refine mm_icmp_eq 17 dX5_takesWord_12 (by decide) (fun h => absurd h (by decide)) (fun _ => ?_)
  refine mm_iconst (v := 0) dX5_takesWord_15 (by decide) ?_
  refine mm_iret dX5_takesWord_16 rfl rfl ?_ (by omega) (by omega)
  exact ⟨rfl, rfl⟩

set_option maxHeartbeats 4000000 in
set_option maxRecDepth 100000 in
theorem k25_X5_readSyntax {g : mm_G} {l : Launch} (hst : l.stackTraces = false) {d : Nat} (M : Nat → mm_C) (h191 : M 191 = .inr (10, [.ref 7, .ref 192, .ref 193, .ref 194, .ref 195, .int (0 + 1), .int 0, .int 0])) (h192 : M 192 = .inl (0, 701, .inl (upd (fun _ => 0) ((0 : Int32).toNatClampNeg) 0))) (h195 : M 195 = .inl (1, 701, .inr (.inl (vp_updL (fun _ => 0) ((0 : Int32).toNatClampNeg) (-1))))) (h196 : M 196 = .inr (5, [.ref 6, .ref 191, .null, .null, .null, .int 0, .int 0, .int 1])) : mm_Cm g l yX5_readSyntax (.code yX5_readSyntax cX5_readSyntax 1 (some .boolean)) (d + 2) 0 0 [.ref 196] (M, 1186, false) (fun v S' => v = some (.int 0) ∧ S' = (M, 1186, false)) := by
  refine mm_Cm_of hst (by decide) (Nat.le_of_ble_eq_true rfl) ?_
  show mm_V g l RX5 "readSyntax" cX5_readSyntax 1 (some .boolean) [] (d + 2) 0 0 _ 0 [some (.ref 196)] [] (M, 1186, false) 0 0
  refine mm_aload_n dX5_readSyntax_0 rfl rfl ?_
  refine mm_bipush (v := 24) dX5_readSyntax_1 (by decide) ?_
  refine mm_callV3 (ci := 5) wM_X5_takesWord kM_X5_72 wI_X5_takesWord wS_X5_takesWord dX5_readSyntax_3 (k26_X5_takesWord hst _ h191 h192 h195 h196) h196 (Nat.le_of_ble_eq_true rfl) rfl rfl rfl (Nat.le_of_ble_eq_true rfl) (by omega) (by omega) (fun v S9 hq => ?_)
  obtain ⟨rfl, rfl⟩ := hq
  refine ⟨fun h => ⟨h, rfl⟩, ?_⟩
  refine mm_if_eq 18 dX5_readSyntax_6 (by decide) (fun _ => ?_) (fun h => absurd (by decide) h)
  refine mm_iconst (v := 0) dX5_readSyntax_18 (by decide) ?_
  refine mm_iret dX5_readSyntax_19 rfl rfl ?_ (by omega) (by omega)
  exact ⟨rfl, rfl⟩

set_option maxHeartbeats 4000000 in
set_option maxRecDepth 100000 in
theorem k31_X10_count {g : mm_G} {l : Launch} (hst : l.stackTraces = false) {d : Nat} (M : Nat → mm_C) (h191 : M 191 = .inr (10, [.ref 7, .ref 192, .ref 193, .ref 194, .ref 195, .int (0 + 1), .int 0, .int 0])) : mm_Cm g l yX10_count (.code yX10_count cX10_count 1 (some .int)) d 0 0 [.ref 191] (M, 1186, false) (fun v S' => v = some (.int (0 + 1)) ∧ S' = (M, 1186, false)) := by
  refine mm_Cm_of hst (by decide) (Nat.le_of_ble_eq_true rfl) ?_
  show mm_V g l RX10 "count" cX10_count 1 (some .int) [] d 0 0 _ 0 [some (.ref 191)] [] (M, 1186, false) 0 0
  refine mm_aload_n dX10_count_0 rfl rfl ?_
  refine mm_get3 (ci := 10) in_X10 rfl (k := 5) (by decide) rfl kF_X10_29 dX10_count_1 h191 (Nat.le_of_ble_eq_true rfl) rfl ?_
  refine mm_iret dX10_count_4 rfl rfl ?_ (by omega) (by omega)
  exact ⟨rfl, rfl⟩

set_option maxHeartbeats 4000000 in
set_option maxRecDepth 100000 in
theorem k24_X5_read {g : mm_G} {l : Launch} (hst : l.stackTraces = false) {d : Nat} (M : Nat → mm_C) (h191 : M 191 = .inr (10, [.ref 7, .ref 192, .ref 193, .ref 194, .ref 195, .int (0 + 1), .int 0, .int 0])) (h192 : M 192 = .inl (0, 701, .inl (upd (fun _ => 0) ((0 : Int32).toNatClampNeg) 0))) (h195 : M 195 = .inl (1, 701, .inr (.inl (vp_updL (fun _ => 0) ((0 : Int32).toNatClampNeg) (-1))))) (h196 : M 196 = .inr (5, [.ref 6, .ref 191, .null, .null, .null, .int 0, .int 0, .int 0])) : mm_Cm g l yX5_read (.code yX5_read cX5_read 3 (some .int)) (d + 3) 0 0 [.ref 196] (M, 1186, false) (fun v S' => v = some (.int 1) ∧ S'.2 = (1186, false) ∧ S'.1 196 = .inr (5, [.ref 6, .ref 191, .null, .null, .null, .int 0, .int 0, .int 1]) ∧ ∀ j, j ≠ 196 → S'.1 j = M j) := by
  refine mm_Cm_of hst (by decide) (Nat.le_of_ble_eq_true rfl) ?_
  show mm_V g l RX5 "read" cX5_read 3 (some .int) [] (d + 3) 0 0 _ 0 [some (.ref 196), none, none] [] (M, 1186, false) 0 0
  refine mm_aload_n dX5_read_0 rfl rfl ?_
  refine mm_null dX5_read_1 ?_
  refine mm_put3 (ci := 5) (fs1 := [.ref 6, .ref 191, .null, .null, .null, .int 0, .int 0, .int 0]) in_X5 tyX5_ok nmX5 rfl (k := 2) (by decide) rfl rfl kF_X5_19 dX5_read_2 (mm_fit_null _) h196 (Nat.le_of_ble_eq_true rfl) (Nat.le_of_ble_eq_true rfl) rfl ?_
  refine mm_aload_n dX5_read_5 rfl rfl ?_
  refine mm_null dX5_read_6 ?_
  refine mm_put3 (ci := 5) (fs1 := [.ref 6, .ref 191, .null, .null, .null, .int 0, .int 0, .int 0]) in_X5 tyX5_ok nmX5 rfl (k := 3) (by decide) rfl rfl kF_X5_23 dX5_read_7 (mm_fit_null _) mm_up_s (Nat.le_of_ble_eq_true rfl) (Nat.le_of_ble_eq_true rfl) rfl ?_
  refine mm_aload_n dX5_read_10 rfl rfl ?_
  refine mm_null dX5_read_11 ?_
  refine mm_put3 (ci := 5) (fs1 := [.ref 6, .ref 191, .null, .null, .null, .int 0, .int 0, .int 0]) in_X5 tyX5_ok nmX5 rfl (k := 4) (by decide) rfl rfl kF_X5_26 dX5_read_12 (mm_fit_null _) mm_up_s (Nat.le_of_ble_eq_true rfl) (Nat.le_of_ble_eq_true rfl) rfl ?_
  refine mm_aload_n dX5_read_15 rfl rfl ?_
  refine mm_iconst (v := 0) dX5_read_16 (by decide) ?_
  refine mm_put3 (ci := 5) (fs1 := [.ref 6, .ref 191, .null, .null, .null, .int 0, .int 0, .int 0]) in_X5 tyX5_ok nmX5 rfl (k := 6) (by decide) rfl rfl kF_X5_29 dX5_read_17 (mm_fit_int _) mm_up_s (Nat.le_of_ble_eq_true rfl) (Nat.le_of_ble_eq_true rfl) rfl ?_
  refine mm_aload_n dX5_read_20 rfl rfl ?_
  refine mm_iconst (v := 1) dX5_read_21 (by decide) ?_
  refine mm_put3 (ci := 5) (fs1 := [.ref 6, .ref 191, .null, .null, .null, .int 0, .int 0, .int 1]) in_X5 tyX5_ok nmX5 rfl (k := 7) (by decide) rfl rfl kF_X5_33 dX5_read_22 (mm_fit_int _) mm_up_s (Nat.le_of_ble_eq_true rfl) (Nat.le_of_ble_eq_true rfl) rfl ?_
  refine mm_aload_n dX5_read_25 rfl rfl ?_
  refine mm_callV3 (ci := 5) wM_X5_readSyntax kM_X5_36 wI_X5_readSyntax wS_X5_readSyntax dX5_read_26 (k25_X5_readSyntax hst _ (mm_upN (by decide) (mm_upN (by decide) (mm_upN (by decide) (mm_upN (by decide) (mm_upN (by decide) h191))))) (mm_upN (by decide) (mm_upN (by decide) (mm_upN (by decide) (mm_upN (by decide) (mm_upN (by decide) h192))))) (mm_upN (by decide) (mm_upN (by decide) (mm_upN (by decide) (mm_upN (by decide) (mm_upN (by decide) h195))))) mm_up_s) mm_up_s (Nat.le_of_ble_eq_true rfl) rfl rfl rfl (Nat.le_of_ble_eq_true rfl) (by omega) (by omega) (fun v S9 hq => ?_)
  obtain ⟨rfl, rfl⟩ := hq
  refine ⟨fun h => ⟨h, rfl⟩, ?_⟩
  refine mm_istore_n [some (.ref 196), some (.int 0), none] dX5_read_29 (by decide) rfl ?_
  refine mm_iconst (v := 0) dX5_read_30 (by decide) ?_
  refine mm_istore_n [some (.ref 196), some (.int 0), some (.int 0)] dX5_read_31 (by decide) rfl ?_
  refine mm_iload_n dX5_read_32 rfl ?_
  refine mm_aload_n dX5_read_33 rfl rfl ?_
  refine mm_get3 (ci := 5) in_X5 rfl (k := 1) (by decide) rfl kF_X5_15 dX5_read_34 mm_up_s (Nat.le_of_ble_eq_true rfl) rfl ?_
  refine mm_callV3 (ci := 10) wM_X10_count kM_X5_40 wI_X10_count wS_X10_count dX5_read_37 (k31_X10_count hst _ (mm_upN (by decide) (mm_upN (by decide) (mm_upN (by decide) (mm_upN (by decide) (mm_upN (by decide) h191)))))) (mm_upN (by decide) (mm_upN (by decide) (mm_upN (by decide) (mm_upN (by decide) (mm_upN (by decide) h191))))) (Nat.le_of_ble_eq_true rfl) rfl rfl rfl (Nat.le_of_ble_eq_true rfl) (by omega) (by omega) (fun v S9 hq => ?_)
  obtain ⟨rfl, rfl⟩ := hq
  refine ⟨fun h => ⟨h, rfl⟩, ?_⟩
  refine mm_icmp_ge 93 dX5_read_40 (by decide) (fun h => absurd h (by decide)) (fun _ => ?_)
  refine mm_iload_n dX5_read_43 rfl ?_
  refine mm_if_eq 93 dX5_read_44 (by decide) (fun _ => ?_) (fun h => absurd (by decide) h)
  refine mm_iload_n dX5_read_93 rfl ?_
  refine mm_if_eq 108 dX5_read_94 (by decide) (fun _ => ?_) (fun h => absurd (by decide) h)
  refine mm_aload_n dX5_read_108 rfl rfl ?_
  refine mm_get3 (ci := 5) in_X5 rfl (k := 7) (by decide) rfl kF_X5_33 dX5_read_109 mm_up_s (Nat.le_of_ble_eq_true rfl) rfl ?_
  refine mm_iret dX5_read_112 rfl rfl ?_ (by omega) (by omega)
  refine ⟨rfl, rfl, ?_⟩
  dsimp only
  exact ⟨mm_up_s, fun x e196 => mm_upN e196 (mm_upN e196 (mm_upN e196 (mm_upN e196 (mm_upN e196 (rfl)))))⟩

set_option maxHeartbeats 4000000 in
set_option maxRecDepth 100000 in
theorem k35_X10_startOf {g : mm_G} {l : Launch} (hst : l.stackTraces = false) {d : Nat} (M : Nat → mm_C) (h191 : M 191 = .inr (10, [.ref 7, .ref 192, .ref 193, .ref 194, .ref 195, .int (0 + 1), .int 0, .int 0])) (h193 : M 193 = .inl (0, 701, .inl (upd (fun _ => 0) ((0 : Int32).toNatClampNeg) 0))) : mm_Cm g l yX10_startOf (.code yX10_startOf cX10_startOf 2 (some .int)) d 0 0 [.ref 191, .int 0] (M, 1186, false) (fun v S' => v = some (.int ((upd (fun _ => 0) ((0 : Int32).toNatClampNeg) 0) (0 : Int32).toNatClampNeg)) ∧ S' = (M, 1186, false)) := by
  refine mm_Cm_of hst (by decide) (Nat.le_of_ble_eq_true rfl) ?_
  show mm_V g l RX10 "startOf" cX10_startOf 2 (some .int) [] d 0 0 _ 0 [some (.ref 191), some (.int 0)] [] (M, 1186, false) 0 0
  refine mm_iload_n dX10_startOf_0 rfl ?_
  refine mm_if_lt 30 dX10_startOf_1 (by decide) (fun h => absurd h (by decide)) (fun _ => ?_)
  refine mm_iload_n dX10_startOf_4 rfl ?_
  refine mm_aload_n dX10_startOf_5 rfl rfl ?_
  refine mm_get3 (ci := 10) in_X10 rfl (k := 5) (by decide) rfl kF_X10_29 dX10_startOf_6 h191 (Nat.le_of_ble_eq_true rfl) rfl ?_
  refine mm_icmp_ge 30 dX10_startOf_9 (by decide) (fun h => absurd h (by decide)) (fun _ => ?_)
  refine mm_iload_n dX10_startOf_12 rfl ?_
  refine mm_aload_n dX10_startOf_13 rfl rfl ?_
  refine mm_get3 (ci := 10) in_X10 rfl (k := 2) (by decide) rfl kF_X10_19 dX10_startOf_14 h191 (Nat.le_of_ble_eq_true rfl) rfl ?_
  refine mm_alen3 (v := 701) (fun _ => rfl) h193 (Nat.le_of_ble_eq_true rfl) rfl dX10_startOf_17 ?_
  refine mm_icmp_ge 30 dX10_startOf_18 (by decide) (fun h => absurd h (by decide)) (fun _ => ?_)
  refine mm_aload_n dX10_startOf_21 rfl rfl ?_
  refine mm_get3 (ci := 10) in_X10 rfl (k := 2) (by decide) rfl kF_X10_19 dX10_startOf_22 h191 (Nat.le_of_ble_eq_true rfl) rfl ?_
  refine mm_iload_n dX10_startOf_25 rfl ?_
  refine mm_iald3 h193 (Nat.le_of_ble_eq_true rfl) (by unfold vp_in; decide) dX10_startOf_26 ?_
  refine mm_goto 34 dX10_startOf_27 (by decide) ?_
  refine mm_iret dX10_startOf_34 rfl rfl ?_ (by omega) (by omega)
  exact ⟨rfl, rfl⟩

set_option maxHeartbeats 4000000 in
set_option maxRecDepth 100000 in
theorem k34_X5_endPlace {g : mm_G} {l : Launch} (hst : l.stackTraces = false) {d : Nat} (M : Nat → mm_C) (h191 : M 191 = .inr (10, [.ref 7, .ref 192, .ref 193, .ref 194, .ref 195, .int (0 + 1), .int 0, .int 0])) (h193 : M 193 = .inl (0, 701, .inl (upd (fun _ => 0) ((0 : Int32).toNatClampNeg) 0))) (h196 : M 196 = .inr (5, [.ref 6, .ref 191, .null, .null, .null, .int 0, .int 0, .int 1])) : mm_Cm g l yX5_endPlace (.code yX5_endPlace cX5_endPlace 1 (some .int)) (d + 1) 0 0 [.ref 196] (M, 1186, false) (fun v S' => v = some (.int ((upd (fun _ => 0) ((0 : Int32).toNatClampNeg) 0) (0 : Int32).toNatClampNeg)) ∧ S' = (M, 1186, false)) := by
  refine mm_Cm_of hst (by decide) (Nat.le_of_ble_eq_true rfl) ?_
  show mm_V g l RX5 "endPlace" cX5_endPlace 1 (some .int) [] (d + 1) 0 0 _ 0 [some (.ref 196)] [] (M, 1186, false) 0 0
  refine mm_aload_n dX5_endPlace_0 rfl rfl ?_
  refine mm_get3 (ci := 5) in_X5 rfl (k := 1) (by decide) rfl kF_X5_15 dX5_endPlace_1 h196 (Nat.le_of_ble_eq_true rfl) rfl ?_
  refine mm_aload_n dX5_endPlace_4 rfl rfl ?_
  refine mm_get3 (ci := 5) in_X5 rfl (k := 6) (by decide) rfl kF_X5_29 dX5_endPlace_5 h196 (Nat.le_of_ble_eq_true rfl) rfl ?_
  refine mm_callV3 (ci := 10) wM_X10_startOf kM_X5_58 wI_X10_startOf wS_X10_startOf dX5_endPlace_8 (k35_X10_startOf hst _ h191 h193) h191 (Nat.le_of_ble_eq_true rfl) rfl rfl rfl (Nat.le_of_ble_eq_true rfl) (by omega) (by omega) (fun v S9 hq => ?_)
  obtain ⟨rfl, rfl⟩ := hq
  refine ⟨fun h => ⟨h, rfl⟩, ?_⟩
  refine mm_iret dX5_endPlace_11 rfl rfl ?_ (by omega) (by omega)
  exact ⟨rfl, rfl⟩

set_option maxHeartbeats 4000000 in
set_option maxRecDepth 100000 in
theorem k38_X6_used {g : mm_G} {l : Launch} (hst : l.stackTraces = false) {d : Nat} (M : Nat → mm_C) (h6 : M 6 = .inr (6, [.ref 7, .ref 9, .ref 190, .int 0, .int 0])) : mm_Cm g l yX6_used (.code yX6_used cX6_used 1 (some .int)) d 0 0 [.ref 6] (M, 1186, false) (fun v S' => v = some (.int 0) ∧ S' = (M, 1186, false)) := by
  refine mm_Cm_of hst (by decide) (Nat.le_of_ble_eq_true rfl) ?_
  show mm_V g l RX6 "used" cX6_used 1 (some .int) [] d 0 0 _ 0 [some (.ref 6)] [] (M, 1186, false) 0 0
  refine mm_aload_n dX6_used_0 rfl rfl ?_
  refine mm_get3 (ci := 6) in_X6 rfl (k := 3) (by decide) rfl kF_X6_34 dX6_used_1 h6 (Nat.le_of_ble_eq_true rfl) rfl ?_
  refine mm_iret dX6_used_4 rfl rfl ?_ (by omega) (by omega)
  exact ⟨rfl, rfl⟩

set_option maxHeartbeats 4000000 in
set_option maxRecDepth 100000 in
theorem k40_X6_clear {g : mm_G} {l : Launch} (hst : l.stackTraces = false) {d : Nat} (M : Nat → mm_C) (h6 : M 6 = .inr (6, [.ref 7, .ref 9, .ref 190, .int 0, .int 0])) (h7 : M 7 = .inr (0, [.ref 8, .int 0, .int 0])) (h190 : M 190 = .inl (0, 5, .inl (upd (upd (upd (upd (upd (fun _ => 0) ((0 : Int32).toNatClampNeg) 0) ((1 : Int32).toNatClampNeg) 0) ((2 : Int32).toNatClampNeg) 0) ((3 : Int32).toNatClampNeg) 0) ((4 : Int32).toNatClampNeg) 0))) : mm_Cm g l yX6_clear (.code yX6_clear cX6_clear 2 none) (d + 1) 0 0 [.ref 6] (M, 1186, false) (fun v S' => v = none ∧ S'.2 = (1186, false) ∧ S'.1 7 = .inr (0, [.ref 8, .int 0, .int 0]) ∧ S'.1 6 = .inr (6, [.ref 7, .ref 9, .ref 190, .int 0, .int 0]) ∧ S'.1 190 = .inl (0, 5, .inl (upd (upd (upd (upd (upd (upd (upd (upd (upd (upd (fun _ => 0) ((0 : Int32).toNatClampNeg) 0) ((1 : Int32).toNatClampNeg) 0) ((2 : Int32).toNatClampNeg) 0) ((3 : Int32).toNatClampNeg) 0) ((4 : Int32).toNatClampNeg) 0) ((0 : Int32).toNatClampNeg) 0) ((1 : Int32).toNatClampNeg) 0) ((2 : Int32).toNatClampNeg) 0) ((3 : Int32).toNatClampNeg) 0) ((4 : Int32).toNatClampNeg) 0)) ∧ ∀ j, j ≠ 7 → j ≠ 6 → j ≠ 190 → S'.1 j = M j) := by
  refine mm_Cm_of hst (by decide) (Nat.le_of_ble_eq_true rfl) ?_
  show mm_V g l RX6 "clear" cX6_clear 2 none [] (d + 1) 0 0 _ 0 [some (.ref 6), none] [] (M, 1186, false) 0 0
  refine mm_aload_n dX6_clear_0 rfl rfl ?_
  refine mm_get3 (ci := 6) in_X6 rfl (k := 0) (by decide) rfl kF_X6_14 dX6_clear_1 h6 (Nat.le_of_ble_eq_true rfl) rfl ?_
  refine mm_callV3 (ci := 0) wM_X0_clear kM_X6_31 wI_X0_clear wS_X0_clear dX6_clear_4 (k3_X0_clear hst _ h7) h7 (Nat.le_of_ble_eq_true rfl) rfl rfl rfl (Nat.le_of_ble_eq_true rfl) (by omega) (by omega) (fun v S9 hq => ?_)
  obtain ⟨M41, z41⟩ := S9
  obtain ⟨rfl, hz41, g41_7, g41_F⟩ := hq
  cases hz41
  refine ⟨fun h => ⟨h, rfl⟩, ?_⟩
  refine mm_aload_n dX6_clear_7 rfl rfl ?_
  refine mm_iconst (v := 0) dX6_clear_8 (by decide) ?_
  refine mm_put3 (ci := 6) (fs1 := [.ref 7, .ref 9, .ref 190, .int 0, .int 0]) in_X6 tyX6_ok nmX6 rfl (k := 3) (by decide) rfl rfl kF_X6_34 dX6_clear_9 (mm_fit_int _) (mm_frN (g41_F _ (by decide)) h6) (Nat.le_of_ble_eq_true rfl) (Nat.le_of_ble_eq_true rfl) rfl ?_
  refine mm_aload_n dX6_clear_12 rfl rfl ?_
  refine mm_iconst (v := 0) dX6_clear_13 (by decide) ?_
  refine mm_put3 (ci := 6) (fs1 := [.ref 7, .ref 9, .ref 190, .int 0, .int 0]) in_X6 tyX6_ok nmX6 rfl (k := 4) (by decide) rfl rfl kF_X6_38 dX6_clear_14 (mm_fit_int _) mm_up_s (Nat.le_of_ble_eq_true rfl) (Nat.le_of_ble_eq_true rfl) rfl ?_
  refine mm_iconst (v := 0) dX6_clear_17 (by decide) ?_
  refine mm_istore_n [some (.ref 6), some (.int 0)] dX6_clear_18 (by decide) rfl ?_
  refine mm_iload_n dX6_clear_19 rfl ?_
  refine mm_aload_n dX6_clear_20 rfl rfl ?_
  refine mm_get3 (ci := 6) in_X6 rfl (k := 2) (by decide) rfl kF_X6_27 dX6_clear_21 mm_up_s (Nat.le_of_ble_eq_true rfl) rfl ?_
  refine mm_alen3 (v := 5) (fun _ => rfl) (mm_upN (by decide) (mm_upN (by decide) (mm_frN (g41_F _ (by decide)) h190))) (Nat.le_of_ble_eq_true rfl) rfl dX6_clear_24 ?_
  refine mm_icmp_ge 41 dX6_clear_25 (by decide) (fun h => absurd h (by decide)) (fun _ => ?_)
  refine mm_aload_n dX6_clear_28 rfl rfl ?_
  refine mm_get3 (ci := 6) in_X6 rfl (k := 2) (by decide) rfl kF_X6_27 dX6_clear_29 mm_up_s (Nat.le_of_ble_eq_true rfl) rfl ?_
  refine mm_iload_n dX6_clear_32 rfl ?_
  refine mm_iconst (v := 0) dX6_clear_33 (by decide) ?_
  refine mm_iast3 (mm_upN (by decide) (mm_upN (by decide) (mm_frN (g41_F _ (by decide)) h190))) (Nat.le_of_ble_eq_true rfl) (by unfold vp_in; decide) dX6_clear_34 ?_
  refine mm_iinc (v := 1) [some (.ref 6), some (.int 1)] dX6_clear_35 rfl (by decide) (by decide) rfl ?_
  refine mm_goto 19 dX6_clear_38 (by decide) ?_
  refine mm_iload_n dX6_clear_19 rfl ?_
  refine mm_aload_n dX6_clear_20 rfl rfl ?_
  refine mm_get3 (ci := 6) in_X6 rfl (k := 2) (by decide) rfl kF_X6_27 dX6_clear_21 (mm_upN (by decide) mm_up_s) (Nat.le_of_ble_eq_true rfl) rfl ?_
  refine mm_alen3 (v := 5) (fun _ => rfl) mm_up_s (Nat.le_of_ble_eq_true rfl) rfl dX6_clear_24 ?_
  refine mm_icmp_ge 41 dX6_clear_25 (by decide) (fun h => absurd h (by decide)) (fun _ => ?_)
  refine mm_aload_n dX6_clear_28 rfl rfl ?_
  refine mm_get3 (ci := 6) in_X6 rfl (k := 2) (by decide) rfl kF_X6_27 dX6_clear_29 (mm_upN (by decide) mm_up_s) (Nat.le_of_ble_eq_true rfl) rfl ?_
  refine mm_iload_n dX6_clear_32 rfl ?_
  refine mm_iconst (v := 0) dX6_clear_33 (by decide) ?_
  refine mm_iast3 mm_up_s (Nat.le_of_ble_eq_true rfl) (by unfold vp_in; decide) dX6_clear_34 ?_
  refine mm_iinc (v := 2) [some (.ref 6), some (.int 2)] dX6_clear_35 rfl (by decide) (by decide) rfl ?_
  refine mm_goto 19 dX6_clear_38 (by decide) ?_
  refine mm_iload_n dX6_clear_19 rfl ?_
  refine mm_aload_n dX6_clear_20 rfl rfl ?_
  refine mm_get3 (ci := 6) in_X6 rfl (k := 2) (by decide) rfl kF_X6_27 dX6_clear_21 (mm_upN (by decide) (mm_upN (by decide) mm_up_s)) (Nat.le_of_ble_eq_true rfl) rfl ?_
  refine mm_alen3 (v := 5) (fun _ => rfl) mm_up_s (Nat.le_of_ble_eq_true rfl) rfl dX6_clear_24 ?_
  refine mm_icmp_ge 41 dX6_clear_25 (by decide) (fun h => absurd h (by decide)) (fun _ => ?_)
  refine mm_aload_n dX6_clear_28 rfl rfl ?_
  refine mm_get3 (ci := 6) in_X6 rfl (k := 2) (by decide) rfl kF_X6_27 dX6_clear_29 (mm_upN (by decide) (mm_upN (by decide) mm_up_s)) (Nat.le_of_ble_eq_true rfl) rfl ?_
  refine mm_iload_n dX6_clear_32 rfl ?_
  refine mm_iconst (v := 0) dX6_clear_33 (by decide) ?_
  refine mm_iast3 mm_up_s (Nat.le_of_ble_eq_true rfl) (by unfold vp_in; decide) dX6_clear_34 ?_
  refine mm_iinc (v := 3) [some (.ref 6), some (.int 3)] dX6_clear_35 rfl (by decide) (by decide) rfl ?_
  refine mm_goto 19 dX6_clear_38 (by decide) ?_
  refine mm_iload_n dX6_clear_19 rfl ?_
  refine mm_aload_n dX6_clear_20 rfl rfl ?_
  refine mm_get3 (ci := 6) in_X6 rfl (k := 2) (by decide) rfl kF_X6_27 dX6_clear_21 (mm_upN (by decide) (mm_upN (by decide) (mm_upN (by decide) mm_up_s))) (Nat.le_of_ble_eq_true rfl) rfl ?_
  refine mm_alen3 (v := 5) (fun _ => rfl) mm_up_s (Nat.le_of_ble_eq_true rfl) rfl dX6_clear_24 ?_
  refine mm_icmp_ge 41 dX6_clear_25 (by decide) (fun h => absurd h (by decide)) (fun _ => ?_)
  refine mm_aload_n dX6_clear_28 rfl rfl ?_
  refine mm_get3 (ci := 6) in_X6 rfl (k := 2) (by decide) rfl kF_X6_27 dX6_clear_29 (mm_upN (by decide) (mm_upN (by decide) (mm_upN (by decide) mm_up_s))) (Nat.le_of_ble_eq_true rfl) rfl ?_
  refine mm_iload_n dX6_clear_32 rfl ?_
  refine mm_iconst (v := 0) dX6_clear_33 (by decide) ?_
  refine mm_iast3 mm_up_s (Nat.le_of_ble_eq_true rfl) (by unfold vp_in; decide) dX6_clear_34 ?_
  refine mm_iinc (v := 4) [some (.ref 6), some (.int 4)] dX6_clear_35 rfl (by decide) (by decide) rfl ?_
  refine mm_goto 19 dX6_clear_38 (by decide) ?_
  refine mm_iload_n dX6_clear_19 rfl ?_
  refine mm_aload_n dX6_clear_20 rfl rfl ?_
  refine mm_get3 (ci := 6) in_X6 rfl (k := 2) (by decide) rfl kF_X6_27 dX6_clear_21 (mm_upN (by decide) (mm_upN (by decide) (mm_upN (by decide) (mm_upN (by decide) mm_up_s)))) (Nat.le_of_ble_eq_true rfl) rfl ?_
  refine mm_alen3 (v := 5) (fun _ => rfl) mm_up_s (Nat.le_of_ble_eq_true rfl) rfl dX6_clear_24 ?_
  refine mm_icmp_ge 41 dX6_clear_25 (by decide) (fun h => absurd h (by decide)) (fun _ => ?_)
  refine mm_aload_n dX6_clear_28 rfl rfl ?_
  refine mm_get3 (ci := 6) in_X6 rfl (k := 2) (by decide) rfl kF_X6_27 dX6_clear_29 (mm_upN (by decide) (mm_upN (by decide) (mm_upN (by decide) (mm_upN (by decide) mm_up_s)))) (Nat.le_of_ble_eq_true rfl) rfl ?_
  refine mm_iload_n dX6_clear_32 rfl ?_
  refine mm_iconst (v := 0) dX6_clear_33 (by decide) ?_
  refine mm_iast3 mm_up_s (Nat.le_of_ble_eq_true rfl) (by unfold vp_in; decide) dX6_clear_34 ?_
  refine mm_iinc (v := 5) [some (.ref 6), some (.int 5)] dX6_clear_35 rfl (by decide) (by decide) rfl ?_
  refine mm_goto 19 dX6_clear_38 (by decide) ?_
  refine mm_iload_n dX6_clear_19 rfl ?_
  refine mm_aload_n dX6_clear_20 rfl rfl ?_
  refine mm_get3 (ci := 6) in_X6 rfl (k := 2) (by decide) rfl kF_X6_27 dX6_clear_21 (mm_upN (by decide) (mm_upN (by decide) (mm_upN (by decide) (mm_upN (by decide) (mm_upN (by decide) mm_up_s))))) (Nat.le_of_ble_eq_true rfl) rfl ?_
  refine mm_alen3 (v := 5) (fun _ => rfl) mm_up_s (Nat.le_of_ble_eq_true rfl) rfl dX6_clear_24 ?_
  refine mm_icmp_ge 41 dX6_clear_25 (by decide) (fun _ => ?_) (fun h => absurd (by decide) h)
  refine mm_vret dX6_clear_41 rfl ?_ (by omega) (by omega)
  refine ⟨rfl, rfl, ?_⟩
  dsimp only
  exact ⟨(mm_upN (by decide) (mm_upN (by decide) (mm_upN (by decide) (mm_upN (by decide) (mm_upN (by decide) (mm_upN (by decide) (mm_upN (by decide) g41_7))))))), (mm_upN (by decide) (mm_upN (by decide) (mm_upN (by decide) (mm_upN (by decide) (mm_upN (by decide) mm_up_s))))), mm_up_s, fun x e7 e6 e190 => mm_upN e190 (mm_upN e190 (mm_upN e190 (mm_upN e190 (mm_upN e190 (mm_upN e6 (mm_upN e6 (mm_frN (g41_F _ e7 ) (rfl))))))))⟩

set_option maxHeartbeats 4000000 in
set_option maxRecDepth 100000 in
theorem k1_X2_run {g : mm_G} {l : Launch} (hst : l.stackTraces = false) {d : Nat} (M : Nat → mm_C) (h1 : M 1 = .inr (0, [.ref 2, .int 0, .int 0])) (h5 : M 5 = .inr (2, [.ref 6, .ref 191, .ref 196, .int 0, .int 0])) (h6 : M 6 = .inr (6, [.ref 7, .ref 9, .ref 190, .int 0, .int 0])) (h7 : M 7 = .inr (0, [.ref 8, .int 0, .int 0])) (h190 : M 190 = .inl (0, 5, .inl (fun _ => 0))) (h191 : M 191 = .inr (10, [.ref 7, .ref 192, .ref 193, .ref 194, .ref 195, .int 0, .int 0, .int 0])) (h192 : M 192 = .inl (0, 701, .inl (fun _ => 0))) (h193 : M 193 = .inl (0, 701, .inl (fun _ => 0))) (h194 : M 194 = .inl (0, 701, .inl (fun _ => 0))) (h195 : M 195 = .inl (1, 701, .inr (.inl (fun _ => 0)))) (h196 : M 196 = .inr (5, [.ref 6, .ref 191, .null, .null, .null, .int 0, .int 0, .int 0])) : mm_Cm g l yX2_run (.code yX2_run cX2_run 3 (some .int)) (d + 4) 0 0 [.ref 5, .ref 1] (M, 1186, false) (fun v S' => v = some (.int 1) ∧ S'.2 = (1186, false) ∧ S'.1 7 = .inr (0, [.ref 8, .int 0, .int 0]) ∧ S'.1 6 = .inr (6, [.ref 7, .ref 9, .ref 190, .int 0, .int 0]) ∧ S'.1 190 = .inl (0, 5, .inl (upd (upd (upd (upd (upd (upd (upd (upd (upd (upd (fun _ => 0) ((0 : Int32).toNatClampNeg) 0) ((1 : Int32).toNatClampNeg) 0) ((2 : Int32).toNatClampNeg) 0) ((3 : Int32).toNatClampNeg) 0) ((4 : Int32).toNatClampNeg) 0) ((0 : Int32).toNatClampNeg) 0) ((1 : Int32).toNatClampNeg) 0) ((2 : Int32).toNatClampNeg) 0) ((3 : Int32).toNatClampNeg) 0) ((4 : Int32).toNatClampNeg) 0)) ∧ S'.1 191 = .inr (10, [.ref 7, .ref 192, .ref 193, .ref 194, .ref 195, .int (0 + 1), .int 0, .int 0]) ∧ S'.1 192 = .inl (0, 701, .inl (upd (fun _ => 0) ((0 : Int32).toNatClampNeg) 0)) ∧ S'.1 193 = .inl (0, 701, .inl (upd (fun _ => 0) ((0 : Int32).toNatClampNeg) 0)) ∧ S'.1 194 = .inl (0, 701, .inl (upd (fun _ => 0) ((0 : Int32).toNatClampNeg) 0)) ∧ S'.1 195 = .inl (1, 701, .inr (.inl (vp_updL (fun _ => 0) ((0 : Int32).toNatClampNeg) (-1)))) ∧ S'.1 196 = .inr (5, [.ref 6, .ref 191, .null, .null, .null, .int 0, .int 0, .int 1]) ∧ S'.1 5 = .inr (2, [.ref 6, .ref 191, .ref 196, .int 1, .int ((upd (fun _ => 0) ((0 : Int32).toNatClampNeg) 0) (0 : Int32).toNatClampNeg)]) ∧ ∀ j, j ≠ 7 → j ≠ 6 → j ≠ 190 → j ≠ 191 → j ≠ 192 → j ≠ 193 → j ≠ 194 → j ≠ 195 → j ≠ 196 → j ≠ 5 → S'.1 j = M j) := by
  refine mm_Cm_of hst (by decide) (Nat.le_of_ble_eq_true rfl) ?_
  show mm_V g l RX2 "run" cX2_run 3 (some .int) [] (d + 4) 0 0 _ 0 [some (.ref 5), some (.ref 1), none] [] (M, 1186, false) 0 0
  refine mm_aload_n dX2_run_0 rfl rfl ?_
  refine mm_get3 (ci := 2) in_X2 rfl (k := 0) (by decide) rfl kF_X2_12 dX2_run_1 h5 (Nat.le_of_ble_eq_true rfl) rfl ?_
  refine mm_callV3 (ci := 6) wM_X6_clear kM_X2_44 wI_X6_clear wS_X6_clear dX2_run_4 (k2_X6_clear hst _ h6 h7 h190) h6 (Nat.le_of_ble_eq_true rfl) rfl rfl rfl (Nat.le_of_ble_eq_true rfl) (by omega) (by omega) (fun v S9 hq => ?_)
  obtain ⟨M5, z5⟩ := S9
  obtain ⟨rfl, hz5, g5_7, g5_6, g5_190, g5_F⟩ := hq
  cases hz5
  refine ⟨fun h => ⟨h, rfl⟩, ?_⟩
  refine mm_aload_n dX2_run_7 rfl rfl ?_
  refine mm_get3 (ci := 2) in_X2 rfl (k := 0) (by decide) rfl kF_X2_12 dX2_run_8 (mm_frN (g5_F _ (by decide) (by decide) (by decide)) h5) (Nat.le_of_ble_eq_true rfl) rfl ?_
  refine mm_callV3 (ci := 6) wM_X6_text kM_X2_20 wI_X6_text wS_X6_text dX2_run_11 (k6_X6_text hst _ g5_6) g5_6 (Nat.le_of_ble_eq_true rfl) rfl rfl rfl (Nat.le_of_ble_eq_true rfl) (by omega) (by omega) (fun v S9 hq => ?_)
  obtain ⟨rfl, rfl⟩ := hq
  refine ⟨fun h => ⟨h, rfl⟩, ?_⟩
  refine mm_aload_n dX2_run_14 rfl rfl ?_
  refine mm_iconst (v := 0) dX2_run_15 (by decide) ?_
  refine mm_aload_n dX2_run_16 rfl rfl ?_
  refine mm_callV3 (ci := 0) wM_X0_size kM_X2_47 wI_X0_size wS_X0_size dX2_run_17 (k8_X0_size hst _ (mm_frN (g5_F _ (by decide) (by decide) (by decide)) h1)) (mm_frN (g5_F _ (by decide) (by decide) (by decide)) h1) (Nat.le_of_ble_eq_true rfl) rfl rfl rfl (Nat.le_of_ble_eq_true rfl) (by omega) (by omega) (fun v S9 hq => ?_)
  obtain ⟨rfl, rfl⟩ := hq
  refine ⟨fun h => ⟨h, rfl⟩, ?_⟩
  refine mm_callV3 (ci := 0) wM_X0_addAll kM_X2_53 wI_X0_addAll wS_X0_addAll dX2_run_20 (k10_X0_addAll hst _ ) g5_7 (Nat.le_of_ble_eq_true rfl) rfl rfl rfl (Nat.le_of_ble_eq_true rfl) (by omega) (by omega) (fun v S9 hq => ?_)
  obtain ⟨rfl, rfl⟩ := hq
  refine ⟨fun h => ⟨h, rfl⟩, ?_⟩
  refine mm_aload_n dX2_run_23 rfl rfl ?_
  refine mm_get3 (ci := 2) in_X2 rfl (k := 1) (by decide) rfl kF_X2_27 dX2_run_24 (mm_frN (g5_F _ (by decide) (by decide) (by decide)) h5) (Nat.le_of_ble_eq_true rfl) rfl ?_
  refine mm_callV3 (ci := 10) wM_X10_split kM_X2_57 wI_X10_split wS_X10_split dX2_run_27 (k12_X10_split hst _ g5_7 (mm_frN (g5_F _ (by decide) (by decide) (by decide)) h191) (mm_frN (g5_F _ (by decide) (by decide) (by decide)) h192) (mm_frN (g5_F _ (by decide) (by decide) (by decide)) h193) (mm_frN (g5_F _ (by decide) (by decide) (by decide)) h194) (mm_frN (g5_F _ (by decide) (by decide) (by decide)) h195)) (mm_frN (g5_F _ (by decide) (by decide) (by decide)) h191) (Nat.le_of_ble_eq_true rfl) rfl rfl rfl (Nat.le_of_ble_eq_true rfl) (by omega) (by omega) (fun v S9 hq => ?_)
  obtain ⟨M23, z23⟩ := S9
  obtain ⟨rfl, hz23, g23_191, g23_192, g23_193, g23_194, g23_195, g23_F⟩ := hq
  cases hz23
  refine ⟨fun h => ⟨h, rfl⟩, ?_⟩
  refine mm_aload_n dX2_run_30 rfl rfl ?_
  refine mm_aload_n dX2_run_31 rfl rfl ?_
  refine mm_get3 (ci := 2) in_X2 rfl (k := 2) (by decide) rfl kF_X2_36 dX2_run_32 (mm_frN (g23_F _ (by decide) (by decide) (by decide) (by decide) (by decide)) (mm_frN (g5_F _ (by decide) (by decide) (by decide)) h5)) (Nat.le_of_ble_eq_true rfl) rfl ?_
  refine mm_callV3 (ci := 5) wM_X5_read kM_X2_60 wI_X5_read wS_X5_read dX2_run_35 (k24_X5_read hst _ g23_191 g23_192 g23_195 (mm_frN (g23_F _ (by decide) (by decide) (by decide) (by decide) (by decide)) (mm_frN (g5_F _ (by decide) (by decide) (by decide)) h196))) (mm_frN (g23_F _ (by decide) (by decide) (by decide) (by decide) (by decide)) (mm_frN (g5_F _ (by decide) (by decide) (by decide)) h196)) (Nat.le_of_ble_eq_true rfl) rfl rfl rfl (Nat.le_of_ble_eq_true rfl) (by omega) (by omega) (fun v S9 hq => ?_)
  obtain ⟨M33, z33⟩ := S9
  obtain ⟨rfl, hz33, g33_196, g33_F⟩ := hq
  cases hz33
  refine ⟨fun h => ⟨h, rfl⟩, ?_⟩
  refine mm_put3 (ci := 2) (fs1 := [.ref 6, .ref 191, .ref 196, .int 1, .int 0]) in_X2 tyX2_ok nmX2 rfl (k := 3) (by decide) rfl rfl kF_X2_63 dX2_run_38 (mm_fit_int _) (mm_frN (g33_F _ (by decide)) (mm_frN (g23_F _ (by decide) (by decide) (by decide) (by decide) (by decide)) (mm_frN (g5_F _ (by decide) (by decide) (by decide)) h5))) (Nat.le_of_ble_eq_true rfl) (Nat.le_of_ble_eq_true rfl) rfl ?_
  refine mm_aload_n dX2_run_41 rfl rfl ?_
  refine mm_aload_n dX2_run_42 rfl rfl ?_
  refine mm_get3 (ci := 2) in_X2 rfl (k := 3) (by decide) rfl kF_X2_63 dX2_run_43 mm_up_s (Nat.le_of_ble_eq_true rfl) rfl ?_
  refine mm_if_ne 53 dX2_run_46 (by decide) (fun _ => ?_) (fun h => absurd h (by decide))
  refine mm_aload_n dX2_run_53 rfl rfl ?_
  refine mm_get3 (ci := 2) in_X2 rfl (k := 2) (by decide) rfl kF_X2_36 dX2_run_54 mm_up_s (Nat.le_of_ble_eq_true rfl) rfl ?_
  refine mm_callV3 (ci := 5) wM_X5_endPlace kM_X2_66 wI_X5_endPlace wS_X5_endPlace dX2_run_57 (k34_X5_endPlace hst _ (mm_upN (by decide) (mm_frN (g33_F _ (by decide)) g23_191)) (mm_upN (by decide) (mm_frN (g33_F _ (by decide)) g23_193)) (mm_upN (by decide) g33_196)) (mm_upN (by decide) g33_196) (Nat.le_of_ble_eq_true rfl) rfl rfl rfl (Nat.le_of_ble_eq_true rfl) (by omega) (by omega) (fun v S9 hq => ?_)
  obtain ⟨rfl, rfl⟩ := hq
  refine ⟨fun h => ⟨h, rfl⟩, ?_⟩
  refine mm_put3 (ci := 2) (fs1 := [.ref 6, .ref 191, .ref 196, .int 1, .int ((upd (fun _ => 0) ((0 : Int32).toNatClampNeg) 0) (0 : Int32).toNatClampNeg)]) in_X2 tyX2_ok nmX2 rfl (k := 4) (by decide) rfl rfl kF_X2_40 dX2_run_60 (mm_fit_int _) mm_up_s (Nat.le_of_ble_eq_true rfl) (Nat.le_of_ble_eq_true rfl) rfl ?_
  refine mm_iconst (v := 0) dX2_run_63 (by decide) ?_
  refine mm_istore_n [some (.ref 5), some (.ref 1), some (.int 0)] dX2_run_64 (by decide) rfl ?_
  refine mm_iload_n dX2_run_65 rfl ?_
  refine mm_aload_n dX2_run_66 rfl rfl ?_
  refine mm_get3 (ci := 2) in_X2 rfl (k := 0) (by decide) rfl kF_X2_12 dX2_run_67 mm_up_s (Nat.le_of_ble_eq_true rfl) rfl ?_
  refine mm_callV3 (ci := 6) wM_X6_used kM_X2_69 wI_X6_used wS_X6_used dX2_run_70 (k38_X6_used hst _ (mm_upN (by decide) (mm_upN (by decide) (mm_frN (g33_F _ (by decide)) (mm_frN (g23_F _ (by decide) (by decide) (by decide) (by decide) (by decide)) g5_6))))) (mm_upN (by decide) (mm_upN (by decide) (mm_frN (g33_F _ (by decide)) (mm_frN (g23_F _ (by decide) (by decide) (by decide) (by decide) (by decide)) g5_6)))) (Nat.le_of_ble_eq_true rfl) rfl rfl rfl (Nat.le_of_ble_eq_true rfl) (by omega) (by omega) (fun v S9 hq => ?_)
  obtain ⟨rfl, rfl⟩ := hq
  refine ⟨fun h => ⟨h, rfl⟩, ?_⟩
  refine mm_icmp_ge 102 dX2_run_73 (by decide) (fun _ => ?_) (fun h => absurd (by decide) h)
  refine mm_aload_n dX2_run_102 rfl rfl ?_
  refine mm_get3 (ci := 2) in_X2 rfl (k := 3) (by decide) rfl kF_X2_63 dX2_run_103 mm_up_s (Nat.le_of_ble_eq_true rfl) rfl ?_
  refine mm_if_ne 126 dX2_run_106 (by decide) (fun _ => ?_) (fun h => absurd h (by decide))
  refine mm_aload_n dX2_run_126 rfl rfl ?_
  refine mm_get3 (ci := 2) in_X2 rfl (k := 3) (by decide) rfl kF_X2_63 dX2_run_127 mm_up_s (Nat.le_of_ble_eq_true rfl) rfl ?_
  refine mm_if_eq 140 dX2_run_130 (by decide) (fun h => absurd h (by decide)) (fun _ => ?_)
  refine mm_aload_n dX2_run_133 rfl rfl ?_
  refine mm_get3 (ci := 2) in_X2 rfl (k := 0) (by decide) rfl kF_X2_12 dX2_run_134 mm_up_s (Nat.le_of_ble_eq_true rfl) rfl ?_
  refine mm_callV3 (ci := 6) wM_X6_clear kM_X2_44 wI_X6_clear wS_X6_clear dX2_run_137 (k40_X6_clear hst _ (mm_upN (by decide) (mm_upN (by decide) (mm_frN (g33_F _ (by decide)) (mm_frN (g23_F _ (by decide) (by decide) (by decide) (by decide) (by decide)) g5_6)))) (mm_upN (by decide) (mm_upN (by decide) (mm_frN (g33_F _ (by decide)) (mm_frN (g23_F _ (by decide) (by decide) (by decide) (by decide) (by decide)) g5_7)))) (mm_upN (by decide) (mm_upN (by decide) (mm_frN (g33_F _ (by decide)) (mm_frN (g23_F _ (by decide) (by decide) (by decide) (by decide) (by decide)) g5_190))))) (mm_upN (by decide) (mm_upN (by decide) (mm_frN (g33_F _ (by decide)) (mm_frN (g23_F _ (by decide) (by decide) (by decide) (by decide) (by decide)) g5_6)))) (Nat.le_of_ble_eq_true rfl) rfl rfl rfl (Nat.le_of_ble_eq_true rfl) (by omega) (by omega) (fun v S9 hq => ?_)
  obtain ⟨M42, z42⟩ := S9
  obtain ⟨rfl, hz42, g42_7, g42_6, g42_190, g42_F⟩ := hq
  cases hz42
  refine ⟨fun h => ⟨h, rfl⟩, ?_⟩
  refine mm_aload_n dX2_run_140 rfl rfl ?_
  refine mm_get3 (ci := 2) in_X2 rfl (k := 3) (by decide) rfl kF_X2_63 dX2_run_141 (mm_frN (g42_F _ (by decide) (by decide) (by decide)) mm_up_s) (Nat.le_of_ble_eq_true rfl) rfl ?_
  refine mm_iret dX2_run_144 rfl rfl ?_ (by omega) (by omega)
  refine ⟨rfl, rfl, ?_⟩
  dsimp only
  exact ⟨g42_7, g42_6, g42_190, (mm_frN (g42_F _ (by decide) (by decide) (by decide)) (mm_upN (by decide) (mm_upN (by decide) (mm_frN (g33_F _ (by decide)) g23_191)))), (mm_frN (g42_F _ (by decide) (by decide) (by decide)) (mm_upN (by decide) (mm_upN (by decide) (mm_frN (g33_F _ (by decide)) g23_192)))), (mm_frN (g42_F _ (by decide) (by decide) (by decide)) (mm_upN (by decide) (mm_upN (by decide) (mm_frN (g33_F _ (by decide)) g23_193)))), (mm_frN (g42_F _ (by decide) (by decide) (by decide)) (mm_upN (by decide) (mm_upN (by decide) (mm_frN (g33_F _ (by decide)) g23_194)))), (mm_frN (g42_F _ (by decide) (by decide) (by decide)) (mm_upN (by decide) (mm_upN (by decide) (mm_frN (g33_F _ (by decide)) g23_195)))), (mm_frN (g42_F _ (by decide) (by decide) (by decide)) (mm_upN (by decide) (mm_upN (by decide) g33_196))), (mm_frN (g42_F _ (by decide) (by decide) (by decide)) mm_up_s), fun x e7 e6 e190 e191 e192 e193 e194 e195 e196 e5 => mm_frN (g42_F _ e7 e6 e190 ) (mm_upN e5 (mm_upN e5 (mm_frN (g33_F _ e196 ) (mm_frN (g23_F _ e191 e192 e193 e194 e195 ) (mm_frN (g5_F _ e7 e6 e190 ) (rfl))))))⟩
