set_option maxHeartbeats 4000000 in
set_option maxRecDepth 100000 in
theorem c_X3_init {g : mm_G} {l : Launch} (hst : l.stackTraces = false) {d : Nat} (a : Nat) (S : mm_S) : mm_Cm g l yX3_init (.code yX3_init cX3_init 1 none) d 0 0 [.ref a] S (fun v S' => v = none ∧ S' = S) := by
  refine mm_Cm_of hst (by decide) (Nat.le_of_ble_eq_true rfl) ?_
  show mm_V g l RX3 "<init>" cX3_init 1 none [] d 0 0 _ 0 [some (.ref a)] [] S 0 0
  refine mm_aload_n dX3_init_0 rfl rfl ?_
  refine mm_oinit kM_X3_3 wO_i wO_c (Nat.le_of_ble_eq_true rfl) dX3_init_1 ?_
  refine mm_vret dX3_init_4 rfl ?_ (by omega) (by omega)
  exact ⟨rfl, rfl⟩

set_option maxHeartbeats 4000000 in
set_option maxRecDepth 100000 in
theorem c_X4_init {g : mm_G} {l : Launch} (hst : l.stackTraces = false) {d : Nat} (a : Nat) (S : mm_S) : mm_Cm g l yX4_init (.code yX4_init cX4_init 1 none) d 0 0 [.ref a] S (fun v S' => v = none ∧ S' = S) := by
  refine mm_Cm_of hst (by decide) (Nat.le_of_ble_eq_true rfl) ?_
  show mm_V g l RX4 "<init>" cX4_init 1 none [] d 0 0 _ 0 [some (.ref a)] [] S 0 0
  refine mm_aload_n dX4_init_0 rfl rfl ?_
  refine mm_oinit kM_X4_3 wO_i wO_c (Nat.le_of_ble_eq_true rfl) dX4_init_1 ?_
  refine mm_vret dX4_init_4 rfl ?_ (by omega) (by omega)
  exact ⟨rfl, rfl⟩

set_option maxHeartbeats 4000000 in
set_option maxRecDepth 100000 in
theorem c_X0_init {g : mm_G} {l : Launch} (hst : l.stackTraces = false) {d : Nat} (a n N : Nat) (M : Nat → mm_C) (k : Int32) (hk : ¬ k < 0) (hN : k.toNatClampNeg = N) (hb : N * 1 ≤ 536870912) (ha : a < n) (hm : M a = .inr (0, [.null, .int 0, .int 0])) : mm_Cm g l yX0_init (.code yX0_init cX0_init 2 none) d 1 N [.ref a, .int k] (M, n, false) (fun v S' => v = none ∧ S' = (mm_up (mm_up M n (.inl (2, N, .inl (fun _ => 0)))) a (.inr (0, [.ref n, .int 0, .int 0])), n + 1, false)) := by
  refine mm_Cm_of hst (by decide) (Nat.le_of_ble_eq_true rfl) ?_
  show mm_V g l RX0 "<init>" cX0_init 2 none [] d 1 N _ 0 [some (.ref a), some (.int k)] [] (M, n, false) 0 0
  refine mm_aload_n dX0_init_0 rfl rfl ?_
  refine mm_oinit kM_X0_1 wO_i wO_c (Nat.le_of_ble_eq_true rfl) dX0_init_1 ?_
  refine mm_aload_n dX0_init_4 rfl rfl ?_
  refine mm_iload_n dX0_init_5 rfl ?_
  refine mm_iconst (v := 0) dX0_init_6 (by decide) ?_
  refine mm_mmax kX_X0_7 (Nat.le_of_ble_eq_true rfl) (by omega) (by omega) dX0_init_7 ?_
  rw [if_neg hk]
  refine mm_newa3 (atype := .byte) (n1 := n + 1) (t := 2) (N := N) (cl := .inl (2, N, .inl (fun _ => 0))) (a0 := (N, .inl (fun _ => 0))) (fun _ => rfl) (fun _ => rfl) wA_byte rfl (fun _ => rfl) hk hN hb (by omega) (by omega) dX0_init_10 rfl ?_
  refine mm_putF3 (ci := 0) (fs1 := [.ref n, .int 0, .int 0]) in_X0 tyX0_ok nmX0 rfl (k := 0) (by decide) rfl rfl rfl rfl kF_X0_13 dX0_init_12 (mm_fit_arr _ _) (mm_upN (Nat.ne_of_lt ha) hm) (Nat.lt_succ_of_lt ha) (Nat.le_of_ble_eq_true rfl) rfl ?_
  refine mm_vret dX0_init_15 rfl ?_ (by omega) (by omega)
  exact ⟨rfl, rfl⟩

set_option maxHeartbeats 4000000 in
set_option maxRecDepth 100000 in
theorem c_X0_size {g : mm_G} {l : Launch} (hst : l.stackTraces = false) {d : Nat} (a r n : Nat) (z : Bool) (M : Nat → mm_C) (x p : Int32) (ha : a < n) (hm : M a = .inr (0, [.ref r, .int x, .int p])) : mm_Cm g l yX0_size (.code yX0_size cX0_size 1 (some .int)) d 0 0 [.ref a] (M, n, z) (fun v S' => v = some (.int x) ∧ S' = (M, n, z)) := by
  refine mm_Cm_of hst (by decide) (Nat.le_of_ble_eq_true rfl) ?_
  show mm_V g l RX0 "size" cX0_size 1 (some .int) [] d 0 0 _ 0 [some (.ref a)] [] (M, n, z) 0 0
  refine mm_aload_n dX0_size_0 rfl rfl ?_
  refine mm_get3 (ci := 0) in_X0 rfl (k := 1) (by decide) rfl kF_X0_19 dX0_size_1 hm ha rfl ?_
  refine mm_iret dX0_size_4 rfl rfl ?_ (by omega) (by omega)
  exact ⟨rfl, rfl⟩

set_option maxHeartbeats 4000000 in
set_option maxRecDepth 100000 in
theorem c_X0_isSpilt {g : mm_G} {l : Launch} (hst : l.stackTraces = false) {d : Nat} (a r n : Nat) (z : Bool) (M : Nat → mm_C) (x p : Int32) (ha : a < n) (hp : narrow .boolean (.int p) = .int p) (hm : M a = .inr (0, [.ref r, .int x, .int p])) : mm_Cm g l yX0_isSpilt (.code yX0_isSpilt cX0_isSpilt 1 (some .boolean)) d 0 0 [.ref a] (M, n, z) (fun v S' => v = some (.int p) ∧ S' = (M, n, z)) := by
  refine mm_Cm_of hst (by decide) (Nat.le_of_ble_eq_true rfl) ?_
  show mm_V g l RX0 "isSpilt" cX0_isSpilt 1 (some .boolean) [] d 0 0 _ 0 [some (.ref a)] [] (M, n, z) 0 0
  refine mm_aload_n dX0_isSpilt_0 rfl rfl ?_
  refine mm_get3 (ci := 0) in_X0 rfl (k := 2) (by decide) rfl kF_X0_23 dX0_isSpilt_1 hm ha rfl ?_
  refine mm_iret dX0_isSpilt_4 rfl hp ?_ (by omega) (by omega)
  exact ⟨rfl, rfl⟩

set_option maxHeartbeats 4000000 in
set_option maxRecDepth 100000 in
theorem c_X0_clear {g : mm_G} {l : Launch} (hst : l.stackTraces = false) {d : Nat} (a r n : Nat) (z : Bool) (M : Nat → mm_C) (x p : Int32) (ha : a < n) (hm : M a = .inr (0, [.ref r, .int x, .int p])) : mm_Cm g l yX0_clear (.code yX0_clear cX0_clear 1 none) d 0 0 [.ref a] (M, n, z) (fun v S' => v = none ∧ S' = (mm_up (mm_up M a (.inr (0, [.ref r, .int 0, .int p]))) a (.inr (0, [.ref r, .int 0, .int 0])), n, z)) := by
  refine mm_Cm_of hst (by decide) (Nat.le_of_ble_eq_true rfl) ?_
  show mm_V g l RX0 "clear" cX0_clear 1 none [] d 0 0 _ 0 [some (.ref a)] [] (M, n, z) 0 0
  refine mm_aload_n dX0_clear_0 rfl rfl ?_
  refine mm_iconst (v := 0) dX0_clear_1 (by decide) ?_
  refine mm_put3 (ci := 0) (fs1 := [.ref r, .int 0, .int p]) in_X0 tyX0_ok nmX0 rfl (k := 1) (by decide) rfl rfl kF_X0_19 dX0_clear_2 (mm_fit_int _) hm ha (Nat.le_of_ble_eq_true rfl) rfl ?_
  refine mm_aload_n dX0_clear_5 rfl rfl ?_
  refine mm_iconst (v := 0) dX0_clear_6 (by decide) ?_
  refine mm_put3 (ci := 0) (fs1 := [.ref r, .int 0, .int 0]) in_X0 tyX0_ok nmX0 rfl (k := 2) (by decide) rfl rfl kF_X0_23 dX0_clear_7 mm_fit_z0 mm_up_s ha (Nat.le_of_ble_eq_true rfl) rfl ?_
  refine mm_vret dX0_clear_10 rfl ?_ (by omega) (by omega)
  exact ⟨rfl, rfl⟩
