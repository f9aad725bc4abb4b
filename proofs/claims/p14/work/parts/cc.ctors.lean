def IT0 : mm_C := .inr (3, [.int 0, .int 0, .null, .null, .int 0, .int 0, .long 0, .int 0, .int 0, .int 0, .null, .int 0, .int 0, .int 0, .int 0, .null, .null])
def ND0 : mm_C := .inr (4, [.null, .null, .null, .null, .long 0, .int 0, .int 0])

def q_X6_init (M0 : Nat → mm_C) (a n : Nat) (v : Option Value) (S' : mm_S) : Prop := v = none ∧ S'.2 = (n + 184, false) ∧ S'.1 a = .inr (6, [.ref n, .ref (n + 2), .ref (n + 183), .int 0, .int 0]) ∧ S'.1 n = .inr (0, [.ref (n + 1), .int 0, .int 0]) ∧ S'.1 (n + 1) = .inl (2, 700, .inl (fun _ => 0)) ∧
  (∃ f : Nat → Option Nat, S'.1 (n + 2) = .inl (4, 180, .inr (.inr f)) ∧ ∀ i, i < 180 → f i = some (n + 3 + i)) ∧ (∀ i, i < 180 → S'.1 (n + 3 + i) = IT0) ∧ S'.1 (n + 183) = .inl (0, 5, .inl (fun _ => 0)) ∧ ∀ j, j < n → j ≠ a → S'.1 j = M0 j

set_option maxHeartbeats 4000000 in
set_option maxRecDepth 100000 in
theorem lp_X6_init {g : mm_G} {l : Launch} (hst : l.stackTraces = false) {d : Nat} (M0 : Nat → mm_C) (a n : Nat) (ha : a < n) : ∀ (j k : Nat), k + j = 180 → ∀ (f : Nat → Option Nat) (M : Nat → mm_C) (hA : M a = .inr (6, [.ref n, .ref (n + 2), .null, .int 0, .int 0])) (hR : M (n + 2) = .inl (4, 180, .inr (.inr f))) (hf : ∀ i, i < k → f i = some (n + 3 + i)) (hI : ∀ i, i < k → M (n + 3 + i) = IT0) (hB : M (n) = .inr (0, [.ref (n + 1), .int 0, .int 0])) (hBr : M (n + 1) = .inl (2, 700, .inl (fun _ => 0))) (hF : ∀ j, j < n → j ≠ a → M j = M0 j), mm_V g l RX6 "<init>" cX6_init 2 none [] (d + 1) 184 3948 (mm_nt (q_X6_init M0 a n)) 30 [some (.ref a), some (.int (nI k))] [] (M, n + 3 + k, false) (3 + k) (883 + 17 * k) := by
  intro j
  induction j with
  | zero =>
    intro k hk f M hA hR hf hI hB hBr hF
    obtain rfl : k = 180 := by omega
    refine mm_iload_n dX6_init_30 rfl ?_
    refine mm_sipush (v := 180) dX6_init_31 (by decide) ?_
    refine mm_icmp_ge 56 dX6_init_34 (by decide) (fun _ => ?_) (fun h => absurd (by decide) h)
    refine mm_aload_n dX6_init_56 rfl rfl ?_
    refine mm_iconst (v := 5) dX6_init_57 (by decide) ?_
    refine mm_newa3 (atype := .int) (n1 := n + 3 + 181) (t := 0) (N := 5) (cl := .inl (0, 5, .inl (fun _ => 0))) (a0 := (5, .inl (fun _ => 0))) (fun _ => rfl) (fun _ => rfl) wA_int rfl (fun _ => rfl) (by decide) rfl (by decide) (by omega) (by omega) dX6_init_58 rfl ?_
    refine mm_putF3 (ci := 6) (fs1 := [.ref n, .ref (n + 2), .ref (n + 3 + 180), .int 0, .int 0]) in_X6 tyX6_ok nmX6 rfl (k := 2) (by decide) rfl rfl rfl rfl kF_X6_27 dX6_init_60 (mm_fit_arr _ _) (mm_upN (by omega) hA) (by first | omega | (dsimp only; omega)) (Nat.le_of_ble_eq_true rfl) rfl ?_
    refine mm_vret dX6_init_63 rfl ?_ (by omega) (by omega)
    exact ⟨rfl, rfl, mm_up_s, (mm_upN (by omega) (mm_upN (by omega) hB)), (mm_upN (by omega) (mm_upN (by omega) hBr)), ⟨f, (mm_upN (by omega) (mm_upN (by omega) hR)), hf⟩, fun i hi => mm_upN (by omega) (mm_upN (by omega) (hI i hi)), (mm_upN (by omega) mm_up_s), fun x h1 h2 => mm_upN (by omega) (mm_upN (by omega) (hF x h1 h2))⟩
  | succ j ih =>
    intro k hk f M hA hR hf hI hB hBr hF
    refine mm_iload_n dX6_init_30 rfl ?_
    refine mm_sipush (v := 180) dX6_init_31 (by decide) ?_
    refine mm_icmp_ge 56 dX6_init_34 (by decide) (fun h => absurd h (nI_ge (a := k) (b := 180) (by omega) (by decide))) (fun _ => ?_)
    refine mm_aload_n dX6_init_37 rfl rfl ?_
    refine mm_get3 (ci := 6) in_X6 rfl (k := 1) (by decide) rfl kF_X6_22 dX6_init_38 hA (by first | omega | (dsimp only; omega)) rfl ?_
    refine mm_iload_n dX6_init_41 rfl ?_
    refine mm_new3 (n1 := n + 3 + k + 1) (ci := 3) (fs := [.int 0, .int 0, .null, .null, .int 0, .int 0, .long 0, .int 0, .int 0, .int 0, .null, .int 0, .int 0, .int 0, .int 0, .null, .null]) in_X3 tyX3_ok rfl kC_X6_20 wn_X3 wi_X3 (by decide) (fun _ => rfl) (by omega) (by omega) dX6_init_42 rfl ?_
    refine mm_dup dX6_init_45 rfl ?_
    refine mm_callI wM_X3_init rfl kM_X6_26 wI_X3_init dX6_init_46 (c_X3_init hst _ _) rfl rfl (Nat.le_of_ble_eq_true rfl) (by omega) (by omega) (fun v S9 hq => ?_)
    obtain ⟨rfl, rfl⟩ := hq
    refine ⟨fun h => ⟨h, rfl⟩, ?_⟩
    refine mm_aast3 (fun _ => rfl) rfl (mm_upN (by omega) hR) (by first | omega | (dsimp only; omega)) mm_up_s (by first | omega | (dsimp only; omega)) (vp_in_nI (by omega) (by decide)) dX6_init_49 ?_
    refine mm_iinc (v := nI (k + 1)) [some (.ref a), some (.int (nI (k + 1)))] dX6_init_50 rfl (by rw [nI_succ]; rfl) (by decide) rfl ?_
    refine mm_goto 30 dX6_init_53 (by decide) ?_
    exact ih (k + 1) (by omega) (va_up f (nI k).toNatClampNeg (some (n + 3 + k))) _ ((mm_upN (by omega) (mm_upN (by omega) hA))) (mm_up_s) (fun i hi => by
        rw [nI_clamp (n := k) (by omega)]
        unfold va_up
        by_cases e : i = k
        · subst e; rw [if_pos rfl]
        · rw [if_neg e]; exact hf i (by omega)) (fun i hi => by
        by_cases e : i = k
        · subst e; exact (mm_upN (by omega) mm_up_s)
        · exact mm_upN (by omega) (mm_upN (by omega) (hI i (by omega)))) ((mm_upN (by omega) (mm_upN (by omega) hB))) ((mm_upN (by omega) (mm_upN (by omega) hBr))) (fun x h1 h2 => mm_upN (by omega) (mm_upN (by omega) (hF x h1 h2)))

set_option maxHeartbeats 4000000 in
set_option maxRecDepth 100000 in
theorem c_X6_init {g : mm_G} {l : Launch} (hst : l.stackTraces = false) {d : Nat} (a n : Nat) (M : Nat → mm_C) (ha : a < n) (hm : M a = .inr (6, [.null, .null, .null, .int 0, .int 0])) : mm_Cm g l yX6_init (.code yX6_init cX6_init 2 none) (d + 1) 184 3948 [.ref a] (M, n, false) (fun v S' => q_X6_init M a n v S') := by
  refine mm_Cm_of hst (by decide) (Nat.le_of_ble_eq_true rfl) ?_
  show mm_V g l RX6 "<init>" cX6_init 2 none [] (d + 1) 184 3948 _ 0 [some (.ref a), none] [] (M, n, false) 0 0
  refine mm_aload_n dX6_init_0 rfl rfl ?_
  refine mm_oinit kM_X6_3 wO_i wO_c (Nat.le_of_ble_eq_true rfl) dX6_init_1 ?_
  refine mm_aload_n dX6_init_4 rfl rfl ?_
  refine mm_new3 (n1 := n + 1) (ci := 0) (fs := [.null, .int 0, .int 0]) in_X0 tyX0_ok rfl kC_X6_9 wn_X0 wi_X0 (by decide) (fun _ => rfl) (by omega) (by omega) dX6_init_5 rfl ?_
  refine mm_dup dX6_init_8 rfl ?_
  refine mm_sipush (v := 700) dX6_init_9 (by decide) ?_
  refine mm_callI wM_X0_init rfl kM_X6_11 wI_X0_init dX6_init_12 (c_X0_init hst _ _ 700 _ 700 (by decide) rfl (by decide) (by omega) mm_up_s) rfl rfl (Nat.le_of_ble_eq_true rfl) (by omega) (by omega) (fun v S9 hq => ?_)
  obtain ⟨rfl, rfl⟩ := hq
  refine ⟨fun _ => ⟨rfl, rfl⟩, ?_⟩
  refine mm_putF3 (ci := 6) (fs1 := [.ref n, .null, .null, .int 0, .int 0]) in_X6 tyX6_ok nmX6 rfl (k := 0) (by decide) rfl rfl rfl rfl kF_X6_14 dX6_init_15 (mm_fit_ref _ _) (mm_upN (by omega) (mm_upN (by omega) (mm_upN (by omega) hm))) (by first | omega | (dsimp only; omega)) (Nat.le_of_ble_eq_true rfl) rfl ?_
  refine mm_aload_n dX6_init_18 rfl rfl ?_
  refine mm_sipush (v := 180) dX6_init_19 (by decide) ?_
  refine mm_newq3 (n1 := n + 3) (t := 4) (N := 180) (fun _ => rfl) (Or.inl rfl) kC_X6_20 (by decide) rfl (by decide) (by omega) (by omega) dX6_init_22 rfl ?_
  refine mm_putF3 (ci := 6) (fs1 := [.ref n, .ref (n + 2), .null, .int 0, .int 0]) in_X6 tyX6_ok nmX6 rfl (k := 1) (by decide) rfl rfl rfl rfl kF_X6_22 dX6_init_25 (mm_fit_arr _ _) (mm_upN (by omega) mm_up_s) (by first | omega | (dsimp only; omega)) (Nat.le_of_ble_eq_true rfl) rfl ?_
  refine mm_iconst (v := 0) dX6_init_28 (by decide) ?_
  refine mm_istore_n [some (.ref a), some (.int 0)] dX6_init_29 (by decide) rfl ?_
  exact lp_X6_init hst M a n ha 180 0 rfl (fun _ => none) _ (mm_up_s) ((mm_upN (by omega) mm_up_s)) (fun i h => absurd h (Nat.not_lt_zero i)) (fun i h => absurd h (Nat.not_lt_zero i)) ((mm_upN (by omega) (mm_upN (by omega) (mm_upN (by omega) mm_up_s)))) ((mm_upN (by omega) (mm_upN (by omega) (mm_upN (by omega) (mm_upN (by omega) mm_up_s))))) (fun x h1 h2 => mm_upN (by omega) (mm_upN (by omega) (mm_upN (by omega) (mm_upN (by omega) (mm_upN (by omega) (mm_upN (by omega) (rfl)))))))

def q_X8_init (M0 : Nat → mm_C) (a n : Nat) (v : Option Value) (S' : mm_S) : Prop := v = none ∧ S'.2 = (n + 704, false) ∧ S'.1 a = .inr (8, [.ref n, .ref (n + 701), .ref (n + 702), .int 0, .null, .null]) ∧ (∃ f : Nat → Option Nat, S'.1 n = .inl (5, 700, .inr (.inr f)) ∧ ∀ i, i < 700 → f i = some (n + 1 + i)) ∧
  (∀ i, i < 700 → S'.1 (n + 1 + i) = ND0) ∧ S'.1 (n + 701) = ND0 ∧ S'.1 (n + 702) = .inr (0, [.ref (n + 703), .int 0, .int 0]) ∧ S'.1 (n + 703) = .inl (2, 1000, .inl (fun _ => 0)) ∧ ∀ j, j < n → j ≠ a → S'.1 j = M0 j

set_option maxHeartbeats 4000000 in
set_option maxRecDepth 100000 in
theorem lp_X8_init {g : mm_G} {l : Launch} (hst : l.stackTraces = false) {d : Nat} (M0 : Nat → mm_C) (a n : Nat) (ha : a < n) : ∀ (j k : Nat), k + j = 700 → ∀ (f : Nat → Option Nat) (M : Nat → mm_C) (hA : M a = .inr (8, [.ref n, .null, .null, .int 0, .null, .null])) (hR : M (n) = .inl (5, 700, .inr (.inr f))) (hf : ∀ i, i < k → f i = some (n + 1 + i)) (hI : ∀ i, i < k → M (n + 1 + i) = ND0) (hF : ∀ j, j < n → j ≠ a → M j = M0 j), mm_V g l RX8 "<init>" cX8_init 2 none [] (d + 1) 704 6610 (mm_nt (q_X8_init M0 a n)) 16 [some (.ref a), some (.int (nI k))] [] (M, n + 1 + k, false) (1 + k) (700 + 7 * k) := by
  intro j
  induction j with
  | zero =>
    intro k hk f M hA hR hf hI hF
    obtain rfl : k = 700 := by omega
    refine mm_iload_n dX8_init_16 rfl ?_
    refine mm_sipush (v := 700) dX8_init_17 (by decide) ?_
    refine mm_icmp_ge 42 dX8_init_20 (by decide) (fun _ => ?_) (fun h => absurd (by decide) h)
    refine mm_aload_n dX8_init_42 rfl rfl ?_
    refine mm_new3 (n1 := n + 1 + 701) (ci := 4) (fs := [.null, .null, .null, .null, .long 0, .int 0, .int 0]) in_X4 tyX4_ok rfl kC_X8_13 wn_X4 wi_X4 (by decide) (fun _ => rfl) (by omega) (by omega) dX8_init_43 rfl ?_
    refine mm_dup dX8_init_46 rfl ?_
    refine mm_callI wM_X4_init rfl kM_X8_19 wI_X4_init dX8_init_47 (c_X4_init hst _ _) rfl rfl (Nat.le_of_ble_eq_true rfl) (by omega) (by omega) (fun v S9 hq => ?_)
    obtain ⟨rfl, rfl⟩ := hq
    refine ⟨fun h => ⟨h, rfl⟩, ?_⟩
    refine mm_putF3 (ci := 8) (fs1 := [.ref n, .ref (n + 1 + 700), .null, .int 0, .null, .null]) in_X8 tyX8_ok nmX8 rfl (k := 1) (by decide) rfl rfl rfl rfl kF_X8_20 dX8_init_50 (mm_fit_ref _ _) (mm_upN (by omega) hA) (by first | omega | (dsimp only; omega)) (Nat.le_of_ble_eq_true rfl) rfl ?_
    refine mm_aload_n dX8_init_53 rfl rfl ?_
    refine mm_new3 (n1 := n + 1 + 702) (ci := 0) (fs := [.null, .int 0, .int 0]) in_X0 tyX0_ok rfl kC_X8_24 wn_X0 wi_X0 (by decide) (fun _ => rfl) (by omega) (by omega) dX8_init_54 rfl ?_
    refine mm_dup dX8_init_57 rfl ?_
    refine mm_sipush (v := 1000) dX8_init_58 (by decide) ?_
    refine mm_callI wM_X0_init rfl kM_X8_26 wI_X0_init dX8_init_61 (c_X0_init hst _ _ 1000 _ 1000 (by decide) rfl (by decide) (by omega) mm_up_s) rfl rfl (Nat.le_of_ble_eq_true rfl) (by omega) (by omega) (fun v S9 hq => ?_)
    obtain ⟨rfl, rfl⟩ := hq
    refine ⟨fun _ => ⟨rfl, rfl⟩, ?_⟩
    refine mm_putF3 (ci := 8) (fs1 := [.ref n, .ref (n + 1 + 700), .ref (n + 1 + 701), .int 0, .null, .null]) in_X8 tyX8_ok nmX8 rfl (k := 2) (by decide) rfl rfl rfl rfl kF_X8_29 dX8_init_64 (mm_fit_ref _ _) (mm_upN (by omega) (mm_upN (by omega) (mm_upN (by omega) mm_up_s))) (by first | omega | (dsimp only; omega)) (Nat.le_of_ble_eq_true rfl) rfl ?_
    refine mm_vret dX8_init_67 rfl ?_ (by omega) (by omega)
    exact ⟨rfl, rfl, mm_up_s, ⟨f, (mm_upN (by omega) (mm_upN (by omega) (mm_upN (by omega) (mm_upN (by omega) (mm_upN (by omega) (mm_upN (by omega) hR)))))), hf⟩, fun i hi => mm_upN (by omega) (mm_upN (by omega) (mm_upN (by omega) (mm_upN (by omega) (mm_upN (by omega) (mm_upN (by omega) (hI i hi)))))), (mm_upN (by omega) (mm_upN (by omega) (mm_upN (by omega) (mm_upN (by omega) (mm_upN (by omega) mm_up_s))))), (mm_upN (by omega) mm_up_s), (mm_upN (by omega) (mm_upN (by omega) mm_up_s)), fun x h1 h2 => mm_upN (by omega) (mm_upN (by omega) (mm_upN (by omega) (mm_upN (by omega) (mm_upN (by omega) (mm_upN (by omega) (hF x h1 h2))))))⟩
  | succ j ih =>
    intro k hk f M hA hR hf hI hF
    refine mm_iload_n dX8_init_16 rfl ?_
    refine mm_sipush (v := 700) dX8_init_17 (by decide) ?_
    refine mm_icmp_ge 42 dX8_init_20 (by decide) (fun h => absurd h (nI_ge (a := k) (b := 700) (by omega) (by decide))) (fun _ => ?_)
    refine mm_aload_n dX8_init_23 rfl rfl ?_
    refine mm_get3 (ci := 8) in_X8 rfl (k := 0) (by decide) rfl kF_X8_15 dX8_init_24 hA (by first | omega | (dsimp only; omega)) rfl ?_
    refine mm_iload_n dX8_init_27 rfl ?_
    refine mm_new3 (n1 := n + 1 + k + 1) (ci := 4) (fs := [.null, .null, .null, .null, .long 0, .int 0, .int 0]) in_X4 tyX4_ok rfl kC_X8_13 wn_X4 wi_X4 (by decide) (fun _ => rfl) (by omega) (by omega) dX8_init_28 rfl ?_
    refine mm_dup dX8_init_31 rfl ?_
    refine mm_callI wM_X4_init rfl kM_X8_19 wI_X4_init dX8_init_32 (c_X4_init hst _ _) rfl rfl (Nat.le_of_ble_eq_true rfl) (by omega) (by omega) (fun v S9 hq => ?_)
    obtain ⟨rfl, rfl⟩ := hq
    refine ⟨fun h => ⟨h, rfl⟩, ?_⟩
    refine mm_aast3 (fun _ => rfl) rfl (mm_upN (by omega) hR) (by first | omega | (dsimp only; omega)) mm_up_s (by first | omega | (dsimp only; omega)) (vp_in_nI (by omega) (by decide)) dX8_init_35 ?_
    refine mm_iinc (v := nI (k + 1)) [some (.ref a), some (.int (nI (k + 1)))] dX8_init_36 rfl (by rw [nI_succ]; rfl) (by decide) rfl ?_
    refine mm_goto 16 dX8_init_39 (by decide) ?_
    exact ih (k + 1) (by omega) (va_up f (nI k).toNatClampNeg (some (n + 1 + k))) _ ((mm_upN (by omega) (mm_upN (by omega) hA))) (mm_up_s) (fun i hi => by
        rw [nI_clamp (n := k) (by omega)]
        unfold va_up
        by_cases e : i = k
        · subst e; rw [if_pos rfl]
        · rw [if_neg e]; exact hf i (by omega)) (fun i hi => by
        by_cases e : i = k
        · subst e; exact (mm_upN (by omega) mm_up_s)
        · exact mm_upN (by omega) (mm_upN (by omega) (hI i (by omega))))  (fun x h1 h2 => mm_upN (by omega) (mm_upN (by omega) (hF x h1 h2)))

set_option maxHeartbeats 4000000 in
set_option maxRecDepth 100000 in
theorem c_X8_init {g : mm_G} {l : Launch} (hst : l.stackTraces = false) {d : Nat} (a n : Nat) (M : Nat → mm_C) (ha : a < n) (hm : M a = .inr (8, [.null, .null, .null, .int 0, .null, .null])) : mm_Cm g l yX8_init (.code yX8_init cX8_init 2 none) (d + 1) 704 6610 [.ref a] (M, n, false) (fun v S' => q_X8_init M a n v S') := by
  refine mm_Cm_of hst (by decide) (Nat.le_of_ble_eq_true rfl) ?_
  show mm_V g l RX8 "<init>" cX8_init 2 none [] (d + 1) 704 6610 _ 0 [some (.ref a), none] [] (M, n, false) 0 0
  refine mm_aload_n dX8_init_0 rfl rfl ?_
  refine mm_oinit kM_X8_5 wO_i wO_c (Nat.le_of_ble_eq_true rfl) dX8_init_1 ?_
  refine mm_aload_n dX8_init_4 rfl rfl ?_
  refine mm_sipush (v := 700) dX8_init_5 (by decide) ?_
  refine mm_newq3 (n1 := n + 1) (t := 5) (N := 700) (fun _ => rfl) (Or.inr rfl) kC_X8_13 (by decide) rfl (by decide) (by omega) (by omega) dX8_init_8 rfl ?_
  refine mm_putF3 (ci := 8) (fs1 := [.ref n, .null, .null, .int 0, .null, .null]) in_X8 tyX8_ok nmX8 rfl (k := 0) (by decide) rfl rfl rfl rfl kF_X8_15 dX8_init_11 (mm_fit_arr _ _) (mm_upN (by omega) hm) (by first | omega | (dsimp only; omega)) (Nat.le_of_ble_eq_true rfl) rfl ?_
  refine mm_iconst (v := 0) dX8_init_14 (by decide) ?_
  refine mm_istore_n [some (.ref a), some (.int 0)] dX8_init_15 (by decide) rfl ?_
  exact lp_X8_init hst M a n ha 700 0 rfl (fun _ => none) _ (mm_up_s) ((mm_upN (by omega) mm_up_s)) (fun i h => absurd h (Nat.not_lt_zero i)) (fun i h => absurd h (Nat.not_lt_zero i)) (fun x h1 h2 => mm_upN (by omega) (mm_upN (by omega) (rfl)))

def q_X10_init (M0 : Nat → mm_C) (a n t : Nat) (v : Option Value) (S' : mm_S) : Prop := v = none ∧ S'.2 = (n + 4, false) ∧ S'.1 a = .inr (10, [.ref t, .ref n, .ref (n + 1), .ref (n + 2), .ref (n + 3), .int 0, .int 0, .int 0]) ∧ S'.1 n = .inl (0, 701, .inl (fun _ => 0)) ∧ S'.1 (n + 1) = .inl (0, 701, .inl (fun _ => 0)) ∧ S'.1 (n + 2) = .inl (0, 701, .inl (fun _ => 0)) ∧ S'.1 (n + 3) = .inl (1, 701, .inr (.inl (fun _ => 0))) ∧ ∀ j, j < n → j ≠ a → S'.1 j = M0 j

set_option maxHeartbeats 4000000 in
set_option maxRecDepth 100000 in
theorem c_X10_init {g : mm_G} {l : Launch} (hst : l.stackTraces = false) {d : Nat} (a n t : Nat) (M : Nat → mm_C) (ha : a < n) (hm : M a = .inr (10, [.null, .null, .null, .null, .null, .int 0, .int 0, .int 0])) : mm_Cm g l yX10_init (.code yX10_init cX10_init 3 none) d 4 2804 [.ref a, .ref t] (M, n, false) (fun v S' => q_X10_init M a n t v S') := by
  refine mm_Cm_of hst (by decide) (Nat.le_of_ble_eq_true rfl) ?_
  show mm_V g l RX10 "<init>" cX10_init 3 none [] d 4 2804 _ 0 [some (.ref a), some (.ref t), none] [] (M, n, false) 0 0
  refine mm_aload_n dX10_init_0 rfl rfl ?_
  refine mm_oinit kM_X10_3 wO_i wO_c (Nat.le_of_ble_eq_true rfl) dX10_init_1 ?_
  refine mm_aload_n dX10_init_4 rfl rfl ?_
  refine mm_aload_n dX10_init_5 rfl rfl ?_
  refine mm_putF3 (ci := 10) (fs1 := [.ref t, .null, .null, .null, .null, .int 0, .int 0, .int 0]) in_X10 tyX10_ok nmX10 rfl (k := 0) (by decide) rfl rfl rfl rfl kF_X10_9 dX10_init_6 (mm_fit_ref _ _) hm (by first | omega | (dsimp only; omega)) (Nat.le_of_ble_eq_true rfl) rfl ?_
  refine mm_sipush (v := 701) dX10_init_9 (by decide) ?_
  refine mm_istore_n [some (.ref a), some (.ref t), some (.int 701)] dX10_init_12 (by decide) rfl ?_
  refine mm_aload_n dX10_init_13 rfl rfl ?_
  refine mm_iload_n dX10_init_14 rfl ?_
  refine mm_newa3 (atype := .int) (n1 := n + 1) (t := 0) (N := 701) (cl := .inl (0, 701, .inl (fun _ => 0))) (a0 := (701, .inl (fun _ => 0))) (fun _ => rfl) (fun _ => rfl) wA_int rfl (fun _ => rfl) (by decide) rfl (by decide) (by omega) (by omega) dX10_init_15 rfl ?_
  refine mm_putF3 (ci := 10) (fs1 := [.ref t, .ref n, .null, .null, .null, .int 0, .int 0, .int 0]) in_X10 tyX10_ok nmX10 rfl (k := 1) (by decide) rfl rfl rfl rfl kF_X10_15 dX10_init_17 (mm_fit_arr _ _) (mm_upN (by omega) mm_up_s) (by first | omega | (dsimp only; omega)) (Nat.le_of_ble_eq_true rfl) rfl ?_
  refine mm_aload_n dX10_init_20 rfl rfl ?_
  refine mm_iload_n dX10_init_21 rfl ?_
  refine mm_newa3 (atype := .int) (n1 := n + 2) (t := 0) (N := 701) (cl := .inl (0, 701, .inl (fun _ => 0))) (a0 := (701, .inl (fun _ => 0))) (fun _ => rfl) (fun _ => rfl) wA_int rfl (fun _ => rfl) (by decide) rfl (by decide) (by omega) (by omega) dX10_init_22 rfl ?_
  refine mm_putF3 (ci := 10) (fs1 := [.ref t, .ref n, .ref (n + 1), .null, .null, .int 0, .int 0, .int 0]) in_X10 tyX10_ok nmX10 rfl (k := 2) (by decide) rfl rfl rfl rfl kF_X10_19 dX10_init_24 (mm_fit_arr _ _) (mm_upN (by omega) mm_up_s) (by first | omega | (dsimp only; omega)) (Nat.le_of_ble_eq_true rfl) rfl ?_
  refine mm_aload_n dX10_init_27 rfl rfl ?_
  refine mm_iload_n dX10_init_28 rfl ?_
  refine mm_newa3 (atype := .int) (n1 := n + 3) (t := 0) (N := 701) (cl := .inl (0, 701, .inl (fun _ => 0))) (a0 := (701, .inl (fun _ => 0))) (fun _ => rfl) (fun _ => rfl) wA_int rfl (fun _ => rfl) (by decide) rfl (by decide) (by omega) (by omega) dX10_init_29 rfl ?_
  refine mm_putF3 (ci := 10) (fs1 := [.ref t, .ref n, .ref (n + 1), .ref (n + 2), .null, .int 0, .int 0, .int 0]) in_X10 tyX10_ok nmX10 rfl (k := 3) (by decide) rfl rfl rfl rfl kF_X10_22 dX10_init_31 (mm_fit_arr _ _) (mm_upN (by omega) mm_up_s) (by first | omega | (dsimp only; omega)) (Nat.le_of_ble_eq_true rfl) rfl ?_
  refine mm_aload_n dX10_init_34 rfl rfl ?_
  refine mm_iload_n dX10_init_35 rfl ?_
  refine mm_newa3 (atype := .long) (n1 := n + 4) (t := 1) (N := 701) (cl := .inl (1, 701, .inr (.inl (fun _ => 0)))) (a0 := (701, .inr (.inl (fun _ => 0)))) (fun _ => rfl) (fun _ => rfl) wA_long rfl (fun _ => rfl) (by decide) rfl (by decide) (by omega) (by omega) dX10_init_36 rfl ?_
  refine mm_putF3 (ci := 10) (fs1 := [.ref t, .ref n, .ref (n + 1), .ref (n + 2), .ref (n + 3), .int 0, .int 0, .int 0]) in_X10 tyX10_ok nmX10 rfl (k := 4) (by decide) rfl rfl rfl rfl kF_X10_25 dX10_init_38 (mm_fit_arr _ _) (mm_upN (by omega) mm_up_s) (by first | omega | (dsimp only; omega)) (Nat.le_of_ble_eq_true rfl) rfl ?_
  refine mm_vret dX10_init_41 rfl ?_ (by omega) (by omega)
  exact ⟨rfl, rfl, mm_up_s, (mm_upN (by omega) (mm_upN (by omega) (mm_upN (by omega) (mm_upN (by omega) (mm_upN (by omega) (mm_upN (by omega) (mm_upN (by omega) mm_up_s))))))), (mm_upN (by omega) (mm_upN (by omega) (mm_upN (by omega) (mm_upN (by omega) (mm_upN (by omega) mm_up_s))))), (mm_upN (by omega) (mm_upN (by omega) (mm_upN (by omega) mm_up_s))), (mm_upN (by omega) mm_up_s), fun x h1 h2 => mm_upN (by omega) (mm_upN (by omega) (mm_upN (by omega) (mm_upN (by omega) (mm_upN (by omega) (mm_upN (by omega) (mm_upN (by omega) (mm_upN (by omega) (mm_upN (by omega) (rfl)))))))))⟩

set_option maxHeartbeats 4000000 in
set_option maxRecDepth 100000 in
theorem c_X5_init {g : mm_G} {l : Launch} (hst : l.stackTraces = false) {d : Nat} (a n s t : Nat) (M : Nat → mm_C) (ha : a < n) (hm : M a = .inr (5, [.null, .null, .null, .null, .null, .int 0, .int 0, .int 0])) : mm_Cm g l yX5_init (.code yX5_init cX5_init 3 none) d 0 0 [.ref a, .ref s, .ref t] (M, n, false) (fun v S' => v = none ∧ S'.2 = (n, false) ∧ S'.1 a = .inr (5, [.ref s, .ref t, .null, .null, .null, .int 0, .int 0, .int 0]) ∧ ∀ j, j ≠ a → S'.1 j = M j) := by
  refine mm_Cm_of hst (by decide) (Nat.le_of_ble_eq_true rfl) ?_
  show mm_V g l RX5 "<init>" cX5_init 3 none [] d 0 0 _ 0 [some (.ref a), some (.ref s), some (.ref t)] [] (M, n, false) 0 0
  refine mm_aload_n dX5_init_0 rfl rfl ?_
  refine mm_oinit kM_X5_3 wO_i wO_c (Nat.le_of_ble_eq_true rfl) dX5_init_1 ?_
  refine mm_aload_n dX5_init_4 rfl rfl ?_
  refine mm_aload_n dX5_init_5 rfl rfl ?_
  refine mm_putF3 (ci := 5) (fs1 := [.ref s, .null, .null, .null, .null, .int 0, .int 0, .int 0]) in_X5 tyX5_ok nmX5 rfl (k := 0) (by decide) rfl rfl rfl rfl kF_X5_9 dX5_init_6 (mm_fit_ref _ _) hm (by first | omega | (dsimp only; omega)) (Nat.le_of_ble_eq_true rfl) rfl ?_
  refine mm_aload_n dX5_init_9 rfl rfl ?_
  refine mm_aload_n dX5_init_10 rfl rfl ?_
  refine mm_putF3 (ci := 5) (fs1 := [.ref s, .ref t, .null, .null, .null, .int 0, .int 0, .int 0]) in_X5 tyX5_ok nmX5 rfl (k := 1) (by decide) rfl rfl rfl rfl kF_X5_15 dX5_init_11 (mm_fit_ref _ _) mm_up_s (by first | omega | (dsimp only; omega)) (Nat.le_of_ble_eq_true rfl) rfl ?_
  refine mm_vret dX5_init_14 rfl ?_ (by omega) (by omega)
  exact ⟨rfl, rfl, mm_up_s, fun x h2 => mm_upN h2 (mm_upN h2 (rfl))⟩

set_option maxHeartbeats 4000000 in
set_option maxRecDepth 100000 in
theorem c_X9_init {g : mm_G} {l : Launch} (hst : l.stackTraces = false) {d : Nat} (a n s t u : Nat) (M : Nat → mm_C) (ha : a < n) (hm : M a = .inr (9, [.null, .null, .null, .int 0, .long 0, .int 0])) : mm_Cm g l yX9_init (.code yX9_init cX9_init 4 none) d 0 0 [.ref a, .ref s, .ref t, .ref u] (M, n, false) (fun v S' => v = none ∧ S'.2 = (n, false) ∧ S'.1 a = .inr (9, [.ref s, .ref t, .ref u, .int 0, .long 0, .int 0]) ∧ ∀ j, j ≠ a → S'.1 j = M j) := by
  refine mm_Cm_of hst (by decide) (Nat.le_of_ble_eq_true rfl) ?_
  show mm_V g l RX9 "<init>" cX9_init 4 none [] d 0 0 _ 0 [some (.ref a), some (.ref s), some (.ref t), some (.ref u)] [] (M, n, false) 0 0
  refine mm_aload_n dX9_init_0 rfl rfl ?_
  refine mm_oinit kM_X9_3 wO_i wO_c (Nat.le_of_ble_eq_true rfl) dX9_init_1 ?_
  refine mm_aload_n dX9_init_4 rfl rfl ?_
  refine mm_aload_n dX9_init_5 rfl rfl ?_
  refine mm_putF3 (ci := 9) (fs1 := [.ref s, .null, .null, .int 0, .long 0, .int 0]) in_X9 tyX9_ok nmX9 rfl (k := 0) (by decide) rfl rfl rfl rfl kF_X9_9 dX9_init_6 (mm_fit_ref _ _) hm (by first | omega | (dsimp only; omega)) (Nat.le_of_ble_eq_true rfl) rfl ?_
  refine mm_aload_n dX9_init_9 rfl rfl ?_
  refine mm_aload_n dX9_init_10 rfl rfl ?_
  refine mm_putF3 (ci := 9) (fs1 := [.ref s, .ref t, .null, .int 0, .long 0, .int 0]) in_X9 tyX9_ok nmX9 rfl (k := 1) (by decide) rfl rfl rfl rfl kF_X9_15 dX9_init_11 (mm_fit_ref _ _) mm_up_s (by first | omega | (dsimp only; omega)) (Nat.le_of_ble_eq_true rfl) rfl ?_
  refine mm_aload_n dX9_init_14 rfl rfl ?_
  refine mm_aload_n dX9_init_15 rfl rfl ?_
  refine mm_putF3 (ci := 9) (fs1 := [.ref s, .ref t, .ref u, .int 0, .long 0, .int 0]) in_X9 tyX9_ok nmX9 rfl (k := 2) (by decide) rfl rfl rfl rfl kF_X9_19 dX9_init_16 (mm_fit_ref _ _) mm_up_s (by first | omega | (dsimp only; omega)) (Nat.le_of_ble_eq_true rfl) rfl ?_
  refine mm_vret dX9_init_19 rfl ?_ (by omega) (by omega)
  exact ⟨rfl, rfl, mm_up_s, fun x h2 => mm_upN h2 (mm_upN h2 (mm_upN h2 (rfl)))⟩

set_option maxHeartbeats 4000000 in
set_option maxRecDepth 100000 in
theorem c_X7_init {g : mm_G} {l : Launch} (hst : l.stackTraces = false) {d : Nat} (a n s t u : Nat) (M : Nat → mm_C) (ha : a < n) (hm : M a = .inr (7, [.null, .null, .null, .null, .int 0, .int 0, .long 0])) : mm_Cm g l yX7_init (.code yX7_init cX7_init 4 none) d 1 20 [.ref a, .ref s, .ref t, .ref u] (M, n, false) (fun v S' => v = none ∧ S'.2 = (n + 1, false) ∧ S'.1 a = .inr (7, [.ref s, .ref t, .ref u, .ref n, .int 0, .int 0, .long 0]) ∧ S'.1 n = .inl (2, 20, .inl (fun _ => 0)) ∧ ∀ j, j < n → j ≠ a → S'.1 j = M j) := by
  refine mm_Cm_of hst (by decide) (Nat.le_of_ble_eq_true rfl) ?_
  show mm_V g l RX7 "<init>" cX7_init 4 none [] d 1 20 _ 0 [some (.ref a), some (.ref s), some (.ref t), some (.ref u)] [] (M, n, false) 0 0
  refine mm_aload_n dX7_init_0 rfl rfl ?_
  refine mm_oinit kM_X7_3 wO_i wO_c (Nat.le_of_ble_eq_true rfl) dX7_init_1 ?_
  refine mm_aload_n dX7_init_4 rfl rfl ?_
  refine mm_aload_n dX7_init_5 rfl rfl ?_
  refine mm_putF3 (ci := 7) (fs1 := [.ref s, .null, .null, .null, .int 0, .int 0, .long 0]) in_X7 tyX7_ok nmX7 rfl (k := 0) (by decide) rfl rfl rfl rfl kF_X7_9 dX7_init_6 (mm_fit_ref _ _) hm (by first | omega | (dsimp only; omega)) (Nat.le_of_ble_eq_true rfl) rfl ?_
  refine mm_aload_n dX7_init_9 rfl rfl ?_
  refine mm_aload_n dX7_init_10 rfl rfl ?_
  refine mm_putF3 (ci := 7) (fs1 := [.ref s, .ref t, .null, .null, .int 0, .int 0, .long 0]) in_X7 tyX7_ok nmX7 rfl (k := 1) (by decide) rfl rfl rfl rfl kF_X7_15 dX7_init_11 (mm_fit_ref _ _) mm_up_s (by first | omega | (dsimp only; omega)) (Nat.le_of_ble_eq_true rfl) rfl ?_
  refine mm_aload_n dX7_init_14 rfl rfl ?_
  refine mm_aload_n dX7_init_15 rfl rfl ?_
  refine mm_putF3 (ci := 7) (fs1 := [.ref s, .ref t, .ref u, .null, .int 0, .int 0, .long 0]) in_X7 tyX7_ok nmX7 rfl (k := 2) (by decide) rfl rfl rfl rfl kF_X7_19 dX7_init_16 (mm_fit_ref _ _) mm_up_s (by first | omega | (dsimp only; omega)) (Nat.le_of_ble_eq_true rfl) rfl ?_
  refine mm_aload_n dX7_init_19 rfl rfl ?_
  refine mm_bipush (v := 20) dX7_init_20 (by decide) ?_
  refine mm_newa3 (atype := .byte) (n1 := n + 1) (t := 2) (N := 20) (cl := .inl (2, 20, .inl (fun _ => 0))) (a0 := (20, .inl (fun _ => 0))) (fun _ => rfl) (fun _ => rfl) wA_byte rfl (fun _ => rfl) (by decide) rfl (by decide) (by omega) (by omega) dX7_init_22 rfl ?_
  refine mm_putF3 (ci := 7) (fs1 := [.ref s, .ref t, .ref u, .ref n, .int 0, .int 0, .long 0]) in_X7 tyX7_ok nmX7 rfl (k := 3) (by decide) rfl rfl rfl rfl kF_X7_22 dX7_init_24 (mm_fit_arr _ _) (mm_upN (by omega) mm_up_s) (by first | omega | (dsimp only; omega)) (Nat.le_of_ble_eq_true rfl) rfl ?_
  refine mm_vret dX7_init_27 rfl ?_ (by omega) (by omega)
  exact ⟨rfl, rfl, mm_up_s, (mm_upN (by omega) mm_up_s), fun x h1 h2 => mm_upN (by omega) (mm_upN (by omega) (mm_upN (by omega) (mm_upN (by omega) (mm_upN (by omega) (rfl)))))⟩

set_option maxHeartbeats 4000000 in
set_option maxRecDepth 100000 in
theorem c_X1_init {g : mm_G} {l : Launch} (hst : l.stackTraces = false) {d : Nat} (a n s : Nat) (M : Nat → mm_C) (ha : a < n) (hm : M a = .inr (1, [.null, .null, .null, .null, .int 0])) : mm_Cm g l yX1_init (.code yX1_init cX1_init 2 none) d 3 768 [.ref a, .ref s] (M, n, false) (fun v S' => v = none ∧ S'.2 = (n + 3, false) ∧ S'.1 a = .inr (1, [.ref s, .ref n, .ref (n + 1), .ref (n + 2), .int 0]) ∧ S'.1 n = .inl (4, 256, .inr (.inr (fun _ => none))) ∧ S'.1 (n + 1) = .inl (4, 256, .inr (.inr (fun _ => none))) ∧ S'.1 (n + 2) = .inl (3, 256, .inl (fun _ => 0)) ∧ ∀ j, j < n → j ≠ a → S'.1 j = M j) := by
  refine mm_Cm_of hst (by decide) (Nat.le_of_ble_eq_true rfl) ?_
  show mm_V g l RX1 "<init>" cX1_init 2 none [] d 3 768 _ 0 [some (.ref a), some (.ref s)] [] (M, n, false) 0 0
  refine mm_aload_n dX1_init_0 rfl rfl ?_
  refine mm_oinit kM_X1_3 wO_i wO_c (Nat.le_of_ble_eq_true rfl) dX1_init_1 ?_
  refine mm_aload_n dX1_init_4 rfl rfl ?_
  refine mm_aload_n dX1_init_5 rfl rfl ?_
  refine mm_putF3 (ci := 1) (fs1 := [.ref s, .null, .null, .null, .int 0]) in_X1 tyX1_ok nmX1 rfl (k := 0) (by decide) rfl rfl rfl rfl kF_X1_9 dX1_init_6 (mm_fit_ref _ _) hm (by first | omega | (dsimp only; omega)) (Nat.le_of_ble_eq_true rfl) rfl ?_
  refine mm_aload_n dX1_init_9 rfl rfl ?_
  refine mm_sipush (v := 256) dX1_init_10 (by decide) ?_
  refine mm_newq3 (n1 := n + 1) (t := 4) (N := 256) (fun _ => rfl) (Or.inl rfl) kC_X1_15 (by decide) rfl (by decide) (by omega) (by omega) dX1_init_13 rfl ?_
  refine mm_putF3 (ci := 1) (fs1 := [.ref s, .ref n, .null, .null, .int 0]) in_X1 tyX1_ok nmX1 rfl (k := 1) (by decide) rfl rfl rfl rfl kF_X1_17 dX1_init_16 (mm_fit_arr _ _) (mm_upN (by omega) mm_up_s) (by first | omega | (dsimp only; omega)) (Nat.le_of_ble_eq_true rfl) rfl ?_
  refine mm_aload_n dX1_init_19 rfl rfl ?_
  refine mm_sipush (v := 256) dX1_init_20 (by decide) ?_
  refine mm_newq3 (n1 := n + 2) (t := 4) (N := 256) (fun _ => rfl) (Or.inl rfl) kC_X1_15 (by decide) rfl (by decide) (by omega) (by omega) dX1_init_23 rfl ?_
  refine mm_putF3 (ci := 1) (fs1 := [.ref s, .ref n, .ref (n + 1), .null, .int 0]) in_X1 tyX1_ok nmX1 rfl (k := 2) (by decide) rfl rfl rfl rfl kF_X1_21 dX1_init_26 (mm_fit_arr _ _) (mm_upN (by omega) mm_up_s) (by first | omega | (dsimp only; omega)) (Nat.le_of_ble_eq_true rfl) rfl ?_
  refine mm_aload_n dX1_init_29 rfl rfl ?_
  refine mm_sipush (v := 256) dX1_init_30 (by decide) ?_
  refine mm_newa3 (atype := .boolean) (n1 := n + 3) (t := 3) (N := 256) (cl := .inl (3, 256, .inl (fun _ => 0))) (a0 := (256, .inl (fun _ => 0))) (fun _ => rfl) (fun _ => rfl) wA_boolean rfl (fun _ => rfl) (by decide) rfl (by decide) (by omega) (by omega) dX1_init_33 rfl ?_
  refine mm_putF3 (ci := 1) (fs1 := [.ref s, .ref n, .ref (n + 1), .ref (n + 2), .int 0]) in_X1 tyX1_ok nmX1 rfl (k := 3) (by decide) rfl rfl rfl rfl kF_X1_24 dX1_init_35 (mm_fit_arr _ _) (mm_upN (by omega) mm_up_s) (by first | omega | (dsimp only; omega)) (Nat.le_of_ble_eq_true rfl) rfl ?_
  refine mm_vret dX1_init_38 rfl ?_ (by omega) (by omega)
  exact ⟨rfl, rfl, mm_up_s, (mm_upN (by omega) (mm_upN (by omega) (mm_upN (by omega) (mm_upN (by omega) (mm_upN (by omega) mm_up_s))))), (mm_upN (by omega) (mm_upN (by omega) (mm_upN (by omega) mm_up_s))), (mm_upN (by omega) mm_up_s), fun x h1 h2 => mm_upN (by omega) (mm_upN (by omega) (mm_upN (by omega) (mm_upN (by omega) (mm_upN (by omega) (mm_upN (by omega) (mm_upN (by omega) (rfl)))))))⟩

set_option maxHeartbeats 4000000 in
set_option maxRecDepth 100000 in
theorem c_X6_text {g : mm_G} {l : Launch} (hst : l.stackTraces = false) {d : Nat} (a n : Nat) (z : Bool) (M : Nat → mm_C) (t it ct : Nat) (u b : Int32) (ha : a < n) (hm : M a = .inr (6, [.ref t, .ref it, .ref ct, .int u, .int b])) : mm_Cm g l yX6_text (.code yX6_text cX6_text 1 (some (.object "ProtoDesk$Bytes"))) d 0 0 [.ref a] (M, n, z) (fun v S' => v = some (.ref t) ∧ S' = (M, n, z)) := by
  refine mm_Cm_of hst (by decide) (Nat.le_of_ble_eq_true rfl) ?_
  show mm_V g l RX6 "text" cX6_text 1 (some (.object "ProtoDesk$Bytes")) [] d 0 0 _ 0 [some (.ref a)] [] (M, n, z) 0 0
  refine mm_aload_n dX6_text_0 rfl rfl ?_
  refine mm_get3 (ci := 6) in_X6 rfl (k := 0) (by decide) rfl kF_X6_14 dX6_text_1 hm (by first | omega | (dsimp only; omega)) rfl ?_
  refine mm_aret (a := some t) dX6_text_4 rfl ?_ (by omega) (by omega)
  exact ⟨rfl, rfl⟩
