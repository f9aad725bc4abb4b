def IT0 : mm_C := .inr (3, [.int 0, .int 0, .null, .null, .int 0, .int 0, .long 0, .int 0, .int 0, .int 0, .null, .int 0, .int 0, .int 0, .int 0, .null, .null])
def ND0 : mm_C := .inr (4, [.null, .null, .null, .null, .long 0, .int 0, .int 0])

def q_X6_init (M0 : Nat → mm_C) (a n : Nat) (v : Option Value) (S' : mm_S) : Prop := v = none ∧ S'.2 = (n + 184, false) ∧ S'.1 a = .inr (6, [.ref n, .ref (n + 2), .ref (n + 183), .int 0, .int 0]) ∧ S'.1 n = .inr (0, [.ref (n + 1), .int 0, .int 0]) ∧ S'.1 (n + 1) = .inl (2, 700, .inl (fun _ => 0)) ∧
  (∃ f : Nat → Option Nat, S'.1 (n + 2) = .inl (4, 180, .inr (.inr f)) ∧ ∀ i, i < 180 → f i = some (n + 3 + i)) ∧ (∀ i, i < 180 → S'.1 (n + 3 + i) = IT0) ∧ S'.1 (n + 183) = .inl (0, 5, .inl (fun _ => 0)) ∧ ∀ j, j < n → j ≠ a → S'.1 j = M0 j

set_option maxHeartbeats 4000000 in
set_option maxRecDepth 100000 in
theorem lp_X6_init {g : mm_G} {l : Launch} (hst : l.stackTraces = false) {d : Nat} (M0 : Nat → mm_C) (a n : Nat) (ha : a < n) : ∀ (j k : Nat), k + j = 180 → ∀ (f : Nat → Option Nat) (M : Nat → mm_C) (hA : M a = .inr (6, [.ref n, .ref (n + 2), .null, .int 0, .int 0])) (hR : M (n + 2) = .inl (4, 180, .inr (.inr f))) (hf : ∀ i, i < k → f i = some (n + 3 + i)) (hI : ∀ i, i < k → M (n + 3 + i) = IT0) (hB : M (n) = .inr (0, [.ref (n + 1), .int 0, .int 0])) (hBr : M (n + 1) = .inl (2, 700, .inl (fun _ => 0))) (hF : ∀ j, j < n → j ≠ a → M j = M0 j), mm_V g l RX6 "<init>" cX6_init 2 none [] (d + 1) 184 3948 (mm_nt (q_X6_init M0 a n)) 30 [some (.ref a), some (.int (nI k))] [] (M, n + 3 + k, false) (3 + k) (883 + 17 * k) := by
  intro j
  induction j with
  | zero =>
    intro k hk f M hA hR hf hI hB hBr hF
    obtain rfl : k = 180 := by omega
    refine mm_iload_n dX6_init_30 rfl ?_
    refine mm_sipush (v := 180) dX6_init_31 (by decide) ?_
    refine mm_icmp_ge 56 dX6_init_34 (by decide) (fun _ => ?_) (fun h => absurd (by decide) h)
    refine mm_aload_n dX6_init_56 rfl rfl ?_
    refine mm_iconst (v := 5) dX6_init_57 (by decide) ?_
    refine mm_newa3 (atype := .int) (n1 := n + 3 + 181) (t := 0) (N := 5) (cl := .inl (0, 5, .inl (fun _ => 0))) (a0 := (5, .inl (fun _ => 0))) (fun _ => rfl) (fun _ => rfl) wA_int rfl (fun _ => rfl) (by decide) rfl (by decide) (by omega) (by omega) dX6_init_58 rfl ?_
    refine mm_putF3 (ci := 6) (fs1 := [.ref n, .ref (n + 2), .ref (n + 3 + 180), .int 0, .int 0]) in_X6 tyX6_ok nmX6 rfl (k := 2) (by decide) rfl rfl rfl rfl kF_X6_27 dX6_init_60 (mm_fit_arr _ _) ((mm_up_n (by omega)).trans hA) (by first | omega | (dsimp only; omega)) (Nat.le_of_ble_eq_true rfl) rfl ?_
    exact mm_vret dX6_init_63 rfl ⟨rfl, rfl, mm_up_s, ((mm_up_n (by omega)).trans ((mm_up_n (by omega)).trans hB)), ((mm_up_n (by omega)).trans ((mm_up_n (by omega)).trans hBr)), ⟨f, ((mm_up_n (by omega)).trans ((mm_up_n (by omega)).trans hR)), hf⟩, fun i hi => (mm_up_n (by omega)).trans ((mm_up_n (by omega)).trans (hI i hi)), ((mm_up_n (by omega)).trans mm_up_s), fun x h1 h2 => (mm_up_n (by omega)).trans ((mm_up_n (by omega)).trans (hF x h1 h2))⟩ (by omega) (by omega)
  | succ j ih =>
    intro k hk f M hA hR hf hI hB hBr hF
    refine mm_iload_n dX6_init_30 rfl ?_
    refine mm_sipush (v := 180) dX6_init_31 (by decide) ?_
    refine mm_icmp_ge 56 dX6_init_34 (by decide) (fun h => absurd h (nI_ge (a := k) (b := 180) (by omega) (by decide))) (fun _ => ?_)
    refine mm_aload_n dX6_init_37 rfl rfl ?_
    refine mm_get (ci := 6) in_X6 rfl (k := 1) (by decide) rfl kF_X6_22 dX6_init_38 hA (by first | omega | (dsimp only; omega)) rfl ?_
    refine mm_iload_n dX6_init_41 rfl ?_
    refine mm_new3 (n1 := n + 3 + k + 1) (ci := 3) (fs := [.int 0, .int 0, .null, .null, .int 0, .int 0, .long 0, .int 0, .int 0, .int 0, .null, .int 0, .int 0, .int 0, .int 0, .null, .null]) in_X3 tyX3_ok rfl kC_X6_20 wn_X3 wi_X3 (by decide) (fun _ => rfl) (by omega) (by omega) dX6_init_42 rfl ?_
    refine mm_dup dX6_init_45 rfl ?_
    refine mm_callI wM_X3_init rfl kM_X6_26 wI_X3_init dX6_init_46 (c_X3_init hst _ _) rfl rfl (Nat.le_of_ble_eq_true rfl) (by omega) (by omega) (fun v S9 hq => ?_)
    obtain ⟨rfl, rfl⟩ := hq
    refine ⟨fun h => ⟨h, rfl⟩, ?_⟩
    refine mm_aast3 (fun _ => rfl) rfl ((mm_up_n (by omega)).trans hR) (by first | omega | (dsimp only; omega)) mm_up_s (by first | omega | (dsimp only; omega)) (vp_in_nI (by omega) (by decide)) dX6_init_49 ?_
    refine mm_iinc (v := nI (k + 1)) [some (.ref a), some (.int (nI (k + 1)))] dX6_init_50 rfl (by rw [nI_succ]; rfl) (by decide) rfl ?_
    refine mm_goto 30 dX6_init_53 (by decide) ?_
    exact ih (k + 1) (by omega) (va_up f (nI k).toNatClampNeg (some (n + 3 + k))) _ (((mm_up_n (by omega)).trans ((mm_up_n (by omega)).trans hA))) (mm_up_s) (fun i hi => by
        rw [nI_clamp (n := k) (by omega)]
        unfold va_up
        by_cases e : i = k
        · subst e; rw [if_pos rfl]
        · rw [if_neg e]; exact hf i (by omega)) (fun i hi => by
        by_cases e : i = k
        · subst e; exact ((mm_up_n (by omega)).trans mm_up_s)
        · exact (mm_up_n (by omega)).trans ((mm_up_n (by omega)).trans (hI i (by omega)))) (((mm_up_n (by omega)).trans ((mm_up_n (by omega)).trans hB))) (((mm_up_n (by omega)).trans ((mm_up_n (by omega)).trans hBr))) (fun x h1 h2 => (mm_up_n (by omega)).trans ((mm_up_n (by omega)).trans (hF x h1 h2)))

set_option maxHeartbeats 4000000 in
set_option maxRecDepth 100000 in
theorem c_X6_init {g : mm_G} {l : Launch} (hst : l.stackTraces = false) {d : Nat} (a n : Nat) (M : Nat → mm_C) (ha : a < n) (hm : M a = .inr (6, [.null, .null, .null, .int 0, .int 0])) : mm_Cm g l yX6_init (.code yX6_init cX6_init 2 none) (d + 1) 184 3948 [.ref a] (M, n, false) (fun v S' => q_X6_init M a n v S') := by
  refine mm_Cm_of hst (by decide) (Nat.le_of_ble_eq_true rfl) ?_
  show mm_V g l RX6 "<init>" cX6_init 2 none [] (d + 1) 184 3948 _ 0 [some (.ref a), none] [] (M, n, false) 0 0
  refine mm_aload_n dX6_init_0 rfl rfl ?_
  refine mm_oinit kM_X6_3 wO_i wO_c (Nat.le_of_ble_eq_true rfl) dX6_init_1 ?_
  refine mm_aload_n dX6_init_4 rfl rfl ?_
  refine mm_new3 (n1 := n + 1) (ci := 0) (fs := [.null, .int 0, .int 0]) in_X0 tyX0_ok rfl kC_X6_9 wn_X0 wi_X0 (by decide) (fun _ => rfl) (by omega) (by omega) dX6_init_5 rfl ?_
  refine mm_dup dX6_init_8 rfl ?_
  refine mm_sipush (v := 700) dX6_init_9 (by decide) ?_
  refine mm_callI wM_X0_init rfl kM_X6_11 wI_X0_init dX6_init_12 (c_X0_init hst _ _ 700 _ 700 (by decide) rfl (by decide) (by omega) mm_up_s) rfl rfl (Nat.le_of_ble_eq_true rfl) (by omega) (by omega) (fun v S9 hq => ?_)
  obtain ⟨rfl, rfl⟩ := hq
  refine ⟨fun _ => ⟨rfl, rfl⟩, ?_⟩
  refine mm_putF3 (ci := 6) (fs1 := [.ref n, .null, .null, .int 0, .int 0]) in_X6 tyX6_ok nmX6 rfl (k := 0) (by decide) rfl rfl rfl rfl kF_X6_14 dX6_init_15 (mm_fit_ref _ _) ((mm_up_n (by omega)).trans ((mm_up_n (by omega)).trans ((mm_up_n (by omega)).trans hm))) (by first | omega | (dsimp only; omega)) (Nat.le_of_ble_eq_true rfl) rfl ?_
  refine mm_aload_n dX6_init_18 rfl rfl ?_
  refine mm_sipush (v := 180) dX6_init_19 (by decide) ?_
  refine mm_newq3 (n1 := n + 3) (t := 4) (N := 180) (fun _ => rfl) (Or.inl rfl) kC_X6_20 (by decide) rfl (by decide) (by omega) (by omega) dX6_init_22 rfl ?_
  refine mm_putF3 (ci := 6) (fs1 := [.ref n, .ref (n + 2), .null, .int 0, .int 0]) in_X6 tyX6_ok nmX6 rfl (k := 1) (by decide) rfl rfl rfl rfl kF_X6_22 dX6_init_25 (mm_fit_arr _ _) ((mm_up_n (by omega)).trans mm_up_s) (by first | omega | (dsimp only; omega)) (Nat.le_of_ble_eq_true rfl) rfl ?_
  refine mm_iconst (v := 0) dX6_init_28 (by decide) ?_
  refine mm_istore_n [some (.ref a), some (.int 0)] dX6_init_29 (by decide) rfl ?_
  exact lp_X6_init hst M a n ha 180 0 rfl (fun _ => none) _ (mm_up_s) (((mm_up_n (by omega)).trans mm_up_s)) (fun i h => absurd h (Nat.not_lt_zero i)) (fun i h => absurd h (Nat.not_lt_zero i)) (((mm_up_n (by omega)).trans ((mm_up_n (by omega)).trans ((mm_up_n (by omega)).trans mm_up_s)))) (((mm_up_n (by omega)).trans ((mm_up_n (by omega)).trans ((mm_up_n (by omega)).trans ((mm_up_n (by omega)).trans mm_up_s))))) (fun x h1 h2 => (mm_up_n (by omega)).trans ((mm_up_n (by omega)).trans ((mm_up_n (by omega)).trans ((mm_up_n (by omega)).trans ((mm_up_n (by omega)).trans ((mm_up_n (by omega)).trans (rfl)))))))
