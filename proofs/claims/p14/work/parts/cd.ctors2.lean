def q_X2_init (M0 : Nat → mm_C) (a n : Nat) (v : Option Value) (S' : mm_S) : Prop := v = none ∧ S'.2 = (n + 191, false) ∧ S'.1 a = .inr (2, [.ref n, .ref (n + 185), .ref (n + 190), .int 0, .int 0]) ∧ S'.1 n = .inr (6, [.ref (n + 1), .ref (n + 3), .ref (n + 184), .int 0, .int 0]) ∧ S'.1 (n + 1) = .inr (0, [.ref (n + 2), .int 0, .int 0]) ∧ S'.1 (n + 2) = .inl (2, 700, .inl (fun _ => 0)) ∧ S'.1 (n + 184) = .inl (0, 5, .inl (fun _ => 0)) ∧ S'.1 (n + 185) = .inr (10, [.ref (n + 1), .ref (n + 186), .ref (n + 187), .ref (n + 188), .ref (n + 189), .int 0, .int 0, .int 0]) ∧ S'.1 (n + 186) = .inl (0, 701, .inl (fun _ => 0)) ∧ S'.1 (n + 187) = .inl (0, 701, .inl (fun _ => 0)) ∧ S'.1 (n + 188) = .inl (0, 701, .inl (fun _ => 0)) ∧ S'.1 (n + 189) = .inl (1, 701, .inr (.inl (fun _ => 0))) ∧ S'.1 (n + 190) = .inr (5, [.ref n, .ref (n + 185), .null, .null, .null, .int 0, .int 0, .int 0]) ∧
  (∃ f : Nat → Option Nat, S'.1 (n + 3) = .inl (4, 180, .inr (.inr f)) ∧ ∀ i, i < 180 → f i = some (n + 4 + i)) ∧ (∀ i, i < 180 → S'.1 (n + 4 + i) = IT0) ∧ ∀ j, j < n → j ≠ a → S'.1 j = M0 j

set_option maxHeartbeats 4000000 in
set_option maxRecDepth 100000 in
theorem c_X2_init {g : mm_G} {l : Launch} (hst : l.stackTraces = false) {d : Nat} (a n : Nat) (M : Nat → mm_C) (ha : a < n) (hm : M a = .inr (2, [.null, .null, .null, .int 0, .int 0])) : mm_Cm g l yX2_init (.code yX2_init cX2_init 1 none) (d + 2) 191 6773 [.ref a] (M, n, false) (fun v S' => q_X2_init M a n v S') := by
  refine mm_Cm_of hst (by decide) (Nat.le_of_ble_eq_true rfl) ?_
  show mm_V g l RX2 "<init>" cX2_init 1 none [] (d + 2) 191 6773 _ 0 [some (.ref a)] [] (M, n, false) 0 0
  refine mm_aload_n dX2_init_0 rfl rfl ?_
  refine mm_oinit kM_X2_3 wO_i wO_c (Nat.le_of_ble_eq_true rfl) dX2_init_1 ?_
  refine mm_aload_n dX2_init_4 rfl rfl ?_
  refine mm_new3 (n1 := n + 1) (ci := 6) (fs := [.null, .null, .null, .int 0, .int 0]) in_X6 tyX6_ok rfl kC_X2_9 wn_X6 wi_X6 (by decide) (fun _ => rfl) (by omega) (by omega) dX2_init_5 rfl ?_
  refine mm_dup dX2_init_8 rfl ?_
  refine mm_callI wM_X6_init rfl kM_X2_11 wI_X6_init dX2_init_9 (c_X6_init hst _ _ _ (by omega) mm_up_s) rfl rfl (Nat.le_of_ble_eq_true rfl) (by omega) (by omega) (fun v S9 hq => ?_)
  obtain ⟨M1, z1⟩ := S9
  obtain ⟨rfl, hz1, hS1_a, hS1_t, hS1_r, ⟨fi1, hS1_i, hfi1⟩, hS1_I, hS1_c, hS1_F⟩ := hq
  cases hz1
  refine ⟨fun _ => ⟨rfl, rfl⟩, ?_⟩
  refine mm_putF3 (ci := 2) (fs1 := [.ref n, .null, .null, .int 0, .int 0]) in_X2 tyX2_ok nmX2 rfl (k := 0) (by decide) rfl rfl rfl rfl kF_X2_12 dX2_init_12 (mm_fit_ref _ _) (mm_frN (hS1_F _ (by omega) (by omega)) (mm_upN (by omega) hm)) (by first | omega | (dsimp only; omega)) (Nat.le_of_ble_eq_true rfl) rfl ?_
  refine mm_aload_n dX2_init_15 rfl rfl ?_
  refine mm_new3 (n1 := n + 186) (ci := 10) (fs := [.null, .null, .null, .null, .null, .int 0, .int 0, .int 0]) in_X10 tyX10_ok rfl kC_X2_18 wn_X10 wi_X10 (by decide) (fun _ => rfl) (by omega) (by omega) dX2_init_16 rfl ?_
  refine mm_dup dX2_init_19 rfl ?_
  refine mm_aload_n dX2_init_20 rfl rfl ?_
  refine mm_get3 (ci := 2) in_X2 rfl (k := 0) (by decide) rfl kF_X2_12 dX2_init_21 (mm_upN (by omega) mm_up_s) (by first | omega | (dsimp only; omega)) rfl ?_
  refine mm_callV wM_X6_text kM_X2_20 wI_X6_text wS_X6_text dX2_init_24 (c_X6_text hst _ _ _ _ _ _ _ _ _ (by omega) (mm_upN (by omega) (mm_upN (by omega) hS1_a))) (mm_upN (by omega) (mm_upN (by omega) hS1_a)) (by first | omega | (dsimp only; omega)) rfl rfl rfl (Nat.le_of_ble_eq_true rfl) (by omega) (by omega) (fun v S9 hq => ?_)
  obtain ⟨rfl, rfl⟩ := hq
  refine ⟨fun h => ⟨h, rfl⟩, ?_⟩
  refine mm_callI wM_X10_init rfl kM_X2_24 wI_X10_init dX2_init_27 (c_X10_init hst _ _ _ _ (by omega) mm_up_s) rfl rfl (Nat.le_of_ble_eq_true rfl) (by omega) (by omega) (fun v S9 hq => ?_)
  obtain ⟨M2, z2⟩ := S9
  obtain ⟨rfl, hz2, hW2_a, hW2_k, hW2_s, hW2_e, hW2_v, hW2_F⟩ := hq
  cases hz2
  refine ⟨fun _ => ⟨rfl, rfl⟩, ?_⟩
  refine mm_putF3 (ci := 2) (fs1 := [.ref n, .ref (n + 185), .null, .int 0, .int 0]) in_X2 tyX2_ok nmX2 rfl (k := 1) (by decide) rfl rfl rfl rfl kF_X2_27 dX2_init_30 (mm_fit_ref _ _) (mm_frN (hW2_F _ (by omega) (by omega)) (mm_upN (by omega) mm_up_s)) (by first | omega | (dsimp only; omega)) (Nat.le_of_ble_eq_true rfl) rfl ?_
  refine mm_aload_n dX2_init_33 rfl rfl ?_
  refine mm_new3 (n1 := n + 191) (ci := 5) (fs := [.null, .null, .null, .null, .null, .int 0, .int 0, .int 0]) in_X5 tyX5_ok rfl kC_X2_31 wn_X5 wi_X5 (by decide) (fun _ => rfl) (by omega) (by omega) dX2_init_34 rfl ?_
  refine mm_dup dX2_init_37 rfl ?_
  refine mm_aload_n dX2_init_38 rfl rfl ?_
  refine mm_get3 (ci := 2) in_X2 rfl (k := 0) (by decide) rfl kF_X2_12 dX2_init_39 (mm_upN (by omega) mm_up_s) (by first | omega | (dsimp only; omega)) rfl ?_
  refine mm_aload_n dX2_init_42 rfl rfl ?_
  refine mm_get3 (ci := 2) in_X2 rfl (k := 1) (by decide) rfl kF_X2_27 dX2_init_43 (mm_upN (by omega) mm_up_s) (by first | omega | (dsimp only; omega)) rfl ?_
  refine mm_callI wM_X5_init rfl kM_X2_33 wI_X5_init dX2_init_46 (c_X5_init hst _ _ _ _ _ (by omega) mm_up_s) rfl rfl (Nat.le_of_ble_eq_true rfl) (by omega) (by omega) (fun v S9 hq => ?_)
  obtain ⟨M3, z3⟩ := S9
  obtain ⟨rfl, hz3, hP3_a, hP3_F⟩ := hq
  cases hz3
  refine ⟨fun _ => ⟨rfl, rfl⟩, ?_⟩
  refine mm_putF3 (ci := 2) (fs1 := [.ref n, .ref (n + 185), .ref (n + 190), .int 0, .int 0]) in_X2 tyX2_ok nmX2 rfl (k := 2) (by decide) rfl rfl rfl rfl kF_X2_36 dX2_init_49 (mm_fit_ref _ _) (mm_frN ((fun x (_ : x < x + 1) h => hP3_F x h) _ (by omega) (by omega)) (mm_upN (by omega) mm_up_s)) (by first | omega | (dsimp only; omega)) (Nat.le_of_ble_eq_true rfl) rfl ?_
  refine mm_vret dX2_init_52 rfl ?_ (by omega) (by omega)
  exact ⟨rfl, rfl, mm_up_s, (mm_upN (by omega) (mm_frN ((fun x (_ : x < x + 1) h => hP3_F x h) _ (by omega) (by omega)) (mm_upN (by omega) (mm_upN (by omega) (mm_frN (hW2_F _ (by omega) (by omega)) (mm_upN (by omega) (mm_upN (by omega) hS1_a))))))), (mm_upN (by omega) (mm_frN ((fun x (_ : x < x + 1) h => hP3_F x h) _ (by omega) (by omega)) (mm_upN (by omega) (mm_upN (by omega) (mm_frN (hW2_F _ (by omega) (by omega)) (mm_upN (by omega) (mm_upN (by omega) hS1_t))))))), (mm_upN (by omega) (mm_frN ((fun x (_ : x < x + 1) h => hP3_F x h) _ (by omega) (by omega)) (mm_upN (by omega) (mm_upN (by omega) (mm_frN (hW2_F _ (by omega) (by omega)) (mm_upN (by omega) (mm_upN (by omega) hS1_r))))))), (mm_upN (by omega) (mm_frN ((fun x (_ : x < x + 1) h => hP3_F x h) _ (by omega) (by omega)) (mm_upN (by omega) (mm_upN (by omega) (mm_frN (hW2_F _ (by omega) (by omega)) (mm_upN (by omega) (mm_upN (by omega) hS1_c))))))), (mm_upN (by omega) (mm_frN ((fun x (_ : x < x + 1) h => hP3_F x h) _ (by omega) (by omega)) (mm_upN (by omega) (mm_upN (by omega) hW2_a)))), (mm_upN (by omega) (mm_frN ((fun x (_ : x < x + 1) h => hP3_F x h) _ (by omega) (by omega)) (mm_upN (by omega) (mm_upN (by omega) hW2_k)))), (mm_upN (by omega) (mm_frN ((fun x (_ : x < x + 1) h => hP3_F x h) _ (by omega) (by omega)) (mm_upN (by omega) (mm_upN (by omega) hW2_s)))), (mm_upN (by omega) (mm_frN ((fun x (_ : x < x + 1) h => hP3_F x h) _ (by omega) (by omega)) (mm_upN (by omega) (mm_upN (by omega) hW2_e)))), (mm_upN (by omega) (mm_frN ((fun x (_ : x < x + 1) h => hP3_F x h) _ (by omega) (by omega)) (mm_upN (by omega) (mm_upN (by omega) hW2_v)))), (mm_upN (by omega) hP3_a), ⟨_, (mm_upN (by omega) (mm_frN ((fun x (_ : x < x + 1) h => hP3_F x h) _ (by omega) (by omega)) (mm_upN (by omega) (mm_upN (by omega) (mm_frN (hW2_F _ (by omega) (by omega)) (mm_upN (by omega) (mm_upN (by omega) hS1_i))))))), fun i hi => (hfi1 i hi).trans (by rw [show n + 1 + 3 + i = n + 4 + i by omega])⟩, fun i hi => (show _ = _ from by rw [show n + 4 + i = n + 1 + 3 + i by omega]; exact mm_upN (by omega) (mm_frN ((fun x (_ : x < x + 1) h => hP3_F x h) _ (by omega) (by omega)) (mm_upN (by omega) (mm_upN (by omega) (mm_frN (hW2_F _ (by omega) (by omega)) (mm_upN (by omega) (mm_upN (by omega) (hS1_I i hi)))))))), fun x h1 h2 => mm_upN (by omega) (mm_frN ((fun x (_ : x < x + 1) h => hP3_F x h) _ (by omega) (by omega)) (mm_upN (by omega) (mm_upN (by omega) (mm_frN (hW2_F _ (by omega) (by omega)) (mm_upN (by omega) (mm_upN (by omega) (mm_frN (hS1_F _ (by omega) (by omega)) (mm_upN (by omega) (rfl)))))))))⟩
