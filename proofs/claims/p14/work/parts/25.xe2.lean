set_option maxHeartbeats 4000000 in
set_option maxRecDepth 100000 in
theorem e_X12_check_94 {g : mm_G} {l : Launch} (hst : l.stackTraces = false) {Z : Nat → Nat → Option Nat} (hZ : HZ Z) {n : Nat} (hn : 1186 ≤ n) {z : Bool} {d : Nat} {U : Nat} {a : Nat} (hs : sh a = 12) {v3_ : Int32} {σ : SG} {r : Int32} {σ' : SG} (hx : x_X12_check_94 U a v3_ σ = some (r, σ')) : mm_V g l RX12 "check" cX12_check 5 (some .int) [] (d + 3) 0 0 (mm_nt (fun v S' => v = some (.int r) ∧ S' = (mem Z σ', n, z))) 94 [some (.ref a), none, none, some (.int v3_), none] [] (mem Z σ, n, z) 0 0 := by
  unfold x_X12_check_94 at hx
  refine mm_iconst (v := 0) dX12_check_94 (by decide) ?_
  refine mm_istore [some (.ref a), none, none, some (.int v3_), some (.int 0)] dX12_check_95 (by decide) rfl ?_
  refine e_X12_check_L97 hst hZ hn hs _ _ _ hx
set_option maxHeartbeats 4000000 in
set_option maxRecDepth 100000 in
theorem e_X12_check_28 {g : mm_G} {l : Launch} (hst : l.stackTraces = false) {Z : Nat → Nat → Option Nat} (hZ : HZ Z) {n : Nat} (hn : 1186 ≤ n) {z : Bool} {d : Nat} {U : Nat} {a : Nat} (hs : sh a = 12) {v1_ : Int32} {v2_ : Int32} {s0_ : Int32} {σ : SG} {r : Int32} {σ' : SG} (hx : x_X12_check_28 U a v1_ v2_ s0_ σ = some (r, σ')) : mm_V g l RX12 "check" cX12_check 5 (some .int) [] (d + 3) 0 0 (mm_nt (fun v S' => v = some (.int r) ∧ S' = (mem Z σ', n, z))) 28 [some (.ref a), some (.int v1_), some (.int v2_), none, none] [.int s0_, .ref a] (mem Z σ, n, z) 0 0 := by
  unfold x_X12_check_28 at hx
  refine s_putI (v := s0_) (r := some a) (b := a) (ci := 12) (k := 5) in_X12 rfl (by decide) rfl tyX12_ok nmX12 rfl kF_X12_265 dX12_check_28 (mm_fit_int _) rfl hs (by decide) hn (by decide) rfl hx (fun σ6 hx => ?_)
  refine mm_aload_n dX12_check_31 rfl rfl ?_
  refine s_getI (r := some a) (b := a) (ci := 12) (k := 5) in_X12 rfl (by decide) rfl kF_X12_265 dX12_check_32 rfl hs (by decide) hn (by decide) rfl ?_
  refine b_if hx (fun h7 hx => ?_) (fun h7 hx => ?_)
  · refine mm_if_eq 40 dX12_check_35 (by decide) (fun _ => ?_) (fun h => absurd h7 h)
    refine mm_iconst (v := 0) dX12_check_40 (by decide) ?_
    refine mm_istore_n [some (.ref a), some (.int v1_), some (.int v2_), some (.int 0), none] dX12_check_41 (by decide) rfl ?_
    refine e_X12_check_L42 hst hZ hn hs ?_ _ _ _ hx
    · intro  σ14 hx
      refine mm_aload_n dX12_check_62 rfl rfl ?_
      refine mm_iconst (v := 0) dX12_check_63 (by decide) ?_
      refine s_putI (v := 0) (r := some a) (b := a) (ci := 12) (k := 106) in_X12 rfl (by decide) rfl tyX12_ok nmX12 rfl kF_X12_650 dX12_check_64 (mm_fit_int _) rfl hs (by decide) hn (by decide) rfl hx (fun σ15 hx => ?_)
      refine mm_aload_n dX12_check_67 rfl rfl ?_
      refine mm_iload_n dX12_check_68 rfl ?_
      refine mm_iload_n dX12_check_69 rfl ?_
      obtain ⟨σ17, hc16, hx⟩ := b1_some hx
      refine mm_callV3 (a := a) (ci := 12) wM_X12_open kM_X12_853 wI_X12_open wS_X12_open dX12_check_70 (e_X12_open hst hZ hn hs hc16) (mem_obj hs (by decide)) (sh_ltn hs (by decide) hn) rfl rfl rfl (Nat.le_of_ble_eq_true rfl) (by omega) (by omega) (fun v9 S9 hq => ?_)
      obtain ⟨rfl, rfl⟩ := hq
      refine ⟨fun h => ⟨h, rfl⟩, ?_⟩
      refine mm_iconst (v := 0) dX12_check_73 (by decide) ?_
      refine mm_istore_n [some (.ref a), some (.int v1_), some (.int v2_), some (.int 0), none] dX12_check_74 (by decide) rfl ?_
      refine mm_fewer [some (.ref a), none, none, some (.int 0), none] (few_ok (bs := [true, false, false, true, false]) rfl) ?_
      refine e_X12_check_L75 hst hZ hn hs ?_ _ _ _ hx
      · intro w23 σ24 hx
        exact e_X12_check_94 hst hZ hn hs hx
  · refine mm_if_eq 40 dX12_check_35 (by decide) (fun h => absurd h h7) (fun _ => ?_)
    refine mm_iconst (v := 0) dX12_check_38 (by decide) ?_
    refine mm_iret dX12_check_39 rfl rfl ?_ (by omega) (by omega)
    obtain ⟨rfl, rfl⟩ := fin2 hx
    exact ⟨rfl, rfl⟩
set_option maxHeartbeats 4000000 in
set_option maxRecDepth 100000 in
theorem e_X12_check_27 {g : mm_G} {l : Launch} (hst : l.stackTraces = false) {Z : Nat → Nat → Option Nat} (hZ : HZ Z) {n : Nat} (hn : 1186 ≤ n) {z : Bool} {d : Nat} {U : Nat} {a : Nat} (hs : sh a = 12) {v1_ : Int32} {v2_ : Int32} {σ : SG} {r : Int32} {σ' : SG} (hx : x_X12_check_27 U a v1_ v2_ σ = some (r, σ')) : mm_V g l RX12 "check" cX12_check 5 (some .int) [] (d + 3) 0 0 (mm_nt (fun v S' => v = some (.int r) ∧ S' = (mem Z σ', n, z))) 27 [some (.ref a), some (.int v1_), some (.int v2_), none, none] [.ref a] (mem Z σ, n, z) 0 0 := by
  unfold x_X12_check_27 at hx
  refine mm_iconst (v := 1) dX12_check_27 (by decide) ?_
  exact e_X12_check_28 hst hZ hn hs hx
set_option maxHeartbeats 4000000 in
set_option maxRecDepth 100000 in
theorem e_X12_check {g : mm_G} {l : Launch} (hst : l.stackTraces = false) {Z : Nat → Nat → Option Nat} (hZ : HZ Z) {n : Nat} (hn : 1186 ≤ n) {z : Bool} {d : Nat} {U : Nat} {a : Nat} (hs : sh a = 12) {p0 : Int32} {p1 : Int32} {σ : SG} {r : Int32} {σ' : SG} (hx : x_X12_check U a p0 p1 σ = some (r, σ')) : mm_Cm g l yX12_check (.code yX12_check cX12_check 5 (some .int)) (d + 3) 0 0 [.ref a, .int p0, .int p1] (mem Z σ, n, z) (fun v S' => v = some (.int r) ∧ S' = (mem Z σ', n, z)) := by
  refine mm_Cm_of hst (by decide) (Nat.le_of_ble_eq_true rfl) ?_
  show mm_V g l RX12 "check" cX12_check 5 (some .int) [] (d + 3) 0 0 (mm_nt (fun v S' => v = some (.int r) ∧ S' = (mem Z σ', n, z))) 0 [some (.ref a), some (.int p0), some (.int p1), none, none] [] (mem Z σ, n, z) 0 0
  unfold x_X12_check at hx
  refine mm_aload_n dX12_check_0 rfl rfl ?_
  obtain ⟨σ2, hc1, hx⟩ := b1_some hx
  refine mm_callV3 (a := a) (ci := 12) wM_X12_emptyOut kM_X12_746 wI_X12_emptyOut wS_X12_emptyOut dX12_check_1 (e_X12_emptyOut hst hZ hn hs hc1) (mem_obj hs (by decide)) (sh_ltn hs (by decide) hn) rfl rfl rfl (Nat.le_of_ble_eq_true rfl) (by omega) (by omega) (fun v9 S9 hq => ?_)
  obtain ⟨rfl, rfl⟩ := hq
  refine ⟨fun h => ⟨h, rfl⟩, ?_⟩
  refine mm_aload_n dX12_check_4 rfl rfl ?_
  refine mm_aload_n dX12_check_5 rfl rfl ?_
  refine mm_iconst (v := 0) dX12_check_6 (by decide) ?_
  refine mm_iload_n dX12_check_7 rfl ?_
  obtain ⟨v4, hc3, hx⟩ := b1_some hx
  refine mm_callV3 (a := a) (ci := 12) wM_X12_isMessage kM_X12_572 wI_X12_isMessage wS_X12_isMessage dX12_check_8 (e_X12_isMessage hst hZ hn hs hc3) (mem_obj hs (by decide)) (sh_ltn hs (by decide) hn) rfl rfl rfl (Nat.le_of_ble_eq_true rfl) (by omega) (by omega) (fun v9 S9 hq => ?_)
  obtain ⟨rfl, rfl⟩ := hq
  refine ⟨fun h => ⟨h, rfl⟩, ?_⟩
  refine b_if hx (fun h5 hx => ?_) (fun h5 hx => ?_)
  · refine mm_if_eq 27 dX12_check_11 (by decide) (fun _ => ?_) (fun h => absurd h5 h)
    exact e_X12_check_27 hst hZ hn hs hx
  · refine mm_if_eq 27 dX12_check_11 (by decide) (fun h => absurd h h5) (fun _ => ?_)
    refine mm_aload_n dX12_check_14 rfl rfl ?_
    refine mm_iconst (v := 1) dX12_check_15 (by decide) ?_
    refine mm_iload_n dX12_check_16 rfl ?_
    obtain ⟨v45, hc44, hx⟩ := b1_some hx
    refine mm_callV3 (a := a) (ci := 12) wM_X12_isMessage kM_X12_572 wI_X12_isMessage wS_X12_isMessage dX12_check_17 (e_X12_isMessage hst hZ hn hs hc44) (mem_obj hs (by decide)) (sh_ltn hs (by decide) hn) rfl rfl rfl (Nat.le_of_ble_eq_true rfl) (by omega) (by omega) (fun v9 S9 hq => ?_)
    obtain ⟨rfl, rfl⟩ := hq
    refine ⟨fun h => ⟨h, rfl⟩, ?_⟩
    refine b_if hx (fun h46 hx => ?_) (fun h46 hx => ?_)
    · refine mm_if_eq 27 dX12_check_20 (by decide) (fun _ => ?_) (fun h => absurd h46 h)
      exact e_X12_check_27 hst hZ hn hs hx
    · refine mm_if_eq 27 dX12_check_20 (by decide) (fun h => absurd h h46) (fun _ => ?_)
      refine mm_iconst (v := 0) dX12_check_23 (by decide) ?_
      refine mm_goto 28 dX12_check_24 (by decide) ?_
      exact e_X12_check_28 hst hZ hn hs hx
set_option maxHeartbeats 4000000 in
set_option maxRecDepth 100000 in
theorem e_X12_checkLimits_L4 {g : mm_G} {l : Launch} (hst : l.stackTraces = false) {Z : Nat → Nat → Option Nat} (hZ : HZ Z) {n : Nat} (hn : 1186 ≤ n) {z : Bool} {d : Nat} {U : Nat} {a : Nat} (hs : sh a = 12) {k27 : Int32 → Option (SG)} {σ : SG} {σ' : SG} (hk27 : ∀ (v1_ : Int32), k27 v1_ = some σ' → mm_V g l RX12 "checkLimits" cX12_checkLimits 3 none [] (d + 1) 0 0 (mm_nt (fun v S' => v = none ∧ S' = (mem Z σ', n, z))) 27 [some (.ref a), some (.int v1_), none] [] (mem Z σ, n, z) 0 0) : ∀ (U1 : Nat) (v1_ : Int32) (v2_ : Int32), x_X12_checkLimits_L4 U a k27 σ U1 v1_ v2_ = some σ' → mm_V g l RX12 "checkLimits" cX12_checkLimits 3 none [] (d + 1) 0 0 (mm_nt (fun v S' => v = none ∧ S' = (mem Z σ', n, z))) 4 [some (.ref a), some (.int v1_), some (.int v2_)] [] (mem Z σ, n, z) 0 0 := by
  intro U1
  induction U1 with
  | zero => intro v1_ v2_ hx; exact absurd hx (by simp [x_X12_checkLimits_L4])
  | succ U1 ih =>
    intro v1_ v2_ hx
    rw [x_X12_checkLimits_L4] at hx
    refine mm_iload_n dX12_checkLimits_4 rfl ?_
    refine mm_aload_n dX12_checkLimits_5 rfl rfl ?_
    refine s_getI (r := some a) (b := a) (ci := 12) (k := 38) in_X12 rfl (by decide) rfl kF_X12_394 dX12_checkLimits_6 rfl hs (by decide) hn (by decide) rfl ?_
    refine b_if hx (fun h1 hx => ?_) (fun h1 hx => ?_)
    · refine mm_icmp_ge 27 dX12_checkLimits_9 (by decide) (fun h => absurd h (Int32.not_le.mpr h1)) (fun _ => ?_)
      refine mm_iload_n dX12_checkLimits_12 rfl ?_
      refine mm_aload_n dX12_checkLimits_13 rfl rfl ?_
      refine s_getS (q := 1158) (r := some a) (b := a) (ci := 12) (k := 69) in_X12 rfl (by decide) rfl kF_X12_184 dX12_checkLimits_14 rfl hs (by decide) hn (by decide) rfl rfl ?_
      refine mm_iload_n dX12_checkLimits_17 rfl ?_
      obtain ⟨j2, hj3, hb4, hl5, hx⟩ := ix_some hx
      refine s_iald (a := 1158) sa_1158 hn hj3 hb4 na_1158 dX12_checkLimits_18 ?_
      refine mm_iadd dX12_checkLimits_19 ?_
      refine mm_istore_n [some (.ref a), some (.int (v1_ + (sI σ 1158 j2))), some (.int v2_)] dX12_checkLimits_20 (by decide) rfl ?_
      refine mm_iinc (v := v2_ + 1) [some (.ref a), some (.int (v1_ + (sI σ 1158 j2))), some (.int (v2_ + 1))] dX12_checkLimits_21 rfl rfl (by decide) rfl ?_
      refine mm_goto 4 dX12_checkLimits_24 (by decide) ?_
      exact ih _ _ hx
    · refine mm_icmp_ge 27 dX12_checkLimits_9 (by decide) (fun _ => ?_) (fun h => absurd (Int32.not_lt.mp h1) h)
      refine mm_fewer [some (.ref a), some (.int v1_), none] (few_ok (bs := [true, true, false]) rfl) ?_
      exact hk27 _ hx
set_option maxHeartbeats 4000000 in
set_option maxRecDepth 100000 in
theorem e_X12_checkLimits_79 {g : mm_G} {l : Launch} (hst : l.stackTraces = false) {Z : Nat → Nat → Option Nat} (hZ : HZ Z) {n : Nat} (hn : 1186 ≤ n) {z : Bool} {d : Nat} {U : Nat} {a : Nat} (hs : sh a = 12) {σ : SG} {σ' : SG} (hx : x_X12_checkLimits_79 U a σ = some σ') : mm_V g l RX12 "checkLimits" cX12_checkLimits 3 none [] (d + 1) 0 0 (mm_nt (fun v S' => v = none ∧ S' = (mem Z σ', n, z))) 79 [some (.ref a), none, none] [] (mem Z σ, n, z) 0 0 := by
  unfold x_X12_checkLimits_79 at hx
  refine mm_aload_n dX12_checkLimits_79 rfl rfl ?_
  refine mm_bipush (v := 7) dX12_checkLimits_80 (by decide) ?_
  refine mm_aload_n dX12_checkLimits_82 rfl rfl ?_
  refine s_getI (r := some a) (b := a) (ci := 12) (k := 73) in_X12 rfl (by decide) rfl kF_X12_274 dX12_checkLimits_83 rfl hs (by decide) hn (by decide) rfl ?_
  obtain ⟨σ9, hc8, hx⟩ := b1_some hx
  refine mm_callV3 (a := a) (ci := 12) wM_X12_fail kM_X12_360 wI_X12_fail wS_X12_fail dX12_checkLimits_86 (e_X12_fail hst hZ hn hs hc8) (mem_obj hs (by decide)) (sh_ltn hs (by decide) hn) rfl rfl rfl (Nat.le_of_ble_eq_true rfl) (by omega) (by omega) (fun v9 S9 hq => ?_)
  obtain ⟨rfl, rfl⟩ := hq
  refine ⟨fun h => ⟨h, rfl⟩, ?_⟩
  refine mm_vret dX12_checkLimits_89 rfl ?_ (by omega) (by omega)
  obtain rfl := fin1 hx
  exact ⟨rfl, rfl⟩
set_option maxHeartbeats 4000000 in
set_option maxRecDepth 100000 in
theorem e_X12_checkLimits {g : mm_G} {l : Launch} (hst : l.stackTraces = false) {Z : Nat → Nat → Option Nat} (hZ : HZ Z) {n : Nat} (hn : 1186 ≤ n) {z : Bool} {d : Nat} {U : Nat} {a : Nat} (hs : sh a = 12) {σ : SG} {σ' : SG} (hx : x_X12_checkLimits U a σ = some σ') : mm_Cm g l yX12_checkLimits (.code yX12_checkLimits cX12_checkLimits 3 none) (d + 1) 0 0 [.ref a] (mem Z σ, n, z) (fun v S' => v = none ∧ S' = (mem Z σ', n, z)) := by
  refine mm_Cm_of hst (by decide) (Nat.le_of_ble_eq_true rfl) ?_
  show mm_V g l RX12 "checkLimits" cX12_checkLimits 3 none [] (d + 1) 0 0 (mm_nt (fun v S' => v = none ∧ S' = (mem Z σ', n, z))) 0 [some (.ref a), none, none] [] (mem Z σ, n, z) 0 0
  unfold x_X12_checkLimits at hx
  refine mm_iconst (v := 0) dX12_checkLimits_0 (by decide) ?_
  refine mm_istore_n [some (.ref a), some (.int 0), none] dX12_checkLimits_1 (by decide) rfl ?_
  refine mm_iconst (v := 0) dX12_checkLimits_2 (by decide) ?_
  refine mm_istore_n [some (.ref a), some (.int 0), some (.int 0)] dX12_checkLimits_3 (by decide) rfl ?_
  refine e_X12_checkLimits_L4 hst hZ hn hs ?_ _ _ _ hx
  · intro w6 hx
    refine mm_aload_n dX12_checkLimits_27 rfl rfl ?_
    refine s_getI (r := some a) (b := a) (ci := 12) (k := 32) in_X12 rfl (by decide) rfl kF_X12_493 dX12_checkLimits_28 rfl hs (by decide) hn (by decide) rfl ?_
    refine mm_bipush (v := 16) dX12_checkLimits_31 (by decide) ?_
    refine b_if hx (fun h7 hx => ?_) (fun h7 hx => ?_)
    · refine mm_icmp_gt 79 dX12_checkLimits_33 (by decide) (fun _ => ?_) (fun h => absurd h7 h)
      refine mm_fewer [some (.ref a), none, none] (few_ok (bs := [true, false, false]) rfl) ?_
      exact e_X12_checkLimits_79 hst hZ hn hs hx
    · refine mm_icmp_gt 79 dX12_checkLimits_33 (by decide) (fun h => absurd h h7) (fun _ => ?_)
      refine mm_aload_n dX12_checkLimits_36 rfl rfl ?_
      refine s_getI (r := some a) (b := a) (ci := 12) (k := 33) in_X12 rfl (by decide) rfl kF_X12_487 dX12_checkLimits_37 rfl hs (by decide) hn (by decide) rfl ?_
      refine mm_bipush (v := 8) dX12_checkLimits_40 (by decide) ?_
      refine b_if hx (fun h10 hx => ?_) (fun h10 hx => ?_)
      · refine mm_icmp_gt 79 dX12_checkLimits_42 (by decide) (fun _ => ?_) (fun h => absurd h10 h)
        refine mm_fewer [some (.ref a), none, none] (few_ok (bs := [true, false, false]) rfl) ?_
        exact e_X12_checkLimits_79 hst hZ hn hs hx
      · refine mm_icmp_gt 79 dX12_checkLimits_42 (by decide) (fun h => absurd h h10) (fun _ => ?_)
        refine mm_aload_n dX12_checkLimits_45 rfl rfl ?_
        refine s_getI (r := some a) (b := a) (ci := 12) (k := 34) in_X12 rfl (by decide) rfl kF_X12_457 dX12_checkLimits_46 rfl hs (by decide) hn (by decide) rfl ?_
        refine mm_bipush (v := 60) dX12_checkLimits_49 (by decide) ?_
        refine b_if hx (fun h11 hx => ?_) (fun h11 hx => ?_)
        · refine mm_icmp_gt 79 dX12_checkLimits_51 (by decide) (fun _ => ?_) (fun h => absurd h11 h)
          refine mm_fewer [some (.ref a), none, none] (few_ok (bs := [true, false, false]) rfl) ?_
          exact e_X12_checkLimits_79 hst hZ hn hs hx
        · refine mm_icmp_gt 79 dX12_checkLimits_51 (by decide) (fun h => absurd h h11) (fun _ => ?_)
          refine mm_aload_n dX12_checkLimits_54 rfl rfl ?_
          refine s_getI (r := some a) (b := a) (ci := 12) (k := 35) in_X12 rfl (by decide) rfl kF_X12_484 dX12_checkLimits_55 rfl hs (by decide) hn (by decide) rfl ?_
          refine mm_bipush (v := 40) dX12_checkLimits_58 (by decide) ?_
          refine b_if hx (fun h12 hx => ?_) (fun h12 hx => ?_)
          · refine mm_icmp_gt 79 dX12_checkLimits_60 (by decide) (fun _ => ?_) (fun h => absurd h12 h)
            refine mm_fewer [some (.ref a), none, none] (few_ok (bs := [true, false, false]) rfl) ?_
            exact e_X12_checkLimits_79 hst hZ hn hs hx
          · refine mm_icmp_gt 79 dX12_checkLimits_60 (by decide) (fun h => absurd h h12) (fun _ => ?_)
            refine mm_aload_n dX12_checkLimits_63 rfl rfl ?_
            refine s_getI (r := some a) (b := a) (ci := 12) (k := 36) in_X12 rfl (by decide) rfl kF_X12_475 dX12_checkLimits_64 rfl hs (by decide) hn (by decide) rfl ?_
            refine mm_bipush (v := 16) dX12_checkLimits_67 (by decide) ?_
            refine b_if hx (fun h13 hx => ?_) (fun h13 hx => ?_)
            · refine mm_icmp_gt 79 dX12_checkLimits_69 (by decide) (fun _ => ?_) (fun h => absurd h13 h)
              refine mm_fewer [some (.ref a), none, none] (few_ok (bs := [true, false, false]) rfl) ?_
              exact e_X12_checkLimits_79 hst hZ hn hs hx
            · refine mm_icmp_gt 79 dX12_checkLimits_69 (by decide) (fun h => absurd h h13) (fun _ => ?_)
              refine mm_iload_n dX12_checkLimits_72 rfl ?_
              refine mm_sipush (v := 600) dX12_checkLimits_73 (by decide) ?_
              refine b_if hx (fun h14 hx => ?_) (fun h14 hx => ?_)
              · refine mm_icmp_le 89 dX12_checkLimits_76 (by decide) (fun h => absurd h (Int32.not_le.mpr h14)) (fun _ => ?_)
                refine mm_fewer [some (.ref a), none, none] (few_ok (bs := [true, false, false]) rfl) ?_
                exact e_X12_checkLimits_79 hst hZ hn hs hx
              · refine mm_icmp_le 89 dX12_checkLimits_76 (by decide) (fun _ => ?_) (fun h => absurd (Int32.not_lt.mp h14) h)
                refine mm_vret dX12_checkLimits_89 rfl ?_ (by omega) (by omega)
                obtain rfl := fin1 hx
                exact ⟨rfl, rfl⟩
set_option maxHeartbeats 4000000 in
set_option maxRecDepth 100000 in
theorem e_X12_sameText_L11 {g : mm_G} {l : Launch} (hst : l.stackTraces = false) {Z : Nat → Nat → Option Nat} (hZ : HZ Z) {n : Nat} (hn : 1186 ≤ n) {z : Bool} {d : Nat} {U : Nat} {a : Nat} (hs : sh a = 12) {v1_ : Int32} {v2_ : Int32} {v3_ : Int32} {σ : SG} {r : Int32} : ∀ (U1 : Nat) (v5_ : Int32), x_X12_sameText_L11 U a v1_ v2_ v3_ σ U1 v5_ = some r → mm_V g l RX12 "sameText" cX12_sameText 6 (some .boolean) [] (d) 0 0 (mm_nt (fun v S' => v = some (.int r) ∧ S' = (mem Z σ, n, z))) 11 [some (.ref a), some (.int v1_), some (.int v2_), some (.int v3_), none, some (.int v5_)] [] (mem Z σ, n, z) 0 0 := by
  intro U1
  induction U1 with
  | zero => intro v5_ hx; exact absurd hx (by simp [x_X12_sameText_L11])
  | succ U1 ih =>
    intro v5_ hx
    rw [x_X12_sameText_L11] at hx
    refine mm_iload dX12_sameText_11 rfl ?_
    refine mm_iload_n dX12_sameText_13 rfl ?_
    refine b_if hx (fun h2 hx => ?_) (fun h2 hx => ?_)
    · refine mm_icmp_ge 46 dX12_sameText_14 (by decide) (fun h => absurd h (Int32.not_le.mpr h2)) (fun _ => ?_)
      refine mm_aload_n dX12_sameText_17 rfl rfl ?_
      refine s_getS (q := 1102) (r := some a) (b := a) (ci := 12) (k := 0) in_X12 rfl (by decide) rfl kF_X12_7 dX12_sameText_18 rfl hs (by decide) hn (by decide) rfl rfl ?_
      refine mm_iload_n dX12_sameText_21 rfl ?_
      refine mm_iload dX12_sameText_22 rfl ?_
      refine mm_iadd dX12_sameText_24 ?_
      obtain ⟨j3, hj4, hb5, hl6, hx⟩ := ix_some hx
      refine s_iald (a := 1102) sa_1102 hn hj4 hb5 na_1102 dX12_sameText_25 ?_
      refine mm_aload_n dX12_sameText_26 rfl rfl ?_
      refine s_getS (q := 1102) (r := some a) (b := a) (ci := 12) (k := 0) in_X12 rfl (by decide) rfl kF_X12_7 dX12_sameText_27 rfl hs (by decide) hn (by decide) rfl rfl ?_
      refine mm_iload_n dX12_sameText_30 rfl ?_
      refine mm_iload dX12_sameText_31 rfl ?_
      refine mm_iadd dX12_sameText_33 ?_
      obtain ⟨j7, hj8, hb9, hl10, hx⟩ := ix_some hx
      refine s_iald (a := 1102) sa_1102 hn hj8 hb9 na_1102 dX12_sameText_34 ?_
      refine b_if hx (fun h11 hx => ?_) (fun h11 hx => ?_)
      · refine mm_icmp_eq 40 dX12_sameText_35 (by decide) (fun _ => ?_) (fun h => absurd h11 h)
        refine mm_iinc (v := v5_ + 1) [some (.ref a), some (.int v1_), some (.int v2_), some (.int v3_), none, some (.int (v5_ + 1))] dX12_sameText_40 rfl rfl (by decide) rfl ?_
        refine mm_goto 11 dX12_sameText_43 (by decide) ?_
        exact ih _ hx
      · refine mm_icmp_eq 40 dX12_sameText_35 (by decide) (fun h => absurd h h11) (fun _ => ?_)
        refine mm_iconst (v := 0) dX12_sameText_38 (by decide) ?_
        refine mm_iret dX12_sameText_39 rfl rfl ?_ (by omega) (by omega)
        obtain rfl := fin1 hx
        exact ⟨rfl, rfl⟩
    · refine mm_icmp_ge 46 dX12_sameText_14 (by decide) (fun _ => ?_) (fun h => absurd (Int32.not_lt.mp h2) h)
      refine mm_iconst (v := 1) dX12_sameText_46 (by decide) ?_
      refine mm_iret dX12_sameText_47 rfl rfl ?_ (by omega) (by omega)
      obtain rfl := fin1 hx
      exact ⟨rfl, rfl⟩
set_option maxHeartbeats 4000000 in
set_option maxRecDepth 100000 in
theorem e_X12_sameText {g : mm_G} {l : Launch} (hst : l.stackTraces = false) {Z : Nat → Nat → Option Nat} (hZ : HZ Z) {n : Nat} (hn : 1186 ≤ n) {z : Bool} {d : Nat} {U : Nat} {a : Nat} (hs : sh a = 12) {p0 : Int32} {p1 : Int32} {p2 : Int32} {p3 : Int32} {σ : SG} {r : Int32} (hx : x_X12_sameText U a p0 p1 p2 p3 σ = some r) : mm_Cm g l yX12_sameText (.code yX12_sameText cX12_sameText 6 (some .boolean)) (d) 0 0 [.ref a, .int p0, .int p1, .int p2, .int p3] (mem Z σ, n, z) (fun v S' => v = some (.int r) ∧ S' = (mem Z σ, n, z)) := by
  refine mm_Cm_of hst (by decide) (Nat.le_of_ble_eq_true rfl) ?_
  show mm_V g l RX12 "sameText" cX12_sameText 6 (some .boolean) [] (d) 0 0 (mm_nt (fun v S' => v = some (.int r) ∧ S' = (mem Z σ, n, z))) 0 [some (.ref a), some (.int p0), some (.int p1), some (.int p2), some (.int p3), none] [] (mem Z σ, n, z) 0 0
  unfold x_X12_sameText at hx
  refine mm_iload_n dX12_sameText_0 rfl ?_
  refine mm_iload dX12_sameText_1 rfl ?_
  refine b_if hx (fun h1 hx => ?_) (fun h1 hx => ?_)
  · refine mm_icmp_eq 8 dX12_sameText_3 (by decide) (fun _ => ?_) (fun h => absurd h1 h)
    refine mm_iconst (v := 0) dX12_sameText_8 (by decide) ?_
    refine mm_istore [some (.ref a), some (.int p0), some (.int p1), some (.int p2), some (.int p3), some (.int 0)] dX12_sameText_9 (by decide) rfl ?_
    refine mm_fewer [some (.ref a), some (.int p0), some (.int p1), some (.int p2), none, some (.int 0)] (few_ok (bs := [true, true, true, true, false, true]) rfl) ?_
    refine e_X12_sameText_L11 hst hZ hn hs _ _ hx
  · refine mm_icmp_eq 8 dX12_sameText_3 (by decide) (fun h => absurd h h1) (fun _ => ?_)
    refine mm_iconst (v := 0) dX12_sameText_6 (by decide) ?_
    refine mm_iret dX12_sameText_7 rfl rfl ?_ (by omega) (by omega)
    obtain rfl := fin1 hx
    exact ⟨rfl, rfl⟩
set_option maxHeartbeats 4000000 in
set_option maxRecDepth 100000 in
theorem e_X12_earlier_16 {g : mm_G} {l : Launch} (hst : l.stackTraces = false) {Z : Nat → Nat → Option Nat} (hZ : HZ Z) {n : Nat} (hn : 1186 ≤ n) {z : Bool} {d : Nat} {a : Nat} (hs : sh a = 12) {v1_ : Int32} {v2_ : Int32} {σ : SG} {σ' : SG} (hx : x_X12_earlier_16 a v1_ v2_ σ = some σ') : mm_V g l RX12 "earlier" cX12_earlier 3 none [] (d) 0 0 (mm_nt (fun v S' => v = none ∧ S' = (mem Z σ', n, z))) 16 [some (.ref a), some (.int v1_), some (.int v2_)] [] (mem Z σ, n, z) 0 0 := by
  unfold x_X12_earlier_16 at hx
  refine mm_aload_n dX12_earlier_16 rfl rfl ?_
  refine mm_iload_n dX12_earlier_17 rfl ?_
  refine s_putI (v := v1_) (r := some a) (b := a) (ci := 12) (k := 74) in_X12 rfl (by decide) rfl tyX12_ok nmX12 rfl kF_X12_328 dX12_earlier_18 (mm_fit_int _) rfl hs (by decide) hn (by decide) rfl hx (fun σ2 hx => ?_)
  refine mm_aload_n dX12_earlier_21 rfl rfl ?_
  refine mm_iload_n dX12_earlier_22 rfl ?_
  refine s_putI (v := v2_) (r := some a) (b := a) (ci := 12) (k := 75) in_X12 rfl (by decide) rfl tyX12_ok nmX12 rfl kF_X12_331 dX12_earlier_23 (mm_fit_int _) rfl hs (by decide) hn (by decide) rfl hx (fun σ3 hx => ?_)
  refine mm_vret dX12_earlier_26 rfl ?_ (by omega) (by omega)
  obtain rfl := fin1 hx
  exact ⟨rfl, rfl⟩
set_option maxHeartbeats 4000000 in
set_option maxRecDepth 100000 in
theorem e_X12_earlier {g : mm_G} {l : Launch} (hst : l.stackTraces = false) {Z : Nat → Nat → Option Nat} (hZ : HZ Z) {n : Nat} (hn : 1186 ≤ n) {z : Bool} {d : Nat} {a : Nat} (hs : sh a = 12) {p0 : Int32} {p1 : Int32} {σ : SG} {σ' : SG} (hx : x_X12_earlier a p0 p1 σ = some σ') : mm_Cm g l yX12_earlier (.code yX12_earlier cX12_earlier 3 none) (d) 0 0 [.ref a, .int p0, .int p1] (mem Z σ, n, z) (fun v S' => v = none ∧ S' = (mem Z σ', n, z)) := by
  refine mm_Cm_of hst (by decide) (Nat.le_of_ble_eq_true rfl) ?_
  show mm_V g l RX12 "earlier" cX12_earlier 3 none [] (d) 0 0 (mm_nt (fun v S' => v = none ∧ S' = (mem Z σ', n, z))) 0 [some (.ref a), some (.int p0), some (.int p1)] [] (mem Z σ, n, z) 0 0
  unfold x_X12_earlier at hx
  refine mm_aload_n dX12_earlier_0 rfl rfl ?_
  refine s_getI (r := some a) (b := a) (ci := 12) (k := 74) in_X12 rfl (by decide) rfl kF_X12_328 dX12_earlier_1 rfl hs (by decide) hn (by decide) rfl ?_
  refine b_if hx (fun h1 hx => ?_) (fun h1 hx => ?_)
  · refine mm_if_eq 16 dX12_earlier_4 (by decide) (fun _ => ?_) (fun h => absurd h1 h)
    exact e_X12_earlier_16 hst hZ hn hs hx
  · refine mm_if_eq 16 dX12_earlier_4 (by decide) (fun h => absurd h h1) (fun _ => ?_)
    refine mm_aload_n dX12_earlier_7 rfl rfl ?_
    refine s_getI (r := some a) (b := a) (ci := 12) (k := 75) in_X12 rfl (by decide) rfl kF_X12_331 dX12_earlier_8 rfl hs (by decide) hn (by decide) rfl ?_
    refine mm_iload_n dX12_earlier_11 rfl ?_
    refine b_if hx (fun h4 hx => ?_) (fun h4 hx => ?_)
    · refine mm_icmp_gt 16 dX12_earlier_12 (by decide) (fun _ => ?_) (fun h => absurd h4 h)
      exact e_X12_earlier_16 hst hZ hn hs hx
    · refine mm_icmp_gt 16 dX12_earlier_12 (by decide) (fun h => absurd h h4) (fun _ => ?_)
      refine mm_vret dX12_earlier_15 rfl ?_ (by omega) (by omega)
      obtain rfl := fin1 hx
      exact ⟨rfl, rfl⟩
set_option maxHeartbeats 4000000 in
set_option maxRecDepth 100000 in
theorem e_X12_checkNames_74 {g : mm_G} {l : Launch} (hst : l.stackTraces = false) {Z : Nat → Nat → Option Nat} (hZ : HZ Z) {n : Nat} (hn : 1186 ≤ n) {z : Bool} {d : Nat} {U : Nat} {a : Nat} (hs : sh a = 12) {k12 : Int32 → SG → Option (SG)} {k80 : SG → Option (SG)} {v1_ : Int32} {v2_ : Int32} {σ : SG} {σ' : SG} (hk12 : ∀ (v2_ : Int32) (σ8 : SG), k12 v2_ σ8 = some σ' → mm_V g l RX12 "checkNames" cX12_checkNames 3 none [] (d + 1) 0 0 (mm_nt (fun v S' => v = none ∧ S' = (mem Z σ', n, z))) 12 [some (.ref a), some (.int v1_), some (.int v2_)] [] (mem Z σ8, n, z) 0 0) (hk80 : ∀ (σ8 : SG), k80 σ8 = some σ' → mm_V g l RX12 "checkNames" cX12_checkNames 3 none [] (d + 1) 0 0 (mm_nt (fun v S' => v = none ∧ S' = (mem Z σ', n, z))) 80 [some (.ref a), some (.int v1_), none] [] (mem Z σ8, n, z) 0 0) (hx : x_X12_checkNames_74 U a k12 k80 v1_ v2_ σ = some σ') : mm_V g l RX12 "checkNames" cX12_checkNames 3 none [] (d + 1) 0 0 (mm_nt (fun v S' => v = none ∧ S' = (mem Z σ', n, z))) 74 [some (.ref a), some (.int v1_), some (.int v2_)] [] (mem Z σ, n, z) 0 0 := by
  unfold x_X12_checkNames_74 at hx
  refine mm_iinc (v := v2_ + 1) [some (.ref a), some (.int v1_), some (.int (v2_ + 1))] dX12_checkNames_74 rfl rfl (by decide) rfl ?_
  refine mm_goto 12 dX12_checkNames_77 (by decide) ?_
  exact hk12 _ _ hx
set_option maxHeartbeats 4000000 in
set_option maxRecDepth 100000 in
theorem e_X12_checkNames_L12 {g : mm_G} {l : Launch} (hst : l.stackTraces = false) {Z : Nat → Nat → Option Nat} (hZ : HZ Z) {n : Nat} (hn : 1186 ≤ n) {z : Bool} {d : Nat} {U : Nat} {a : Nat} (hs : sh a = 12) {k80 : SG → Option (SG)} {v1_ : Int32} {σ' : SG} (hk80 : ∀ (σ8 : SG), k80 σ8 = some σ' → mm_V g l RX12 "checkNames" cX12_checkNames 3 none [] (d + 1) 0 0 (mm_nt (fun v S' => v = none ∧ S' = (mem Z σ', n, z))) 80 [some (.ref a), some (.int v1_), none] [] (mem Z σ8, n, z) 0 0) : ∀ (U1 : Nat) (v2_ : Int32) (σ : SG), x_X12_checkNames_L12 U a k80 v1_ U1 v2_ σ = some σ' → mm_V g l RX12 "checkNames" cX12_checkNames 3 none [] (d + 1) 0 0 (mm_nt (fun v S' => v = none ∧ S' = (mem Z σ', n, z))) 12 [some (.ref a), some (.int v1_), some (.int v2_)] [] (mem Z σ, n, z) 0 0 := by
  intro U1
  induction U1 with
  | zero => intro v2_ σ hx; exact absurd hx (by simp [x_X12_checkNames_L12])
  | succ U1 ih =>
    intro v2_ σ hx
    rw [x_X12_checkNames_L12] at hx
    refine mm_iload_n dX12_checkNames_12 rfl ?_
    refine mm_iload_n dX12_checkNames_13 rfl ?_
    refine b_if hx (fun h2 hx => ?_) (fun h2 hx => ?_)
    · refine mm_icmp_ge 80 dX12_checkNames_14 (by decide) (fun h => absurd h (Int32.not_le.mpr h2)) (fun _ => ?_)
      refine mm_aload_n dX12_checkNames_17 rfl rfl ?_
      refine s_getS (q := 1156) (r := some a) (b := a) (ci := 12) (k := 67) in_X12 rfl (by decide) rfl kF_X12_178 dX12_checkNames_18 rfl hs (by decide) hn (by decide) rfl rfl ?_
      refine mm_iload_n dX12_checkNames_21 rfl ?_
      obtain ⟨j3, hj4, hb5, hl6, hx⟩ := ix_some hx
      refine s_iald (a := 1156) sa_1156 hn hj4 hb5 na_1156 dX12_checkNames_22 ?_
      refine mm_aload_n dX12_checkNames_23 rfl rfl ?_
      refine s_getS (q := 1156) (r := some a) (b := a) (ci := 12) (k := 67) in_X12 rfl (by decide) rfl kF_X12_178 dX12_checkNames_24 rfl hs (by decide) hn (by decide) rfl rfl ?_
      refine mm_iload_n dX12_checkNames_27 rfl ?_
      obtain ⟨j7, hj8, hb9, hl10, hx⟩ := ix_some hx
      refine s_iald (a := 1156) sa_1156 hn hj8 hb9 na_1156 dX12_checkNames_28 ?_
      refine b_if hx (fun h11 hx => ?_) (fun h11 hx => ?_)
      · refine mm_icmp_ne 74 dX12_checkNames_29 (by decide) (fun h => absurd h11 h) (fun _ => ?_)
        refine mm_aload_n dX12_checkNames_32 rfl rfl ?_
        refine mm_aload_n dX12_checkNames_33 rfl rfl ?_
        refine s_getS (q := 1157) (r := some a) (b := a) (ci := 12) (k := 68) in_X12 rfl (by decide) rfl kF_X12_181 dX12_checkNames_34 rfl hs (by decide) hn (by decide) rfl rfl ?_
        refine mm_iload_n dX12_checkNames_37 rfl ?_
        obtain ⟨j12, hj13, hb14, hl15, hx⟩ := ix_some hx
        refine s_iald (a := 1157) sa_1157 hn hj13 hb14 na_1157 dX12_checkNames_38 ?_
        refine mm_aload_n dX12_checkNames_39 rfl rfl ?_
        refine s_getS (q := 1158) (r := some a) (b := a) (ci := 12) (k := 69) in_X12 rfl (by decide) rfl kF_X12_184 dX12_checkNames_40 rfl hs (by decide) hn (by decide) rfl rfl ?_
        refine mm_iload_n dX12_checkNames_43 rfl ?_
        obtain ⟨j16, hj17, hb18, hl19, hx⟩ := ix_some hx
        refine s_iald (a := 1158) sa_1158 hn hj17 hb18 na_1158 dX12_checkNames_44 ?_
        refine mm_aload_n dX12_checkNames_45 rfl rfl ?_
        refine s_getS (q := 1157) (r := some a) (b := a) (ci := 12) (k := 68) in_X12 rfl (by decide) rfl kF_X12_181 dX12_checkNames_46 rfl hs (by decide) hn (by decide) rfl rfl ?_
        refine mm_iload_n dX12_checkNames_49 rfl ?_
        obtain ⟨j20, hj21, hb22, hl23, hx⟩ := ix_some hx
        refine s_iald (a := 1157) sa_1157 hn hj21 hb22 na_1157 dX12_checkNames_50 ?_
        refine mm_aload_n dX12_checkNames_51 rfl rfl ?_
        refine s_getS (q := 1158) (r := some a) (b := a) (ci := 12) (k := 69) in_X12 rfl (by decide) rfl kF_X12_184 dX12_checkNames_52 rfl hs (by decide) hn (by decide) rfl rfl ?_
        refine mm_iload_n dX12_checkNames_55 rfl ?_
        obtain ⟨j24, hj25, hb26, hl27, hx⟩ := ix_some hx
        refine s_iald (a := 1158) sa_1158 hn hj25 hb26 na_1158 dX12_checkNames_56 ?_
        obtain ⟨v29, hc28, hx⟩ := b1_some hx
        refine mm_callV3 (a := a) (ci := 12) wM_X12_sameText kM_X12_515 wI_X12_sameText wS_X12_sameText dX12_checkNames_57 (e_X12_sameText hst hZ hn hs hc28) (mem_obj hs (by decide)) (sh_ltn hs (by decide) hn) rfl rfl rfl (Nat.le_of_ble_eq_true rfl) (by omega) (by omega) (fun v9 S9 hq => ?_)
        obtain ⟨rfl, rfl⟩ := hq
        refine ⟨fun h => ⟨h, rfl⟩, ?_⟩
        refine b_if hx (fun h30 hx => ?_) (fun h30 hx => ?_)
        · refine mm_if_eq 74 dX12_checkNames_60 (by decide) (fun _ => ?_) (fun h => absurd h30 h)
          exact e_X12_checkNames_74 hst hZ hn hs ih hk80 hx
        · refine mm_if_eq 74 dX12_checkNames_60 (by decide) (fun h => absurd h h30) (fun _ => ?_)
          refine mm_aload_n dX12_checkNames_63 rfl rfl ?_
          refine mm_iconst (v := 3) dX12_checkNames_64 (by decide) ?_
          refine mm_aload_n dX12_checkNames_65 rfl rfl ?_
          refine s_getS (q := 1157) (r := some a) (b := a) (ci := 12) (k := 68) in_X12 rfl (by decide) rfl kF_X12_181 dX12_checkNames_66 rfl hs (by decide) hn (by decide) rfl rfl ?_
          refine mm_iload_n dX12_checkNames_69 rfl ?_
          obtain ⟨j31, hj32, hb33, hl34, hx⟩ := ix_some hx
          refine s_iald (a := 1157) sa_1157 hn hj32 hb33 na_1157 dX12_checkNames_70 ?_
          obtain ⟨σ36, hc35, hx⟩ := b1_some hx
          refine mm_callV3 (a := a) (ci := 12) wM_X12_earlier kM_X12_519 wI_X12_earlier wS_X12_earlier dX12_checkNames_71 (e_X12_earlier hst hZ hn hs hc35) (mem_obj hs (by decide)) (sh_ltn hs (by decide) hn) rfl rfl rfl (Nat.le_of_ble_eq_true rfl) (by omega) (by omega) (fun v9 S9 hq => ?_)
          obtain ⟨rfl, rfl⟩ := hq
          refine ⟨fun h => ⟨h, rfl⟩, ?_⟩
          exact e_X12_checkNames_74 hst hZ hn hs ih hk80 hx
      · refine mm_icmp_ne 74 dX12_checkNames_29 (by decide) (fun _ => ?_) (fun h => absurd h h11)
        exact e_X12_checkNames_74 hst hZ hn hs ih hk80 hx
    · refine mm_icmp_ge 80 dX12_checkNames_14 (by decide) (fun _ => ?_) (fun h => absurd (Int32.not_lt.mp h2) h)
      refine mm_fewer [some (.ref a), some (.int v1_), none] (few_ok (bs := [true, true, false]) rfl) ?_
      exact hk80  _ hx
set_option maxHeartbeats 4000000 in
set_option maxRecDepth 100000 in
theorem e_X12_checkNames_L2 {g : mm_G} {l : Launch} (hst : l.stackTraces = false) {Z : Nat → Nat → Option Nat} (hZ : HZ Z) {n : Nat} (hn : 1186 ≤ n) {z : Bool} {d : Nat} {U : Nat} {a : Nat} (hs : sh a = 12) {σ' : SG} : ∀ (U1 : Nat) (v1_ : Int32) (σ : SG), x_X12_checkNames_L2 U a U1 v1_ σ = some σ' → mm_V g l RX12 "checkNames" cX12_checkNames 3 none [] (d + 1) 0 0 (mm_nt (fun v S' => v = none ∧ S' = (mem Z σ', n, z))) 2 [some (.ref a), some (.int v1_), none] [] (mem Z σ, n, z) 0 0 := by
  intro U1
  induction U1 with
  | zero => intro v1_ σ hx; exact absurd hx (by simp [x_X12_checkNames_L2])
  | succ U1 ih =>
    intro v1_ σ hx
    rw [x_X12_checkNames_L2] at hx
    refine mm_iload_n dX12_checkNames_2 rfl ?_
    refine mm_aload_n dX12_checkNames_3 rfl rfl ?_
    refine s_getI (r := some a) (b := a) (ci := 12) (k := 38) in_X12 rfl (by decide) rfl kF_X12_394 dX12_checkNames_4 rfl hs (by decide) hn (by decide) rfl ?_
    refine b_if hx (fun h1 hx => ?_) (fun h1 hx => ?_)
    · refine mm_icmp_ge 86 dX12_checkNames_7 (by decide) (fun h => absurd h (Int32.not_le.mpr h1)) (fun _ => ?_)
      refine mm_iconst (v := 0) dX12_checkNames_10 (by decide) ?_
      refine mm_istore_n [some (.ref a), some (.int v1_), some (.int 0)] dX12_checkNames_11 (by decide) rfl ?_
      refine e_X12_checkNames_L12 hst hZ hn hs ?_ _ _ _ hx
      · intro  σ37 hx
        refine mm_iinc (v := v1_ + 1) [some (.ref a), some (.int (v1_ + 1)), none] dX12_checkNames_80 rfl rfl (by decide) rfl ?_
        refine mm_goto 2 dX12_checkNames_83 (by decide) ?_
        exact ih _ _ hx
    · refine mm_icmp_ge 86 dX12_checkNames_7 (by decide) (fun _ => ?_) (fun h => absurd (Int32.not_lt.mp h1) h)
      refine mm_vret dX12_checkNames_86 rfl ?_ (by omega) (by omega)
      obtain rfl := fin1 hx
      exact ⟨rfl, rfl⟩
set_option maxHeartbeats 4000000 in
set_option maxRecDepth 100000 in
theorem e_X12_checkNames {g : mm_G} {l : Launch} (hst : l.stackTraces = false) {Z : Nat → Nat → Option Nat} (hZ : HZ Z) {n : Nat} (hn : 1186 ≤ n) {z : Bool} {d : Nat} {U : Nat} {a : Nat} (hs : sh a = 12) {σ : SG} {σ' : SG} (hx : x_X12_checkNames U a σ = some σ') : mm_Cm g l yX12_checkNames (.code yX12_checkNames cX12_checkNames 3 none) (d + 1) 0 0 [.ref a] (mem Z σ, n, z) (fun v S' => v = none ∧ S' = (mem Z σ', n, z)) := by
  refine mm_Cm_of hst (by decide) (Nat.le_of_ble_eq_true rfl) ?_
  show mm_V g l RX12 "checkNames" cX12_checkNames 3 none [] (d + 1) 0 0 (mm_nt (fun v S' => v = none ∧ S' = (mem Z σ', n, z))) 0 [some (.ref a), none, none] [] (mem Z σ, n, z) 0 0
  unfold x_X12_checkNames at hx
  refine mm_iconst (v := 0) dX12_checkNames_0 (by decide) ?_
  refine mm_istore_n [some (.ref a), some (.int 0), none] dX12_checkNames_1 (by decide) rfl ?_
  refine e_X12_checkNames_L2 hst hZ hn hs _ _ _ hx
set_option maxHeartbeats 4000000 in
set_option maxRecDepth 100000 in
theorem e_X12_checkNumbers_94 {g : mm_G} {l : Launch} (hst : l.stackTraces = false) {Z : Nat → Nat → Option Nat} (hZ : HZ Z) {n : Nat} (hn : 1186 ≤ n) {z : Bool} {d : Nat} {U : Nat} {a : Nat} (hs : sh a = 12) {k57 : Int32 → Int32 → Option (SG)} {k100 : Int32 → Option (SG)} {v1_ : Int32} {v2_ : Int64} {v4_ : Int32} {v5_ : Int32} {σ : SG} {σ' : SG} (hk57 : ∀ (v4_ : Int32) (v5_ : Int32), k57 v4_ v5_ = some σ' → mm_V g l RX12 "checkNumbers" cX12_checkNumbers 6 none [] (d + 1) 0 0 (mm_nt (fun v S' => v = none ∧ S' = (mem Z σ', n, z))) 57 [some (.ref a), some (.int v1_), some (.long v2_), none, some (.int v4_), some (.int v5_)] [] (mem Z σ, n, z) 0 0) (hk100 : ∀ (v4_ : Int32), k100 v4_ = some σ' → mm_V g l RX12 "checkNumbers" cX12_checkNumbers 6 none [] (d + 1) 0 0 (mm_nt (fun v S' => v = none ∧ S' = (mem Z σ', n, z))) 100 [some (.ref a), some (.int v1_), none, none, some (.int v4_), none] [] (mem Z σ, n, z) 0 0) (hx : x_X12_checkNumbers_94 U a k57 k100 v1_ v2_ v4_ v5_ σ = some σ') : mm_V g l RX12 "checkNumbers" cX12_checkNumbers 6 none [] (d + 1) 0 0 (mm_nt (fun v S' => v = none ∧ S' = (mem Z σ', n, z))) 94 [some (.ref a), some (.int v1_), some (.long v2_), none, some (.int v4_), some (.int v5_)] [] (mem Z σ, n, z) 0 0 := by
  unfold x_X12_checkNumbers_94 at hx
  refine mm_iinc (v := v5_ + 1) [some (.ref a), some (.int v1_), some (.long v2_), none, some (.int v4_), some (.int (v5_ + 1))] dX12_checkNumbers_94 rfl rfl (by decide) rfl ?_
  refine mm_goto 57 dX12_checkNumbers_97 (by decide) ?_
  exact hk57 _ _ hx
set_option maxHeartbeats 4000000 in
set_option maxRecDepth 100000 in
theorem e_X12_checkNumbers_L57 {g : mm_G} {l : Launch} (hst : l.stackTraces = false) {Z : Nat → Nat → Option Nat} (hZ : HZ Z) {n : Nat} (hn : 1186 ≤ n) {z : Bool} {d : Nat} {U : Nat} {a : Nat} (hs : sh a = 12) {k100 : Int32 → Option (SG)} {v1_ : Int32} {v2_ : Int64} {σ : SG} {σ' : SG} (hk100 : ∀ (v4_ : Int32), k100 v4_ = some σ' → mm_V g l RX12 "checkNumbers" cX12_checkNumbers 6 none [] (d + 1) 0 0 (mm_nt (fun v S' => v = none ∧ S' = (mem Z σ', n, z))) 100 [some (.ref a), some (.int v1_), none, none, some (.int v4_), none] [] (mem Z σ, n, z) 0 0) : ∀ (U1 : Nat) (v4_ : Int32) (v5_ : Int32), x_X12_checkNumbers_L57 U a k100 v1_ v2_ σ U1 v4_ v5_ = some σ' → mm_V g l RX12 "checkNumbers" cX12_checkNumbers 6 none [] (d + 1) 0 0 (mm_nt (fun v S' => v = none ∧ S' = (mem Z σ', n, z))) 57 [some (.ref a), some (.int v1_), some (.long v2_), none, some (.int v4_), some (.int v5_)] [] (mem Z σ, n, z) 0 0 := by
  intro U1
  induction U1 with
  | zero => intro v4_ v5_ hx; exact absurd hx (by simp [x_X12_checkNumbers_L57])
  | succ U1 ih =>
    intro v4_ v5_ hx
    rw [x_X12_checkNumbers_L57] at hx
    refine mm_iload dX12_checkNumbers_57 rfl ?_
    refine mm_iload_n dX12_checkNumbers_59 rfl ?_
    refine b_if hx (fun h7 hx => ?_) (fun h7 hx => ?_)
    · refine mm_icmp_ge 100 dX12_checkNumbers_60 (by decide) (fun h => absurd h (Int32.not_le.mpr h7)) (fun _ => ?_)
      refine mm_aload_n dX12_checkNumbers_63 rfl rfl ?_
      refine s_getS (q := 1134) (r := some a) (b := a) (ci := 12) (k := 45) in_X12 rfl (by decide) rfl kF_X12_111 dX12_checkNumbers_64 rfl hs (by decide) hn (by decide) rfl rfl ?_
      refine mm_iload dX12_checkNumbers_67 rfl ?_
      obtain ⟨j8, hj9, hb10, hl11, hx⟩ := ix_some hx
      refine s_iald (a := 1134) sa_1134 hn hj9 hb10 na_1134 dX12_checkNumbers_69 ?_
      refine mm_aload_n dX12_checkNumbers_70 rfl rfl ?_
      refine s_getS (q := 1134) (r := some a) (b := a) (ci := 12) (k := 45) in_X12 rfl (by decide) rfl kF_X12_111 dX12_checkNumbers_71 rfl hs (by decide) hn (by decide) rfl rfl ?_
      refine mm_iload_n dX12_checkNumbers_74 rfl ?_
      obtain ⟨j12, hj13, hb14, hl15, hx⟩ := ix_some hx
      refine s_iald (a := 1134) sa_1134 hn hj13 hb14 na_1134 dX12_checkNumbers_75 ?_
      refine b_if hx (fun h16 hx => ?_) (fun h16 hx => ?_)
      · refine mm_icmp_ne 94 dX12_checkNumbers_76 (by decide) (fun h => absurd h16 h) (fun _ => ?_)
        refine mm_aload_n dX12_checkNumbers_79 rfl rfl ?_
        refine s_getS (q := 1137) (r := some a) (b := a) (ci := 12) (k := 48) in_X12 rfl (by decide) rfl kF_X12_120 dX12_checkNumbers_80 rfl hs (by decide) hn (by decide) rfl rfl ?_
        refine mm_iload dX12_checkNumbers_83 rfl ?_
        obtain ⟨j17, hj18, hb19, hl20, hx⟩ := ix_some hx
        refine s_lald (a := 1137) sa_1137 hn hj18 hb19 na_1137 dX12_checkNumbers_85 ?_
        refine mm_lload_n dX12_checkNumbers_86 rfl ?_
        refine mm_lcmp dX12_checkNumbers_87 ?_
        refine b_if hx (fun h21 hx => ?_) (fun h21 hx => ?_)
        · refine mm_if_ne 94 dX12_checkNumbers_88 (by decide) (fun h => absurd (lg_eq.mpr h21) h) (fun _ => ?_)
          refine mm_iconst (v := 0) dX12_checkNumbers_91 (by decide) ?_
          refine mm_istore [some (.ref a), some (.int v1_), some (.long v2_), none, some (.int 0), some (.int v5_)] dX12_checkNumbers_92 (by decide) rfl ?_
          exact e_X12_checkNumbers_94 hst hZ hn hs ih hk100 hx
        · refine mm_if_ne 94 dX12_checkNumbers_88 (by decide) (fun _ => ?_) (fun h => absurd (lg_eq.mp h) h21)
          exact e_X12_checkNumbers_94 hst hZ hn hs ih hk100 hx
      · refine mm_icmp_ne 94 dX12_checkNumbers_76 (by decide) (fun _ => ?_) (fun h => absurd h h16)
        exact e_X12_checkNumbers_94 hst hZ hn hs ih hk100 hx
    · refine mm_icmp_ge 100 dX12_checkNumbers_60 (by decide) (fun _ => ?_) (fun h => absurd (Int32.not_lt.mp h7) h)
      refine mm_fewer [some (.ref a), some (.int v1_), none, none, some (.int v4_), none] (few_ok (bs := [true, true, false, false, true, false]) rfl) ?_
      exact hk100 _ hx
set_option maxHeartbeats 4000000 in
set_option maxRecDepth 100000 in
theorem e_X12_checkNumbers_116 {g : mm_G} {l : Launch} (hst : l.stackTraces = false) {Z : Nat → Nat → Option Nat} (hZ : HZ Z) {n : Nat} (hn : 1186 ≤ n) {z : Bool} {d : Nat} {U : Nat} {a : Nat} (hs : sh a = 12) {k2 : Int32 → SG → Option (SG)} {k122 : SG → Option (SG)} {v1_ : Int32} {σ : SG} {σ' : SG} (hk2 : ∀ (v1_ : Int32) (σ8 : SG), k2 v1_ σ8 = some σ' → mm_V g l RX12 "checkNumbers" cX12_checkNumbers 6 none [] (d + 1) 0 0 (mm_nt (fun v S' => v = none ∧ S' = (mem Z σ', n, z))) 2 [some (.ref a), some (.int v1_), none, none, none, none] [] (mem Z σ8, n, z) 0 0) (hk122 : ∀ (σ8 : SG), k122 σ8 = some σ' → mm_V g l RX12 "checkNumbers" cX12_checkNumbers 6 none [] (d + 1) 0 0 (mm_nt (fun v S' => v = none ∧ S' = (mem Z σ', n, z))) 122 [some (.ref a), none, none, none, none, none] [] (mem Z σ8, n, z) 0 0) (hx : x_X12_checkNumbers_116 U a k2 k122 v1_ σ = some σ') : mm_V g l RX12 "checkNumbers" cX12_checkNumbers 6 none [] (d + 1) 0 0 (mm_nt (fun v S' => v = none ∧ S' = (mem Z σ', n, z))) 116 [some (.ref a), some (.int v1_), none, none, none, none] [] (mem Z σ, n, z) 0 0 := by
  unfold x_X12_checkNumbers_116 at hx
  refine mm_iinc (v := v1_ + 1) [some (.ref a), some (.int (v1_ + 1)), none, none, none, none] dX12_checkNumbers_116 rfl rfl (by decide) rfl ?_
  refine mm_goto 2 dX12_checkNumbers_119 (by decide) ?_
  exact hk2 _ _ hx
set_option maxHeartbeats 4000000 in
set_option maxRecDepth 100000 in
theorem e_X12_checkNumbers_52 {g : mm_G} {l : Launch} (hst : l.stackTraces = false) {Z : Nat → Nat → Option Nat} (hZ : HZ Z) {n : Nat} (hn : 1186 ≤ n) {z : Bool} {d : Nat} {U : Nat} {a : Nat} (hs : sh a = 12) {k2 : Int32 → SG → Option (SG)} {k122 : SG → Option (SG)} {v1_ : Int32} {v2_ : Int64} {s0_ : Int32} {σ : SG} {σ' : SG} (hk2 : ∀ (v1_ : Int32) (σ8 : SG), k2 v1_ σ8 = some σ' → mm_V g l RX12 "checkNumbers" cX12_checkNumbers 6 none [] (d + 1) 0 0 (mm_nt (fun v S' => v = none ∧ S' = (mem Z σ', n, z))) 2 [some (.ref a), some (.int v1_), none, none, none, none] [] (mem Z σ8, n, z) 0 0) (hk122 : ∀ (σ8 : SG), k122 σ8 = some σ' → mm_V g l RX12 "checkNumbers" cX12_checkNumbers 6 none [] (d + 1) 0 0 (mm_nt (fun v S' => v = none ∧ S' = (mem Z σ', n, z))) 122 [some (.ref a), none, none, none, none, none] [] (mem Z σ8, n, z) 0 0) (hx : x_X12_checkNumbers_52 U a k2 k122 v1_ v2_ s0_ σ = some σ') : mm_V g l RX12 "checkNumbers" cX12_checkNumbers 6 none [] (d + 1) 0 0 (mm_nt (fun v S' => v = none ∧ S' = (mem Z σ', n, z))) 52 [some (.ref a), some (.int v1_), some (.long v2_), none, none, none] [.int s0_] (mem Z σ, n, z) 0 0 := by
  unfold x_X12_checkNumbers_52 at hx
  refine mm_istore [some (.ref a), some (.int v1_), some (.long v2_), none, some (.int s0_), none] dX12_checkNumbers_52 (by decide) rfl ?_
  refine mm_iconst (v := 0) dX12_checkNumbers_54 (by decide) ?_
  refine mm_istore [some (.ref a), some (.int v1_), some (.long v2_), none, some (.int s0_), some (.int 0)] dX12_checkNumbers_55 (by decide) rfl ?_
  refine e_X12_checkNumbers_L57 hst hZ hn hs ?_ _ _ _ hx
  · intro w22 hx
    refine mm_iload dX12_checkNumbers_100 rfl ?_
    refine b_if hx (fun h23 hx => ?_) (fun h23 hx => ?_)
    · refine mm_if_ne 116 dX12_checkNumbers_102 (by decide) (fun h => absurd h23 h) (fun _ => ?_)
      refine mm_aload_n dX12_checkNumbers_105 rfl rfl ?_
      refine mm_iconst (v := 4) dX12_checkNumbers_106 (by decide) ?_
      refine mm_aload_n dX12_checkNumbers_107 rfl rfl ?_
      refine s_getS (q := 1138) (r := some a) (b := a) (ci := 12) (k := 49) in_X12 rfl (by decide) rfl kF_X12_124 dX12_checkNumbers_108 rfl hs (by decide) hn (by decide) rfl rfl ?_
      refine mm_iload_n dX12_checkNumbers_111 rfl ?_
      obtain ⟨j24, hj25, hb26, hl27, hx⟩ := ix_some hx
      refine s_iald (a := 1138) sa_1138 hn hj25 hb26 na_1138 dX12_checkNumbers_112 ?_
      obtain ⟨σ29, hc28, hx⟩ := b1_some hx
      refine mm_callV3 (a := a) (ci := 12) wM_X12_earlier kM_X12_519 wI_X12_earlier wS_X12_earlier dX12_checkNumbers_113 (e_X12_earlier hst hZ hn hs hc28) (mem_obj hs (by decide)) (sh_ltn hs (by decide) hn) rfl rfl rfl (Nat.le_of_ble_eq_true rfl) (by omega) (by omega) (fun v9 S9 hq => ?_)
      obtain ⟨rfl, rfl⟩ := hq
      refine ⟨fun h => ⟨h, rfl⟩, ?_⟩
      refine mm_fewer [some (.ref a), some (.int v1_), none, none, none, none] (few_ok (bs := [true, true, false, false, false, false]) rfl) ?_
      exact e_X12_checkNumbers_116 hst hZ hn hs hk2 hk122 hx
    · refine mm_if_ne 116 dX12_checkNumbers_102 (by decide) (fun _ => ?_) (fun h => absurd h h23)
      refine mm_fewer [some (.ref a), some (.int v1_), none, none, none, none] (few_ok (bs := [true, true, false, false, false, false]) rfl) ?_
      exact e_X12_checkNumbers_116 hst hZ hn hs hk2 hk122 hx
set_option maxHeartbeats 4000000 in
set_option maxRecDepth 100000 in
theorem e_X12_checkNumbers_51 {g : mm_G} {l : Launch} (hst : l.stackTraces = false) {Z : Nat → Nat → Option Nat} (hZ : HZ Z) {n : Nat} (hn : 1186 ≤ n) {z : Bool} {d : Nat} {U : Nat} {a : Nat} (hs : sh a = 12) {k2 : Int32 → SG → Option (SG)} {k122 : SG → Option (SG)} {v1_ : Int32} {v2_ : Int64} {σ : SG} {σ' : SG} (hk2 : ∀ (v1_ : Int32) (σ8 : SG), k2 v1_ σ8 = some σ' → mm_V g l RX12 "checkNumbers" cX12_checkNumbers 6 none [] (d + 1) 0 0 (mm_nt (fun v S' => v = none ∧ S' = (mem Z σ', n, z))) 2 [some (.ref a), some (.int v1_), none, none, none, none] [] (mem Z σ8, n, z) 0 0) (hk122 : ∀ (σ8 : SG), k122 σ8 = some σ' → mm_V g l RX12 "checkNumbers" cX12_checkNumbers 6 none [] (d + 1) 0 0 (mm_nt (fun v S' => v = none ∧ S' = (mem Z σ', n, z))) 122 [some (.ref a), none, none, none, none, none] [] (mem Z σ8, n, z) 0 0) (hx : x_X12_checkNumbers_51 U a k2 k122 v1_ v2_ σ = some σ') : mm_V g l RX12 "checkNumbers" cX12_checkNumbers 6 none [] (d + 1) 0 0 (mm_nt (fun v S' => v = none ∧ S' = (mem Z σ', n, z))) 51 [some (.ref a), some (.int v1_), some (.long v2_), none, none, none] [] (mem Z σ, n, z) 0 0 := by
  unfold x_X12_checkNumbers_51 at hx
  refine mm_iconst (v := 0) dX12_checkNumbers_51 (by decide) ?_
  exact e_X12_checkNumbers_52 hst hZ hn hs hk2 hk122 hx
set_option maxHeartbeats 4000000 in
set_option maxRecDepth 100000 in
theorem e_X12_checkNumbers_47 {g : mm_G} {l : Launch} (hst : l.stackTraces = false) {Z : Nat → Nat → Option Nat} (hZ : HZ Z) {n : Nat} (hn : 1186 ≤ n) {z : Bool} {d : Nat} {U : Nat} {a : Nat} (hs : sh a = 12) {k2 : Int32 → SG → Option (SG)} {k122 : SG → Option (SG)} {v1_ : Int32} {v2_ : Int64} {σ : SG} {σ' : SG} (hk2 : ∀ (v1_ : Int32) (σ8 : SG), k2 v1_ σ8 = some σ' → mm_V g l RX12 "checkNumbers" cX12_checkNumbers 6 none [] (d + 1) 0 0 (mm_nt (fun v S' => v = none ∧ S' = (mem Z σ', n, z))) 2 [some (.ref a), some (.int v1_), none, none, none, none] [] (mem Z σ8, n, z) 0 0) (hk122 : ∀ (σ8 : SG), k122 σ8 = some σ' → mm_V g l RX12 "checkNumbers" cX12_checkNumbers 6 none [] (d + 1) 0 0 (mm_nt (fun v S' => v = none ∧ S' = (mem Z σ', n, z))) 122 [some (.ref a), none, none, none, none, none] [] (mem Z σ8, n, z) 0 0) (hx : x_X12_checkNumbers_47 U a k2 k122 v1_ v2_ σ = some σ') : mm_V g l RX12 "checkNumbers" cX12_checkNumbers 6 none [] (d + 1) 0 0 (mm_nt (fun v S' => v = none ∧ S' = (mem Z σ', n, z))) 47 [some (.ref a), some (.int v1_), some (.long v2_), none, none, none] [] (mem Z σ, n, z) 0 0 := by
  unfold x_X12_checkNumbers_47 at hx
  refine mm_iconst (v := 1) dX12_checkNumbers_47 (by decide) ?_
  refine mm_goto 52 dX12_checkNumbers_48 (by decide) ?_
  exact e_X12_checkNumbers_52 hst hZ hn hs hk2 hk122 hx
set_option maxHeartbeats 4000000 in
set_option maxRecDepth 100000 in
theorem e_X12_checkNumbers_L2 {g : mm_G} {l : Launch} (hst : l.stackTraces = false) {Z : Nat → Nat → Option Nat} (hZ : HZ Z) {n : Nat} (hn : 1186 ≤ n) {z : Bool} {d : Nat} {U : Nat} {a : Nat} (hs : sh a = 12) {k122 : SG → Option (SG)} {σ' : SG} (hk122 : ∀ (σ8 : SG), k122 σ8 = some σ' → mm_V g l RX12 "checkNumbers" cX12_checkNumbers 6 none [] (d + 1) 0 0 (mm_nt (fun v S' => v = none ∧ S' = (mem Z σ', n, z))) 122 [some (.ref a), none, none, none, none, none] [] (mem Z σ8, n, z) 0 0) : ∀ (U1 : Nat) (v1_ : Int32) (σ : SG), x_X12_checkNumbers_L2 U a k122 U1 v1_ σ = some σ' → mm_V g l RX12 "checkNumbers" cX12_checkNumbers 6 none [] (d + 1) 0 0 (mm_nt (fun v S' => v = none ∧ S' = (mem Z σ', n, z))) 2 [some (.ref a), some (.int v1_), none, none, none, none] [] (mem Z σ, n, z) 0 0 := by
  intro U1
  induction U1 with
  | zero => intro v1_ σ hx; exact absurd hx (by simp [x_X12_checkNumbers_L2])
  | succ U1 ih =>
    intro v1_ σ hx
    rw [x_X12_checkNumbers_L2] at hx
    refine mm_iload_n dX12_checkNumbers_2 rfl ?_
    refine mm_aload_n dX12_checkNumbers_3 rfl rfl ?_
    refine s_getI (r := some a) (b := a) (ci := 12) (k := 34) in_X12 rfl (by decide) rfl kF_X12_457 dX12_checkNumbers_4 rfl hs (by decide) hn (by decide) rfl ?_
    refine b_if hx (fun h1 hx => ?_) (fun h1 hx => ?_)
    · refine mm_icmp_ge 122 dX12_checkNumbers_7 (by decide) (fun h => absurd h (Int32.not_le.mpr h1)) (fun _ => ?_)
      refine mm_aload_n dX12_checkNumbers_10 rfl rfl ?_
      refine s_getS (q := 1137) (r := some a) (b := a) (ci := 12) (k := 48) in_X12 rfl (by decide) rfl kF_X12_120 dX12_checkNumbers_11 rfl hs (by decide) hn (by decide) rfl rfl ?_
      refine mm_iload_n dX12_checkNumbers_14 rfl ?_
      obtain ⟨j2, hj3, hb4, hl5, hx⟩ := ix_some hx
      refine s_lald (a := 1137) sa_1137 hn hj3 hb4 na_1137 dX12_checkNumbers_15 ?_
      refine mm_lstore_n [some (.ref a), some (.int v1_), some (.long (sL σ 1137 j2)), none, none, none] dX12_checkNumbers_16 (by decide) rfl ?_
      refine mm_lload_n dX12_checkNumbers_17 rfl ?_
      refine mm_lconst (v := 1) dX12_checkNumbers_18 (by decide) ?_
      refine mm_lcmp dX12_checkNumbers_19 ?_
      refine b_if hx (fun h6 hx => ?_) (fun h6 hx => ?_)
      · refine mm_if_lt 51 dX12_checkNumbers_20 (by decide) (fun _ => ?_) (fun h => absurd (lg_lt.mpr h6) h)
        exact e_X12_checkNumbers_51 hst hZ hn hs ih hk122 hx
      · refine mm_if_lt 51 dX12_checkNumbers_20 (by decide) (fun h => absurd (lg_lt.mp h) h6) (fun _ => ?_)
        refine mm_lload_n dX12_checkNumbers_23 rfl ?_
        refine mm_ldc2 kL_X12_522 dX12_checkNumbers_24 ?_
        refine mm_lcmp dX12_checkNumbers_27 ?_
        refine b_if hx (fun h30 hx => ?_) (fun h30 hx => ?_)
        · refine mm_if_gt 51 dX12_checkNumbers_28 (by decide) (fun _ => ?_) (fun h => absurd (lg_gt.mpr h30) h)
          exact e_X12_checkNumbers_51 hst hZ hn hs ih hk122 hx
        · refine mm_if_gt 51 dX12_checkNumbers_28 (by decide) (fun h => absurd (lg_gt.mp h) h30) (fun _ => ?_)
          refine mm_lload_n dX12_checkNumbers_31 rfl ?_
          refine mm_ldc2 kL_X12_524 dX12_checkNumbers_32 ?_
          refine mm_lcmp dX12_checkNumbers_35 ?_
          refine b_if hx (fun h31 hx => ?_) (fun h31 hx => ?_)
          · refine mm_if_lt 47 dX12_checkNumbers_36 (by decide) (fun _ => ?_) (fun h => absurd (lg_lt.mpr h31) h)
            exact e_X12_checkNumbers_47 hst hZ hn hs ih hk122 hx
          · refine mm_if_lt 47 dX12_checkNumbers_36 (by decide) (fun h => absurd (lg_lt.mp h) h31) (fun _ => ?_)
            refine mm_lload_n dX12_checkNumbers_39 rfl ?_
            refine mm_ldc2 kL_X12_526 dX12_checkNumbers_40 ?_
            refine mm_lcmp dX12_checkNumbers_43 ?_
            refine b_if hx (fun h32 hx => ?_) (fun h32 hx => ?_)
            · refine mm_if_le 51 dX12_checkNumbers_44 (by decide) (fun h => absurd (lg_le.mp h) (Int64.not_le.mpr h32)) (fun _ => ?_)
              exact e_X12_checkNumbers_47 hst hZ hn hs ih hk122 hx
            · refine mm_if_le 51 dX12_checkNumbers_44 (by decide) (fun _ => ?_) (fun h => absurd (lg_le.mpr (Int64.not_lt.mp h32)) h)
              exact e_X12_checkNumbers_51 hst hZ hn hs ih hk122 hx
    · refine mm_icmp_ge 122 dX12_checkNumbers_7 (by decide) (fun _ => ?_) (fun h => absurd (Int32.not_lt.mp h1) h)
      refine mm_fewer [some (.ref a), none, none, none, none, none] (few_ok (bs := [true, false, false, false, false, false]) rfl) ?_
      exact hk122  _ hx
set_option maxHeartbeats 4000000 in
set_option maxRecDepth 100000 in
theorem e_X12_checkNumbers_212 {g : mm_G} {l : Launch} (hst : l.stackTraces = false) {Z : Nat → Nat → Option Nat} (hZ : HZ Z) {n : Nat} (hn : 1186 ≤ n) {z : Bool} {d : Nat} {U : Nat} {a : Nat} (hs : sh a = 12) {k124 : Int32 → SG → Option (SG)} {v1_ : Int32} {σ : SG} {σ' : SG} (hk124 : ∀ (v1_ : Int32) (σ8 : SG), k124 v1_ σ8 = some σ' → mm_V g l RX12 "checkNumbers" cX12_checkNumbers 6 none [] (d + 1) 0 0 (mm_nt (fun v S' => v = none ∧ S' = (mem Z σ', n, z))) 124 [some (.ref a), some (.int v1_), none, none, none, none] [] (mem Z σ8, n, z) 0 0) (hx : x_X12_checkNumbers_212 U a k124 v1_ σ = some σ') : mm_V g l RX12 "checkNumbers" cX12_checkNumbers 6 none [] (d + 1) 0 0 (mm_nt (fun v S' => v = none ∧ S' = (mem Z σ', n, z))) 212 [some (.ref a), some (.int v1_), none, none, none, none] [] (mem Z σ, n, z) 0 0 := by
  unfold x_X12_checkNumbers_212 at hx
  refine mm_iinc (v := v1_ + 1) [some (.ref a), some (.int (v1_ + 1)), none, none, none, none] dX12_checkNumbers_212 rfl rfl (by decide) rfl ?_
  refine mm_goto 124 dX12_checkNumbers_215 (by decide) ?_
  exact hk124 _ _ hx
set_option maxHeartbeats 4000000 in
set_option maxRecDepth 100000 in
theorem e_X12_checkNumbers_200 {g : mm_G} {l : Launch} (hst : l.stackTraces = false) {Z : Nat → Nat → Option Nat} (hZ : HZ Z) {n : Nat} (hn : 1186 ≤ n) {z : Bool} {d : Nat} {U : Nat} {a : Nat} (hs : sh a = 12) {k124 : Int32 → SG → Option (SG)} {v1_ : Int32} {σ : SG} {σ' : SG} (hk124 : ∀ (v1_ : Int32) (σ8 : SG), k124 v1_ σ8 = some σ' → mm_V g l RX12 "checkNumbers" cX12_checkNumbers 6 none [] (d + 1) 0 0 (mm_nt (fun v S' => v = none ∧ S' = (mem Z σ', n, z))) 124 [some (.ref a), some (.int v1_), none, none, none, none] [] (mem Z σ8, n, z) 0 0) (hx : x_X12_checkNumbers_200 U a k124 v1_ σ = some σ') : mm_V g l RX12 "checkNumbers" cX12_checkNumbers 6 none [] (d + 1) 0 0 (mm_nt (fun v S' => v = none ∧ S' = (mem Z σ', n, z))) 200 [some (.ref a), some (.int v1_), none, none, none, none] [] (mem Z σ, n, z) 0 0 := by
  unfold x_X12_checkNumbers_200 at hx
  refine mm_aload_n dX12_checkNumbers_200 rfl rfl ?_
  refine mm_bipush (v := 6) dX12_checkNumbers_201 (by decide) ?_
  refine mm_aload_n dX12_checkNumbers_203 rfl rfl ?_
  refine s_getS (q := 1153) (r := some a) (b := a) (ci := 12) (k := 64) in_X12 rfl (by decide) rfl kF_X12_169 dX12_checkNumbers_204 rfl hs (by decide) hn (by decide) rfl rfl ?_
  refine mm_iload_n dX12_checkNumbers_207 rfl ?_
  obtain ⟨j42, hj43, hb44, hl45, hx⟩ := ix_some hx
  refine s_iald (a := 1153) sa_1153 hn hj43 hb44 na_1153 dX12_checkNumbers_208 ?_
  obtain ⟨σ47, hc46, hx⟩ := b1_some hx
  refine mm_callV3 (a := a) (ci := 12) wM_X12_earlier kM_X12_519 wI_X12_earlier wS_X12_earlier dX12_checkNumbers_209 (e_X12_earlier hst hZ hn hs hc46) (mem_obj hs (by decide)) (sh_ltn hs (by decide) hn) rfl rfl rfl (Nat.le_of_ble_eq_true rfl) (by omega) (by omega) (fun v9 S9 hq => ?_)
  obtain ⟨rfl, rfl⟩ := hq
  refine ⟨fun h => ⟨h, rfl⟩, ?_⟩
  exact e_X12_checkNumbers_212 hst hZ hn hs hk124 hx
set_option maxHeartbeats 4000000 in
set_option maxRecDepth 100000 in
theorem e_X12_checkNumbers_174 {g : mm_G} {l : Launch} (hst : l.stackTraces = false) {Z : Nat → Nat → Option Nat} (hZ : HZ Z) {n : Nat} (hn : 1186 ≤ n) {z : Bool} {d : Nat} {U : Nat} {a : Nat} (hs : sh a = 12) {k124 : Int32 → SG → Option (SG)} {v1_ : Int32} {σ : SG} {σ' : SG} (hk124 : ∀ (v1_ : Int32) (σ8 : SG), k124 v1_ σ8 = some σ' → mm_V g l RX12 "checkNumbers" cX12_checkNumbers 6 none [] (d + 1) 0 0 (mm_nt (fun v S' => v = none ∧ S' = (mem Z σ', n, z))) 124 [some (.ref a), some (.int v1_), none, none, none, none] [] (mem Z σ8, n, z) 0 0) (hx : x_X12_checkNumbers_174 U a k124 v1_ σ = some σ') : mm_V g l RX12 "checkNumbers" cX12_checkNumbers 6 none [] (d + 1) 0 0 (mm_nt (fun v S' => v = none ∧ S' = (mem Z σ', n, z))) 174 [some (.ref a), some (.int v1_), none, none, none, none] [] (mem Z σ, n, z) 0 0 := by
  unfold x_X12_checkNumbers_174 at hx
  refine mm_aload_n dX12_checkNumbers_174 rfl rfl ?_
  refine s_getS (q := 1152) (r := some a) (b := a) (ci := 12) (k := 63) in_X12 rfl (by decide) rfl kF_X12_166 dX12_checkNumbers_175 rfl hs (by decide) hn (by decide) rfl rfl ?_
  refine mm_iload_n dX12_checkNumbers_178 rfl ?_
  obtain ⟨j37, hj38, hb39, hl40, hx⟩ := ix_some hx
  refine s_lald (a := 1152) sa_1152 hn hj38 hb39 na_1152 dX12_checkNumbers_179 ?_
  refine mm_ldc2 kL_X12_528 dX12_checkNumbers_180 ?_
  refine mm_lcmp dX12_checkNumbers_183 ?_
  refine b_if hx (fun h41 hx => ?_) (fun h41 hx => ?_)
  · refine mm_if_lt 200 dX12_checkNumbers_184 (by decide) (fun _ => ?_) (fun h => absurd (lg_lt.mpr h41) h)
    exact e_X12_checkNumbers_200 hst hZ hn hs hk124 hx
  · refine mm_if_lt 200 dX12_checkNumbers_184 (by decide) (fun h => absurd (lg_lt.mp h) h41) (fun _ => ?_)
    refine mm_aload_n dX12_checkNumbers_187 rfl rfl ?_
    refine s_getS (q := 1152) (r := some a) (b := a) (ci := 12) (k := 63) in_X12 rfl (by decide) rfl kF_X12_166 dX12_checkNumbers_188 rfl hs (by decide) hn (by decide) rfl rfl ?_
    refine mm_iload_n dX12_checkNumbers_191 rfl ?_
    obtain ⟨j48, hj49, hb50, hl51, hx⟩ := ix_some hx
    refine s_lald (a := 1152) sa_1152 hn hj49 hb50 na_1152 dX12_checkNumbers_192 ?_
    refine mm_ldc2 kL_X12_530 dX12_checkNumbers_193 ?_
    refine mm_lcmp dX12_checkNumbers_196 ?_
    refine b_if hx (fun h52 hx => ?_) (fun h52 hx => ?_)
    · refine mm_if_le 212 dX12_checkNumbers_197 (by decide) (fun h => absurd (lg_le.mp h) (Int64.not_le.mpr h52)) (fun _ => ?_)
      exact e_X12_checkNumbers_200 hst hZ hn hs hk124 hx
    · refine mm_if_le 212 dX12_checkNumbers_197 (by decide) (fun _ => ?_) (fun h => absurd (lg_le.mpr (Int64.not_lt.mp h52)) h)
      exact e_X12_checkNumbers_212 hst hZ hn hs hk124 hx
set_option maxHeartbeats 4000000 in
set_option maxRecDepth 100000 in
theorem e_X12_checkNumbers_158 {g : mm_G} {l : Launch} (hst : l.stackTraces = false) {Z : Nat → Nat → Option Nat} (hZ : HZ Z) {n : Nat} (hn : 1186 ≤ n) {z : Bool} {d : Nat} {U : Nat} {a : Nat} (hs : sh a = 12) {k124 : Int32 → SG → Option (SG)} {v1_ : Int32} {s0_ : Int32} {σ : SG} {σ' : SG} (hk124 : ∀ (v1_ : Int32) (σ8 : SG), k124 v1_ σ8 = some σ' → mm_V g l RX12 "checkNumbers" cX12_checkNumbers 6 none [] (d + 1) 0 0 (mm_nt (fun v S' => v = none ∧ S' = (mem Z σ', n, z))) 124 [some (.ref a), some (.int v1_), none, none, none, none] [] (mem Z σ8, n, z) 0 0) (hx : x_X12_checkNumbers_158 U a k124 v1_ s0_ σ = some σ') : mm_V g l RX12 "checkNumbers" cX12_checkNumbers 6 none [] (d + 1) 0 0 (mm_nt (fun v S' => v = none ∧ S' = (mem Z σ', n, z))) 158 [some (.ref a), some (.int v1_), none, none, none, none] [.int s0_] (mem Z σ, n, z) 0 0 := by
  unfold x_X12_checkNumbers_158 at hx
  refine mm_istore_n [some (.ref a), some (.int v1_), some (.int s0_), none, none, none] dX12_checkNumbers_158 (by decide) rfl ?_
  refine mm_iload_n dX12_checkNumbers_159 rfl ?_
  refine b_if hx (fun h36 hx => ?_) (fun h36 hx => ?_)
  · refine mm_if_eq 174 dX12_checkNumbers_160 (by decide) (fun _ => ?_) (fun h => absurd h36 h)
    refine mm_fewer [some (.ref a), some (.int v1_), none, none, none, none] (few_ok (bs := [true, true, false, false, false, false]) rfl) ?_
    exact e_X12_checkNumbers_174 hst hZ hn hs hk124 hx
  · refine mm_if_eq 174 dX12_checkNumbers_160 (by decide) (fun h => absurd h h36) (fun _ => ?_)
    refine mm_aload_n dX12_checkNumbers_163 rfl rfl ?_
    refine s_getS (q := 1152) (r := some a) (b := a) (ci := 12) (k := 63) in_X12 rfl (by decide) rfl kF_X12_166 dX12_checkNumbers_164 rfl hs (by decide) hn (by decide) rfl rfl ?_
    refine mm_iload_n dX12_checkNumbers_167 rfl ?_
    obtain ⟨j53, hj54, hb55, hl56, hx⟩ := ix_some hx
    refine s_lald (a := 1152) sa_1152 hn hj54 hb55 na_1152 dX12_checkNumbers_168 ?_
    refine mm_lconst (v := 0) dX12_checkNumbers_169 (by decide) ?_
    refine mm_lcmp dX12_checkNumbers_170 ?_
    refine b_if hx (fun h57 hx => ?_) (fun h57 hx => ?_)
    · refine mm_if_ne 200 dX12_checkNumbers_171 (by decide) (fun h => absurd (lg_eq.mpr h57) h) (fun _ => ?_)
      refine mm_fewer [some (.ref a), some (.int v1_), none, none, none, none] (few_ok (bs := [true, true, false, false, false, false]) rfl) ?_
      exact e_X12_checkNumbers_174 hst hZ hn hs hk124 hx
    · refine mm_if_ne 200 dX12_checkNumbers_171 (by decide) (fun _ => ?_) (fun h => absurd (lg_eq.mp h) h57)
      refine mm_fewer [some (.ref a), some (.int v1_), none, none, none, none] (few_ok (bs := [true, true, false, false, false, false]) rfl) ?_
      exact e_X12_checkNumbers_200 hst hZ hn hs hk124 hx
set_option maxHeartbeats 4000000 in
set_option maxRecDepth 100000 in
theorem e_X12_checkNumbers_153 {g : mm_G} {l : Launch} (hst : l.stackTraces = false) {Z : Nat → Nat → Option Nat} (hZ : HZ Z) {n : Nat} (hn : 1186 ≤ n) {z : Bool} {d : Nat} {U : Nat} {a : Nat} (hs : sh a = 12) {k124 : Int32 → SG → Option (SG)} {v1_ : Int32} {σ : SG} {σ' : SG} (hk124 : ∀ (v1_ : Int32) (σ8 : SG), k124 v1_ σ8 = some σ' → mm_V g l RX12 "checkNumbers" cX12_checkNumbers 6 none [] (d + 1) 0 0 (mm_nt (fun v S' => v = none ∧ S' = (mem Z σ', n, z))) 124 [some (.ref a), some (.int v1_), none, none, none, none] [] (mem Z σ8, n, z) 0 0) (hx : x_X12_checkNumbers_153 U a k124 v1_ σ = some σ') : mm_V g l RX12 "checkNumbers" cX12_checkNumbers 6 none [] (d + 1) 0 0 (mm_nt (fun v S' => v = none ∧ S' = (mem Z σ', n, z))) 153 [some (.ref a), some (.int v1_), none, none, none, none] [] (mem Z σ, n, z) 0 0 := by
  unfold x_X12_checkNumbers_153 at hx
  refine mm_iconst (v := 1) dX12_checkNumbers_153 (by decide) ?_
  refine mm_goto 158 dX12_checkNumbers_154 (by decide) ?_
  exact e_X12_checkNumbers_158 hst hZ hn hs hk124 hx
set_option maxHeartbeats 4000000 in
set_option maxRecDepth 100000 in
theorem e_X12_checkNumbers_L124 {g : mm_G} {l : Launch} (hst : l.stackTraces = false) {Z : Nat → Nat → Option Nat} (hZ : HZ Z) {n : Nat} (hn : 1186 ≤ n) {z : Bool} {d : Nat} {U : Nat} {a : Nat} (hs : sh a = 12) {σ' : SG} : ∀ (U1 : Nat) (v1_ : Int32) (σ : SG), x_X12_checkNumbers_L124 U a U1 v1_ σ = some σ' → mm_V g l RX12 "checkNumbers" cX12_checkNumbers 6 none [] (d + 1) 0 0 (mm_nt (fun v S' => v = none ∧ S' = (mem Z σ', n, z))) 124 [some (.ref a), some (.int v1_), none, none, none, none] [] (mem Z σ, n, z) 0 0 := by
  intro U1
  induction U1 with
  | zero => intro v1_ σ hx; exact absurd hx (by simp [x_X12_checkNumbers_L124])
  | succ U1 ih =>
    intro v1_ σ hx
    rw [x_X12_checkNumbers_L124] at hx
    refine mm_iload_n dX12_checkNumbers_124 rfl ?_
    refine mm_aload_n dX12_checkNumbers_125 rfl rfl ?_
    refine s_getI (r := some a) (b := a) (ci := 12) (k := 35) in_X12 rfl (by decide) rfl kF_X12_484 dX12_checkNumbers_126 rfl hs (by decide) hn (by decide) rfl ?_
    refine b_if hx (fun h34 hx => ?_) (fun h34 hx => ?_)
    · refine mm_icmp_ge 218 dX12_checkNumbers_129 (by decide) (fun h => absurd h (Int32.not_le.mpr h34)) (fun _ => ?_)
      refine mm_iload_n dX12_checkNumbers_132 rfl ?_
      refine b_if hx (fun h35 hx => ?_) (fun h35 hx => ?_)
      · refine mm_if_eq 153 dX12_checkNumbers_133 (by decide) (fun _ => ?_) (fun h => absurd h35 h)
        exact e_X12_checkNumbers_153 hst hZ hn hs ih hx
      · refine mm_if_eq 153 dX12_checkNumbers_133 (by decide) (fun h => absurd h h35) (fun _ => ?_)
        refine mm_aload_n dX12_checkNumbers_136 rfl rfl ?_
        refine s_getS (q := 1149) (r := some a) (b := a) (ci := 12) (k := 60) in_X12 rfl (by decide) rfl kF_X12_157 dX12_checkNumbers_137 rfl hs (by decide) hn (by decide) rfl rfl ?_
        refine mm_iload_n dX12_checkNumbers_140 rfl ?_
        refine mm_iconst (v := 1) dX12_checkNumbers_141 (by decide) ?_
        refine mm_isub dX12_checkNumbers_142 ?_
        obtain ⟨j58, hj59, hb60, hl61, hx⟩ := ix_some hx
        refine s_iald (a := 1149) sa_1149 hn hj59 hb60 na_1149 dX12_checkNumbers_143 ?_
        refine mm_aload_n dX12_checkNumbers_144 rfl rfl ?_
        refine s_getS (q := 1149) (r := some a) (b := a) (ci := 12) (k := 60) in_X12 rfl (by decide) rfl kF_X12_157 dX12_checkNumbers_145 rfl hs (by decide) hn (by decide) rfl rfl ?_
        refine mm_iload_n dX12_checkNumbers_148 rfl ?_
        obtain ⟨j62, hj63, hb64, hl65, hx⟩ := ix_some hx
        refine s_iald (a := 1149) sa_1149 hn hj63 hb64 na_1149 dX12_checkNumbers_149 ?_
        refine b_if hx (fun h66 hx => ?_) (fun h66 hx => ?_)
        · refine mm_icmp_eq 157 dX12_checkNumbers_150 (by decide) (fun _ => ?_) (fun h => absurd h66 h)
          refine mm_iconst (v := 0) dX12_checkNumbers_157 (by decide) ?_
          exact e_X12_checkNumbers_158 hst hZ hn hs ih hx
        · refine mm_icmp_eq 157 dX12_checkNumbers_150 (by decide) (fun h => absurd h h66) (fun _ => ?_)
          exact e_X12_checkNumbers_153 hst hZ hn hs ih hx
    · refine mm_icmp_ge 218 dX12_checkNumbers_129 (by decide) (fun _ => ?_) (fun h => absurd (Int32.not_lt.mp h34) h)
      refine mm_vret dX12_checkNumbers_218 rfl ?_ (by omega) (by omega)
      obtain rfl := fin1 hx
      exact ⟨rfl, rfl⟩
set_option maxHeartbeats 4000000 in
set_option maxRecDepth 100000 in
theorem e_X12_checkNumbers {g : mm_G} {l : Launch} (hst : l.stackTraces = false) {Z : Nat → Nat → Option Nat} (hZ : HZ Z) {n : Nat} (hn : 1186 ≤ n) {z : Bool} {d : Nat} {U : Nat} {a : Nat} (hs : sh a = 12) {σ : SG} {σ' : SG} (hx : x_X12_checkNumbers U a σ = some σ') : mm_Cm g l yX12_checkNumbers (.code yX12_checkNumbers cX12_checkNumbers 6 none) (d + 1) 0 0 [.ref a] (mem Z σ, n, z) (fun v S' => v = none ∧ S' = (mem Z σ', n, z)) := by
  refine mm_Cm_of hst (by decide) (Nat.le_of_ble_eq_true rfl) ?_
  show mm_V g l RX12 "checkNumbers" cX12_checkNumbers 6 none [] (d + 1) 0 0 (mm_nt (fun v S' => v = none ∧ S' = (mem Z σ', n, z))) 0 [some (.ref a), none, none, none, none, none] [] (mem Z σ, n, z) 0 0
  unfold x_X12_checkNumbers at hx
  refine mm_iconst (v := 0) dX12_checkNumbers_0 (by decide) ?_
  refine mm_istore_n [some (.ref a), some (.int 0), none, none, none, none] dX12_checkNumbers_1 (by decide) rfl ?_
  refine e_X12_checkNumbers_L2 hst hZ hn hs ?_ _ _ _ hx
  · intro  σ33 hx
    refine mm_iconst (v := 0) dX12_checkNumbers_122 (by decide) ?_
    refine mm_istore_n [some (.ref a), some (.int 0), none, none, none, none] dX12_checkNumbers_123 (by decide) rfl ?_
    refine e_X12_checkNumbers_L124 hst hZ hn hs _ _ _ hx
set_option maxHeartbeats 4000000 in
set_option maxRecDepth 100000 in
theorem e_X12_inScope_53 {g : mm_G} {l : Launch} (hst : l.stackTraces = false) {Z : Nat → Nat → Option Nat} (hZ : HZ Z) {n : Nat} (hn : 1186 ≤ n) {z : Bool} {d : Nat} {U : Nat} {a : Nat} (hs : sh a = 12) {k2 : Int32 → Option (Int32)} {k59 : Option (Int32)} {v1_ : Int32} {v2_ : Int32} {v3_ : Int32} {σ : SG} {r : Int32} (hk2 : ∀ (v3_ : Int32), k2 v3_ = some r → mm_V g l RX12 "inScope" cX12_inScope 4 (some .int) [] (d + 1) 0 0 (mm_nt (fun v S' => v = some (.int r) ∧ S' = (mem Z σ, n, z))) 2 [some (.ref a), some (.int v1_), some (.int v2_), some (.int v3_)] [] (mem Z σ, n, z) 0 0) (hk59 :  k59 = some r → mm_V g l RX12 "inScope" cX12_inScope 4 (some .int) [] (d + 1) 0 0 (mm_nt (fun v S' => v = some (.int r) ∧ S' = (mem Z σ, n, z))) 59 [some (.ref a), some (.int v1_), some (.int v2_), none] [] (mem Z σ, n, z) 0 0) (hx : x_X12_inScope_53 U a k2 k59 v1_ v2_ v3_ σ = some r) : mm_V g l RX12 "inScope" cX12_inScope 4 (some .int) [] (d + 1) 0 0 (mm_nt (fun v S' => v = some (.int r) ∧ S' = (mem Z σ, n, z))) 53 [some (.ref a), some (.int v1_), some (.int v2_), some (.int v3_)] [] (mem Z σ, n, z) 0 0 := by
  unfold x_X12_inScope_53 at hx
  refine mm_iinc (v := v3_ + 1) [some (.ref a), some (.int v1_), some (.int v2_), some (.int (v3_ + 1))] dX12_inScope_53 rfl rfl (by decide) rfl ?_
  refine mm_goto 2 dX12_inScope_56 (by decide) ?_
  exact hk2 _ hx
set_option maxHeartbeats 4000000 in
set_option maxRecDepth 100000 in
theorem e_X12_inScope_L2 {g : mm_G} {l : Launch} (hst : l.stackTraces = false) {Z : Nat → Nat → Option Nat} (hZ : HZ Z) {n : Nat} (hn : 1186 ≤ n) {z : Bool} {d : Nat} {U : Nat} {a : Nat} (hs : sh a = 12) {k59 : Option (Int32)} {v1_ : Int32} {v2_ : Int32} {σ : SG} {r : Int32} (hk59 : k59 = some r → mm_V g l RX12 "inScope" cX12_inScope 4 (some .int) [] (d + 1) 0 0 (mm_nt (fun v S' => v = some (.int r) ∧ S' = (mem Z σ, n, z))) 59 [some (.ref a), some (.int v1_), some (.int v2_), none] [] (mem Z σ, n, z) 0 0) : ∀ (U1 : Nat) (v3_ : Int32), x_X12_inScope_L2 U a k59 v1_ v2_ σ U1 v3_ = some r → mm_V g l RX12 "inScope" cX12_inScope 4 (some .int) [] (d + 1) 0 0 (mm_nt (fun v S' => v = some (.int r) ∧ S' = (mem Z σ, n, z))) 2 [some (.ref a), some (.int v1_), some (.int v2_), some (.int v3_)] [] (mem Z σ, n, z) 0 0 := by
  intro U1
  induction U1 with
  | zero => intro v3_ hx; exact absurd hx (by simp [x_X12_inScope_L2])
  | succ U1 ih =>
    intro v3_ hx
    rw [x_X12_inScope_L2] at hx
    refine mm_iload_n dX12_inScope_2 rfl ?_
    refine mm_aload_n dX12_inScope_3 rfl rfl ?_
    refine s_getI (r := some a) (b := a) (ci := 12) (k := 32) in_X12 rfl (by decide) rfl kF_X12_493 dX12_inScope_4 rfl hs (by decide) hn (by decide) rfl ?_
    refine b_if hx (fun h1 hx => ?_) (fun h1 hx => ?_)
    · refine mm_icmp_ge 59 dX12_inScope_7 (by decide) (fun h => absurd h (Int32.not_le.mpr h1)) (fun _ => ?_)
      refine mm_aload_n dX12_inScope_10 rfl rfl ?_
      refine s_getS (q := 1128) (r := some a) (b := a) (ci := 12) (k := 39) in_X12 rfl (by decide) rfl kF_X12_93 dX12_inScope_11 rfl hs (by decide) hn (by decide) rfl rfl ?_
      refine mm_iload_n dX12_inScope_14 rfl ?_
      obtain ⟨j2, hj3, hb4, hl5, hx⟩ := ix_some hx
      refine s_iald (a := 1128) sa_1128 hn hj3 hb4 na_1128 dX12_inScope_15 ?_
      refine mm_iload_n dX12_inScope_16 rfl ?_
      refine b_if hx (fun h6 hx => ?_) (fun h6 hx => ?_)
      · refine mm_icmp_ne 53 dX12_inScope_17 (by decide) (fun h => absurd h6 h) (fun _ => ?_)
        refine mm_aload_n dX12_inScope_20 rfl rfl ?_
        refine mm_aload_n dX12_inScope_21 rfl rfl ?_
        refine s_getS (q := 1154) (r := some a) (b := a) (ci := 12) (k := 65) in_X12 rfl (by decide) rfl kF_X12_172 dX12_inScope_22 rfl hs (by decide) hn (by decide) rfl rfl ?_
        refine mm_iload_n dX12_inScope_25 rfl ?_
        obtain ⟨j7, hj8, hb9, hl10, hx⟩ := ix_some hx
        refine s_iald (a := 1154) sa_1154 hn hj8 hb9 na_1154 dX12_inScope_26 ?_
        refine mm_aload_n dX12_inScope_27 rfl rfl ?_
        refine s_getS (q := 1155) (r := some a) (b := a) (ci := 12) (k := 66) in_X12 rfl (by decide) rfl kF_X12_175 dX12_inScope_28 rfl hs (by decide) hn (by decide) rfl rfl ?_
        refine mm_iload_n dX12_inScope_31 rfl ?_
        obtain ⟨j11, hj12, hb13, hl14, hx⟩ := ix_some hx
        refine s_iald (a := 1155) sa_1155 hn hj12 hb13 na_1155 dX12_inScope_32 ?_
        refine mm_aload_n dX12_inScope_33 rfl rfl ?_
        refine s_getS (q := 1129) (r := some a) (b := a) (ci := 12) (k := 40) in_X12 rfl (by decide) rfl kF_X12_96 dX12_inScope_34 rfl hs (by decide) hn (by decide) rfl rfl ?_
        refine mm_iload_n dX12_inScope_37 rfl ?_
        obtain ⟨j15, hj16, hb17, hl18, hx⟩ := ix_some hx
        refine s_iald (a := 1129) sa_1129 hn hj16 hb17 na_1129 dX12_inScope_38 ?_
        refine mm_aload_n dX12_inScope_39 rfl rfl ?_
        refine s_getS (q := 1130) (r := some a) (b := a) (ci := 12) (k := 41) in_X12 rfl (by decide) rfl kF_X12_99 dX12_inScope_40 rfl hs (by decide) hn (by decide) rfl rfl ?_
        refine mm_iload_n dX12_inScope_43 rfl ?_
        obtain ⟨j19, hj20, hb21, hl22, hx⟩ := ix_some hx
        refine s_iald (a := 1130) sa_1130 hn hj20 hb21 na_1130 dX12_inScope_44 ?_
        obtain ⟨v24, hc23, hx⟩ := b1_some hx
        refine mm_callV3 (a := a) (ci := 12) wM_X12_sameText kM_X12_515 wI_X12_sameText wS_X12_sameText dX12_inScope_45 (e_X12_sameText hst hZ hn hs hc23) (mem_obj hs (by decide)) (sh_ltn hs (by decide) hn) rfl rfl rfl (Nat.le_of_ble_eq_true rfl) (by omega) (by omega) (fun v9 S9 hq => ?_)
        obtain ⟨rfl, rfl⟩ := hq
        refine ⟨fun h => ⟨h, rfl⟩, ?_⟩
        refine b_if hx (fun h25 hx => ?_) (fun h25 hx => ?_)
        · refine mm_if_eq 53 dX12_inScope_48 (by decide) (fun _ => ?_) (fun h => absurd h25 h)
          exact e_X12_inScope_53 hst hZ hn hs ih hk59 hx
        · refine mm_if_eq 53 dX12_inScope_48 (by decide) (fun h => absurd h h25) (fun _ => ?_)
          refine mm_iload_n dX12_inScope_51 rfl ?_
          refine mm_iret dX12_inScope_52 rfl rfl ?_ (by omega) (by omega)
          obtain rfl := fin1 hx
          exact ⟨rfl, rfl⟩
      · refine mm_icmp_ne 53 dX12_inScope_17 (by decide) (fun _ => ?_) (fun h => absurd h h6)
        exact e_X12_inScope_53 hst hZ hn hs ih hk59 hx
    · refine mm_icmp_ge 59 dX12_inScope_7 (by decide) (fun _ => ?_) (fun h => absurd (Int32.not_lt.mp h1) h)
      refine mm_fewer [some (.ref a), some (.int v1_), some (.int v2_), none] (few_ok (bs := [true, true, true, false]) rfl) ?_
      exact hk59  hx
set_option maxHeartbeats 4000000 in
set_option maxRecDepth 100000 in
theorem e_X12_inScope_116 {g : mm_G} {l : Launch} (hst : l.stackTraces = false) {Z : Nat → Nat → Option Nat} (hZ : HZ Z) {n : Nat} (hn : 1186 ≤ n) {z : Bool} {d : Nat} {U : Nat} {a : Nat} (hs : sh a = 12) {k61 : Int32 → Option (Int32)} {v1_ : Int32} {v2_ : Int32} {v3_ : Int32} {σ : SG} {r : Int32} (hk61 : ∀ (v3_ : Int32), k61 v3_ = some r → mm_V g l RX12 "inScope" cX12_inScope 4 (some .int) [] (d + 1) 0 0 (mm_nt (fun v S' => v = some (.int r) ∧ S' = (mem Z σ, n, z))) 61 [some (.ref a), some (.int v1_), some (.int v2_), some (.int v3_)] [] (mem Z σ, n, z) 0 0) (hx : x_X12_inScope_116 U a k61 v1_ v2_ v3_ σ = some r) : mm_V g l RX12 "inScope" cX12_inScope 4 (some .int) [] (d + 1) 0 0 (mm_nt (fun v S' => v = some (.int r) ∧ S' = (mem Z σ, n, z))) 116 [some (.ref a), some (.int v1_), some (.int v2_), some (.int v3_)] [] (mem Z σ, n, z) 0 0 := by
  unfold x_X12_inScope_116 at hx
  refine mm_iinc (v := v3_ + 1) [some (.ref a), some (.int v1_), some (.int v2_), some (.int (v3_ + 1))] dX12_inScope_116 rfl rfl (by decide) rfl ?_
  refine mm_goto 61 dX12_inScope_119 (by decide) ?_
  exact hk61 _ hx
set_option maxHeartbeats 4000000 in
set_option maxRecDepth 100000 in
theorem e_X12_inScope_L61 {g : mm_G} {l : Launch} (hst : l.stackTraces = false) {Z : Nat → Nat → Option Nat} (hZ : HZ Z) {n : Nat} (hn : 1186 ≤ n) {z : Bool} {d : Nat} {U : Nat} {a : Nat} (hs : sh a = 12) {v1_ : Int32} {v2_ : Int32} {σ : SG} {r : Int32} : ∀ (U1 : Nat) (v3_ : Int32), x_X12_inScope_L61 U a v1_ v2_ σ U1 v3_ = some r → mm_V g l RX12 "inScope" cX12_inScope 4 (some .int) [] (d + 1) 0 0 (mm_nt (fun v S' => v = some (.int r) ∧ S' = (mem Z σ, n, z))) 61 [some (.ref a), some (.int v1_), some (.int v2_), some (.int v3_)] [] (mem Z σ, n, z) 0 0 := by
  intro U1
  induction U1 with
  | zero => intro v3_ hx; exact absurd hx (by simp [x_X12_inScope_L61])
  | succ U1 ih =>
    intro v3_ hx
    rw [x_X12_inScope_L61] at hx
    refine mm_iload_n dX12_inScope_61 rfl ?_
    refine mm_aload_n dX12_inScope_62 rfl rfl ?_
    refine s_getI (r := some a) (b := a) (ci := 12) (k := 33) in_X12 rfl (by decide) rfl kF_X12_487 dX12_inScope_63 rfl hs (by decide) hn (by decide) rfl ?_
    refine b_if hx (fun h26 hx => ?_) (fun h26 hx => ?_)
    · refine mm_icmp_ge 122 dX12_inScope_66 (by decide) (fun h => absurd h (Int32.not_le.mpr h26)) (fun _ => ?_)
      refine mm_aload_n dX12_inScope_69 rfl rfl ?_
      refine s_getS (q := 1131) (r := some a) (b := a) (ci := 12) (k := 42) in_X12 rfl (by decide) rfl kF_X12_102 dX12_inScope_70 rfl hs (by decide) hn (by decide) rfl rfl ?_
      refine mm_iload_n dX12_inScope_73 rfl ?_
      obtain ⟨j27, hj28, hb29, hl30, hx⟩ := ix_some hx
      refine s_iald (a := 1131) sa_1131 hn hj28 hb29 na_1131 dX12_inScope_74 ?_
      refine mm_iload_n dX12_inScope_75 rfl ?_
      refine b_if hx (fun h31 hx => ?_) (fun h31 hx => ?_)
      · refine mm_icmp_ne 116 dX12_inScope_76 (by decide) (fun h => absurd h31 h) (fun _ => ?_)
        refine mm_aload_n dX12_inScope_79 rfl rfl ?_
        refine mm_aload_n dX12_inScope_80 rfl rfl ?_
        refine s_getS (q := 1154) (r := some a) (b := a) (ci := 12) (k := 65) in_X12 rfl (by decide) rfl kF_X12_172 dX12_inScope_81 rfl hs (by decide) hn (by decide) rfl rfl ?_
        refine mm_iload_n dX12_inScope_84 rfl ?_
        obtain ⟨j32, hj33, hb34, hl35, hx⟩ := ix_some hx
        refine s_iald (a := 1154) sa_1154 hn hj33 hb34 na_1154 dX12_inScope_85 ?_
        refine mm_aload_n dX12_inScope_86 rfl rfl ?_
        refine s_getS (q := 1155) (r := some a) (b := a) (ci := 12) (k := 66) in_X12 rfl (by decide) rfl kF_X12_175 dX12_inScope_87 rfl hs (by decide) hn (by decide) rfl rfl ?_
        refine mm_iload_n dX12_inScope_90 rfl ?_
        obtain ⟨j36, hj37, hb38, hl39, hx⟩ := ix_some hx
        refine s_iald (a := 1155) sa_1155 hn hj37 hb38 na_1155 dX12_inScope_91 ?_
        refine mm_aload_n dX12_inScope_92 rfl rfl ?_
        refine s_getS (q := 1132) (r := some a) (b := a) (ci := 12) (k := 43) in_X12 rfl (by decide) rfl kF_X12_105 dX12_inScope_93 rfl hs (by decide) hn (by decide) rfl rfl ?_
        refine mm_iload_n dX12_inScope_96 rfl ?_
        obtain ⟨j40, hj41, hb42, hl43, hx⟩ := ix_some hx
        refine s_iald (a := 1132) sa_1132 hn hj41 hb42 na_1132 dX12_inScope_97 ?_
        refine mm_aload_n dX12_inScope_98 rfl rfl ?_
        refine s_getS (q := 1133) (r := some a) (b := a) (ci := 12) (k := 44) in_X12 rfl (by decide) rfl kF_X12_108 dX12_inScope_99 rfl hs (by decide) hn (by decide) rfl rfl ?_
        refine mm_iload_n dX12_inScope_102 rfl ?_
        obtain ⟨j44, hj45, hb46, hl47, hx⟩ := ix_some hx
        refine s_iald (a := 1133) sa_1133 hn hj45 hb46 na_1133 dX12_inScope_103 ?_
        obtain ⟨v49, hc48, hx⟩ := b1_some hx
        refine mm_callV3 (a := a) (ci := 12) wM_X12_sameText kM_X12_515 wI_X12_sameText wS_X12_sameText dX12_inScope_104 (e_X12_sameText hst hZ hn hs hc48) (mem_obj hs (by decide)) (sh_ltn hs (by decide) hn) rfl rfl rfl (Nat.le_of_ble_eq_true rfl) (by omega) (by omega) (fun v9 S9 hq => ?_)
        obtain ⟨rfl, rfl⟩ := hq
        refine ⟨fun h => ⟨h, rfl⟩, ?_⟩
        refine b_if hx (fun h50 hx => ?_) (fun h50 hx => ?_)
        · refine mm_if_eq 116 dX12_inScope_107 (by decide) (fun _ => ?_) (fun h => absurd h50 h)
          exact e_X12_inScope_116 hst hZ hn hs ih hx
        · refine mm_if_eq 116 dX12_inScope_107 (by decide) (fun h => absurd h h50) (fun _ => ?_)
          refine mm_sipush (v := 1000) dX12_inScope_110 (by decide) ?_
          refine mm_iload_n dX12_inScope_113 rfl ?_
          refine mm_iadd dX12_inScope_114 ?_
          refine mm_iret dX12_inScope_115 rfl rfl ?_ (by omega) (by omega)
          obtain rfl := fin1 hx
          exact ⟨rfl, rfl⟩
      · refine mm_icmp_ne 116 dX12_inScope_76 (by decide) (fun _ => ?_) (fun h => absurd h h31)
        exact e_X12_inScope_116 hst hZ hn hs ih hx
    · refine mm_icmp_ge 122 dX12_inScope_66 (by decide) (fun _ => ?_) (fun h => absurd (Int32.not_lt.mp h26) h)
      refine mm_iconst (v := (-1)) dX12_inScope_122 (by decide) ?_
      refine mm_iret dX12_inScope_123 rfl rfl ?_ (by omega) (by omega)
      obtain rfl := fin1 hx
      exact ⟨rfl, rfl⟩
set_option maxHeartbeats 4000000 in
set_option maxRecDepth 100000 in
theorem e_X12_inScope {g : mm_G} {l : Launch} (hst : l.stackTraces = false) {Z : Nat → Nat → Option Nat} (hZ : HZ Z) {n : Nat} (hn : 1186 ≤ n) {z : Bool} {d : Nat} {U : Nat} {a : Nat} (hs : sh a = 12) {p0 : Int32} {p1 : Int32} {σ : SG} {r : Int32} (hx : x_X12_inScope U a p0 p1 σ = some r) : mm_Cm g l yX12_inScope (.code yX12_inScope cX12_inScope 4 (some .int)) (d + 1) 0 0 [.ref a, .int p0, .int p1] (mem Z σ, n, z) (fun v S' => v = some (.int r) ∧ S' = (mem Z σ, n, z)) := by
  refine mm_Cm_of hst (by decide) (Nat.le_of_ble_eq_true rfl) ?_
  show mm_V g l RX12 "inScope" cX12_inScope 4 (some .int) [] (d + 1) 0 0 (mm_nt (fun v S' => v = some (.int r) ∧ S' = (mem Z σ, n, z))) 0 [some (.ref a), some (.int p0), some (.int p1), none] [] (mem Z σ, n, z) 0 0
  unfold x_X12_inScope at hx
  refine mm_iconst (v := 0) dX12_inScope_0 (by decide) ?_
  refine mm_istore_n [some (.ref a), some (.int p0), some (.int p1), some (.int 0)] dX12_inScope_1 (by decide) rfl ?_
  refine e_X12_inScope_L2 hst hZ hn hs ?_ _ _ hx
  · intro  hx
    refine mm_iconst (v := 0) dX12_inScope_59 (by decide) ?_
    refine mm_istore_n [some (.ref a), some (.int p0), some (.int p1), some (.int 0)] dX12_inScope_60 (by decide) rfl ?_
    refine e_X12_inScope_L61 hst hZ hn hs _ _ hx
set_option maxHeartbeats 4000000 in
set_option maxRecDepth 100000 in
theorem e_X12_resolve_L32 {g : mm_G} {l : Launch} (hst : l.stackTraces = false) {Z : Nat → Nat → Option Nat} (hZ : HZ Z) {n : Nat} (hn : 1186 ≤ n) {z : Bool} {d : Nat} {U : Nat} {a : Nat} (hs : sh a = 12) {k64 : Int32 → Option (SG)} {v1_ : Int32} {σ : SG} {σ' : SG} (hk64 : ∀ (v3_ : Int32), k64 v3_ = some σ' → mm_V g l RX12 "resolve" cX12_resolve 5 none [] (d + 2) 0 0 (mm_nt (fun v S' => v = none ∧ S' = (mem Z σ', n, z))) 64 [some (.ref a), some (.int v1_), none, some (.int v3_), none] [] (mem Z σ, n, z) 0 0) : ∀ (U1 : Nat) (v2_ : Int32) (v3_ : Int32), x_X12_resolve_L32 U a k64 v1_ σ U1 v2_ v3_ = some σ' → mm_V g l RX12 "resolve" cX12_resolve 5 none [] (d + 2) 0 0 (mm_nt (fun v S' => v = none ∧ S' = (mem Z σ', n, z))) 32 [some (.ref a), some (.int v1_), some (.int v2_), some (.int v3_), none] [] (mem Z σ, n, z) 0 0 := by
  intro U1
  induction U1 with
  | zero => intro v2_ v3_ hx; exact absurd hx (by simp [x_X12_resolve_L32])
  | succ U1 ih =>
    intro v2_ v3_ hx
    rw [x_X12_resolve_L32] at hx
    refine mm_iload_n dX12_resolve_32 rfl ?_
    refine mm_iconst (v := (-1)) dX12_resolve_33 (by decide) ?_
    refine b_if hx (fun h16 hx => ?_) (fun h16 hx => ?_)
    · refine mm_icmp_ne 64 dX12_resolve_34 (by decide) (fun h => absurd h16 h) (fun _ => ?_)
      refine mm_iload_n dX12_resolve_37 rfl ?_
      refine mm_iconst (v := (-1)) dX12_resolve_38 (by decide) ?_
      refine b_if hx (fun h17 hx => ?_) (fun h17 hx => ?_)
      · refine mm_icmp_eq 64 dX12_resolve_39 (by decide) (fun _ => ?_) (fun h => absurd h17 h)
        refine mm_fewer [some (.ref a), some (.int v1_), none, some (.int v3_), none] (few_ok (bs := [true, true, false, true, false]) rfl) ?_
        exact hk64 _ hx
      · refine mm_icmp_eq 64 dX12_resolve_39 (by decide) (fun h => absurd h h17) (fun _ => ?_)
        refine mm_aload_n dX12_resolve_42 rfl rfl ?_
        refine s_getS (q := 1128) (r := some a) (b := a) (ci := 12) (k := 39) in_X12 rfl (by decide) rfl kF_X12_93 dX12_resolve_43 rfl hs (by decide) hn (by decide) rfl rfl ?_
        refine mm_iload_n dX12_resolve_46 rfl ?_
        obtain ⟨j18, hj19, hb20, hl21, hx⟩ := ix_some hx
        refine s_iald (a := 1128) sa_1128 hn hj19 hb20 na_1128 dX12_resolve_47 ?_
        refine mm_istore_n [some (.ref a), some (.int v1_), some (.int (sI σ 1128 j18)), some (.int v3_), none] dX12_resolve_48 (by decide) rfl ?_
        refine mm_aload_n dX12_resolve_49 rfl rfl ?_
        refine mm_iload_n dX12_resolve_50 rfl ?_
        refine mm_aload_n dX12_resolve_51 rfl rfl ?_
        refine s_getS (q := 1143) (r := some a) (b := a) (ci := 12) (k := 54) in_X12 rfl (by decide) rfl kF_X12_139 dX12_resolve_52 rfl hs (by decide) hn (by decide) rfl rfl ?_
        refine mm_iload_n dX12_resolve_55 rfl ?_
        obtain ⟨j22, hj23, hb24, hl25, hx⟩ := ix_some hx
        refine s_iald (a := 1143) sa_1143 hn hj23 hb24 na_1143 dX12_resolve_56 ?_
        obtain ⟨v27, hc26, hx⟩ := b1_some hx
        refine mm_callV3 (a := a) (ci := 12) wM_X12_inScope kM_X12_532 wI_X12_inScope wS_X12_inScope dX12_resolve_57 (e_X12_inScope hst hZ hn hs hc26) (mem_obj hs (by decide)) (sh_ltn hs (by decide) hn) rfl rfl rfl (Nat.le_of_ble_eq_true rfl) (by omega) (by omega) (fun v9 S9 hq => ?_)
        obtain ⟨rfl, rfl⟩ := hq
        refine ⟨fun h => ⟨h, rfl⟩, ?_⟩
        refine mm_istore_n [some (.ref a), some (.int v1_), some (.int (sI σ 1128 j18)), some (.int v27), none] dX12_resolve_60 (by decide) rfl ?_
        refine mm_goto 32 dX12_resolve_61 (by decide) ?_
        exact ih _ _ hx
    · refine mm_icmp_ne 64 dX12_resolve_34 (by decide) (fun _ => ?_) (fun h => absurd h h16)
      refine mm_fewer [some (.ref a), some (.int v1_), none, some (.int v3_), none] (few_ok (bs := [true, true, false, true, false]) rfl) ?_
      exact hk64 _ hx
set_option maxHeartbeats 4000000 in
set_option maxRecDepth 100000 in
theorem e_X12_resolve_108 {g : mm_G} {l : Launch} (hst : l.stackTraces = false) {Z : Nat → Nat → Option Nat} (hZ : HZ Z) {n : Nat} (hn : 1186 ≤ n) {z : Bool} {d : Nat} {U : Nat} {a : Nat} (hs : sh a = 12) {k67 : Int32 → Int32 → Option (SG)} {k115 : Int32 → Option (SG)} {v1_ : Int32} {v4_ : Int32} {s0_ : Int32} {σ : SG} {σ' : SG} (hk67 : ∀ (v3_ : Int32) (v4_ : Int32), k67 v3_ v4_ = some σ' → mm_V g l RX12 "resolve" cX12_resolve 5 none [] (d + 2) 0 0 (mm_nt (fun v S' => v = none ∧ S' = (mem Z σ', n, z))) 67 [some (.ref a), some (.int v1_), none, some (.int v3_), some (.int v4_)] [] (mem Z σ, n, z) 0 0) (hk115 : ∀ (v3_ : Int32), k115 v3_ = some σ' → mm_V g l RX12 "resolve" cX12_resolve 5 none [] (d + 2) 0 0 (mm_nt (fun v S' => v = none ∧ S' = (mem Z σ', n, z))) 115 [some (.ref a), some (.int v1_), none, some (.int v3_), none] [] (mem Z σ, n, z) 0 0) (hx : x_X12_resolve_108 U a k67 k115 v1_ v4_ s0_ σ = some σ') : mm_V g l RX12 "resolve" cX12_resolve 5 none [] (d + 2) 0 0 (mm_nt (fun v S' => v = none ∧ S' = (mem Z σ', n, z))) 108 [some (.ref a), some (.int v1_), none, none, some (.int v4_)] [.int s0_] (mem Z σ, n, z) 0 0 := by
  unfold x_X12_resolve_108 at hx
  refine mm_istore_n [some (.ref a), some (.int v1_), none, some (.int s0_), some (.int v4_)] dX12_resolve_108 (by decide) rfl ?_
  refine mm_iinc (v := v4_ + 1) [some (.ref a), some (.int v1_), none, some (.int s0_), some (.int (v4_ + 1))] dX12_resolve_109 rfl rfl (by decide) rfl ?_
  refine mm_goto 67 dX12_resolve_112 (by decide) ?_
  exact hk67 _ _ hx
set_option maxHeartbeats 4000000 in
set_option maxRecDepth 100000 in
theorem e_X12_resolve_L67 {g : mm_G} {l : Launch} (hst : l.stackTraces = false) {Z : Nat → Nat → Option Nat} (hZ : HZ Z) {n : Nat} (hn : 1186 ≤ n) {z : Bool} {d : Nat} {U : Nat} {a : Nat} (hs : sh a = 12) {k115 : Int32 → Option (SG)} {v1_ : Int32} {σ : SG} {σ' : SG} (hk115 : ∀ (v3_ : Int32), k115 v3_ = some σ' → mm_V g l RX12 "resolve" cX12_resolve 5 none [] (d + 2) 0 0 (mm_nt (fun v S' => v = none ∧ S' = (mem Z σ', n, z))) 115 [some (.ref a), some (.int v1_), none, some (.int v3_), none] [] (mem Z σ, n, z) 0 0) : ∀ (U1 : Nat) (v3_ : Int32) (v4_ : Int32), x_X12_resolve_L67 U a k115 v1_ σ U1 v3_ v4_ = some σ' → mm_V g l RX12 "resolve" cX12_resolve 5 none [] (d + 2) 0 0 (mm_nt (fun v S' => v = none ∧ S' = (mem Z σ', n, z))) 67 [some (.ref a), some (.int v1_), none, some (.int v3_), some (.int v4_)] [] (mem Z σ, n, z) 0 0 := by
  intro U1
  induction U1 with
  | zero => intro v3_ v4_ hx; exact absurd hx (by simp [x_X12_resolve_L67])
  | succ U1 ih =>
    intro v3_ v4_ hx
    rw [x_X12_resolve_L67] at hx
    refine mm_iload dX12_resolve_67 rfl ?_
    refine mm_aload_n dX12_resolve_69 rfl rfl ?_
    refine s_getS (q := 1144) (r := some a) (b := a) (ci := 12) (k := 55) in_X12 rfl (by decide) rfl kF_X12_142 dX12_resolve_70 rfl hs (by decide) hn (by decide) rfl rfl ?_
    refine mm_iload_n dX12_resolve_73 rfl ?_
    obtain ⟨j29, hj30, hb31, hl32, hx⟩ := ix_some hx
    refine s_iald (a := 1144) sa_1144 hn hj30 hb31 na_1144 dX12_resolve_74 ?_
    refine b_if hx (fun h33 hx => ?_) (fun h33 hx => ?_)
    · refine mm_icmp_ge 115 dX12_resolve_75 (by decide) (fun h => absurd h (Int32.not_le.mpr h33)) (fun _ => ?_)
      refine mm_iload_n dX12_resolve_78 rfl ?_
      refine mm_iconst (v := (-1)) dX12_resolve_79 (by decide) ?_
      refine b_if hx (fun h34 hx => ?_) (fun h34 hx => ?_)
      · refine mm_icmp_eq 115 dX12_resolve_80 (by decide) (fun _ => ?_) (fun h => absurd h34 h)
        refine mm_fewer [some (.ref a), some (.int v1_), none, some (.int v3_), none] (few_ok (bs := [true, true, false, true, false]) rfl) ?_
        exact hk115 _ hx
      · refine mm_icmp_eq 115 dX12_resolve_80 (by decide) (fun h => absurd h h34) (fun _ => ?_)
        refine mm_iload_n dX12_resolve_83 rfl ?_
        refine mm_sipush (v := 1000) dX12_resolve_84 (by decide) ?_
        refine b_if hx (fun h35 hx => ?_) (fun h35 hx => ?_)
        · refine mm_icmp_lt 94 dX12_resolve_87 (by decide) (fun _ => ?_) (fun h => absurd h35 h)
          refine mm_aload_n dX12_resolve_94 rfl rfl ?_
          refine mm_iload_n dX12_resolve_95 rfl ?_
          refine mm_aload_n dX12_resolve_96 rfl rfl ?_
          refine s_getS (q := 1143) (r := some a) (b := a) (ci := 12) (k := 54) in_X12 rfl (by decide) rfl kF_X12_139 dX12_resolve_97 rfl hs (by decide) hn (by decide) rfl rfl ?_
          refine mm_iload_n dX12_resolve_100 rfl ?_
          obtain ⟨j36, hj37, hb38, hl39, hx⟩ := ix_some hx
          refine s_iald (a := 1143) sa_1143 hn hj37 hb38 na_1143 dX12_resolve_101 ?_
          refine mm_iload dX12_resolve_102 rfl ?_
          refine mm_iadd dX12_resolve_104 ?_
          obtain ⟨v41, hc40, hx⟩ := b1_some hx
          refine mm_callV3 (a := a) (ci := 12) wM_X12_inScope kM_X12_532 wI_X12_inScope wS_X12_inScope dX12_resolve_105 (e_X12_inScope hst hZ hn hs hc40) (mem_obj hs (by decide)) (sh_ltn hs (by decide) hn) rfl rfl rfl (Nat.le_of_ble_eq_true rfl) (by omega) (by omega) (fun v9 S9 hq => ?_)
          obtain ⟨rfl, rfl⟩ := hq
          refine ⟨fun h => ⟨h, rfl⟩, ?_⟩
          refine mm_fewer [some (.ref a), some (.int v1_), none, none, some (.int v4_)] (few_ok (bs := [true, true, false, false, true]) rfl) ?_
          exact e_X12_resolve_108 hst hZ hn hs ih hk115 hx
        · refine mm_icmp_lt 94 dX12_resolve_87 (by decide) (fun h => absurd h h35) (fun _ => ?_)
          refine mm_iconst (v := (-1)) dX12_resolve_90 (by decide) ?_
          refine mm_goto 108 dX12_resolve_91 (by decide) ?_
          refine mm_fewer [some (.ref a), some (.int v1_), none, none, some (.int v4_)] (few_ok (bs := [true, true, false, false, true]) rfl) ?_
          exact e_X12_resolve_108 hst hZ hn hs ih hk115 hx
    · refine mm_icmp_ge 115 dX12_resolve_75 (by decide) (fun _ => ?_) (fun h => absurd (Int32.not_lt.mp h33) h)
      refine mm_fewer [some (.ref a), some (.int v1_), none, some (.int v3_), none] (few_ok (bs := [true, true, false, true, false]) rfl) ?_
      exact hk115 _ hx
set_option maxHeartbeats 4000000 in
set_option maxRecDepth 100000 in
theorem e_X12_resolve_172 {g : mm_G} {l : Launch} (hst : l.stackTraces = false) {Z : Nat → Nat → Option Nat} (hZ : HZ Z) {n : Nat} (hn : 1186 ≤ n) {z : Bool} {d : Nat} {U : Nat} {a : Nat} (hs : sh a = 12) {s0_ : Int32} {s1_ : Int32} {σ : SG} {σ' : SG} (hx : x_X12_resolve_172 U a s0_ s1_ σ = some σ') : mm_V g l RX12 "resolve" cX12_resolve 5 none [] (d + 2) 0 0 (mm_nt (fun v S' => v = none ∧ S' = (mem Z σ', n, z))) 172 [none, none, none, none, none] [.int s0_, .int s1_, .ref 1141] (mem Z σ, n, z) 0 0 := by
  unfold x_X12_resolve_172 at hx
  obtain ⟨j57, hj58, hb59, hl60, hx⟩ := ix_some hx
  refine s_iast (a := 1141) (v := s0_) sa_1141 hn hj58 hb59 na_1141 dX12_resolve_172 hx (fun σ61 hx => ?_)
  refine mm_vret dX12_resolve_173 rfl ?_ (by omega) (by omega)
  obtain rfl := fin1 hx
  exact ⟨rfl, rfl⟩
set_option maxHeartbeats 4000000 in
set_option maxRecDepth 100000 in
theorem e_X12_resolve_150 {g : mm_G} {l : Launch} (hst : l.stackTraces = false) {Z : Nat → Nat → Option Nat} (hZ : HZ Z) {n : Nat} (hn : 1186 ≤ n) {z : Bool} {d : Nat} {U : Nat} {a : Nat} (hs : sh a = 12) {v1_ : Int32} {v3_ : Int32} {s0_ : Int32} {s1_ : Int32} {σ : SG} {σ' : SG} (hx : x_X12_resolve_150 U a v1_ v3_ s0_ s1_ σ = some σ') : mm_V g l RX12 "resolve" cX12_resolve 5 none [] (d + 2) 0 0 (mm_nt (fun v S' => v = none ∧ S' = (mem Z σ', n, z))) 150 [some (.ref a), some (.int v1_), none, some (.int v3_), none] [.int s0_, .int s1_, .ref 1139] (mem Z σ, n, z) 0 0 := by
  unfold x_X12_resolve_150 at hx
  obtain ⟨j51, hj52, hb53, hl54, hx⟩ := ix_some hx
  refine s_iast (a := 1139) (v := s0_) sa_1139 hn hj52 hb53 na_1139 dX12_resolve_150 hx (fun σ55 hx => ?_)
  refine mm_aload_n dX12_resolve_151 rfl rfl ?_
  refine s_getS (q := 1141) (r := some a) (b := a) (ci := 12) (k := 52) in_X12 rfl (by decide) rfl kF_X12_133 dX12_resolve_152 rfl hs (by decide) hn (by decide) rfl rfl ?_
  refine mm_iload_n dX12_resolve_155 rfl ?_
  refine mm_iload_n dX12_resolve_156 rfl ?_
  refine mm_sipush (v := 1000) dX12_resolve_157 (by decide) ?_
  refine b_if hx (fun h56 hx => ?_) (fun h56 hx => ?_)
  · refine mm_icmp_lt 171 dX12_resolve_160 (by decide) (fun _ => ?_) (fun h => absurd h56 h)
    refine mm_iload_n dX12_resolve_171 rfl ?_
    refine mm_fewer [none, none, none, none, none] (few_ok (bs := [false, false, false, false, false]) rfl) ?_
    exact e_X12_resolve_172 hst hZ hn hs hx
  · refine mm_icmp_lt 171 dX12_resolve_160 (by decide) (fun h => absurd h h56) (fun _ => ?_)
    refine mm_iload_n dX12_resolve_163 rfl ?_
    refine mm_sipush (v := 1000) dX12_resolve_164 (by decide) ?_
    refine mm_isub dX12_resolve_167 ?_
    refine mm_goto 172 dX12_resolve_168 (by decide) ?_
    refine mm_fewer [none, none, none, none, none] (few_ok (bs := [false, false, false, false, false]) rfl) ?_
    exact e_X12_resolve_172 hst hZ hn hs hx
set_option maxHeartbeats 4000000 in
set_option maxRecDepth 100000 in
theorem e_X12_resolve_131 {g : mm_G} {l : Launch} (hst : l.stackTraces = false) {Z : Nat → Nat → Option Nat} (hZ : HZ Z) {n : Nat} (hn : 1186 ≤ n) {z : Bool} {d : Nat} {U : Nat} {a : Nat} (hs : sh a = 12) {v1_ : Int32} {v3_ : Int32} {σ : SG} {σ' : SG} (hx : x_X12_resolve_131 U a v1_ v3_ σ = some σ') : mm_V g l RX12 "resolve" cX12_resolve 5 none [] (d + 2) 0 0 (mm_nt (fun v S' => v = none ∧ S' = (mem Z σ', n, z))) 131 [some (.ref a), some (.int v1_), none, some (.int v3_), none] [] (mem Z σ, n, z) 0 0 := by
  unfold x_X12_resolve_131 at hx
  refine mm_aload_n dX12_resolve_131 rfl rfl ?_
  refine s_getS (q := 1139) (r := some a) (b := a) (ci := 12) (k := 50) in_X12 rfl (by decide) rfl kF_X12_127 dX12_resolve_132 rfl hs (by decide) hn (by decide) rfl rfl ?_
  refine mm_iload_n dX12_resolve_135 rfl ?_
  refine mm_iload_n dX12_resolve_136 rfl ?_
  refine mm_sipush (v := 1000) dX12_resolve_137 (by decide) ?_
  refine b_if hx (fun h50 hx => ?_) (fun h50 hx => ?_)
  · refine mm_icmp_lt 148 dX12_resolve_140 (by decide) (fun _ => ?_) (fun h => absurd h50 h)
    refine mm_bipush (v := 13) dX12_resolve_148 (by decide) ?_
    exact e_X12_resolve_150 hst hZ hn hs hx
  · refine mm_icmp_lt 148 dX12_resolve_140 (by decide) (fun h => absurd h h50) (fun _ => ?_)
    refine mm_bipush (v := 14) dX12_resolve_143 (by decide) ?_
    refine mm_goto 150 dX12_resolve_145 (by decide) ?_
    exact e_X12_resolve_150 hst hZ hn hs hx
set_option maxHeartbeats 4000000 in
set_option maxRecDepth 100000 in
theorem e_X12_resolve_115 {g : mm_G} {l : Launch} (hst : l.stackTraces = false) {Z : Nat → Nat → Option Nat} (hZ : HZ Z) {n : Nat} (hn : 1186 ≤ n) {z : Bool} {d : Nat} {U : Nat} {a : Nat} (hs : sh a = 12) {v1_ : Int32} {v3_ : Int32} {σ : SG} {σ' : SG} (hx : x_X12_resolve_115 U a v1_ v3_ σ = some σ') : mm_V g l RX12 "resolve" cX12_resolve 5 none [] (d + 2) 0 0 (mm_nt (fun v S' => v = none ∧ S' = (mem Z σ', n, z))) 115 [some (.ref a), some (.int v1_), none, some (.int v3_), none] [] (mem Z σ, n, z) 0 0 := by
  unfold x_X12_resolve_115 at hx
  refine mm_iload_n dX12_resolve_115 rfl ?_
  refine mm_iconst (v := (-1)) dX12_resolve_116 (by decide) ?_
  refine b_if hx (fun h43 hx => ?_) (fun h43 hx => ?_)
  · refine mm_icmp_ne 131 dX12_resolve_117 (by decide) (fun h => absurd h43 h) (fun _ => ?_)
    refine mm_aload_n dX12_resolve_120 rfl rfl ?_
    refine mm_iconst (v := 5) dX12_resolve_121 (by decide) ?_
    refine mm_aload_n dX12_resolve_122 rfl rfl ?_
    refine s_getS (q := 1140) (r := some a) (b := a) (ci := 12) (k := 51) in_X12 rfl (by decide) rfl kF_X12_130 dX12_resolve_123 rfl hs (by decide) hn (by decide) rfl rfl ?_
    refine mm_iload_n dX12_resolve_126 rfl ?_
    obtain ⟨j44, hj45, hb46, hl47, hx⟩ := ix_some hx
    refine s_iald (a := 1140) sa_1140 hn hj45 hb46 na_1140 dX12_resolve_127 ?_
    obtain ⟨σ49, hc48, hx⟩ := b1_some hx
    refine mm_callV3 (a := a) (ci := 12) wM_X12_earlier kM_X12_519 wI_X12_earlier wS_X12_earlier dX12_resolve_128 (e_X12_earlier hst hZ hn hs hc48) (mem_obj hs (by decide)) (sh_ltn hs (by decide) hn) rfl rfl rfl (Nat.le_of_ble_eq_true rfl) (by omega) (by omega) (fun v9 S9 hq => ?_)
    obtain ⟨rfl, rfl⟩ := hq
    refine ⟨fun h => ⟨h, rfl⟩, ?_⟩
    exact e_X12_resolve_131 hst hZ hn hs hx
  · refine mm_icmp_ne 131 dX12_resolve_117 (by decide) (fun _ => ?_) (fun h => absurd h h43)
    exact e_X12_resolve_131 hst hZ hn hs hx
set_option maxHeartbeats 4000000 in
set_option maxRecDepth 100000 in
theorem e_X12_resolve_64 {g : mm_G} {l : Launch} (hst : l.stackTraces = false) {Z : Nat → Nat → Option Nat} (hZ : HZ Z) {n : Nat} (hn : 1186 ≤ n) {z : Bool} {d : Nat} {U : Nat} {a : Nat} (hs : sh a = 12) {v1_ : Int32} {v3_ : Int32} {σ : SG} {σ' : SG} (hx : x_X12_resolve_64 U a v1_ v3_ σ = some σ') : mm_V g l RX12 "resolve" cX12_resolve 5 none [] (d + 2) 0 0 (mm_nt (fun v S' => v = none ∧ S' = (mem Z σ', n, z))) 64 [some (.ref a), some (.int v1_), none, some (.int v3_), none] [] (mem Z σ, n, z) 0 0 := by
  unfold x_X12_resolve_64 at hx
  refine mm_iconst (v := 1) dX12_resolve_64 (by decide) ?_
  refine mm_istore [some (.ref a), some (.int v1_), none, some (.int v3_), some (.int 1)] dX12_resolve_65 (by decide) rfl ?_
  refine e_X12_resolve_L67 hst hZ hn hs ?_ _ _ _ hx
  · intro w42 hx
    exact e_X12_resolve_115 hst hZ hn hs hx
set_option maxHeartbeats 4000000 in
set_option maxRecDepth 100000 in
theorem e_X12_resolve_19 {g : mm_G} {l : Launch} (hst : l.stackTraces = false) {Z : Nat → Nat → Option Nat} (hZ : HZ Z) {n : Nat} (hn : 1186 ≤ n) {z : Bool} {d : Nat} {U : Nat} {a : Nat} (hs : sh a = 12) {v1_ : Int32} {s0_ : Int32} {σ : SG} {σ' : SG} (hx : x_X12_resolve_19 U a v1_ s0_ σ = some σ') : mm_V g l RX12 "resolve" cX12_resolve 5 none [] (d + 2) 0 0 (mm_nt (fun v S' => v = none ∧ S' = (mem Z σ', n, z))) 19 [some (.ref a), some (.int v1_), none, none, none] [.int s0_] (mem Z σ, n, z) 0 0 := by
  unfold x_X12_resolve_19 at hx
  refine mm_istore_n [some (.ref a), some (.int v1_), some (.int s0_), none, none] dX12_resolve_19 (by decide) rfl ?_
  refine mm_aload_n dX12_resolve_20 rfl rfl ?_
  refine mm_iload_n dX12_resolve_21 rfl ?_
  refine mm_aload_n dX12_resolve_22 rfl rfl ?_
  refine s_getS (q := 1143) (r := some a) (b := a) (ci := 12) (k := 54) in_X12 rfl (by decide) rfl kF_X12_139 dX12_resolve_23 rfl hs (by decide) hn (by decide) rfl rfl ?_
  refine mm_iload_n dX12_resolve_26 rfl ?_
  obtain ⟨j10, hj11, hb12, hl13, hx⟩ := ix_some hx
  refine s_iald (a := 1143) sa_1143 hn hj11 hb12 na_1143 dX12_resolve_27 ?_
  obtain ⟨v15, hc14, hx⟩ := b1_some hx
  refine mm_callV3 (a := a) (ci := 12) wM_X12_inScope kM_X12_532 wI_X12_inScope wS_X12_inScope dX12_resolve_28 (e_X12_inScope hst hZ hn hs hc14) (mem_obj hs (by decide)) (sh_ltn hs (by decide) hn) rfl rfl rfl (Nat.le_of_ble_eq_true rfl) (by omega) (by omega) (fun v9 S9 hq => ?_)
  obtain ⟨rfl, rfl⟩ := hq
  refine ⟨fun h => ⟨h, rfl⟩, ?_⟩
  refine mm_istore_n [some (.ref a), some (.int v1_), some (.int s0_), some (.int v15), none] dX12_resolve_31 (by decide) rfl ?_
  refine e_X12_resolve_L32 hst hZ hn hs ?_ _ _ _ hx
  · intro w28 hx
    exact e_X12_resolve_64 hst hZ hn hs hx
set_option maxHeartbeats 4000000 in
set_option maxRecDepth 100000 in
theorem e_X12_resolve {g : mm_G} {l : Launch} (hst : l.stackTraces = false) {Z : Nat → Nat → Option Nat} (hZ : HZ Z) {n : Nat} (hn : 1186 ≤ n) {z : Bool} {d : Nat} {U : Nat} {a : Nat} (hs : sh a = 12) {p0 : Int32} {σ : SG} {σ' : SG} (hx : x_X12_resolve U a p0 σ = some σ') : mm_Cm g l yX12_resolve (.code yX12_resolve cX12_resolve 5 none) (d + 2) 0 0 [.ref a, .int p0] (mem Z σ, n, z) (fun v S' => v = none ∧ S' = (mem Z σ', n, z)) := by
  refine mm_Cm_of hst (by decide) (Nat.le_of_ble_eq_true rfl) ?_
  show mm_V g l RX12 "resolve" cX12_resolve 5 none [] (d + 2) 0 0 (mm_nt (fun v S' => v = none ∧ S' = (mem Z σ', n, z))) 0 [some (.ref a), some (.int p0), none, none, none] [] (mem Z σ, n, z) 0 0
  unfold x_X12_resolve at hx
  refine mm_aload_n dX12_resolve_0 rfl rfl ?_
  refine s_getS (q := 1142) (r := some a) (b := a) (ci := 12) (k := 53) in_X12 rfl (by decide) rfl kF_X12_136 dX12_resolve_1 rfl hs (by decide) hn (by decide) rfl rfl ?_
  refine mm_iload_n dX12_resolve_4 rfl ?_
  obtain ⟨j1, hj2, hb3, hl4, hx⟩ := ix_some hx
  refine s_zald (a := 1142) sa_1142 hn hj2 hb3 na_1142 dX12_resolve_5 ?_
  refine b_if hx (fun h5 hx => ?_) (fun h5 hx => ?_)
  · refine mm_if_eq 13 dX12_resolve_6 (by decide) (fun _ => ?_) (fun h => absurd h5 h)
    refine mm_aload_n dX12_resolve_13 rfl rfl ?_
    refine s_getS (q := 1134) (r := some a) (b := a) (ci := 12) (k := 45) in_X12 rfl (by decide) rfl kF_X12_111 dX12_resolve_14 rfl hs (by decide) hn (by decide) rfl rfl ?_
    refine mm_iload_n dX12_resolve_17 rfl ?_
    obtain ⟨j6, hj7, hb8, hl9, hx⟩ := ix_some hx
    refine s_iald (a := 1134) sa_1134 hn hj7 hb8 na_1134 dX12_resolve_18 ?_
    exact e_X12_resolve_19 hst hZ hn hs hx
  · refine mm_if_eq 13 dX12_resolve_6 (by decide) (fun h => absurd h h5) (fun _ => ?_)
    refine mm_iconst (v := (-1)) dX12_resolve_9 (by decide) ?_
    refine mm_goto 19 dX12_resolve_10 (by decide) ?_
    exact e_X12_resolve_19 hst hZ hn hs hx
set_option maxHeartbeats 4000000 in
set_option maxRecDepth 100000 in
theorem e_X12_isNumbers {g : mm_G} {l : Launch} (hst : l.stackTraces = false) {Z : Nat → Nat → Option Nat} (hZ : HZ Z) {n : Nat} (hn : 1186 ≤ n) {z : Bool} {d : Nat} {p0 : Int32} {σ : SG} {r : Int32} (hx : x_X12_isNumbers p0 = some r) : mm_Cm g l yX12_isNumbers (.code yX12_isNumbers cX12_isNumbers 1 (some .boolean)) (d) 0 0 [.int p0] (mem Z σ, n, z) (fun v S' => v = some (.int r) ∧ S' = (mem Z σ, n, z)) := by
  refine mm_Cm_of hst (by decide) (Nat.le_of_ble_eq_true rfl) ?_
  show mm_V g l RX12 "isNumbers" cX12_isNumbers 1 (some .boolean) [] (d) 0 0 (mm_nt (fun v S' => v = some (.int r) ∧ S' = (mem Z σ, n, z))) 0 [some (.int p0)] [] (mem Z σ, n, z) 0 0
  unfold x_X12_isNumbers at hx
  refine mm_iload_n dX12_isNumbers_0 rfl ?_
  refine mm_bipush (v := 11) dX12_isNumbers_1 (by decide) ?_
  refine b_if hx (fun h1 hx => ?_) (fun h1 hx => ?_)
  · refine mm_icmp_eq 22 dX12_isNumbers_3 (by decide) (fun _ => ?_) (fun h => absurd h1 h)
    refine mm_iconst (v := 0) dX12_isNumbers_22 (by decide) ?_
    refine mm_iret dX12_isNumbers_23 rfl rfl ?_ (by omega) (by omega)
    obtain rfl := fin1 hx
    exact ⟨rfl, rfl⟩
  · refine mm_icmp_eq 22 dX12_isNumbers_3 (by decide) (fun h => absurd h h1) (fun _ => ?_)
    refine mm_iload_n dX12_isNumbers_6 rfl ?_
    refine mm_bipush (v := 12) dX12_isNumbers_7 (by decide) ?_
    refine b_if hx (fun h2 hx => ?_) (fun h2 hx => ?_)
    · refine mm_icmp_eq 22 dX12_isNumbers_9 (by decide) (fun _ => ?_) (fun h => absurd h2 h)
      refine mm_iconst (v := 0) dX12_isNumbers_22 (by decide) ?_
      refine mm_iret dX12_isNumbers_23 rfl rfl ?_ (by omega) (by omega)
      obtain rfl := fin1 hx
      exact ⟨rfl, rfl⟩
    · refine mm_icmp_eq 22 dX12_isNumbers_9 (by decide) (fun h => absurd h h2) (fun _ => ?_)
      refine mm_iload_n dX12_isNumbers_12 rfl ?_
      refine mm_bipush (v := 13) dX12_isNumbers_13 (by decide) ?_
      refine b_if hx (fun h3 hx => ?_) (fun h3 hx => ?_)
      · refine mm_icmp_eq 22 dX12_isNumbers_15 (by decide) (fun _ => ?_) (fun h => absurd h3 h)
        refine mm_iconst (v := 0) dX12_isNumbers_22 (by decide) ?_
        refine mm_iret dX12_isNumbers_23 rfl rfl ?_ (by omega) (by omega)
        obtain rfl := fin1 hx
        exact ⟨rfl, rfl⟩
      · refine mm_icmp_eq 22 dX12_isNumbers_15 (by decide) (fun h => absurd h h3) (fun _ => ?_)
        refine mm_iconst (v := 1) dX12_isNumbers_18 (by decide) ?_
        refine mm_goto 23 dX12_isNumbers_19 (by decide) ?_
        refine mm_iret dX12_isNumbers_23 rfl rfl ?_ (by omega) (by omega)
        obtain rfl := fin1 hx
        exact ⟨rfl, rfl⟩
set_option maxHeartbeats 4000000 in
set_option maxRecDepth 100000 in
theorem e_X12_checkTypes_74 {g : mm_G} {l : Launch} (hst : l.stackTraces = false) {Z : Nat → Nat → Option Nat} (hZ : HZ Z) {n : Nat} (hn : 1186 ≤ n) {z : Bool} {d : Nat} {U : Nat} {a : Nat} (hs : sh a = 12) {k2 : Int32 → SG → Option (SG)} {v1_ : Int32} {σ : SG} {σ' : SG} (hk2 : ∀ (v1_ : Int32) (σ8 : SG), k2 v1_ σ8 = some σ' → mm_V g l RX12 "checkTypes" cX12_checkTypes 2 none [] (d + 3) 0 0 (mm_nt (fun v S' => v = none ∧ S' = (mem Z σ', n, z))) 2 [some (.ref a), some (.int v1_)] [] (mem Z σ8, n, z) 0 0) (hx : x_X12_checkTypes_74 U a k2 v1_ σ = some σ') : mm_V g l RX12 "checkTypes" cX12_checkTypes 2 none [] (d + 3) 0 0 (mm_nt (fun v S' => v = none ∧ S' = (mem Z σ', n, z))) 74 [some (.ref a), some (.int v1_)] [] (mem Z σ, n, z) 0 0 := by
  unfold x_X12_checkTypes_74 at hx
  refine mm_iinc (v := v1_ + 1) [some (.ref a), some (.int (v1_ + 1))] dX12_checkTypes_74 rfl rfl (by decide) rfl ?_
  refine mm_goto 2 dX12_checkTypes_77 (by decide) ?_
  exact hk2 _ _ hx
set_option maxHeartbeats 4000000 in
set_option maxRecDepth 100000 in
theorem e_X12_checkTypes_62 {g : mm_G} {l : Launch} (hst : l.stackTraces = false) {Z : Nat → Nat → Option Nat} (hZ : HZ Z) {n : Nat} (hn : 1186 ≤ n) {z : Bool} {d : Nat} {U : Nat} {a : Nat} (hs : sh a = 12) {k2 : Int32 → SG → Option (SG)} {v1_ : Int32} {σ : SG} {σ' : SG} (hk2 : ∀ (v1_ : Int32) (σ8 : SG), k2 v1_ σ8 = some σ' → mm_V g l RX12 "checkTypes" cX12_checkTypes 2 none [] (d + 3) 0 0 (mm_nt (fun v S' => v = none ∧ S' = (mem Z σ', n, z))) 2 [some (.ref a), some (.int v1_)] [] (mem Z σ8, n, z) 0 0) (hx : x_X12_checkTypes_62 U a k2 v1_ σ = some σ') : mm_V g l RX12 "checkTypes" cX12_checkTypes 2 none [] (d + 3) 0 0 (mm_nt (fun v S' => v = none ∧ S' = (mem Z σ', n, z))) 62 [some (.ref a), some (.int v1_)] [] (mem Z σ, n, z) 0 0 := by
  unfold x_X12_checkTypes_62 at hx
  refine mm_aload_n dX12_checkTypes_62 rfl rfl ?_
  refine mm_bipush (v := 6) dX12_checkTypes_63 (by decide) ?_
  refine mm_aload_n dX12_checkTypes_65 rfl rfl ?_
  refine s_getS (q := 1147) (r := some a) (b := a) (ci := 12) (k := 58) in_X12 rfl (by decide) rfl kF_X12_151 dX12_checkTypes_66 rfl hs (by decide) hn (by decide) rfl rfl ?_
  refine mm_iload_n dX12_checkTypes_69 rfl ?_
  obtain ⟨j24, hj25, hb26, hl27, hx⟩ := ix_some hx
  refine s_iald (a := 1147) sa_1147 hn hj25 hb26 na_1147 dX12_checkTypes_70 ?_
  obtain ⟨σ29, hc28, hx⟩ := b1_some hx
  refine mm_callV3 (a := a) (ci := 12) wM_X12_earlier kM_X12_519 wI_X12_earlier wS_X12_earlier dX12_checkTypes_71 (e_X12_earlier hst hZ hn hs hc28) (mem_obj hs (by decide)) (sh_ltn hs (by decide) hn) rfl rfl rfl (Nat.le_of_ble_eq_true rfl) (by omega) (by omega) (fun v9 S9 hq => ?_)
  obtain ⟨rfl, rfl⟩ := hq
  refine ⟨fun h => ⟨h, rfl⟩, ?_⟩
  exact e_X12_checkTypes_74 hst hZ hn hs hk2 hx
set_option maxHeartbeats 4000000 in
set_option maxRecDepth 100000 in
theorem e_X12_checkTypes_32 {g : mm_G} {l : Launch} (hst : l.stackTraces = false) {Z : Nat → Nat → Option Nat} (hZ : HZ Z) {n : Nat} (hn : 1186 ≤ n) {z : Bool} {d : Nat} {U : Nat} {a : Nat} (hs : sh a = 12) {k2 : Int32 → SG → Option (SG)} {v1_ : Int32} {σ : SG} {σ' : SG} (hk2 : ∀ (v1_ : Int32) (σ8 : SG), k2 v1_ σ8 = some σ' → mm_V g l RX12 "checkTypes" cX12_checkTypes 2 none [] (d + 3) 0 0 (mm_nt (fun v S' => v = none ∧ S' = (mem Z σ', n, z))) 2 [some (.ref a), some (.int v1_)] [] (mem Z σ8, n, z) 0 0) (hx : x_X12_checkTypes_32 U a k2 v1_ σ = some σ') : mm_V g l RX12 "checkTypes" cX12_checkTypes 2 none [] (d + 3) 0 0 (mm_nt (fun v S' => v = none ∧ S' = (mem Z σ', n, z))) 32 [some (.ref a), some (.int v1_)] [] (mem Z σ, n, z) 0 0 := by
  unfold x_X12_checkTypes_32 at hx
  refine mm_aload_n dX12_checkTypes_32 rfl rfl ?_
  refine s_getS (q := 1146) (r := some a) (b := a) (ci := 12) (k := 57) in_X12 rfl (by decide) rfl kF_X12_148 dX12_checkTypes_33 rfl hs (by decide) hn (by decide) rfl rfl ?_
  refine mm_iload_n dX12_checkTypes_36 rfl ?_
  obtain ⟨j14, hj15, hb16, hl17, hx⟩ := ix_some hx
  refine s_iald (a := 1146) sa_1146 hn hj15 hb16 na_1146 dX12_checkTypes_37 ?_
  refine b_if hx (fun h18 hx => ?_) (fun h18 hx => ?_)
  · refine mm_if_le 74 dX12_checkTypes_38 (by decide) (fun h => absurd h (Int32.not_le.mpr h18)) (fun _ => ?_)
    refine mm_aload_n dX12_checkTypes_41 rfl rfl ?_
    refine s_getS (q := 1145) (r := some a) (b := a) (ci := 12) (k := 56) in_X12 rfl (by decide) rfl kF_X12_145 dX12_checkTypes_42 rfl hs (by decide) hn (by decide) rfl rfl ?_
    refine mm_iload_n dX12_checkTypes_45 rfl ?_
    obtain ⟨j19, hj20, hb21, hl22, hx⟩ := ix_some hx
    refine s_zald (a := 1145) sa_1145 hn hj20 hb21 na_1145 dX12_checkTypes_46 ?_
    refine b_if hx (fun h23 hx => ?_) (fun h23 hx => ?_)
    · refine mm_if_eq 62 dX12_checkTypes_47 (by decide) (fun _ => ?_) (fun h => absurd h23 h)
      exact e_X12_checkTypes_62 hst hZ hn hs hk2 hx
    · refine mm_if_eq 62 dX12_checkTypes_47 (by decide) (fun h => absurd h h23) (fun _ => ?_)
      refine mm_aload_n dX12_checkTypes_50 rfl rfl ?_
      refine s_getS (q := 1139) (r := some a) (b := a) (ci := 12) (k := 50) in_X12 rfl (by decide) rfl kF_X12_127 dX12_checkTypes_51 rfl hs (by decide) hn (by decide) rfl rfl ?_
      refine mm_iload_n dX12_checkTypes_54 rfl ?_
      obtain ⟨j30, hj31, hb32, hl33, hx⟩ := ix_some hx
      refine s_iald (a := 1139) sa_1139 hn hj31 hb32 na_1139 dX12_checkTypes_55 ?_
      obtain ⟨v35, hc34, hx⟩ := b1_some hx
      refine mm_callS wM_X12_isNumbers kM_X12_539 wT_X12_isNumbers dX12_checkTypes_56 (e_X12_isNumbers hst hZ hn hc34) rfl rfl (Nat.le_of_ble_eq_true rfl) (by omega) (by omega) (fun v9 S9 hq => ?_)
      obtain ⟨rfl, rfl⟩ := hq
      refine ⟨fun h => ⟨h, rfl⟩, ?_⟩
      refine b_if hx (fun h36 hx => ?_) (fun h36 hx => ?_)
      · refine mm_if_ne 74 dX12_checkTypes_59 (by decide) (fun h => absurd h36 h) (fun _ => ?_)
        exact e_X12_checkTypes_62 hst hZ hn hs hk2 hx
      · refine mm_if_ne 74 dX12_checkTypes_59 (by decide) (fun _ => ?_) (fun h => absurd h h36)
        exact e_X12_checkTypes_74 hst hZ hn hs hk2 hx
  · refine mm_if_le 74 dX12_checkTypes_38 (by decide) (fun _ => ?_) (fun h => absurd (Int32.not_lt.mp h18) h)
    exact e_X12_checkTypes_74 hst hZ hn hs hk2 hx
set_option maxHeartbeats 4000000 in
set_option maxRecDepth 100000 in
theorem e_X12_checkTypes_L2 {g : mm_G} {l : Launch} (hst : l.stackTraces = false) {Z : Nat → Nat → Option Nat} (hZ : HZ Z) {n : Nat} (hn : 1186 ≤ n) {z : Bool} {d : Nat} {U : Nat} {a : Nat} (hs : sh a = 12) {σ' : SG} : ∀ (U1 : Nat) (v1_ : Int32) (σ : SG), x_X12_checkTypes_L2 U a U1 v1_ σ = some σ' → mm_V g l RX12 "checkTypes" cX12_checkTypes 2 none [] (d + 3) 0 0 (mm_nt (fun v S' => v = none ∧ S' = (mem Z σ', n, z))) 2 [some (.ref a), some (.int v1_)] [] (mem Z σ, n, z) 0 0 := by
  intro U1
  induction U1 with
  | zero => intro v1_ σ hx; exact absurd hx (by simp [x_X12_checkTypes_L2])
  | succ U1 ih =>
    intro v1_ σ hx
    rw [x_X12_checkTypes_L2] at hx
    refine mm_iload_n dX12_checkTypes_2 rfl ?_
    refine mm_aload_n dX12_checkTypes_3 rfl rfl ?_
    refine s_getI (r := some a) (b := a) (ci := 12) (k := 34) in_X12 rfl (by decide) rfl kF_X12_457 dX12_checkTypes_4 rfl hs (by decide) hn (by decide) rfl ?_
    refine b_if hx (fun h1 hx => ?_) (fun h1 hx => ?_)
    · refine mm_icmp_ge 80 dX12_checkTypes_7 (by decide) (fun h => absurd h (Int32.not_le.mpr h1)) (fun _ => ?_)
      refine mm_aload_n dX12_checkTypes_10 rfl rfl ?_
      refine s_getS (q := 1141) (r := some a) (b := a) (ci := 12) (k := 52) in_X12 rfl (by decide) rfl kF_X12_133 dX12_checkTypes_11 rfl hs (by decide) hn (by decide) rfl rfl ?_
      refine mm_iload_n dX12_checkTypes_14 rfl ?_
      refine mm_iconst (v := (-1)) dX12_checkTypes_15 (by decide) ?_
      obtain ⟨j2, hj3, hb4, hl5, hx⟩ := ix_some hx
      refine s_iast (a := 1141) (v := (-1)) sa_1141 hn hj3 hb4 na_1141 dX12_checkTypes_16 hx (fun σ6 hx => ?_)
      refine mm_aload_n dX12_checkTypes_17 rfl rfl ?_
      refine s_getS (q := 1139) (r := some a) (b := a) (ci := 12) (k := 50) in_X12 rfl (by decide) rfl kF_X12_127 dX12_checkTypes_18 rfl hs (by decide) hn (by decide) rfl rfl ?_
      refine mm_iload_n dX12_checkTypes_21 rfl ?_
      obtain ⟨j7, hj8, hb9, hl10, hx⟩ := ix_some hx
      refine s_iald (a := 1139) sa_1139 hn hj8 hb9 na_1139 dX12_checkTypes_22 ?_
      refine mm_iconst (v := (-1)) dX12_checkTypes_23 (by decide) ?_
      refine b_if hx (fun h11 hx => ?_) (fun h11 hx => ?_)
      · refine mm_icmp_ne 32 dX12_checkTypes_24 (by decide) (fun h => absurd h11 h) (fun _ => ?_)
        refine mm_aload_n dX12_checkTypes_27 rfl rfl ?_
        refine mm_iload_n dX12_checkTypes_28 rfl ?_
        obtain ⟨σ13, hc12, hx⟩ := b1_some hx
        refine mm_callV3 (a := a) (ci := 12) wM_X12_resolve kM_X12_536 wI_X12_resolve wS_X12_resolve dX12_checkTypes_29 (e_X12_resolve hst hZ hn hs hc12) (mem_obj hs (by decide)) (sh_ltn hs (by decide) hn) rfl rfl rfl (Nat.le_of_ble_eq_true rfl) (by omega) (by omega) (fun v9 S9 hq => ?_)
        obtain ⟨rfl, rfl⟩ := hq
        refine ⟨fun h => ⟨h, rfl⟩, ?_⟩
        exact e_X12_checkTypes_32 hst hZ hn hs ih hx
      · refine mm_icmp_ne 32 dX12_checkTypes_24 (by decide) (fun _ => ?_) (fun h => absurd h h11)
        exact e_X12_checkTypes_32 hst hZ hn hs ih hx
    · refine mm_icmp_ge 80 dX12_checkTypes_7 (by decide) (fun _ => ?_) (fun h => absurd (Int32.not_lt.mp h1) h)
      refine mm_vret dX12_checkTypes_80 rfl ?_ (by omega) (by omega)
      obtain rfl := fin1 hx
      exact ⟨rfl, rfl⟩
set_option maxHeartbeats 4000000 in
set_option maxRecDepth 100000 in
theorem e_X12_checkTypes {g : mm_G} {l : Launch} (hst : l.stackTraces = false) {Z : Nat → Nat → Option Nat} (hZ : HZ Z) {n : Nat} (hn : 1186 ≤ n) {z : Bool} {d : Nat} {U : Nat} {a : Nat} (hs : sh a = 12) {σ : SG} {σ' : SG} (hx : x_X12_checkTypes U a σ = some σ') : mm_Cm g l yX12_checkTypes (.code yX12_checkTypes cX12_checkTypes 2 none) (d + 3) 0 0 [.ref a] (mem Z σ, n, z) (fun v S' => v = none ∧ S' = (mem Z σ', n, z)) := by
  refine mm_Cm_of hst (by decide) (Nat.le_of_ble_eq_true rfl) ?_
  show mm_V g l RX12 "checkTypes" cX12_checkTypes 2 none [] (d + 3) 0 0 (mm_nt (fun v S' => v = none ∧ S' = (mem Z σ', n, z))) 0 [some (.ref a), none] [] (mem Z σ, n, z) 0 0
  unfold x_X12_checkTypes at hx
  refine mm_iconst (v := 0) dX12_checkTypes_0 (by decide) ?_
  refine mm_istore_n [some (.ref a), some (.int 0)] dX12_checkTypes_1 (by decide) rfl ?_
  refine e_X12_checkTypes_L2 hst hZ hn hs _ _ _ hx
set_option maxHeartbeats 4000000 in
set_option maxRecDepth 100000 in
theorem e_X12_letters_L2 {g : mm_G} {l : Launch} (hst : l.stackTraces = false) {Z : Nat → Nat → Option Nat} (hZ : HZ Z) {n : Nat} (hn : 1186 ≤ n) {z : Bool} {d : Nat} {U : Nat} {v0_ : Int64} {σ : SG} {r : Int32} : ∀ (U1 : Nat) (v2_ : Int32), x_X12_letters_L2 U v0_ σ U1 v2_ = some r → mm_V g l RX12 "letters" cX12_letters 3 (some .int) [] (d) 0 0 (mm_nt (fun v S' => v = some (.int r) ∧ S' = (mem Z σ, n, z))) 2 [some (.long v0_), none, some (.int v2_)] [] (mem Z σ, n, z) 0 0 := by
  intro U1
  induction U1 with
  | zero => intro v2_ hx; exact absurd hx (by simp [x_X12_letters_L2])
  | succ U1 ih =>
    intro v2_ hx
    rw [x_X12_letters_L2] at hx
    refine mm_iload_n dX12_letters_2 rfl ?_
    refine mm_bipush (v := 8) dX12_letters_3 (by decide) ?_
    refine b_if hx (fun h1 hx => ?_) (fun h1 hx => ?_)
    · refine mm_icmp_ge 25 dX12_letters_5 (by decide) (fun h => absurd h (Int32.not_le.mpr h1)) (fun _ => ?_)
      refine mm_lload_n dX12_letters_8 rfl ?_
      refine mm_bipush (v := 8) dX12_letters_9 (by decide) ?_
      refine mm_iload_n dX12_letters_11 rfl ?_
      refine mm_imul dX12_letters_12 ?_
      refine mm_lushr dX12_letters_13 ?_
      refine mm_lconst (v := 0) dX12_letters_14 (by decide) ?_
      refine mm_lcmp dX12_letters_15 ?_
      refine b_if hx (fun h2 hx => ?_) (fun h2 hx => ?_)
      · refine mm_if_eq 25 dX12_letters_16 (by decide) (fun _ => ?_) (fun h => absurd (lg_eq.mpr h2) h)
        refine mm_iload_n dX12_letters_25 rfl ?_
        refine mm_iret dX12_letters_26 rfl rfl ?_ (by omega) (by omega)
        obtain rfl := fin1 hx
        exact ⟨rfl, rfl⟩
      · refine mm_if_eq 25 dX12_letters_16 (by decide) (fun h => absurd (lg_eq.mp h) h2) (fun _ => ?_)
        refine mm_iinc (v := v2_ + 1) [some (.long v0_), none, some (.int (v2_ + 1))] dX12_letters_19 rfl rfl (by decide) rfl ?_
        refine mm_goto 2 dX12_letters_22 (by decide) ?_
        exact ih _ hx
    · refine mm_icmp_ge 25 dX12_letters_5 (by decide) (fun _ => ?_) (fun h => absurd (Int32.not_lt.mp h1) h)
      refine mm_iload_n dX12_letters_25 rfl ?_
      refine mm_iret dX12_letters_26 rfl rfl ?_ (by omega) (by omega)
      obtain rfl := fin1 hx
      exact ⟨rfl, rfl⟩
set_option maxHeartbeats 4000000 in
set_option maxRecDepth 100000 in
theorem e_X12_letters {g : mm_G} {l : Launch} (hst : l.stackTraces = false) {Z : Nat → Nat → Option Nat} (hZ : HZ Z) {n : Nat} (hn : 1186 ≤ n) {z : Bool} {d : Nat} {U : Nat} {p0 : Int64} {σ : SG} {r : Int32} (hx : x_X12_letters U p0 σ = some r) : mm_Cm g l yX12_letters (.code yX12_letters cX12_letters 3 (some .int)) (d) 0 0 [.long p0] (mem Z σ, n, z) (fun v S' => v = some (.int r) ∧ S' = (mem Z σ, n, z)) := by
  refine mm_Cm_of hst (by decide) (Nat.le_of_ble_eq_true rfl) ?_
  show mm_V g l RX12 "letters" cX12_letters 3 (some .int) [] (d) 0 0 (mm_nt (fun v S' => v = some (.int r) ∧ S' = (mem Z σ, n, z))) 0 [some (.long p0), none, none] [] (mem Z σ, n, z) 0 0
  unfold x_X12_letters at hx
  refine mm_iconst (v := 0) dX12_letters_0 (by decide) ?_
  refine mm_istore_n [some (.long p0), none, some (.int 0)] dX12_letters_1 (by decide) rfl ?_
  refine e_X12_letters_L2 hst hZ hn _ _ hx
set_option maxHeartbeats 4000000 in
set_option maxRecDepth 100000 in
theorem e_X12_letter {g : mm_G} {l : Launch} (hst : l.stackTraces = false) {Z : Nat → Nat → Option Nat} (hZ : HZ Z) {n : Nat} (hn : 1186 ≤ n) {z : Bool} {d : Nat} {U : Nat} {p0 : Int64} {p1 : Int32} {σ : SG} {r : Int32} (hx : x_X12_letter U p0 p1 σ = some r) : mm_Cm g l yX12_letter (.code yX12_letter cX12_letter 3 (some .int)) (d + 1) 0 0 [.long p0, .int p1] (mem Z σ, n, z) (fun v S' => v = some (.int r) ∧ S' = (mem Z σ, n, z)) := by
  refine mm_Cm_of hst (by decide) (Nat.le_of_ble_eq_true rfl) ?_
  show mm_V g l RX12 "letter" cX12_letter 3 (some .int) [] (d + 1) 0 0 (mm_nt (fun v S' => v = some (.int r) ∧ S' = (mem Z σ, n, z))) 0 [some (.long p0), none, some (.int p1)] [] (mem Z σ, n, z) 0 0
  unfold x_X12_letter at hx
  refine mm_lload_n dX12_letter_0 rfl ?_
  refine mm_bipush (v := 8) dX12_letter_1 (by decide) ?_
  refine mm_lload_n dX12_letter_3 rfl ?_
  obtain ⟨v2, hc1, hx⟩ := b1_some hx
  refine mm_callS wM_X12_letters kM_X12_334 wT_X12_letters dX12_letter_4 (e_X12_letters hst hZ hn hc1) rfl rfl (Nat.le_of_ble_eq_true rfl) (by omega) (by omega) (fun v9 S9 hq => ?_)
  obtain ⟨rfl, rfl⟩ := hq
  refine ⟨fun h => ⟨h, rfl⟩, ?_⟩
  refine mm_iconst (v := 1) dX12_letter_7 (by decide) ?_
  refine mm_isub dX12_letter_8 ?_
  refine mm_iload_n dX12_letter_9 rfl ?_
  refine mm_isub dX12_letter_10 ?_
  refine mm_imul dX12_letter_11 ?_
  refine mm_lushr dX12_letter_12 ?_
  refine mm_l2i dX12_letter_13 ?_
  refine mm_sipush (v := 255) dX12_letter_14 (by decide) ?_
  refine mm_iand dX12_letter_17 ?_
  refine mm_iret dX12_letter_18 rfl rfl ?_ (by omega) (by omega)
  obtain rfl := fin1 hx
  exact ⟨rfl, rfl⟩
set_option maxHeartbeats 4000000 in
set_option maxRecDepth 100000 in
theorem e_X12_isPlain_L15 {g : mm_G} {l : Launch} (hst : l.stackTraces = false) {Z : Nat → Nat → Option Nat} (hZ : HZ Z) {n : Nat} (hn : 1186 ≤ n) {z : Bool} {d : Nat} {U : Nat} {a : Nat} (hs : sh a = 12) {v1_ : Int32} {v2_ : Int32} {v3_ : Int64} {σ : SG} {r : Int32} : ∀ (U1 : Nat) (v5_ : Int32), x_X12_isPlain_L15 U a v1_ v2_ v3_ σ U1 v5_ = some r → mm_V g l RX12 "isPlain" cX12_isPlain 6 (some .boolean) [] (d + 2) 0 0 (mm_nt (fun v S' => v = some (.int r) ∧ S' = (mem Z σ, n, z))) 15 [some (.ref a), some (.int v1_), some (.int v2_), some (.long v3_), none, some (.int v5_)] [] (mem Z σ, n, z) 0 0 := by
  intro U1
  induction U1 with
  | zero => intro v5_ hx; exact absurd hx (by simp [x_X12_isPlain_L15])
  | succ U1 ih =>
    intro v5_ hx
    rw [x_X12_isPlain_L15] at hx
    refine mm_iload dX12_isPlain_15 rfl ?_
    refine mm_iload_n dX12_isPlain_17 rfl ?_
    refine b_if hx (fun h4 hx => ?_) (fun h4 hx => ?_)
    · refine mm_icmp_ge 47 dX12_isPlain_18 (by decide) (fun h => absurd h (Int32.not_le.mpr h4)) (fun _ => ?_)
      refine mm_aload_n dX12_isPlain_21 rfl rfl ?_
      refine s_getS (q := 1102) (r := some a) (b := a) (ci := 12) (k := 0) in_X12 rfl (by decide) rfl kF_X12_7 dX12_isPlain_22 rfl hs (by decide) hn (by decide) rfl rfl ?_
      refine mm_iload dX12_isPlain_25 rfl ?_
      obtain ⟨j5, hj6, hb7, hl8, hx⟩ := ix_some hx
      refine s_iald (a := 1102) sa_1102 hn hj6 hb7 na_1102 dX12_isPlain_27 ?_
      refine mm_lload_n dX12_isPlain_28 rfl ?_
      refine mm_iload dX12_isPlain_29 rfl ?_
      refine mm_iload_n dX12_isPlain_31 rfl ?_
      refine mm_isub dX12_isPlain_32 ?_
      obtain ⟨v10, hc9, hx⟩ := b1_some hx
      refine mm_callS wM_X12_letter kM_X12_338 wT_X12_letter dX12_isPlain_33 (e_X12_letter hst hZ hn hc9) rfl rfl (Nat.le_of_ble_eq_true rfl) (by omega) (by omega) (fun v9 S9 hq => ?_)
      obtain ⟨rfl, rfl⟩ := hq
      refine ⟨fun h => ⟨h, rfl⟩, ?_⟩
      refine b_if hx (fun h11 hx => ?_) (fun h11 hx => ?_)
      · refine mm_icmp_eq 41 dX12_isPlain_36 (by decide) (fun _ => ?_) (fun h => absurd h11 h)
        refine mm_iinc (v := v5_ + 1) [some (.ref a), some (.int v1_), some (.int v2_), some (.long v3_), none, some (.int (v5_ + 1))] dX12_isPlain_41 rfl rfl (by decide) rfl ?_
        refine mm_goto 15 dX12_isPlain_44 (by decide) ?_
        exact ih _ hx
      · refine mm_icmp_eq 41 dX12_isPlain_36 (by decide) (fun h => absurd h h11) (fun _ => ?_)
        refine mm_iconst (v := 0) dX12_isPlain_39 (by decide) ?_
        refine mm_iret dX12_isPlain_40 rfl rfl ?_ (by omega) (by omega)
        obtain rfl := fin1 hx
        exact ⟨rfl, rfl⟩
    · refine mm_icmp_ge 47 dX12_isPlain_18 (by decide) (fun _ => ?_) (fun h => absurd (Int32.not_lt.mp h4) h)
      refine mm_iconst (v := 1) dX12_isPlain_47 (by decide) ?_
      refine mm_iret dX12_isPlain_48 rfl rfl ?_ (by omega) (by omega)
      obtain rfl := fin1 hx
      exact ⟨rfl, rfl⟩
set_option maxHeartbeats 4000000 in
set_option maxRecDepth 100000 in
theorem e_X12_isPlain {g : mm_G} {l : Launch} (hst : l.stackTraces = false) {Z : Nat → Nat → Option Nat} (hZ : HZ Z) {n : Nat} (hn : 1186 ≤ n) {z : Bool} {d : Nat} {U : Nat} {a : Nat} (hs : sh a = 12) {p0 : Int32} {p1 : Int32} {p2 : Int64} {σ : SG} {r : Int32} (hx : x_X12_isPlain U a p0 p1 p2 σ = some r) : mm_Cm g l yX12_isPlain (.code yX12_isPlain cX12_isPlain 6 (some .boolean)) (d + 2) 0 0 [.ref a, .int p0, .int p1, .long p2] (mem Z σ, n, z) (fun v S' => v = some (.int r) ∧ S' = (mem Z σ, n, z)) := by
  refine mm_Cm_of hst (by decide) (Nat.le_of_ble_eq_true rfl) ?_
  show mm_V g l RX12 "isPlain" cX12_isPlain 6 (some .boolean) [] (d + 2) 0 0 (mm_nt (fun v S' => v = some (.int r) ∧ S' = (mem Z σ, n, z))) 0 [some (.ref a), some (.int p0), some (.int p1), some (.long p2), none, none] [] (mem Z σ, n, z) 0 0
  unfold x_X12_isPlain at hx
  refine mm_iload_n dX12_isPlain_0 rfl ?_
  refine mm_iload_n dX12_isPlain_1 rfl ?_
  refine mm_isub dX12_isPlain_2 ?_
  refine mm_lload_n dX12_isPlain_3 rfl ?_
  obtain ⟨v2, hc1, hx⟩ := b1_some hx
  refine mm_callS wM_X12_letters kM_X12_334 wT_X12_letters dX12_isPlain_4 (e_X12_letters hst hZ hn hc1) rfl rfl (Nat.le_of_ble_eq_true rfl) (by omega) (by omega) (fun v9 S9 hq => ?_)
  obtain ⟨rfl, rfl⟩ := hq
  refine ⟨fun h => ⟨h, rfl⟩, ?_⟩
  refine b_if hx (fun h3 hx => ?_) (fun h3 hx => ?_)
  · refine mm_icmp_eq 12 dX12_isPlain_7 (by decide) (fun _ => ?_) (fun h => absurd h3 h)
    refine mm_iload_n dX12_isPlain_12 rfl ?_
    refine mm_istore [some (.ref a), some (.int p0), some (.int p1), some (.long p2), none, some (.int p0)] dX12_isPlain_13 (by decide) rfl ?_
    refine e_X12_isPlain_L15 hst hZ hn hs _ _ hx
  · refine mm_icmp_eq 12 dX12_isPlain_7 (by decide) (fun h => absurd h h3) (fun _ => ?_)
    refine mm_iconst (v := 0) dX12_isPlain_10 (by decide) ?_
    refine mm_iret dX12_isPlain_11 rfl rfl ?_ (by omega) (by omega)
    obtain rfl := fin1 hx
    exact ⟨rfl, rfl⟩
set_option maxHeartbeats 4000000 in
set_option maxRecDepth 100000 in
theorem e_X12_isWord {g : mm_G} {l : Launch} (hst : l.stackTraces = false) {Z : Nat → Nat → Option Nat} (hZ : HZ Z) {n : Nat} (hn : 1186 ≤ n) {z : Bool} {d : Nat} {U : Nat} {a : Nat} (hs : sh a = 12) {p0 : Int64} {σ : SG} {r : Int32} (hx : x_X12_isWord U a p0 σ = some r) : mm_Cm g l yX12_isWord (.code yX12_isWord cX12_isWord 3 (some .boolean)) (d + 3) 0 0 [.ref a, .long p0] (mem Z σ, n, z) (fun v S' => v = some (.int r) ∧ S' = (mem Z σ, n, z)) := by
  refine mm_Cm_of hst (by decide) (Nat.le_of_ble_eq_true rfl) ?_
  show mm_V g l RX12 "isWord" cX12_isWord 3 (some .boolean) [] (d + 3) 0 0 (mm_nt (fun v S' => v = some (.int r) ∧ S' = (mem Z σ, n, z))) 0 [some (.ref a), some (.long p0), none] [] (mem Z σ, n, z) 0 0
  unfold x_X12_isWord at hx
  refine mm_aload_n dX12_isWord_0 rfl rfl ?_
  refine s_getI (r := some a) (b := a) (ci := 12) (k := 70) in_X12 rfl (by decide) rfl kF_X12_298 dX12_isWord_1 rfl hs (by decide) hn (by decide) rfl ?_
  refine mm_iconst (v := 1) dX12_isWord_4 (by decide) ?_
  refine b_if hx (fun h1 hx => ?_) (fun h1 hx => ?_)
  · refine mm_icmp_ne 28 dX12_isWord_5 (by decide) (fun h => absurd h1 h) (fun _ => ?_)
    refine mm_aload_n dX12_isWord_8 rfl rfl ?_
    refine mm_aload_n dX12_isWord_9 rfl rfl ?_
    refine s_getI (r := some a) (b := a) (ci := 12) (k := 71) in_X12 rfl (by decide) rfl kF_X12_305 dX12_isWord_10 rfl hs (by decide) hn (by decide) rfl ?_
    refine mm_aload_n dX12_isWord_13 rfl rfl ?_
    refine s_getI (r := some a) (b := a) (ci := 12) (k := 72) in_X12 rfl (by decide) rfl kF_X12_316 dX12_isWord_14 rfl hs (by decide) hn (by decide) rfl ?_
    refine mm_lload_n dX12_isWord_17 rfl ?_
    obtain ⟨v3, hc2, hx⟩ := b1_some hx
    refine mm_callV3 (a := a) (ci := 12) wM_X12_isPlain kM_X12_342 wI_X12_isPlain wS_X12_isPlain dX12_isWord_18 (e_X12_isPlain hst hZ hn hs hc2) (mem_obj hs (by decide)) (sh_ltn hs (by decide) hn) rfl rfl rfl (Nat.le_of_ble_eq_true rfl) (by omega) (by omega) (fun v9 S9 hq => ?_)
    obtain ⟨rfl, rfl⟩ := hq
    refine ⟨fun h => ⟨h, rfl⟩, ?_⟩
    refine b_if hx (fun h4 hx => ?_) (fun h4 hx => ?_)
    · refine mm_if_eq 28 dX12_isWord_21 (by decide) (fun _ => ?_) (fun h => absurd h4 h)
      refine mm_iconst (v := 0) dX12_isWord_28 (by decide) ?_
      refine mm_iret dX12_isWord_29 rfl rfl ?_ (by omega) (by omega)
      obtain rfl := fin1 hx
      exact ⟨rfl, rfl⟩
    · refine mm_if_eq 28 dX12_isWord_21 (by decide) (fun h => absurd h h4) (fun _ => ?_)
      refine mm_iconst (v := 1) dX12_isWord_24 (by decide) ?_
      refine mm_goto 29 dX12_isWord_25 (by decide) ?_
      refine mm_iret dX12_isWord_29 rfl rfl ?_ (by omega) (by omega)
      obtain rfl := fin1 hx
      exact ⟨rfl, rfl⟩
  · refine mm_icmp_ne 28 dX12_isWord_5 (by decide) (fun _ => ?_) (fun h => absurd h h1)
    refine mm_iconst (v := 0) dX12_isWord_28 (by decide) ?_
    refine mm_iret dX12_isWord_29 rfl rfl ?_ (by omega) (by omega)
    obtain rfl := fin1 hx
    exact ⟨rfl, rfl⟩
set_option maxHeartbeats 4000000 in
set_option maxRecDepth 100000 in
theorem e_X12_takeWord {g : mm_G} {l : Launch} (hst : l.stackTraces = false) {Z : Nat → Nat → Option Nat} (hZ : HZ Z) {n : Nat} (hn : 1186 ≤ n) {z : Bool} {d : Nat} {U : Nat} {a : Nat} (hs : sh a = 12) {p0 : Int64} {σ : SG} {σ' : SG} (hx : x_X12_takeWord U a p0 σ = some σ') : mm_Cm g l yX12_takeWord (.code yX12_takeWord cX12_takeWord 3 none) (d + 5) 0 0 [.ref a, .long p0] (mem Z σ, n, z) (fun v S' => v = none ∧ S' = (mem Z σ', n, z)) := by
  refine mm_Cm_of hst (by decide) (Nat.le_of_ble_eq_true rfl) ?_
  show mm_V g l RX12 "takeWord" cX12_takeWord 3 none [] (d + 5) 0 0 (mm_nt (fun v S' => v = none ∧ S' = (mem Z σ', n, z))) 0 [some (.ref a), some (.long p0), none] [] (mem Z σ, n, z) 0 0
  unfold x_X12_takeWord at hx
  refine mm_aload_n dX12_takeWord_0 rfl rfl ?_
  refine s_getI (r := some a) (b := a) (ci := 12) (k := 74) in_X12 rfl (by decide) rfl kF_X12_328 dX12_takeWord_1 rfl hs (by decide) hn (by decide) rfl ?_
  refine b_if hx (fun h1 hx => ?_) (fun h1 hx => ?_)
  · refine mm_if_eq 8 dX12_takeWord_4 (by decide) (fun _ => ?_) (fun h => absurd h1 h)
    refine mm_aload_n dX12_takeWord_8 rfl rfl ?_
    refine mm_lload_n dX12_takeWord_9 rfl ?_
    obtain ⟨v3, hc2, hx⟩ := b1_some hx
    refine mm_callV3 (a := a) (ci := 12) wM_X12_isWord kM_X12_364 wI_X12_isWord wS_X12_isWord dX12_takeWord_10 (e_X12_isWord hst hZ hn hs hc2) (mem_obj hs (by decide)) (sh_ltn hs (by decide) hn) rfl rfl rfl (Nat.le_of_ble_eq_true rfl) (by omega) (by omega) (fun v9 S9 hq => ?_)
    obtain ⟨rfl, rfl⟩ := hq
    refine ⟨fun h => ⟨h, rfl⟩, ?_⟩
    refine b_if hx (fun h4 hx => ?_) (fun h4 hx => ?_)
    · refine mm_if_eq 23 dX12_takeWord_13 (by decide) (fun _ => ?_) (fun h => absurd h4 h)
      refine mm_aload_n dX12_takeWord_23 rfl rfl ?_
      refine mm_iconst (v := 1) dX12_takeWord_24 (by decide) ?_
      refine mm_aload_n dX12_takeWord_25 rfl rfl ?_
      refine s_getI (r := some a) (b := a) (ci := 12) (k := 71) in_X12 rfl (by decide) rfl kF_X12_305 dX12_takeWord_26 rfl hs (by decide) hn (by decide) rfl ?_
      obtain ⟨σ6, hc5, hx⟩ := b1_some hx
      refine mm_callV3 (a := a) (ci := 12) wM_X12_fail kM_X12_360 wI_X12_fail wS_X12_fail dX12_takeWord_29 (e_X12_fail hst hZ hn hs hc5) (mem_obj hs (by decide)) (sh_ltn hs (by decide) hn) rfl rfl rfl (Nat.le_of_ble_eq_true rfl) (by omega) (by omega) (fun v9 S9 hq => ?_)
      obtain ⟨rfl, rfl⟩ := hq
      refine ⟨fun h => ⟨h, rfl⟩, ?_⟩
      refine mm_vret dX12_takeWord_32 rfl ?_ (by omega) (by omega)
      obtain rfl := fin1 hx
      exact ⟨rfl, rfl⟩
    · refine mm_if_eq 23 dX12_takeWord_13 (by decide) (fun h => absurd h h4) (fun _ => ?_)
      refine mm_aload_n dX12_takeWord_16 rfl rfl ?_
      obtain ⟨σ8, hc7, hx⟩ := b1_some hx
      refine mm_callV3 (a := a) (ci := 12) wM_X12_next kM_X12_357 wI_X12_next wS_X12_next dX12_takeWord_17 (e_X12_next hst hZ hn hs hc7) (mem_obj hs (by decide)) (sh_ltn hs (by decide) hn) rfl rfl rfl (Nat.le_of_ble_eq_true rfl) (by omega) (by omega) (fun v9 S9 hq => ?_)
      obtain ⟨rfl, rfl⟩ := hq
      refine ⟨fun h => ⟨h, rfl⟩, ?_⟩
      refine mm_goto 32 dX12_takeWord_20 (by decide) ?_
      refine mm_vret dX12_takeWord_32 rfl ?_ (by omega) (by omega)
      obtain rfl := fin1 hx
      exact ⟨rfl, rfl⟩
  · refine mm_if_eq 8 dX12_takeWord_4 (by decide) (fun h => absurd h h1) (fun _ => ?_)
    refine mm_vret dX12_takeWord_7 rfl ?_ (by omega) (by omega)
    obtain rfl := fin1 hx
    exact ⟨rfl, rfl⟩
set_option maxHeartbeats 4000000 in
set_option maxRecDepth 100000 in
theorem e_X12_isProto3 {g : mm_G} {l : Launch} (hst : l.stackTraces = false) {Z : Nat → Nat → Option Nat} (hZ : HZ Z) {n : Nat} (hn : 1186 ≤ n) {z : Bool} {d : Nat} {U : Nat} {a : Nat} (hs : sh a = 12) {σ : SG} {r : Int32} (hx : x_X12_isProto3 U a σ = some r) : mm_Cm g l yX12_isProto3 (.code yX12_isProto3 cX12_isProto3 1 (some .boolean)) (d + 3) 0 0 [.ref a] (mem Z σ, n, z) (fun v S' => v = some (.int r) ∧ S' = (mem Z σ, n, z)) := by
  refine mm_Cm_of hst (by decide) (Nat.le_of_ble_eq_true rfl) ?_
  show mm_V g l RX12 "isProto3" cX12_isProto3 1 (some .boolean) [] (d + 3) 0 0 (mm_nt (fun v S' => v = some (.int r) ∧ S' = (mem Z σ, n, z))) 0 [some (.ref a)] [] (mem Z σ, n, z) 0 0
  unfold x_X12_isProto3 at hx
  refine mm_aload_n dX12_isProto3_0 rfl rfl ?_
  refine s_getI (r := some a) (b := a) (ci := 12) (k := 70) in_X12 rfl (by decide) rfl kF_X12_298 dX12_isProto3_1 rfl hs (by decide) hn (by decide) rfl ?_
  refine mm_iconst (v := 3) dX12_isProto3_4 (by decide) ?_
  refine b_if hx (fun h1 hx => ?_) (fun h1 hx => ?_)
  · refine mm_icmp_ne 34 dX12_isProto3_5 (by decide) (fun h => absurd h1 h) (fun _ => ?_)
    refine mm_aload_n dX12_isProto3_8 rfl rfl ?_
    refine mm_aload_n dX12_isProto3_9 rfl rfl ?_
    refine s_getI (r := some a) (b := a) (ci := 12) (k := 71) in_X12 rfl (by decide) rfl kF_X12_305 dX12_isProto3_10 rfl hs (by decide) hn (by decide) rfl ?_
    refine mm_iconst (v := 1) dX12_isProto3_13 (by decide) ?_
    refine mm_iadd dX12_isProto3_14 ?_
    refine mm_aload_n dX12_isProto3_15 rfl rfl ?_
    refine s_getI (r := some a) (b := a) (ci := 12) (k := 72) in_X12 rfl (by decide) rfl kF_X12_316 dX12_isProto3_16 rfl hs (by decide) hn (by decide) rfl ?_
    refine mm_iconst (v := 1) dX12_isProto3_19 (by decide) ?_
    refine mm_isub dX12_isProto3_20 ?_
    refine mm_ldc2 kL_X12_505 dX12_isProto3_21 ?_
    obtain ⟨v3, hc2, hx⟩ := b1_some hx
    refine mm_callV3 (a := a) (ci := 12) wM_X12_isPlain kM_X12_342 wI_X12_isPlain wS_X12_isPlain dX12_isProto3_24 (e_X12_isPlain hst hZ hn hs hc2) (mem_obj hs (by decide)) (sh_ltn hs (by decide) hn) rfl rfl rfl (Nat.le_of_ble_eq_true rfl) (by omega) (by omega) (fun v9 S9 hq => ?_)
    obtain ⟨rfl, rfl⟩ := hq
    refine ⟨fun h => ⟨h, rfl⟩, ?_⟩
    refine b_if hx (fun h4 hx => ?_) (fun h4 hx => ?_)
    · refine mm_if_eq 34 dX12_isProto3_27 (by decide) (fun _ => ?_) (fun h => absurd h4 h)
      refine mm_iconst (v := 0) dX12_isProto3_34 (by decide) ?_
      refine mm_iret dX12_isProto3_35 rfl rfl ?_ (by omega) (by omega)
      obtain rfl := fin1 hx
      exact ⟨rfl, rfl⟩
    · refine mm_if_eq 34 dX12_isProto3_27 (by decide) (fun h => absurd h h4) (fun _ => ?_)
      refine mm_iconst (v := 1) dX12_isProto3_30 (by decide) ?_
      refine mm_goto 35 dX12_isProto3_31 (by decide) ?_
      refine mm_iret dX12_isProto3_35 rfl rfl ?_ (by omega) (by omega)
      obtain rfl := fin1 hx
      exact ⟨rfl, rfl⟩
  · refine mm_icmp_ne 34 dX12_isProto3_5 (by decide) (fun _ => ?_) (fun h => absurd h h1)
    refine mm_iconst (v := 0) dX12_isProto3_34 (by decide) ?_
    refine mm_iret dX12_isProto3_35 rfl rfl ?_ (by omega) (by omega)
    obtain rfl := fin1 hx
    exact ⟨rfl, rfl⟩
set_option maxHeartbeats 4000000 in
set_option maxRecDepth 100000 in
theorem e_X12_isExtensions {g : mm_G} {l : Launch} (hst : l.stackTraces = false) {Z : Nat → Nat → Option Nat} (hZ : HZ Z) {n : Nat} (hn : 1186 ≤ n) {z : Bool} {d : Nat} {U : Nat} {a : Nat} (hs : sh a = 12) {σ : SG} {r : Int32} (hx : x_X12_isExtensions U a σ = some r) : mm_Cm g l yX12_isExtensions (.code yX12_isExtensions cX12_isExtensions 1 (some .boolean)) (d + 3) 0 0 [.ref a] (mem Z σ, n, z) (fun v S' => v = some (.int r) ∧ S' = (mem Z σ, n, z)) := by
  refine mm_Cm_of hst (by decide) (Nat.le_of_ble_eq_true rfl) ?_
  show mm_V g l RX12 "isExtensions" cX12_isExtensions 1 (some .boolean) [] (d + 3) 0 0 (mm_nt (fun v S' => v = some (.int r) ∧ S' = (mem Z σ, n, z))) 0 [some (.ref a)] [] (mem Z σ, n, z) 0 0
  unfold x_X12_isExtensions at hx
  refine mm_aload_n dX12_isExtensions_0 rfl rfl ?_
  refine s_getI (r := some a) (b := a) (ci := 12) (k := 70) in_X12 rfl (by decide) rfl kF_X12_298 dX12_isExtensions_1 rfl hs (by decide) hn (by decide) rfl ?_
  refine mm_iconst (v := 1) dX12_isExtensions_4 (by decide) ?_
  refine b_if hx (fun h1 hx => ?_) (fun h1 hx => ?_)
  · refine mm_icmp_ne 68 dX12_isExtensions_5 (by decide) (fun h => absurd h1 h) (fun _ => ?_)
    refine mm_aload_n dX12_isExtensions_8 rfl rfl ?_
    refine s_getI (r := some a) (b := a) (ci := 12) (k := 72) in_X12 rfl (by decide) rfl kF_X12_316 dX12_isExtensions_9 rfl hs (by decide) hn (by decide) rfl ?_
    refine mm_aload_n dX12_isExtensions_12 rfl rfl ?_
    refine s_getI (r := some a) (b := a) (ci := 12) (k := 71) in_X12 rfl (by decide) rfl kF_X12_305 dX12_isExtensions_13 rfl hs (by decide) hn (by decide) rfl ?_
    refine mm_isub dX12_isExtensions_16 ?_
    refine mm_bipush (v := 10) dX12_isExtensions_17 (by decide) ?_
    refine b_if hx (fun h2 hx => ?_) (fun h2 hx => ?_)
    · refine mm_icmp_ne 68 dX12_isExtensions_19 (by decide) (fun h => absurd h2 h) (fun _ => ?_)
      refine mm_aload_n dX12_isExtensions_22 rfl rfl ?_
      refine mm_aload_n dX12_isExtensions_23 rfl rfl ?_
      refine s_getI (r := some a) (b := a) (ci := 12) (k := 71) in_X12 rfl (by decide) rfl kF_X12_305 dX12_isExtensions_24 rfl hs (by decide) hn (by decide) rfl ?_
      refine mm_aload_n dX12_isExtensions_27 rfl rfl ?_
      refine s_getI (r := some a) (b := a) (ci := 12) (k := 71) in_X12 rfl (by decide) rfl kF_X12_305 dX12_isExtensions_28 rfl hs (by decide) hn (by decide) rfl ?_
      refine mm_bipush (v := 8) dX12_isExtensions_31 (by decide) ?_
      refine mm_iadd dX12_isExtensions_33 ?_
      refine mm_ldc2 kL_X12_346 dX12_isExtensions_34 ?_
      obtain ⟨v4, hc3, hx⟩ := b1_some hx
      refine mm_callV3 (a := a) (ci := 12) wM_X12_isPlain kM_X12_342 wI_X12_isPlain wS_X12_isPlain dX12_isExtensions_37 (e_X12_isPlain hst hZ hn hs hc3) (mem_obj hs (by decide)) (sh_ltn hs (by decide) hn) rfl rfl rfl (Nat.le_of_ble_eq_true rfl) (by omega) (by omega) (fun v9 S9 hq => ?_)
      obtain ⟨rfl, rfl⟩ := hq
      refine ⟨fun h => ⟨h, rfl⟩, ?_⟩
      refine b_if hx (fun h5 hx => ?_) (fun h5 hx => ?_)
      · refine mm_if_eq 68 dX12_isExtensions_40 (by decide) (fun _ => ?_) (fun h => absurd h5 h)
        refine mm_iconst (v := 0) dX12_isExtensions_68 (by decide) ?_
        refine mm_iret dX12_isExtensions_69 rfl rfl ?_ (by omega) (by omega)
        obtain rfl := fin1 hx
        exact ⟨rfl, rfl⟩
      · refine mm_if_eq 68 dX12_isExtensions_40 (by decide) (fun h => absurd h h5) (fun _ => ?_)
        refine mm_aload_n dX12_isExtensions_43 rfl rfl ?_
        refine mm_aload_n dX12_isExtensions_44 rfl rfl ?_
        refine s_getI (r := some a) (b := a) (ci := 12) (k := 71) in_X12 rfl (by decide) rfl kF_X12_305 dX12_isExtensions_45 rfl hs (by decide) hn (by decide) rfl ?_
        refine mm_bipush (v := 8) dX12_isExtensions_48 (by decide) ?_
        refine mm_iadd dX12_isExtensions_50 ?_
        refine mm_aload_n dX12_isExtensions_51 rfl rfl ?_
        refine s_getI (r := some a) (b := a) (ci := 12) (k := 72) in_X12 rfl (by decide) rfl kF_X12_316 dX12_isExtensions_52 rfl hs (by decide) hn (by decide) rfl ?_
        refine mm_ldc2 kL_X12_348 dX12_isExtensions_55 ?_
        obtain ⟨v7, hc6, hx⟩ := b1_some hx
        refine mm_callV3 (a := a) (ci := 12) wM_X12_isPlain kM_X12_342 wI_X12_isPlain wS_X12_isPlain dX12_isExtensions_58 (e_X12_isPlain hst hZ hn hs hc6) (mem_obj hs (by decide)) (sh_ltn hs (by decide) hn) rfl rfl rfl (Nat.le_of_ble_eq_true rfl) (by omega) (by omega) (fun v9 S9 hq => ?_)
        obtain ⟨rfl, rfl⟩ := hq
        refine ⟨fun h => ⟨h, rfl⟩, ?_⟩
        refine b_if hx (fun h8 hx => ?_) (fun h8 hx => ?_)
        · refine mm_if_eq 68 dX12_isExtensions_61 (by decide) (fun _ => ?_) (fun h => absurd h8 h)
          refine mm_iconst (v := 0) dX12_isExtensions_68 (by decide) ?_
          refine mm_iret dX12_isExtensions_69 rfl rfl ?_ (by omega) (by omega)
          obtain rfl := fin1 hx
          exact ⟨rfl, rfl⟩
        · refine mm_if_eq 68 dX12_isExtensions_61 (by decide) (fun h => absurd h h8) (fun _ => ?_)
          refine mm_iconst (v := 1) dX12_isExtensions_64 (by decide) ?_
          refine mm_goto 69 dX12_isExtensions_65 (by decide) ?_
          refine mm_iret dX12_isExtensions_69 rfl rfl ?_ (by omega) (by omega)
          obtain rfl := fin1 hx
          exact ⟨rfl, rfl⟩
    · refine mm_icmp_ne 68 dX12_isExtensions_19 (by decide) (fun _ => ?_) (fun h => absurd h h2)
      refine mm_iconst (v := 0) dX12_isExtensions_68 (by decide) ?_
      refine mm_iret dX12_isExtensions_69 rfl rfl ?_ (by omega) (by omega)
      obtain rfl := fin1 hx
      exact ⟨rfl, rfl⟩
  · refine mm_icmp_ne 68 dX12_isExtensions_5 (by decide) (fun _ => ?_) (fun h => absurd h h1)
    refine mm_iconst (v := 0) dX12_isExtensions_68 (by decide) ?_
    refine mm_iret dX12_isExtensions_69 rfl rfl ?_ (by omega) (by omega)
    obtain rfl := fin1 hx
    exact ⟨rfl, rfl⟩
set_option maxHeartbeats 4000000 in
set_option maxRecDepth 100000 in
theorem e_X12_isForeign {g : mm_G} {l : Launch} (hst : l.stackTraces = false) {Z : Nat → Nat → Option Nat} (hZ : HZ Z) {n : Nat} (hn : 1186 ≤ n) {z : Bool} {d : Nat} {U : Nat} {a : Nat} (hs : sh a = 12) {σ : SG} {r : Int32} (hx : x_X12_isForeign U a σ = some r) : mm_Cm g l yX12_isForeign (.code yX12_isForeign cX12_isForeign 1 (some .boolean)) (d + 4) 0 0 [.ref a] (mem Z σ, n, z) (fun v S' => v = some (.int r) ∧ S' = (mem Z σ, n, z)) := by
  refine mm_Cm_of hst (by decide) (Nat.le_of_ble_eq_true rfl) ?_
  show mm_V g l RX12 "isForeign" cX12_isForeign 1 (some .boolean) [] (d + 4) 0 0 (mm_nt (fun v S' => v = some (.int r) ∧ S' = (mem Z σ, n, z))) 0 [some (.ref a)] [] (mem Z σ, n, z) 0 0
  unfold x_X12_isForeign at hx
  refine mm_aload_n dX12_isForeign_0 rfl rfl ?_
  refine mm_ldc2 kL_X12_368 dX12_isForeign_1 ?_
  obtain ⟨v2, hc1, hx⟩ := b1_some hx
  refine mm_callV3 (a := a) (ci := 12) wM_X12_isWord kM_X12_364 wI_X12_isWord wS_X12_isWord dX12_isForeign_4 (e_X12_isWord hst hZ hn hs hc1) (mem_obj hs (by decide)) (sh_ltn hs (by decide) hn) rfl rfl rfl (Nat.le_of_ble_eq_true rfl) (by omega) (by omega) (fun v9 S9 hq => ?_)
  obtain ⟨rfl, rfl⟩ := hq
  refine ⟨fun h => ⟨h, rfl⟩, ?_⟩
  refine b_if hx (fun h3 hx => ?_) (fun h3 hx => ?_)
  · refine mm_if_ne 117 dX12_isForeign_7 (by decide) (fun h => absurd h3 h) (fun _ => ?_)
    refine mm_aload_n dX12_isForeign_10 rfl rfl ?_
    refine mm_ldc2 kL_X12_370 dX12_isForeign_11 ?_
    obtain ⟨v5, hc4, hx⟩ := b1_some hx
    refine mm_callV3 (a := a) (ci := 12) wM_X12_isWord kM_X12_364 wI_X12_isWord wS_X12_isWord dX12_isForeign_14 (e_X12_isWord hst hZ hn hs hc4) (mem_obj hs (by decide)) (sh_ltn hs (by decide) hn) rfl rfl rfl (Nat.le_of_ble_eq_true rfl) (by omega) (by omega) (fun v9 S9 hq => ?_)
    obtain ⟨rfl, rfl⟩ := hq
    refine ⟨fun h => ⟨h, rfl⟩, ?_⟩
    refine b_if hx (fun h6 hx => ?_) (fun h6 hx => ?_)
    · refine mm_if_ne 117 dX12_isForeign_17 (by decide) (fun h => absurd h6 h) (fun _ => ?_)
      refine mm_aload_n dX12_isForeign_20 rfl rfl ?_
      refine mm_ldc2 kL_X12_372 dX12_isForeign_21 ?_
      obtain ⟨v8, hc7, hx⟩ := b1_some hx
      refine mm_callV3 (a := a) (ci := 12) wM_X12_isWord kM_X12_364 wI_X12_isWord wS_X12_isWord dX12_isForeign_24 (e_X12_isWord hst hZ hn hs hc7) (mem_obj hs (by decide)) (sh_ltn hs (by decide) hn) rfl rfl rfl (Nat.le_of_ble_eq_true rfl) (by omega) (by omega) (fun v9 S9 hq => ?_)
      obtain ⟨rfl, rfl⟩ := hq
      refine ⟨fun h => ⟨h, rfl⟩, ?_⟩
      refine b_if hx (fun h9 hx => ?_) (fun h9 hx => ?_)
      · refine mm_if_ne 117 dX12_isForeign_27 (by decide) (fun h => absurd h9 h) (fun _ => ?_)
        refine mm_aload_n dX12_isForeign_30 rfl rfl ?_
        refine mm_ldc2 kL_X12_374 dX12_isForeign_31 ?_
        obtain ⟨v11, hc10, hx⟩ := b1_some hx
        refine mm_callV3 (a := a) (ci := 12) wM_X12_isWord kM_X12_364 wI_X12_isWord wS_X12_isWord dX12_isForeign_34 (e_X12_isWord hst hZ hn hs hc10) (mem_obj hs (by decide)) (sh_ltn hs (by decide) hn) rfl rfl rfl (Nat.le_of_ble_eq_true rfl) (by omega) (by omega) (fun v9 S9 hq => ?_)
        obtain ⟨rfl, rfl⟩ := hq
        refine ⟨fun h => ⟨h, rfl⟩, ?_⟩
        refine b_if hx (fun h12 hx => ?_) (fun h12 hx => ?_)
        · refine mm_if_ne 117 dX12_isForeign_37 (by decide) (fun h => absurd h12 h) (fun _ => ?_)
          refine mm_aload_n dX12_isForeign_40 rfl rfl ?_
          refine mm_ldc2 kL_X12_376 dX12_isForeign_41 ?_
          obtain ⟨v14, hc13, hx⟩ := b1_some hx
          refine mm_callV3 (a := a) (ci := 12) wM_X12_isWord kM_X12_364 wI_X12_isWord wS_X12_isWord dX12_isForeign_44 (e_X12_isWord hst hZ hn hs hc13) (mem_obj hs (by decide)) (sh_ltn hs (by decide) hn) rfl rfl rfl (Nat.le_of_ble_eq_true rfl) (by omega) (by omega) (fun v9 S9 hq => ?_)
          obtain ⟨rfl, rfl⟩ := hq
          refine ⟨fun h => ⟨h, rfl⟩, ?_⟩
          refine b_if hx (fun h15 hx => ?_) (fun h15 hx => ?_)
          · refine mm_if_ne 117 dX12_isForeign_47 (by decide) (fun h => absurd h15 h) (fun _ => ?_)
            refine mm_aload_n dX12_isForeign_50 rfl rfl ?_
            refine mm_ldc2 kL_X12_378 dX12_isForeign_51 ?_
            obtain ⟨v17, hc16, hx⟩ := b1_some hx
            refine mm_callV3 (a := a) (ci := 12) wM_X12_isWord kM_X12_364 wI_X12_isWord wS_X12_isWord dX12_isForeign_54 (e_X12_isWord hst hZ hn hs hc16) (mem_obj hs (by decide)) (sh_ltn hs (by decide) hn) rfl rfl rfl (Nat.le_of_ble_eq_true rfl) (by omega) (by omega) (fun v9 S9 hq => ?_)
            obtain ⟨rfl, rfl⟩ := hq
            refine ⟨fun h => ⟨h, rfl⟩, ?_⟩
            refine b_if hx (fun h18 hx => ?_) (fun h18 hx => ?_)
            · refine mm_if_ne 117 dX12_isForeign_57 (by decide) (fun h => absurd h18 h) (fun _ => ?_)
              refine mm_aload_n dX12_isForeign_60 rfl rfl ?_
              refine mm_ldc2 kL_X12_380 dX12_isForeign_61 ?_
              obtain ⟨v20, hc19, hx⟩ := b1_some hx
              refine mm_callV3 (a := a) (ci := 12) wM_X12_isWord kM_X12_364 wI_X12_isWord wS_X12_isWord dX12_isForeign_64 (e_X12_isWord hst hZ hn hs hc19) (mem_obj hs (by decide)) (sh_ltn hs (by decide) hn) rfl rfl rfl (Nat.le_of_ble_eq_true rfl) (by omega) (by omega) (fun v9 S9 hq => ?_)
              obtain ⟨rfl, rfl⟩ := hq
              refine ⟨fun h => ⟨h, rfl⟩, ?_⟩
              refine b_if hx (fun h21 hx => ?_) (fun h21 hx => ?_)
              · refine mm_if_ne 117 dX12_isForeign_67 (by decide) (fun h => absurd h21 h) (fun _ => ?_)
                refine mm_aload_n dX12_isForeign_70 rfl rfl ?_
                refine mm_ldc2 kL_X12_382 dX12_isForeign_71 ?_
                obtain ⟨v23, hc22, hx⟩ := b1_some hx
                refine mm_callV3 (a := a) (ci := 12) wM_X12_isWord kM_X12_364 wI_X12_isWord wS_X12_isWord dX12_isForeign_74 (e_X12_isWord hst hZ hn hs hc22) (mem_obj hs (by decide)) (sh_ltn hs (by decide) hn) rfl rfl rfl (Nat.le_of_ble_eq_true rfl) (by omega) (by omega) (fun v9 S9 hq => ?_)
                obtain ⟨rfl, rfl⟩ := hq
                refine ⟨fun h => ⟨h, rfl⟩, ?_⟩
                refine b_if hx (fun h24 hx => ?_) (fun h24 hx => ?_)
                · refine mm_if_ne 117 dX12_isForeign_77 (by decide) (fun h => absurd h24 h) (fun _ => ?_)
                  refine mm_aload_n dX12_isForeign_80 rfl rfl ?_
                  refine mm_ldc2 kL_X12_384 dX12_isForeign_81 ?_
                  obtain ⟨v26, hc25, hx⟩ := b1_some hx
                  refine mm_callV3 (a := a) (ci := 12) wM_X12_isWord kM_X12_364 wI_X12_isWord wS_X12_isWord dX12_isForeign_84 (e_X12_isWord hst hZ hn hs hc25) (mem_obj hs (by decide)) (sh_ltn hs (by decide) hn) rfl rfl rfl (Nat.le_of_ble_eq_true rfl) (by omega) (by omega) (fun v9 S9 hq => ?_)
                  obtain ⟨rfl, rfl⟩ := hq
                  refine ⟨fun h => ⟨h, rfl⟩, ?_⟩
                  refine b_if hx (fun h27 hx => ?_) (fun h27 hx => ?_)
                  · refine mm_if_ne 117 dX12_isForeign_87 (by decide) (fun h => absurd h27 h) (fun _ => ?_)
                    refine mm_aload_n dX12_isForeign_90 rfl rfl ?_
                    obtain ⟨v29, hc28, hx⟩ := b1_some hx
                    refine mm_callV3 (a := a) (ci := 12) wM_X12_isExtensions kM_X12_386 wI_X12_isExtensions wS_X12_isExtensions dX12_isForeign_91 (e_X12_isExtensions hst hZ hn hs hc28) (mem_obj hs (by decide)) (sh_ltn hs (by decide) hn) rfl rfl rfl (Nat.le_of_ble_eq_true rfl) (by omega) (by omega) (fun v9 S9 hq => ?_)
                    obtain ⟨rfl, rfl⟩ := hq
                    refine ⟨fun h => ⟨h, rfl⟩, ?_⟩
                    refine b_if hx (fun h30 hx => ?_) (fun h30 hx => ?_)
                    · refine mm_if_ne 117 dX12_isForeign_94 (by decide) (fun h => absurd h30 h) (fun _ => ?_)
                      refine mm_aload_n dX12_isForeign_97 rfl rfl ?_
                      refine mm_ldc2 kL_X12_390 dX12_isForeign_98 ?_
                      obtain ⟨v32, hc31, hx⟩ := b1_some hx
                      refine mm_callV3 (a := a) (ci := 12) wM_X12_isWord kM_X12_364 wI_X12_isWord wS_X12_isWord dX12_isForeign_101 (e_X12_isWord hst hZ hn hs hc31) (mem_obj hs (by decide)) (sh_ltn hs (by decide) hn) rfl rfl rfl (Nat.le_of_ble_eq_true rfl) (by omega) (by omega) (fun v9 S9 hq => ?_)
                      obtain ⟨rfl, rfl⟩ := hq
                      refine ⟨fun h => ⟨h, rfl⟩, ?_⟩
                      refine b_if hx (fun h33 hx => ?_) (fun h33 hx => ?_)
                      · refine mm_if_ne 117 dX12_isForeign_104 (by decide) (fun h => absurd h33 h) (fun _ => ?_)
                        refine mm_aload_n dX12_isForeign_107 rfl rfl ?_
                        refine mm_ldc2 kL_X12_392 dX12_isForeign_108 ?_
                        obtain ⟨v35, hc34, hx⟩ := b1_some hx
                        refine mm_callV3 (a := a) (ci := 12) wM_X12_isWord kM_X12_364 wI_X12_isWord wS_X12_isWord dX12_isForeign_111 (e_X12_isWord hst hZ hn hs hc34) (mem_obj hs (by decide)) (sh_ltn hs (by decide) hn) rfl rfl rfl (Nat.le_of_ble_eq_true rfl) (by omega) (by omega) (fun v9 S9 hq => ?_)
                        obtain ⟨rfl, rfl⟩ := hq
                        refine ⟨fun h => ⟨h, rfl⟩, ?_⟩
                        refine b_if hx (fun h36 hx => ?_) (fun h36 hx => ?_)
                        · refine mm_if_eq 121 dX12_isForeign_114 (by decide) (fun _ => ?_) (fun h => absurd h36 h)
                          refine mm_iconst (v := 0) dX12_isForeign_121 (by decide) ?_
                          refine mm_iret dX12_isForeign_122 rfl rfl ?_ (by omega) (by omega)
                          obtain rfl := fin1 hx
                          exact ⟨rfl, rfl⟩
                        · refine mm_if_eq 121 dX12_isForeign_114 (by decide) (fun h => absurd h h36) (fun _ => ?_)
                          refine mm_iconst (v := 1) dX12_isForeign_117 (by decide) ?_
                          refine mm_goto 122 dX12_isForeign_118 (by decide) ?_
                          refine mm_iret dX12_isForeign_122 rfl rfl ?_ (by omega) (by omega)
                          obtain rfl := fin1 hx
                          exact ⟨rfl, rfl⟩
                      · refine mm_if_ne 117 dX12_isForeign_104 (by decide) (fun _ => ?_) (fun h => absurd h h33)
                        refine mm_iconst (v := 1) dX12_isForeign_117 (by decide) ?_
                        refine mm_goto 122 dX12_isForeign_118 (by decide) ?_
                        refine mm_iret dX12_isForeign_122 rfl rfl ?_ (by omega) (by omega)
                        obtain rfl := fin1 hx
                        exact ⟨rfl, rfl⟩
                    · refine mm_if_ne 117 dX12_isForeign_94 (by decide) (fun _ => ?_) (fun h => absurd h h30)
                      refine mm_iconst (v := 1) dX12_isForeign_117 (by decide) ?_
                      refine mm_goto 122 dX12_isForeign_118 (by decide) ?_
                      refine mm_iret dX12_isForeign_122 rfl rfl ?_ (by omega) (by omega)
                      obtain rfl := fin1 hx
                      exact ⟨rfl, rfl⟩
                  · refine mm_if_ne 117 dX12_isForeign_87 (by decide) (fun _ => ?_) (fun h => absurd h h27)
                    refine mm_iconst (v := 1) dX12_isForeign_117 (by decide) ?_
                    refine mm_goto 122 dX12_isForeign_118 (by decide) ?_
                    refine mm_iret dX12_isForeign_122 rfl rfl ?_ (by omega) (by omega)
                    obtain rfl := fin1 hx
                    exact ⟨rfl, rfl⟩
                · refine mm_if_ne 117 dX12_isForeign_77 (by decide) (fun _ => ?_) (fun h => absurd h h24)
                  refine mm_iconst (v := 1) dX12_isForeign_117 (by decide) ?_
                  refine mm_goto 122 dX12_isForeign_118 (by decide) ?_
                  refine mm_iret dX12_isForeign_122 rfl rfl ?_ (by omega) (by omega)
                  obtain rfl := fin1 hx
                  exact ⟨rfl, rfl⟩
              · refine mm_if_ne 117 dX12_isForeign_67 (by decide) (fun _ => ?_) (fun h => absurd h h21)
                refine mm_iconst (v := 1) dX12_isForeign_117 (by decide) ?_
                refine mm_goto 122 dX12_isForeign_118 (by decide) ?_
                refine mm_iret dX12_isForeign_122 rfl rfl ?_ (by omega) (by omega)
                obtain rfl := fin1 hx
                exact ⟨rfl, rfl⟩
            · refine mm_if_ne 117 dX12_isForeign_57 (by decide) (fun _ => ?_) (fun h => absurd h h18)
              refine mm_iconst (v := 1) dX12_isForeign_117 (by decide) ?_
              refine mm_goto 122 dX12_isForeign_118 (by decide) ?_
              refine mm_iret dX12_isForeign_122 rfl rfl ?_ (by omega) (by omega)
              obtain rfl := fin1 hx
              exact ⟨rfl, rfl⟩
          · refine mm_if_ne 117 dX12_isForeign_47 (by decide) (fun _ => ?_) (fun h => absurd h h15)
            refine mm_iconst (v := 1) dX12_isForeign_117 (by decide) ?_
            refine mm_goto 122 dX12_isForeign_118 (by decide) ?_
            refine mm_iret dX12_isForeign_122 rfl rfl ?_ (by omega) (by omega)
            obtain rfl := fin1 hx
            exact ⟨rfl, rfl⟩
        · refine mm_if_ne 117 dX12_isForeign_37 (by decide) (fun _ => ?_) (fun h => absurd h h12)
          refine mm_iconst (v := 1) dX12_isForeign_117 (by decide) ?_
          refine mm_goto 122 dX12_isForeign_118 (by decide) ?_
          refine mm_iret dX12_isForeign_122 rfl rfl ?_ (by omega) (by omega)
          obtain rfl := fin1 hx
          exact ⟨rfl, rfl⟩
      · refine mm_if_ne 117 dX12_isForeign_27 (by decide) (fun _ => ?_) (fun h => absurd h h9)
        refine mm_iconst (v := 1) dX12_isForeign_117 (by decide) ?_
        refine mm_goto 122 dX12_isForeign_118 (by decide) ?_
        refine mm_iret dX12_isForeign_122 rfl rfl ?_ (by omega) (by omega)
        obtain rfl := fin1 hx
        exact ⟨rfl, rfl⟩
    · refine mm_if_ne 117 dX12_isForeign_17 (by decide) (fun _ => ?_) (fun h => absurd h h6)
      refine mm_iconst (v := 1) dX12_isForeign_117 (by decide) ?_
      refine mm_goto 122 dX12_isForeign_118 (by decide) ?_
      refine mm_iret dX12_isForeign_122 rfl rfl ?_ (by omega) (by omega)
      obtain rfl := fin1 hx
      exact ⟨rfl, rfl⟩
  · refine mm_if_ne 117 dX12_isForeign_7 (by decide) (fun _ => ?_) (fun h => absurd h h3)
    refine mm_iconst (v := 1) dX12_isForeign_117 (by decide) ?_
    refine mm_goto 122 dX12_isForeign_118 (by decide) ?_
    refine mm_iret dX12_isForeign_122 rfl rfl ?_ (by omega) (by omega)
    obtain rfl := fin1 hx
    exact ⟨rfl, rfl⟩
set_option maxHeartbeats 4000000 in
set_option maxRecDepth 100000 in
theorem e_X12_takeValue_136 {g : mm_G} {l : Launch} (hst : l.stackTraces = false) {Z : Nat → Nat → Option Nat} (hZ : HZ Z) {n : Nat} (hn : 1186 ≤ n) {z : Bool} {d : Nat} {U : Nat} {a : Nat} (hs : sh a = 12) {s0_ : Int64} {s1_ : Int32} {σ : SG} {σ' : SG} (hx : x_X12_takeValue_136 U a s0_ s1_ σ = some σ') : mm_V g l RX12 "takeValue" cX12_takeValue 4 none [] (d + 6) 0 0 (mm_nt (fun v S' => v = none ∧ S' = (mem Z σ', n, z))) 136 [some (.ref a), none, none, none] [.long s0_, .int s1_, .ref 1152] (mem Z σ, n, z) 0 0 := by
  unfold x_X12_takeValue_136 at hx
  obtain ⟨j38, hj39, hb40, hl41, hx⟩ := ix_some hx
  refine s_last (a := 1152) (v := s0_) sa_1152 hn hj39 hb40 na_1152 dX12_takeValue_136 hx (fun σ42 hx => ?_)
  refine mm_aload_n dX12_takeValue_137 rfl rfl ?_
  refine mm_dup dX12_takeValue_138 rfl ?_
  refine s_getI (r := some a) (b := a) (ci := 12) (k := 35) in_X12 rfl (by decide) rfl kF_X12_484 dX12_takeValue_139 rfl hs (by decide) hn (by decide) rfl ?_
  refine mm_iconst (v := 1) dX12_takeValue_142 (by decide) ?_
  refine mm_iadd dX12_takeValue_143 ?_
  refine s_putI (v := (sI σ42 a 35) + 1) (r := some a) (b := a) (ci := 12) (k := 35) in_X12 rfl (by decide) rfl tyX12_ok nmX12 rfl kF_X12_484 dX12_takeValue_144 (mm_fit_int _) rfl hs (by decide) hn (by decide) rfl hx (fun σ43 hx => ?_)
  refine mm_aload_n dX12_takeValue_147 rfl rfl ?_
  obtain ⟨σ45, hc44, hx⟩ := b1_some hx
  refine mm_callV3 (a := a) (ci := 12) wM_X12_next kM_X12_357 wI_X12_next wS_X12_next dX12_takeValue_148 (e_X12_next hst hZ hn hs hc44) (mem_obj hs (by decide)) (sh_ltn hs (by decide) hn) rfl rfl rfl (Nat.le_of_ble_eq_true rfl) (by omega) (by omega) (fun v9 S9 hq => ?_)
  obtain ⟨rfl, rfl⟩ := hq
  refine ⟨fun h => ⟨h, rfl⟩, ?_⟩
  refine mm_aload_n dX12_takeValue_151 rfl rfl ?_
  refine mm_bipush (v := 59) dX12_takeValue_152 (by decide) ?_
  obtain ⟨σ47, hc46, hx⟩ := b1_some hx
  refine mm_callV3 (a := a) (ci := 12) wM_X12_takeSign kM_X12_450 wI_X12_takeSign wS_X12_takeSign dX12_takeValue_154 (e_X12_takeSign hst hZ hn hs hc46) (mem_obj hs (by decide)) (sh_ltn hs (by decide) hn) rfl rfl rfl (Nat.le_of_ble_eq_true rfl) (by omega) (by omega) (fun v9 S9 hq => ?_)
  obtain ⟨rfl, rfl⟩ := hq
  refine ⟨fun h => ⟨h, rfl⟩, ?_⟩
  refine mm_vret dX12_takeValue_157 rfl ?_ (by omega) (by omega)
  obtain rfl := fin1 hx
  exact ⟨rfl, rfl⟩
set_option maxHeartbeats 4000000 in
set_option maxRecDepth 100000 in
theorem e_X12_takeValue_97 {g : mm_G} {l : Launch} (hst : l.stackTraces = false) {Z : Nat → Nat → Option Nat} (hZ : HZ Z) {n : Nat} (hn : 1186 ≤ n) {z : Bool} {d : Nat} {U : Nat} {a : Nat} (hs : sh a = 12) {v2_ : Int32} {v3_ : Int32} {σ : SG} {σ' : SG} (hx : x_X12_takeValue_97 U a v2_ v3_ σ = some σ') : mm_V g l RX12 "takeValue" cX12_takeValue 4 none [] (d + 6) 0 0 (mm_nt (fun v S' => v = none ∧ S' = (mem Z σ', n, z))) 97 [some (.ref a), none, some (.int v2_), some (.int v3_)] [] (mem Z σ, n, z) 0 0 := by
  unfold x_X12_takeValue_97 at hx
  refine mm_aload_n dX12_takeValue_97 rfl rfl ?_
  refine s_getI (r := some a) (b := a) (ci := 12) (k := 70) in_X12 rfl (by decide) rfl kF_X12_298 dX12_takeValue_98 rfl hs (by decide) hn (by decide) rfl ?_
  refine mm_iconst (v := 2) dX12_takeValue_101 (by decide) ?_
  refine b_if hx (fun h36 hx => ?_) (fun h36 hx => ?_)
  · refine mm_icmp_eq 115 dX12_takeValue_102 (by decide) (fun _ => ?_) (fun h => absurd h36 h)
    refine mm_aload_n dX12_takeValue_115 rfl rfl ?_
    refine s_getS (q := 1152) (r := some a) (b := a) (ci := 12) (k := 63) in_X12 rfl (by decide) rfl kF_X12_166 dX12_takeValue_116 rfl hs (by decide) hn (by decide) rfl rfl ?_
    refine mm_iload_n dX12_takeValue_119 rfl ?_
    refine mm_iload_n dX12_takeValue_120 rfl ?_
    refine b_if hx (fun h37 hx => ?_) (fun h37 hx => ?_)
    · refine mm_if_eq 132 dX12_takeValue_121 (by decide) (fun _ => ?_) (fun h => absurd h37 h)
      refine mm_aload_n dX12_takeValue_132 rfl rfl ?_
      refine s_getL (r := some a) (b := a) (ci := 12) (k := 77) in_X12 rfl (by decide) rfl kF_X12_301 dX12_takeValue_133 rfl hs (by decide) hn (by decide) rfl ?_
      refine mm_fewer [some (.ref a), none, none, none] (few_ok (bs := [true, false, false, false]) rfl) ?_
      exact e_X12_takeValue_136 hst hZ hn hs hx
    · refine mm_if_eq 132 dX12_takeValue_121 (by decide) (fun h => absurd h h37) (fun _ => ?_)
      refine mm_aload_n dX12_takeValue_124 rfl rfl ?_
      refine s_getL (r := some a) (b := a) (ci := 12) (k := 77) in_X12 rfl (by decide) rfl kF_X12_301 dX12_takeValue_125 rfl hs (by decide) hn (by decide) rfl ?_
      refine mm_lneg dX12_takeValue_128 ?_
      refine mm_goto 136 dX12_takeValue_129 (by decide) ?_
      refine mm_fewer [some (.ref a), none, none, none] (few_ok (bs := [true, false, false, false]) rfl) ?_
      exact e_X12_takeValue_136 hst hZ hn hs hx
  · refine mm_icmp_eq 115 dX12_takeValue_102 (by decide) (fun h => absurd h h36) (fun _ => ?_)
    refine mm_aload_n dX12_takeValue_105 rfl rfl ?_
    refine mm_iconst (v := 1) dX12_takeValue_106 (by decide) ?_
    refine mm_aload_n dX12_takeValue_107 rfl rfl ?_
    refine s_getI (r := some a) (b := a) (ci := 12) (k := 71) in_X12 rfl (by decide) rfl kF_X12_305 dX12_takeValue_108 rfl hs (by decide) hn (by decide) rfl ?_
    obtain ⟨σ49, hc48, hx⟩ := b1_some hx
    refine mm_callV3 (a := a) (ci := 12) wM_X12_fail kM_X12_360 wI_X12_fail wS_X12_fail dX12_takeValue_111 (e_X12_fail hst hZ hn hs hc48) (mem_obj hs (by decide)) (sh_ltn hs (by decide) hn) rfl rfl rfl (Nat.le_of_ble_eq_true rfl) (by omega) (by omega) (fun v9 S9 hq => ?_)
    obtain ⟨rfl, rfl⟩ := hq
    refine ⟨fun h => ⟨h, rfl⟩, ?_⟩
    refine mm_vret dX12_takeValue_114 rfl ?_ (by omega) (by omega)
    obtain rfl := fin1 hx
    exact ⟨rfl, rfl⟩
set_option maxHeartbeats 4000000 in
set_option maxRecDepth 100000 in
theorem e_X12_takeValue_16 {g : mm_G} {l : Launch} (hst : l.stackTraces = false) {Z : Nat → Nat → Option Nat} (hZ : HZ Z) {n : Nat} (hn : 1186 ≤ n) {z : Bool} {d : Nat} {U : Nat} {a : Nat} (hs : sh a = 12) {v1_ : Int32} {σ : SG} {σ' : SG} (hx : x_X12_takeValue_16 U a v1_ σ = some σ') : mm_V g l RX12 "takeValue" cX12_takeValue 4 none [] (d + 6) 0 0 (mm_nt (fun v S' => v = none ∧ S' = (mem Z σ', n, z))) 16 [some (.ref a), some (.int v1_), none, none] [] (mem Z σ, n, z) 0 0 := by
  unfold x_X12_takeValue_16 at hx
  refine mm_aload_n dX12_takeValue_16 rfl rfl ?_
  refine mm_iload_n dX12_takeValue_17 rfl ?_
  obtain ⟨σ5, hc4, hx⟩ := b1_some hx
  refine mm_callV3 (a := a) (ci := 12) wM_X12_declare kM_X12_463 wI_X12_declare wS_X12_declare dX12_takeValue_18 (e_X12_declare hst hZ hn hs hc4) (mem_obj hs (by decide)) (sh_ltn hs (by decide) hn) rfl rfl rfl (Nat.le_of_ble_eq_true rfl) (by omega) (by omega) (fun v9 S9 hq => ?_)
  obtain ⟨rfl, rfl⟩ := hq
  refine ⟨fun h => ⟨h, rfl⟩, ?_⟩
  refine mm_aload_n dX12_takeValue_21 rfl rfl ?_
  refine s_getI (r := some a) (b := a) (ci := 12) (k := 35) in_X12 rfl (by decide) rfl kF_X12_484 dX12_takeValue_22 rfl hs (by decide) hn (by decide) rfl ?_
  refine mm_istore_n [some (.ref a), some (.int v1_), some (.int (sI σ5 a 35)), none] dX12_takeValue_25 (by decide) rfl ?_
  refine mm_aload_n dX12_takeValue_26 rfl rfl ?_
  refine s_getS (q := 1149) (r := some a) (b := a) (ci := 12) (k := 60) in_X12 rfl (by decide) rfl kF_X12_157 dX12_takeValue_27 rfl hs (by decide) hn (by decide) rfl rfl ?_
  refine mm_iload_n dX12_takeValue_30 rfl ?_
  refine mm_aload_n dX12_takeValue_31 rfl rfl ?_
  refine s_getI (r := some a) (b := a) (ci := 12) (k := 33) in_X12 rfl (by decide) rfl kF_X12_487 dX12_takeValue_32 rfl hs (by decide) hn (by decide) rfl ?_
  refine mm_iconst (v := 1) dX12_takeValue_35 (by decide) ?_
  refine mm_isub dX12_takeValue_36 ?_
  obtain ⟨j6, hj7, hb8, hl9, hx⟩ := ix_some hx
  refine s_iast (a := 1149) (v := (sI σ5 a 33) - 1) sa_1149 hn hj7 hb8 na_1149 dX12_takeValue_37 hx (fun σ10 hx => ?_)
  refine mm_aload_n dX12_takeValue_38 rfl rfl ?_
  refine s_getS (q := 1150) (r := some a) (b := a) (ci := 12) (k := 61) in_X12 rfl (by decide) rfl kF_X12_160 dX12_takeValue_39 rfl hs (by decide) hn (by decide) rfl rfl ?_
  refine mm_iload_n dX12_takeValue_42 rfl ?_
  refine mm_aload_n dX12_takeValue_43 rfl rfl ?_
  obtain ⟨v12, hc11, hx⟩ := b1_some hx
  refine mm_callV3 (a := a) (ci := 12) wM_X12_lastAt kM_X12_466 wI_X12_lastAt wS_X12_lastAt dX12_takeValue_44 (e_X12_lastAt hst hZ hn hs hc11) (mem_obj hs (by decide)) (sh_ltn hs (by decide) hn) rfl rfl rfl (Nat.le_of_ble_eq_true rfl) (by omega) (by omega) (fun v9 S9 hq => ?_)
  obtain ⟨rfl, rfl⟩ := hq
  refine ⟨fun h => ⟨h, rfl⟩, ?_⟩
  obtain ⟨j13, hj14, hb15, hl16, hx⟩ := ix_some hx
  refine s_iast (a := 1150) (v := v12) sa_1150 hn hj14 hb15 na_1150 dX12_takeValue_47 hx (fun σ17 hx => ?_)
  refine mm_aload_n dX12_takeValue_48 rfl rfl ?_
  refine s_getS (q := 1151) (r := some a) (b := a) (ci := 12) (k := 62) in_X12 rfl (by decide) rfl kF_X12_163 dX12_takeValue_49 rfl hs (by decide) hn (by decide) rfl rfl ?_
  refine mm_iload_n dX12_takeValue_52 rfl ?_
  refine mm_aload_n dX12_takeValue_53 rfl rfl ?_
  obtain ⟨v19, hc18, hx⟩ := b1_some hx
  refine mm_callV3 (a := a) (ci := 12) wM_X12_lastLong kM_X12_469 wI_X12_lastLong wS_X12_lastLong dX12_takeValue_54 (e_X12_lastLong hst hZ hn hs hc18) (mem_obj hs (by decide)) (sh_ltn hs (by decide) hn) rfl rfl rfl (Nat.le_of_ble_eq_true rfl) (by omega) (by omega) (fun v9 S9 hq => ?_)
  obtain ⟨rfl, rfl⟩ := hq
  refine ⟨fun h => ⟨h, rfl⟩, ?_⟩
  obtain ⟨j20, hj21, hb22, hl23, hx⟩ := ix_some hx
  refine s_iast (a := 1151) (v := v19) sa_1151 hn hj21 hb22 na_1151 dX12_takeValue_57 hx (fun σ24 hx => ?_)
  refine mm_aload_n dX12_takeValue_58 rfl rfl ?_
  refine mm_bipush (v := 61) dX12_takeValue_59 (by decide) ?_
  obtain ⟨σ26, hc25, hx⟩ := b1_some hx
  refine mm_callV3 (a := a) (ci := 12) wM_X12_takeSign kM_X12_450 wI_X12_takeSign wS_X12_takeSign dX12_takeValue_61 (e_X12_takeSign hst hZ hn hs hc25) (mem_obj hs (by decide)) (sh_ltn hs (by decide) hn) rfl rfl rfl (Nat.le_of_ble_eq_true rfl) (by omega) (by omega) (fun v9 S9 hq => ?_)
  obtain ⟨rfl, rfl⟩ := hq
  refine ⟨fun h => ⟨h, rfl⟩, ?_⟩
  refine mm_aload_n dX12_takeValue_64 rfl rfl ?_
  refine s_getI (r := some a) (b := a) (ci := 12) (k := 74) in_X12 rfl (by decide) rfl kF_X12_328 dX12_takeValue_65 rfl hs (by decide) hn (by decide) rfl ?_
  refine b_if hx (fun h27 hx => ?_) (fun h27 hx => ?_)
  · refine mm_if_eq 72 dX12_takeValue_68 (by decide) (fun _ => ?_) (fun h => absurd h27 h)
    refine mm_aload_n dX12_takeValue_72 rfl rfl ?_
    refine mm_bipush (v := 45) dX12_takeValue_73 (by decide) ?_
    obtain ⟨v29, hc28, hx⟩ := b1_some hx
    refine mm_callV3 (a := a) (ci := 12) wM_X12_isSign kM_X12_354 wI_X12_isSign wS_X12_isSign dX12_takeValue_75 (e_X12_isSign hst hZ hn hs hc28) (mem_obj hs (by decide)) (sh_ltn hs (by decide) hn) rfl rfl rfl (Nat.le_of_ble_eq_true rfl) (by omega) (by omega) (fun v9 S9 hq => ?_)
    obtain ⟨rfl, rfl⟩ := hq
    refine ⟨fun h => ⟨h, rfl⟩, ?_⟩
    refine mm_istore_n [some (.ref a), some (.int v1_), some (.int (sI σ5 a 35)), some (.int v29)] dX12_takeValue_78 (by decide) rfl ?_
    refine mm_aload_n dX12_takeValue_79 rfl rfl ?_
    refine s_getS (q := 1153) (r := some a) (b := a) (ci := 12) (k := 64) in_X12 rfl (by decide) rfl kF_X12_169 dX12_takeValue_80 rfl hs (by decide) hn (by decide) rfl rfl ?_
    refine mm_iload_n dX12_takeValue_83 rfl ?_
    refine mm_aload_n dX12_takeValue_84 rfl rfl ?_
    refine s_getI (r := some a) (b := a) (ci := 12) (k := 71) in_X12 rfl (by decide) rfl kF_X12_305 dX12_takeValue_85 rfl hs (by decide) hn (by decide) rfl ?_
    obtain ⟨j30, hj31, hb32, hl33, hx⟩ := ix_some hx
    refine s_iast (a := 1153) (v := sI σ26 a 71) sa_1153 hn hj31 hb32 na_1153 dX12_takeValue_88 hx (fun σ34 hx => ?_)
    refine mm_iload_n dX12_takeValue_89 rfl ?_
    refine b_if hx (fun h35 hx => ?_) (fun h35 hx => ?_)
    · refine mm_if_eq 97 dX12_takeValue_90 (by decide) (fun _ => ?_) (fun h => absurd h35 h)
      refine mm_fewer [some (.ref a), none, some (.int (sI σ5 a 35)), some (.int v29)] (few_ok (bs := [true, false, true, true]) rfl) ?_
      exact e_X12_takeValue_97 hst hZ hn hs hx
    · refine mm_if_eq 97 dX12_takeValue_90 (by decide) (fun h => absurd h h35) (fun _ => ?_)
      refine mm_aload_n dX12_takeValue_93 rfl rfl ?_
      obtain ⟨σ51, hc50, hx⟩ := b1_some hx
      refine mm_callV3 (a := a) (ci := 12) wM_X12_next kM_X12_357 wI_X12_next wS_X12_next dX12_takeValue_94 (e_X12_next hst hZ hn hs hc50) (mem_obj hs (by decide)) (sh_ltn hs (by decide) hn) rfl rfl rfl (Nat.le_of_ble_eq_true rfl) (by omega) (by omega) (fun v9 S9 hq => ?_)
      obtain ⟨rfl, rfl⟩ := hq
      refine ⟨fun h => ⟨h, rfl⟩, ?_⟩
      refine mm_fewer [some (.ref a), none, some (.int (sI σ5 a 35)), some (.int v29)] (few_ok (bs := [true, false, true, true]) rfl) ?_
      exact e_X12_takeValue_97 hst hZ hn hs hx
  · refine mm_if_eq 72 dX12_takeValue_68 (by decide) (fun h => absurd h h27) (fun _ => ?_)
    refine mm_vret dX12_takeValue_71 rfl ?_ (by omega) (by omega)
    obtain rfl := fin1 hx
    exact ⟨rfl, rfl⟩
set_option maxHeartbeats 4000000 in
set_option maxRecDepth 100000 in
theorem e_X12_takeValue {g : mm_G} {l : Launch} (hst : l.stackTraces = false) {Z : Nat → Nat → Option Nat} (hZ : HZ Z) {n : Nat} (hn : 1186 ≤ n) {z : Bool} {d : Nat} {U : Nat} {a : Nat} (hs : sh a = 12) {p0 : Int32} {σ : SG} {σ' : SG} (hx : x_X12_takeValue U a p0 σ = some σ') : mm_Cm g l yX12_takeValue (.code yX12_takeValue cX12_takeValue 4 none) (d + 6) 0 0 [.ref a, .int p0] (mem Z σ, n, z) (fun v S' => v = none ∧ S' = (mem Z σ', n, z)) := by
  refine mm_Cm_of hst (by decide) (Nat.le_of_ble_eq_true rfl) ?_
  show mm_V g l RX12 "takeValue" cX12_takeValue 4 none [] (d + 6) 0 0 (mm_nt (fun v S' => v = none ∧ S' = (mem Z σ', n, z))) 0 [some (.ref a), some (.int p0), none, none] [] (mem Z σ, n, z) 0 0
  unfold x_X12_takeValue at hx
  refine mm_aload_n dX12_takeValue_0 rfl rfl ?_
  obtain ⟨v2, hc1, hx⟩ := b1_some hx
  refine mm_callV3 (a := a) (ci := 12) wM_X12_isForeign kM_X12_478 wI_X12_isForeign wS_X12_isForeign dX12_takeValue_1 (e_X12_isForeign hst hZ hn hs hc1) (mem_obj hs (by decide)) (sh_ltn hs (by decide) hn) rfl rfl rfl (Nat.le_of_ble_eq_true rfl) (by omega) (by omega) (fun v9 S9 hq => ?_)
  obtain ⟨rfl, rfl⟩ := hq
  refine ⟨fun h => ⟨h, rfl⟩, ?_⟩
  refine b_if hx (fun h3 hx => ?_) (fun h3 hx => ?_)
  · refine mm_if_eq 16 dX12_takeValue_4 (by decide) (fun _ => ?_) (fun h => absurd h3 h)
    exact e_X12_takeValue_16 hst hZ hn hs hx
  · refine mm_if_eq 16 dX12_takeValue_4 (by decide) (fun h => absurd h h3) (fun _ => ?_)
    refine mm_aload_n dX12_takeValue_7 rfl rfl ?_
    refine mm_iconst (v := 2) dX12_takeValue_8 (by decide) ?_
    refine mm_aload_n dX12_takeValue_9 rfl rfl ?_
    refine s_getI (r := some a) (b := a) (ci := 12) (k := 71) in_X12 rfl (by decide) rfl kF_X12_305 dX12_takeValue_10 rfl hs (by decide) hn (by decide) rfl ?_
    obtain ⟨σ53, hc52, hx⟩ := b1_some hx
    refine mm_callV3 (a := a) (ci := 12) wM_X12_fail kM_X12_360 wI_X12_fail wS_X12_fail dX12_takeValue_13 (e_X12_fail hst hZ hn hs hc52) (mem_obj hs (by decide)) (sh_ltn hs (by decide) hn) rfl rfl rfl (Nat.le_of_ble_eq_true rfl) (by omega) (by omega) (fun v9 S9 hq => ?_)
    obtain ⟨rfl, rfl⟩ := hq
    refine ⟨fun h => ⟨h, rfl⟩, ?_⟩
    exact e_X12_takeValue_16 hst hZ hn hs hx
set_option maxHeartbeats 4000000 in
set_option maxRecDepth 100000 in
theorem e_X12_takeEnum_100 {g : mm_G} {l : Launch} (hst : l.stackTraces = false) {Z : Nat → Nat → Option Nat} (hZ : HZ Z) {n : Nat} (hn : 1186 ≤ n) {z : Bool} {d : Nat} {U : Nat} {a : Nat} (hs : sh a = 12) {k63 : Int32 → SG → Option (SG)} {k104 : SG → Option (SG)} {v1_ : Int32} {s0_ : Int32} {σ : SG} {σ' : SG} (hk63 : ∀ (v2_ : Int32) (σ8 : SG), k63 v2_ σ8 = some σ' → mm_V g l RX12 "takeEnum" cX12_takeEnum 3 none [] (d + 7) 0 0 (mm_nt (fun v S' => v = none ∧ S' = (mem Z σ', n, z))) 63 [some (.ref a), some (.int v1_), some (.int v2_)] [] (mem Z σ8, n, z) 0 0) (hk104 : ∀ (σ8 : SG), k104 σ8 = some σ' → mm_V g l RX12 "takeEnum" cX12_takeEnum 3 none [] (d + 7) 0 0 (mm_nt (fun v S' => v = none ∧ S' = (mem Z σ', n, z))) 104 [some (.ref a), none, none] [] (mem Z σ8, n, z) 0 0) (hx : x_X12_takeEnum_100 U a k63 k104 v1_ s0_ σ = some σ') : mm_V g l RX12 "takeEnum" cX12_takeEnum 3 none [] (d + 7) 0 0 (mm_nt (fun v S' => v = none ∧ S' = (mem Z σ', n, z))) 100 [some (.ref a), some (.int v1_), none] [.int s0_] (mem Z σ, n, z) 0 0 := by
  unfold x_X12_takeEnum_100 at hx
  refine mm_istore_n [some (.ref a), some (.int v1_), some (.int s0_)] dX12_takeEnum_100 (by decide) rfl ?_
  refine mm_goto 63 dX12_takeEnum_101 (by decide) ?_
  exact hk63 _ _ hx
set_option maxHeartbeats 4000000 in
set_option maxRecDepth 100000 in
theorem e_X12_takeEnum_99 {g : mm_G} {l : Launch} (hst : l.stackTraces = false) {Z : Nat → Nat → Option Nat} (hZ : HZ Z) {n : Nat} (hn : 1186 ≤ n) {z : Bool} {d : Nat} {U : Nat} {a : Nat} (hs : sh a = 12) {k63 : Int32 → SG → Option (SG)} {k104 : SG → Option (SG)} {v1_ : Int32} {σ : SG} {σ' : SG} (hk63 : ∀ (v2_ : Int32) (σ8 : SG), k63 v2_ σ8 = some σ' → mm_V g l RX12 "takeEnum" cX12_takeEnum 3 none [] (d + 7) 0 0 (mm_nt (fun v S' => v = none ∧ S' = (mem Z σ', n, z))) 63 [some (.ref a), some (.int v1_), some (.int v2_)] [] (mem Z σ8, n, z) 0 0) (hk104 : ∀ (σ8 : SG), k104 σ8 = some σ' → mm_V g l RX12 "takeEnum" cX12_takeEnum 3 none [] (d + 7) 0 0 (mm_nt (fun v S' => v = none ∧ S' = (mem Z σ', n, z))) 104 [some (.ref a), none, none] [] (mem Z σ8, n, z) 0 0) (hx : x_X12_takeEnum_99 U a k63 k104 v1_ σ = some σ') : mm_V g l RX12 "takeEnum" cX12_takeEnum 3 none [] (d + 7) 0 0 (mm_nt (fun v S' => v = none ∧ S' = (mem Z σ', n, z))) 99 [some (.ref a), some (.int v1_), none] [] (mem Z σ, n, z) 0 0 := by
  unfold x_X12_takeEnum_99 at hx
  refine mm_iconst (v := 0) dX12_takeEnum_99 (by decide) ?_
  exact e_X12_takeEnum_100 hst hZ hn hs hk63 hk104 hx
set_option maxHeartbeats 4000000 in
set_option maxRecDepth 100000 in
theorem e_X12_takeEnum_L63 {g : mm_G} {l : Launch} (hst : l.stackTraces = false) {Z : Nat → Nat → Option Nat} (hZ : HZ Z) {n : Nat} (hn : 1186 ≤ n) {z : Bool} {d : Nat} {U : Nat} {a : Nat} (hs : sh a = 12) {k104 : SG → Option (SG)} {v1_ : Int32} {σ' : SG} (hk104 : ∀ (σ8 : SG), k104 σ8 = some σ' → mm_V g l RX12 "takeEnum" cX12_takeEnum 3 none [] (d + 7) 0 0 (mm_nt (fun v S' => v = none ∧ S' = (mem Z σ', n, z))) 104 [some (.ref a), none, none] [] (mem Z σ8, n, z) 0 0) : ∀ (U1 : Nat) (v2_ : Int32) (σ : SG), x_X12_takeEnum_L63 U a k104 v1_ U1 v2_ σ = some σ' → mm_V g l RX12 "takeEnum" cX12_takeEnum 3 none [] (d + 7) 0 0 (mm_nt (fun v S' => v = none ∧ S' = (mem Z σ', n, z))) 63 [some (.ref a), some (.int v1_), some (.int v2_)] [] (mem Z σ, n, z) 0 0 := by
  intro U1
  induction U1 with
  | zero => intro v2_ σ hx; exact absurd hx (by simp [x_X12_takeEnum_L63])
  | succ U1 ih =>
    intro v2_ σ hx
    rw [x_X12_takeEnum_L63] at hx
    refine mm_iload_n dX12_takeEnum_63 rfl ?_
    refine b_if hx (fun h27 hx => ?_) (fun h27 hx => ?_)
    · refine mm_if_eq 104 dX12_takeEnum_64 (by decide) (fun _ => ?_) (fun h => absurd h27 h)
      refine mm_fewer [some (.ref a), none, none] (few_ok (bs := [true, false, false]) rfl) ?_
      exact hk104  _ hx
    · refine mm_if_eq 104 dX12_takeEnum_64 (by decide) (fun h => absurd h h27) (fun _ => ?_)
      refine mm_aload_n dX12_takeEnum_67 rfl rfl ?_
      refine s_getI (r := some a) (b := a) (ci := 12) (k := 74) in_X12 rfl (by decide) rfl kF_X12_328 dX12_takeEnum_68 rfl hs (by decide) hn (by decide) rfl ?_
      refine b_if hx (fun h28 hx => ?_) (fun h28 hx => ?_)
      · refine mm_if_ne 104 dX12_takeEnum_71 (by decide) (fun h => absurd h28 h) (fun _ => ?_)
        refine mm_aload_n dX12_takeEnum_74 rfl rfl ?_
        refine mm_iload_n dX12_takeEnum_75 rfl ?_
        obtain ⟨σ30, hc29, hx⟩ := b1_some hx
        refine mm_callV3 (a := a) (ci := 12) wM_X12_takeValue kM_X12_490 wI_X12_takeValue wS_X12_takeValue dX12_takeEnum_76 (e_X12_takeValue hst hZ hn hs hc29) (mem_obj hs (by decide)) (sh_ltn hs (by decide) hn) rfl rfl rfl (Nat.le_of_ble_eq_true rfl) (by omega) (by omega) (fun v9 S9 hq => ?_)
        obtain ⟨rfl, rfl⟩ := hq
        refine ⟨fun h => ⟨h, rfl⟩, ?_⟩
        refine mm_aload_n dX12_takeEnum_79 rfl rfl ?_
        refine s_getI (r := some a) (b := a) (ci := 12) (k := 74) in_X12 rfl (by decide) rfl kF_X12_328 dX12_takeEnum_80 rfl hs (by decide) hn (by decide) rfl ?_
        refine b_if hx (fun h31 hx => ?_) (fun h31 hx => ?_)
        · refine mm_if_ne 99 dX12_takeEnum_83 (by decide) (fun h => absurd h31 h) (fun _ => ?_)
          refine mm_aload_n dX12_takeEnum_86 rfl rfl ?_
          refine mm_bipush (v := 125) dX12_takeEnum_87 (by decide) ?_
          obtain ⟨v33, hc32, hx⟩ := b1_some hx
          refine mm_callV3 (a := a) (ci := 12) wM_X12_isSign kM_X12_354 wI_X12_isSign wS_X12_isSign dX12_takeEnum_89 (e_X12_isSign hst hZ hn hs hc32) (mem_obj hs (by decide)) (sh_ltn hs (by decide) hn) rfl rfl rfl (Nat.le_of_ble_eq_true rfl) (by omega) (by omega) (fun v9 S9 hq => ?_)
          obtain ⟨rfl, rfl⟩ := hq
          refine ⟨fun h => ⟨h, rfl⟩, ?_⟩
          refine b_if hx (fun h34 hx => ?_) (fun h34 hx => ?_)
          · refine mm_if_ne 99 dX12_takeEnum_92 (by decide) (fun h => absurd h34 h) (fun _ => ?_)
            refine mm_iconst (v := 1) dX12_takeEnum_95 (by decide) ?_
            refine mm_goto 100 dX12_takeEnum_96 (by decide) ?_
            refine mm_fewer [some (.ref a), some (.int v1_), none] (few_ok (bs := [true, true, false]) rfl) ?_
            exact e_X12_takeEnum_100 hst hZ hn hs ih hk104 hx
          · refine mm_if_ne 99 dX12_takeEnum_92 (by decide) (fun _ => ?_) (fun h => absurd h h34)
            refine mm_fewer [some (.ref a), some (.int v1_), none] (few_ok (bs := [true, true, false]) rfl) ?_
            exact e_X12_takeEnum_99 hst hZ hn hs ih hk104 hx
        · refine mm_if_ne 99 dX12_takeEnum_83 (by decide) (fun _ => ?_) (fun h => absurd h h31)
          refine mm_fewer [some (.ref a), some (.int v1_), none] (few_ok (bs := [true, true, false]) rfl) ?_
          exact e_X12_takeEnum_99 hst hZ hn hs ih hk104 hx
      · refine mm_if_ne 104 dX12_takeEnum_71 (by decide) (fun _ => ?_) (fun h => absurd h h28)
        refine mm_fewer [some (.ref a), none, none] (few_ok (bs := [true, false, false]) rfl) ?_
        exact hk104  _ hx
set_option maxHeartbeats 4000000 in
set_option maxRecDepth 100000 in
theorem e_X12_takeEnum_104 {g : mm_G} {l : Launch} (hst : l.stackTraces = false) {Z : Nat → Nat → Option Nat} (hZ : HZ Z) {n : Nat} (hn : 1186 ≤ n) {z : Bool} {d : Nat} {U : Nat} {a : Nat} (hs : sh a = 12) {σ : SG} {σ' : SG} (hx : x_X12_takeEnum_104 U a σ = some σ') : mm_V g l RX12 "takeEnum" cX12_takeEnum 3 none [] (d + 7) 0 0 (mm_nt (fun v S' => v = none ∧ S' = (mem Z σ', n, z))) 104 [some (.ref a), none, none] [] (mem Z σ, n, z) 0 0 := by
  unfold x_X12_takeEnum_104 at hx
  refine mm_aload_n dX12_takeEnum_104 rfl rfl ?_
  refine mm_bipush (v := 125) dX12_takeEnum_105 (by decide) ?_
  obtain ⟨σ37, hc36, hx⟩ := b1_some hx
  refine mm_callV3 (a := a) (ci := 12) wM_X12_takeSign kM_X12_450 wI_X12_takeSign wS_X12_takeSign dX12_takeEnum_107 (e_X12_takeSign hst hZ hn hs hc36) (mem_obj hs (by decide)) (sh_ltn hs (by decide) hn) rfl rfl rfl (Nat.le_of_ble_eq_true rfl) (by omega) (by omega) (fun v9 S9 hq => ?_)
  obtain ⟨rfl, rfl⟩ := hq
  refine ⟨fun h => ⟨h, rfl⟩, ?_⟩
  refine mm_vret dX12_takeEnum_110 rfl ?_ (by omega) (by omega)
  obtain rfl := fin1 hx
  exact ⟨rfl, rfl⟩
set_option maxHeartbeats 4000000 in
set_option maxRecDepth 100000 in
theorem e_X12_takeEnum {g : mm_G} {l : Launch} (hst : l.stackTraces = false) {Z : Nat → Nat → Option Nat} (hZ : HZ Z) {n : Nat} (hn : 1186 ≤ n) {z : Bool} {d : Nat} {U : Nat} {a : Nat} (hs : sh a = 12) {p0 : Int32} {σ : SG} {σ' : SG} (hx : x_X12_takeEnum U a p0 σ = some σ') : mm_Cm g l yX12_takeEnum (.code yX12_takeEnum cX12_takeEnum 3 none) (d + 7) 0 0 [.ref a, .int p0] (mem Z σ, n, z) (fun v S' => v = none ∧ S' = (mem Z σ', n, z)) := by
  refine mm_Cm_of hst (by decide) (Nat.le_of_ble_eq_true rfl) ?_
  show mm_V g l RX12 "takeEnum" cX12_takeEnum 3 none [] (d + 7) 0 0 (mm_nt (fun v S' => v = none ∧ S' = (mem Z σ', n, z))) 0 [some (.ref a), some (.int p0), none] [] (mem Z σ, n, z) 0 0
  unfold x_X12_takeEnum at hx
  refine mm_aload_n dX12_takeEnum_0 rfl rfl ?_
  obtain ⟨σ2, hc1, hx⟩ := b1_some hx
  refine mm_callV3 (a := a) (ci := 12) wM_X12_next kM_X12_357 wI_X12_next wS_X12_next dX12_takeEnum_1 (e_X12_next hst hZ hn hs hc1) (mem_obj hs (by decide)) (sh_ltn hs (by decide) hn) rfl rfl rfl (Nat.le_of_ble_eq_true rfl) (by omega) (by omega) (fun v9 S9 hq => ?_)
  obtain ⟨rfl, rfl⟩ := hq
  refine ⟨fun h => ⟨h, rfl⟩, ?_⟩
  refine mm_aload_n dX12_takeEnum_4 rfl rfl ?_
  refine mm_iload_n dX12_takeEnum_5 rfl ?_
  obtain ⟨σ4, hc3, hx⟩ := b1_some hx
  refine mm_callV3 (a := a) (ci := 12) wM_X12_declare kM_X12_463 wI_X12_declare wS_X12_declare dX12_takeEnum_6 (e_X12_declare hst hZ hn hs hc3) (mem_obj hs (by decide)) (sh_ltn hs (by decide) hn) rfl rfl rfl (Nat.le_of_ble_eq_true rfl) (by omega) (by omega) (fun v9 S9 hq => ?_)
  obtain ⟨rfl, rfl⟩ := hq
  refine ⟨fun h => ⟨h, rfl⟩, ?_⟩
  refine mm_aload_n dX12_takeEnum_9 rfl rfl ?_
  refine s_getS (q := 1131) (r := some a) (b := a) (ci := 12) (k := 42) in_X12 rfl (by decide) rfl kF_X12_102 dX12_takeEnum_10 rfl hs (by decide) hn (by decide) rfl rfl ?_
  refine mm_aload_n dX12_takeEnum_13 rfl rfl ?_
  refine s_getI (r := some a) (b := a) (ci := 12) (k := 33) in_X12 rfl (by decide) rfl kF_X12_487 dX12_takeEnum_14 rfl hs (by decide) hn (by decide) rfl ?_
  refine mm_iload_n dX12_takeEnum_17 rfl ?_
  obtain ⟨j5, hj6, hb7, hl8, hx⟩ := ix_some hx
  refine s_iast (a := 1131) (v := p0) sa_1131 hn hj6 hb7 na_1131 dX12_takeEnum_18 hx (fun σ9 hx => ?_)
  refine mm_aload_n dX12_takeEnum_19 rfl rfl ?_
  refine s_getS (q := 1132) (r := some a) (b := a) (ci := 12) (k := 43) in_X12 rfl (by decide) rfl kF_X12_105 dX12_takeEnum_20 rfl hs (by decide) hn (by decide) rfl rfl ?_
  refine mm_aload_n dX12_takeEnum_23 rfl rfl ?_
  refine s_getI (r := some a) (b := a) (ci := 12) (k := 33) in_X12 rfl (by decide) rfl kF_X12_487 dX12_takeEnum_24 rfl hs (by decide) hn (by decide) rfl ?_
  refine mm_aload_n dX12_takeEnum_27 rfl rfl ?_
  obtain ⟨v11, hc10, hx⟩ := b1_some hx
  refine mm_callV3 (a := a) (ci := 12) wM_X12_lastAt kM_X12_466 wI_X12_lastAt wS_X12_lastAt dX12_takeEnum_28 (e_X12_lastAt hst hZ hn hs hc10) (mem_obj hs (by decide)) (sh_ltn hs (by decide) hn) rfl rfl rfl (Nat.le_of_ble_eq_true rfl) (by omega) (by omega) (fun v9 S9 hq => ?_)
  obtain ⟨rfl, rfl⟩ := hq
  refine ⟨fun h => ⟨h, rfl⟩, ?_⟩
  obtain ⟨j12, hj13, hb14, hl15, hx⟩ := ix_some hx
  refine s_iast (a := 1132) (v := v11) sa_1132 hn hj13 hb14 na_1132 dX12_takeEnum_31 hx (fun σ16 hx => ?_)
  refine mm_aload_n dX12_takeEnum_32 rfl rfl ?_
  refine s_getS (q := 1133) (r := some a) (b := a) (ci := 12) (k := 44) in_X12 rfl (by decide) rfl kF_X12_108 dX12_takeEnum_33 rfl hs (by decide) hn (by decide) rfl rfl ?_
  refine mm_aload_n dX12_takeEnum_36 rfl rfl ?_
  refine s_getI (r := some a) (b := a) (ci := 12) (k := 33) in_X12 rfl (by decide) rfl kF_X12_487 dX12_takeEnum_37 rfl hs (by decide) hn (by decide) rfl ?_
  refine mm_aload_n dX12_takeEnum_40 rfl rfl ?_
  obtain ⟨v18, hc17, hx⟩ := b1_some hx
  refine mm_callV3 (a := a) (ci := 12) wM_X12_lastLong kM_X12_469 wI_X12_lastLong wS_X12_lastLong dX12_takeEnum_41 (e_X12_lastLong hst hZ hn hs hc17) (mem_obj hs (by decide)) (sh_ltn hs (by decide) hn) rfl rfl rfl (Nat.le_of_ble_eq_true rfl) (by omega) (by omega) (fun v9 S9 hq => ?_)
  obtain ⟨rfl, rfl⟩ := hq
  refine ⟨fun h => ⟨h, rfl⟩, ?_⟩
  obtain ⟨j19, hj20, hb21, hl22, hx⟩ := ix_some hx
  refine s_iast (a := 1133) (v := v18) sa_1133 hn hj20 hb21 na_1133 dX12_takeEnum_44 hx (fun σ23 hx => ?_)
  refine mm_aload_n dX12_takeEnum_45 rfl rfl ?_
  refine mm_dup dX12_takeEnum_46 rfl ?_
  refine s_getI (r := some a) (b := a) (ci := 12) (k := 33) in_X12 rfl (by decide) rfl kF_X12_487 dX12_takeEnum_47 rfl hs (by decide) hn (by decide) rfl ?_
  refine mm_iconst (v := 1) dX12_takeEnum_50 (by decide) ?_
  refine mm_iadd dX12_takeEnum_51 ?_
  refine s_putI (v := (sI σ23 a 33) + 1) (r := some a) (b := a) (ci := 12) (k := 33) in_X12 rfl (by decide) rfl tyX12_ok nmX12 rfl kF_X12_487 dX12_takeEnum_52 (mm_fit_int _) rfl hs (by decide) hn (by decide) rfl hx (fun σ24 hx => ?_)
  refine mm_aload_n dX12_takeEnum_55 rfl rfl ?_
  refine mm_bipush (v := 123) dX12_takeEnum_56 (by decide) ?_
  obtain ⟨σ26, hc25, hx⟩ := b1_some hx
  refine mm_callV3 (a := a) (ci := 12) wM_X12_takeSign kM_X12_450 wI_X12_takeSign wS_X12_takeSign dX12_takeEnum_58 (e_X12_takeSign hst hZ hn hs hc25) (mem_obj hs (by decide)) (sh_ltn hs (by decide) hn) rfl rfl rfl (Nat.le_of_ble_eq_true rfl) (by omega) (by omega) (fun v9 S9 hq => ?_)
  obtain ⟨rfl, rfl⟩ := hq
  refine ⟨fun h => ⟨h, rfl⟩, ?_⟩
  refine mm_iconst (v := 1) dX12_takeEnum_61 (by decide) ?_
  refine mm_istore_n [some (.ref a), some (.int p0), some (.int 1)] dX12_takeEnum_62 (by decide) rfl ?_
  refine e_X12_takeEnum_L63 hst hZ hn hs ?_ _ _ _ hx
  · intro  σ35 hx
    exact e_X12_takeEnum_104 hst hZ hn hs hx
set_option maxHeartbeats 4000000 in
set_option maxRecDepth 100000 in
theorem e_X12_numberType {g : mm_G} {l : Launch} (hst : l.stackTraces = false) {Z : Nat → Nat → Option Nat} (hZ : HZ Z) {n : Nat} (hn : 1186 ≤ n) {z : Bool} {d : Nat} {U : Nat} {a : Nat} (hs : sh a = 12) {σ : SG} {r : Int32} (hx : x_X12_numberType U a σ = some r) : mm_Cm g l yX12_numberType (.code yX12_numberType cX12_numberType 1 (some .int)) (d + 4) 0 0 [.ref a] (mem Z σ, n, z) (fun v S' => v = some (.int r) ∧ S' = (mem Z σ, n, z)) := by
  refine mm_Cm_of hst (by decide) (Nat.le_of_ble_eq_true rfl) ?_
  show mm_V g l RX12 "numberType" cX12_numberType 1 (some .int) [] (d + 4) 0 0 (mm_nt (fun v S' => v = some (.int r) ∧ S' = (mem Z σ, n, z))) 0 [some (.ref a)] [] (mem Z σ, n, z) 0 0
  unfold x_X12_numberType at hx
  refine mm_aload_n dX12_numberType_0 rfl rfl ?_
  refine mm_ldc2 kL_X12_397 dX12_numberType_1 ?_
  obtain ⟨v2, hc1, hx⟩ := b1_some hx
  refine mm_callV3 (a := a) (ci := 12) wM_X12_isWord kM_X12_364 wI_X12_isWord wS_X12_isWord dX12_numberType_4 (e_X12_isWord hst hZ hn hs hc1) (mem_obj hs (by decide)) (sh_ltn hs (by decide) hn) rfl rfl rfl (Nat.le_of_ble_eq_true rfl) (by omega) (by omega) (fun v9 S9 hq => ?_)
  obtain ⟨rfl, rfl⟩ := hq
  refine ⟨fun h => ⟨h, rfl⟩, ?_⟩
  refine b_if hx (fun h3 hx => ?_) (fun h3 hx => ?_)
  · refine mm_if_eq 12 dX12_numberType_7 (by decide) (fun _ => ?_) (fun h => absurd h3 h)
    refine mm_aload_n dX12_numberType_12 rfl rfl ?_
    refine mm_ldc2 kL_X12_399 dX12_numberType_13 ?_
    obtain ⟨v5, hc4, hx⟩ := b1_some hx
    refine mm_callV3 (a := a) (ci := 12) wM_X12_isWord kM_X12_364 wI_X12_isWord wS_X12_isWord dX12_numberType_16 (e_X12_isWord hst hZ hn hs hc4) (mem_obj hs (by decide)) (sh_ltn hs (by decide) hn) rfl rfl rfl (Nat.le_of_ble_eq_true rfl) (by omega) (by omega) (fun v9 S9 hq => ?_)
    obtain ⟨rfl, rfl⟩ := hq
    refine ⟨fun h => ⟨h, rfl⟩, ?_⟩
    refine b_if hx (fun h6 hx => ?_) (fun h6 hx => ?_)
    · refine mm_if_eq 24 dX12_numberType_19 (by decide) (fun _ => ?_) (fun h => absurd h6 h)
      refine mm_aload_n dX12_numberType_24 rfl rfl ?_
      refine mm_ldc2 kL_X12_401 dX12_numberType_25 ?_
      obtain ⟨v8, hc7, hx⟩ := b1_some hx
      refine mm_callV3 (a := a) (ci := 12) wM_X12_isWord kM_X12_364 wI_X12_isWord wS_X12_isWord dX12_numberType_28 (e_X12_isWord hst hZ hn hs hc7) (mem_obj hs (by decide)) (sh_ltn hs (by decide) hn) rfl rfl rfl (Nat.le_of_ble_eq_true rfl) (by omega) (by omega) (fun v9 S9 hq => ?_)
      obtain ⟨rfl, rfl⟩ := hq
      refine ⟨fun h => ⟨h, rfl⟩, ?_⟩
      refine b_if hx (fun h9 hx => ?_) (fun h9 hx => ?_)
      · refine mm_if_eq 36 dX12_numberType_31 (by decide) (fun _ => ?_) (fun h => absurd h9 h)
        refine mm_aload_n dX12_numberType_36 rfl rfl ?_
        refine mm_ldc2 kL_X12_403 dX12_numberType_37 ?_
        obtain ⟨v11, hc10, hx⟩ := b1_some hx
        refine mm_callV3 (a := a) (ci := 12) wM_X12_isWord kM_X12_364 wI_X12_isWord wS_X12_isWord dX12_numberType_40 (e_X12_isWord hst hZ hn hs hc10) (mem_obj hs (by decide)) (sh_ltn hs (by decide) hn) rfl rfl rfl (Nat.le_of_ble_eq_true rfl) (by omega) (by omega) (fun v9 S9 hq => ?_)
        obtain ⟨rfl, rfl⟩ := hq
        refine ⟨fun h => ⟨h, rfl⟩, ?_⟩
        refine b_if hx (fun h12 hx => ?_) (fun h12 hx => ?_)
        · refine mm_if_eq 48 dX12_numberType_43 (by decide) (fun _ => ?_) (fun h => absurd h12 h)
          refine mm_aload_n dX12_numberType_48 rfl rfl ?_
          refine mm_ldc2 kL_X12_405 dX12_numberType_49 ?_
          obtain ⟨v14, hc13, hx⟩ := b1_some hx
          refine mm_callV3 (a := a) (ci := 12) wM_X12_isWord kM_X12_364 wI_X12_isWord wS_X12_isWord dX12_numberType_52 (e_X12_isWord hst hZ hn hs hc13) (mem_obj hs (by decide)) (sh_ltn hs (by decide) hn) rfl rfl rfl (Nat.le_of_ble_eq_true rfl) (by omega) (by omega) (fun v9 S9 hq => ?_)
          obtain ⟨rfl, rfl⟩ := hq
          refine ⟨fun h => ⟨h, rfl⟩, ?_⟩
          refine b_if hx (fun h15 hx => ?_) (fun h15 hx => ?_)
          · refine mm_if_eq 60 dX12_numberType_55 (by decide) (fun _ => ?_) (fun h => absurd h15 h)
            refine mm_aload_n dX12_numberType_60 rfl rfl ?_
            refine mm_ldc2 kL_X12_407 dX12_numberType_61 ?_
            obtain ⟨v17, hc16, hx⟩ := b1_some hx
            refine mm_callV3 (a := a) (ci := 12) wM_X12_isWord kM_X12_364 wI_X12_isWord wS_X12_isWord dX12_numberType_64 (e_X12_isWord hst hZ hn hs hc16) (mem_obj hs (by decide)) (sh_ltn hs (by decide) hn) rfl rfl rfl (Nat.le_of_ble_eq_true rfl) (by omega) (by omega) (fun v9 S9 hq => ?_)
            obtain ⟨rfl, rfl⟩ := hq
            refine ⟨fun h => ⟨h, rfl⟩, ?_⟩
            refine b_if hx (fun h18 hx => ?_) (fun h18 hx => ?_)
            · refine mm_if_eq 72 dX12_numberType_67 (by decide) (fun _ => ?_) (fun h => absurd h18 h)
              refine mm_aload_n dX12_numberType_72 rfl rfl ?_
              refine mm_ldc2 kL_X12_409 dX12_numberType_73 ?_
              obtain ⟨v20, hc19, hx⟩ := b1_some hx
              refine mm_callV3 (a := a) (ci := 12) wM_X12_isWord kM_X12_364 wI_X12_isWord wS_X12_isWord dX12_numberType_76 (e_X12_isWord hst hZ hn hs hc19) (mem_obj hs (by decide)) (sh_ltn hs (by decide) hn) rfl rfl rfl (Nat.le_of_ble_eq_true rfl) (by omega) (by omega) (fun v9 S9 hq => ?_)
              obtain ⟨rfl, rfl⟩ := hq
              refine ⟨fun h => ⟨h, rfl⟩, ?_⟩
              refine b_if hx (fun h21 hx => ?_) (fun h21 hx => ?_)
              · refine mm_if_eq 85 dX12_numberType_79 (by decide) (fun _ => ?_) (fun h => absurd h21 h)
                refine mm_aload_n dX12_numberType_85 rfl rfl ?_
                refine mm_ldc2 kL_X12_411 dX12_numberType_86 ?_
                obtain ⟨v23, hc22, hx⟩ := b1_some hx
                refine mm_callV3 (a := a) (ci := 12) wM_X12_isWord kM_X12_364 wI_X12_isWord wS_X12_isWord dX12_numberType_89 (e_X12_isWord hst hZ hn hs hc22) (mem_obj hs (by decide)) (sh_ltn hs (by decide) hn) rfl rfl rfl (Nat.le_of_ble_eq_true rfl) (by omega) (by omega) (fun v9 S9 hq => ?_)
                obtain ⟨rfl, rfl⟩ := hq
                refine ⟨fun h => ⟨h, rfl⟩, ?_⟩
                refine b_if hx (fun h24 hx => ?_) (fun h24 hx => ?_)
                · refine mm_if_eq 98 dX12_numberType_92 (by decide) (fun _ => ?_) (fun h => absurd h24 h)
                  refine mm_aload_n dX12_numberType_98 rfl rfl ?_
                  refine mm_ldc2 kL_X12_413 dX12_numberType_99 ?_
                  obtain ⟨v26, hc25, hx⟩ := b1_some hx
                  refine mm_callV3 (a := a) (ci := 12) wM_X12_isWord kM_X12_364 wI_X12_isWord wS_X12_isWord dX12_numberType_102 (e_X12_isWord hst hZ hn hs hc25) (mem_obj hs (by decide)) (sh_ltn hs (by decide) hn) rfl rfl rfl (Nat.le_of_ble_eq_true rfl) (by omega) (by omega) (fun v9 S9 hq => ?_)
                  obtain ⟨rfl, rfl⟩ := hq
                  refine ⟨fun h => ⟨h, rfl⟩, ?_⟩
                  refine b_if hx (fun h27 hx => ?_) (fun h27 hx => ?_)
                  · refine mm_if_eq 111 dX12_numberType_105 (by decide) (fun _ => ?_) (fun h => absurd h27 h)
                    refine mm_aload_n dX12_numberType_111 rfl rfl ?_
                    refine mm_ldc2 kL_X12_415 dX12_numberType_112 ?_
                    obtain ⟨v29, hc28, hx⟩ := b1_some hx
                    refine mm_callV3 (a := a) (ci := 12) wM_X12_isWord kM_X12_364 wI_X12_isWord wS_X12_isWord dX12_numberType_115 (e_X12_isWord hst hZ hn hs hc28) (mem_obj hs (by decide)) (sh_ltn hs (by decide) hn) rfl rfl rfl (Nat.le_of_ble_eq_true rfl) (by omega) (by omega) (fun v9 S9 hq => ?_)
                    obtain ⟨rfl, rfl⟩ := hq
                    refine ⟨fun h => ⟨h, rfl⟩, ?_⟩
                    refine b_if hx (fun h30 hx => ?_) (fun h30 hx => ?_)
                    · refine mm_if_eq 124 dX12_numberType_118 (by decide) (fun _ => ?_) (fun h => absurd h30 h)
                      refine mm_aload_n dX12_numberType_124 rfl rfl ?_
                      refine mm_ldc2 kL_X12_417 dX12_numberType_125 ?_
                      obtain ⟨v32, hc31, hx⟩ := b1_some hx
                      refine mm_callV3 (a := a) (ci := 12) wM_X12_isWord kM_X12_364 wI_X12_isWord wS_X12_isWord dX12_numberType_128 (e_X12_isWord hst hZ hn hs hc31) (mem_obj hs (by decide)) (sh_ltn hs (by decide) hn) rfl rfl rfl (Nat.le_of_ble_eq_true rfl) (by omega) (by omega) (fun v9 S9 hq => ?_)
                      obtain ⟨rfl, rfl⟩ := hq
                      refine ⟨fun h => ⟨h, rfl⟩, ?_⟩
                      refine b_if hx (fun h33 hx => ?_) (fun h33 hx => ?_)
                      · refine mm_if_eq 137 dX12_numberType_131 (by decide) (fun _ => ?_) (fun h => absurd h33 h)
                        refine mm_aload_n dX12_numberType_137 rfl rfl ?_
                        refine mm_ldc2 kL_X12_419 dX12_numberType_138 ?_
                        obtain ⟨v35, hc34, hx⟩ := b1_some hx
                        refine mm_callV3 (a := a) (ci := 12) wM_X12_isWord kM_X12_364 wI_X12_isWord wS_X12_isWord dX12_numberType_141 (e_X12_isWord hst hZ hn hs hc34) (mem_obj hs (by decide)) (sh_ltn hs (by decide) hn) rfl rfl rfl (Nat.le_of_ble_eq_true rfl) (by omega) (by omega) (fun v9 S9 hq => ?_)
                        obtain ⟨rfl, rfl⟩ := hq
                        refine ⟨fun h => ⟨h, rfl⟩, ?_⟩
                        refine b_if hx (fun h36 hx => ?_) (fun h36 hx => ?_)
                        · refine mm_if_eq 150 dX12_numberType_144 (by decide) (fun _ => ?_) (fun h => absurd h36 h)
                          refine mm_aload_n dX12_numberType_150 rfl rfl ?_
                          refine mm_ldc2 kL_X12_421 dX12_numberType_151 ?_
                          obtain ⟨v38, hc37, hx⟩ := b1_some hx
                          refine mm_callV3 (a := a) (ci := 12) wM_X12_isWord kM_X12_364 wI_X12_isWord wS_X12_isWord dX12_numberType_154 (e_X12_isWord hst hZ hn hs hc37) (mem_obj hs (by decide)) (sh_ltn hs (by decide) hn) rfl rfl rfl (Nat.le_of_ble_eq_true rfl) (by omega) (by omega) (fun v9 S9 hq => ?_)
                          obtain ⟨rfl, rfl⟩ := hq
                          refine ⟨fun h => ⟨h, rfl⟩, ?_⟩
                          refine b_if hx (fun h39 hx => ?_) (fun h39 hx => ?_)
                          · refine mm_if_eq 165 dX12_numberType_157 (by decide) (fun _ => ?_) (fun h => absurd h39 h)
                            refine mm_iconst (v := (-1)) dX12_numberType_165 (by decide) ?_
                            refine mm_iret dX12_numberType_166 rfl rfl ?_ (by omega) (by omega)
                            obtain rfl := fin1 hx
                            exact ⟨rfl, rfl⟩
                          · refine mm_if_eq 165 dX12_numberType_157 (by decide) (fun h => absurd h h39) (fun _ => ?_)
                            refine mm_bipush (v := 12) dX12_numberType_160 (by decide) ?_
                            refine mm_goto 166 dX12_numberType_162 (by decide) ?_
                            refine mm_iret dX12_numberType_166 rfl rfl ?_ (by omega) (by omega)
                            obtain rfl := fin1 hx
                            exact ⟨rfl, rfl⟩
                        · refine mm_if_eq 150 dX12_numberType_144 (by decide) (fun h => absurd h h36) (fun _ => ?_)
                          refine mm_bipush (v := 11) dX12_numberType_147 (by decide) ?_
                          refine mm_iret dX12_numberType_149 rfl rfl ?_ (by omega) (by omega)
                          obtain rfl := fin1 hx
                          exact ⟨rfl, rfl⟩
                      · refine mm_if_eq 137 dX12_numberType_131 (by decide) (fun h => absurd h h33) (fun _ => ?_)
                        refine mm_bipush (v := 10) dX12_numberType_134 (by decide) ?_
                        refine mm_iret dX12_numberType_136 rfl rfl ?_ (by omega) (by omega)
                        obtain rfl := fin1 hx
                        exact ⟨rfl, rfl⟩
                    · refine mm_if_eq 124 dX12_numberType_118 (by decide) (fun h => absurd h h30) (fun _ => ?_)
                      refine mm_bipush (v := 9) dX12_numberType_121 (by decide) ?_
                      refine mm_iret dX12_numberType_123 rfl rfl ?_ (by omega) (by omega)
                      obtain rfl := fin1 hx
                      exact ⟨rfl, rfl⟩
                  · refine mm_if_eq 111 dX12_numberType_105 (by decide) (fun h => absurd h h27) (fun _ => ?_)
                    refine mm_bipush (v := 8) dX12_numberType_108 (by decide) ?_
                    refine mm_iret dX12_numberType_110 rfl rfl ?_ (by omega) (by omega)
                    obtain rfl := fin1 hx
                    exact ⟨rfl, rfl⟩
                · refine mm_if_eq 98 dX12_numberType_92 (by decide) (fun h => absurd h h24) (fun _ => ?_)
                  refine mm_bipush (v := 7) dX12_numberType_95 (by decide) ?_
                  refine mm_iret dX12_numberType_97 rfl rfl ?_ (by omega) (by omega)
                  obtain rfl := fin1 hx
                  exact ⟨rfl, rfl⟩
              · refine mm_if_eq 85 dX12_numberType_79 (by decide) (fun h => absurd h h21) (fun _ => ?_)
                refine mm_bipush (v := 6) dX12_numberType_82 (by decide) ?_
                refine mm_iret dX12_numberType_84 rfl rfl ?_ (by omega) (by omega)
                obtain rfl := fin1 hx
                exact ⟨rfl, rfl⟩
            · refine mm_if_eq 72 dX12_numberType_67 (by decide) (fun h => absurd h h18) (fun _ => ?_)
              refine mm_iconst (v := 5) dX12_numberType_70 (by decide) ?_
              refine mm_iret dX12_numberType_71 rfl rfl ?_ (by omega) (by omega)
              obtain rfl := fin1 hx
              exact ⟨rfl, rfl⟩
          · refine mm_if_eq 60 dX12_numberType_55 (by decide) (fun h => absurd h h15) (fun _ => ?_)
            refine mm_iconst (v := 4) dX12_numberType_58 (by decide) ?_
            refine mm_iret dX12_numberType_59 rfl rfl ?_ (by omega) (by omega)
            obtain rfl := fin1 hx
            exact ⟨rfl, rfl⟩
        · refine mm_if_eq 48 dX12_numberType_43 (by decide) (fun h => absurd h h12) (fun _ => ?_)
          refine mm_iconst (v := 3) dX12_numberType_46 (by decide) ?_
          refine mm_iret dX12_numberType_47 rfl rfl ?_ (by omega) (by omega)
          obtain rfl := fin1 hx
          exact ⟨rfl, rfl⟩
      · refine mm_if_eq 36 dX12_numberType_31 (by decide) (fun h => absurd h h9) (fun _ => ?_)
        refine mm_iconst (v := 2) dX12_numberType_34 (by decide) ?_
        refine mm_iret dX12_numberType_35 rfl rfl ?_ (by omega) (by omega)
        obtain rfl := fin1 hx
        exact ⟨rfl, rfl⟩
    · refine mm_if_eq 24 dX12_numberType_19 (by decide) (fun h => absurd h h6) (fun _ => ?_)
      refine mm_iconst (v := 1) dX12_numberType_22 (by decide) ?_
      refine mm_iret dX12_numberType_23 rfl rfl ?_ (by omega) (by omega)
      obtain rfl := fin1 hx
      exact ⟨rfl, rfl⟩
  · refine mm_if_eq 12 dX12_numberType_7 (by decide) (fun h => absurd h h3) (fun _ => ?_)
    refine mm_iconst (v := 0) dX12_numberType_10 (by decide) ?_
    refine mm_iret dX12_numberType_11 rfl rfl ?_ (by omega) (by omega)
    obtain rfl := fin1 hx
    exact ⟨rfl, rfl⟩
set_option maxHeartbeats 4000000 in
set_option maxRecDepth 100000 in
theorem e_X12_isReservedName {g : mm_G} {l : Launch} (hst : l.stackTraces = false) {Z : Nat → Nat → Option Nat} (hZ : HZ Z) {n : Nat} (hn : 1186 ≤ n) {z : Bool} {d : Nat} {U : Nat} {a : Nat} (hs : sh a = 12) {σ : SG} {r : Int32} (hx : x_X12_isReservedName U a σ = some r) : mm_Cm g l yX12_isReservedName (.code yX12_isReservedName cX12_isReservedName 1 (some .boolean)) (d + 4) 0 0 [.ref a] (mem Z σ, n, z) (fun v S' => v = some (.int r) ∧ S' = (mem Z σ, n, z)) := by
  refine mm_Cm_of hst (by decide) (Nat.le_of_ble_eq_true rfl) ?_
  show mm_V g l RX12 "isReservedName" cX12_isReservedName 1 (some .boolean) [] (d + 4) 0 0 (mm_nt (fun v S' => v = some (.int r) ∧ S' = (mem Z σ, n, z))) 0 [some (.ref a)] [] (mem Z σ, n, z) 0 0
  unfold x_X12_isReservedName at hx
  refine mm_aload_n dX12_isReservedName_0 rfl rfl ?_
  refine mm_ldc2 kL_X12_423 dX12_isReservedName_1 ?_
  obtain ⟨v2, hc1, hx⟩ := b1_some hx
  refine mm_callV3 (a := a) (ci := 12) wM_X12_isWord kM_X12_364 wI_X12_isWord wS_X12_isWord dX12_isReservedName_4 (e_X12_isWord hst hZ hn hs hc1) (mem_obj hs (by decide)) (sh_ltn hs (by decide) hn) rfl rfl rfl (Nat.le_of_ble_eq_true rfl) (by omega) (by omega) (fun v9 S9 hq => ?_)
  obtain ⟨rfl, rfl⟩ := hq
  refine ⟨fun h => ⟨h, rfl⟩, ?_⟩
  refine b_if hx (fun h3 hx => ?_) (fun h3 hx => ?_)
  · refine mm_if_ne 40 dX12_isReservedName_7 (by decide) (fun h => absurd h3 h) (fun _ => ?_)
    refine mm_aload_n dX12_isReservedName_10 rfl rfl ?_
    refine mm_ldc2 kL_X12_425 dX12_isReservedName_11 ?_
    obtain ⟨v5, hc4, hx⟩ := b1_some hx
    refine mm_callV3 (a := a) (ci := 12) wM_X12_isWord kM_X12_364 wI_X12_isWord wS_X12_isWord dX12_isReservedName_14 (e_X12_isWord hst hZ hn hs hc4) (mem_obj hs (by decide)) (sh_ltn hs (by decide) hn) rfl rfl rfl (Nat.le_of_ble_eq_true rfl) (by omega) (by omega) (fun v9 S9 hq => ?_)
    obtain ⟨rfl, rfl⟩ := hq
    refine ⟨fun h => ⟨h, rfl⟩, ?_⟩
    refine b_if hx (fun h6 hx => ?_) (fun h6 hx => ?_)
    · refine mm_if_ne 40 dX12_isReservedName_17 (by decide) (fun h => absurd h6 h) (fun _ => ?_)
      refine mm_aload_n dX12_isReservedName_20 rfl rfl ?_
      refine mm_ldc2 kL_X12_427 dX12_isReservedName_21 ?_
      obtain ⟨v8, hc7, hx⟩ := b1_some hx
      refine mm_callV3 (a := a) (ci := 12) wM_X12_isWord kM_X12_364 wI_X12_isWord wS_X12_isWord dX12_isReservedName_24 (e_X12_isWord hst hZ hn hs hc7) (mem_obj hs (by decide)) (sh_ltn hs (by decide) hn) rfl rfl rfl (Nat.le_of_ble_eq_true rfl) (by omega) (by omega) (fun v9 S9 hq => ?_)
      obtain ⟨rfl, rfl⟩ := hq
      refine ⟨fun h => ⟨h, rfl⟩, ?_⟩
      refine b_if hx (fun h9 hx => ?_) (fun h9 hx => ?_)
      · refine mm_if_ne 40 dX12_isReservedName_27 (by decide) (fun h => absurd h9 h) (fun _ => ?_)
        refine mm_aload_n dX12_isReservedName_30 rfl rfl ?_
        refine mm_ldc2 kL_X12_429 dX12_isReservedName_31 ?_
        obtain ⟨v11, hc10, hx⟩ := b1_some hx
        refine mm_callV3 (a := a) (ci := 12) wM_X12_isWord kM_X12_364 wI_X12_isWord wS_X12_isWord dX12_isReservedName_34 (e_X12_isWord hst hZ hn hs hc10) (mem_obj hs (by decide)) (sh_ltn hs (by decide) hn) rfl rfl rfl (Nat.le_of_ble_eq_true rfl) (by omega) (by omega) (fun v9 S9 hq => ?_)
        obtain ⟨rfl, rfl⟩ := hq
        refine ⟨fun h => ⟨h, rfl⟩, ?_⟩
        refine b_if hx (fun h12 hx => ?_) (fun h12 hx => ?_)
        · refine mm_if_eq 44 dX12_isReservedName_37 (by decide) (fun _ => ?_) (fun h => absurd h12 h)
          refine mm_iconst (v := 0) dX12_isReservedName_44 (by decide) ?_
          refine mm_iret dX12_isReservedName_45 rfl rfl ?_ (by omega) (by omega)
          obtain rfl := fin1 hx
          exact ⟨rfl, rfl⟩
        · refine mm_if_eq 44 dX12_isReservedName_37 (by decide) (fun h => absurd h h12) (fun _ => ?_)
          refine mm_iconst (v := 1) dX12_isReservedName_40 (by decide) ?_
          refine mm_goto 45 dX12_isReservedName_41 (by decide) ?_
          refine mm_iret dX12_isReservedName_45 rfl rfl ?_ (by omega) (by omega)
          obtain rfl := fin1 hx
          exact ⟨rfl, rfl⟩
      · refine mm_if_ne 40 dX12_isReservedName_27 (by decide) (fun _ => ?_) (fun h => absurd h h9)
        refine mm_iconst (v := 1) dX12_isReservedName_40 (by decide) ?_
        refine mm_goto 45 dX12_isReservedName_41 (by decide) ?_
        refine mm_iret dX12_isReservedName_45 rfl rfl ?_ (by omega) (by omega)
        obtain rfl := fin1 hx
        exact ⟨rfl, rfl⟩
    · refine mm_if_ne 40 dX12_isReservedName_17 (by decide) (fun _ => ?_) (fun h => absurd h h6)
      refine mm_iconst (v := 1) dX12_isReservedName_40 (by decide) ?_
      refine mm_goto 45 dX12_isReservedName_41 (by decide) ?_
      refine mm_iret dX12_isReservedName_45 rfl rfl ?_ (by omega) (by omega)
      obtain rfl := fin1 hx
      exact ⟨rfl, rfl⟩
  · refine mm_if_ne 40 dX12_isReservedName_7 (by decide) (fun _ => ?_) (fun h => absurd h h3)
    refine mm_iconst (v := 1) dX12_isReservedName_40 (by decide) ?_
    refine mm_goto 45 dX12_isReservedName_41 (by decide) ?_
    refine mm_iret dX12_isReservedName_45 rfl rfl ?_ (by omega) (by omega)
    obtain rfl := fin1 hx
    exact ⟨rfl, rfl⟩
set_option maxHeartbeats 4000000 in
set_option maxRecDepth 100000 in
theorem e_X12_takeParts_L2 {g : mm_G} {l : Launch} (hst : l.stackTraces = false) {Z : Nat → Nat → Option Nat} (hZ : HZ Z) {n : Nat} (hn : 1186 ≤ n) {z : Bool} {d : Nat} {U : Nat} {a : Nat} (hs : sh a = 12) {k21 : SG → Option (SG)} {v1_ : Int32} {σ' : SG} (hk21 : ∀ (σ8 : SG), k21 σ8 = some σ' → mm_V g l RX12 "takeParts" cX12_takeParts 3 none [] (d + 5) 0 0 (mm_nt (fun v S' => v = none ∧ S' = (mem Z σ', n, z))) 21 [some (.ref a), none, none] [] (mem Z σ8, n, z) 0 0) : ∀ (U1 : Nat) (v2_ : Int32) (σ : SG), x_X12_takeParts_L2 U a k21 v1_ U1 v2_ σ = some σ' → mm_V g l RX12 "takeParts" cX12_takeParts 3 none [] (d + 5) 0 0 (mm_nt (fun v S' => v = none ∧ S' = (mem Z σ', n, z))) 2 [some (.ref a), some (.int v1_), some (.int v2_)] [] (mem Z σ, n, z) 0 0 := by
  intro U1
  induction U1 with
  | zero => intro v2_ σ hx; exact absurd hx (by simp [x_X12_takeParts_L2])
  | succ U1 ih =>
    intro v2_ σ hx
    rw [x_X12_takeParts_L2] at hx
    refine mm_iload_n dX12_takeParts_2 rfl ?_
    refine b_if hx (fun h1 hx => ?_) (fun h1 hx => ?_)
    · refine mm_if_eq 104 dX12_takeParts_3 (by decide) (fun _ => ?_) (fun h => absurd h1 h)
      refine mm_vret dX12_takeParts_104 rfl ?_ (by omega) (by omega)
      obtain rfl := fin1 hx
      exact ⟨rfl, rfl⟩
    · refine mm_if_eq 104 dX12_takeParts_3 (by decide) (fun h => absurd h h1) (fun _ => ?_)
      refine mm_aload_n dX12_takeParts_6 rfl rfl ?_
      refine s_getI (r := some a) (b := a) (ci := 12) (k := 74) in_X12 rfl (by decide) rfl kF_X12_328 dX12_takeParts_7 rfl hs (by decide) hn (by decide) rfl ?_
      refine b_if hx (fun h2 hx => ?_) (fun h2 hx => ?_)
      · refine mm_if_ne 104 dX12_takeParts_10 (by decide) (fun h => absurd h2 h) (fun _ => ?_)
        refine mm_aload_n dX12_takeParts_13 rfl rfl ?_
        refine s_getI (r := some a) (b := a) (ci := 12) (k := 70) in_X12 rfl (by decide) rfl kF_X12_298 dX12_takeParts_14 rfl hs (by decide) hn (by decide) rfl ?_
        refine mm_iconst (v := 1) dX12_takeParts_17 (by decide) ?_
        refine b_if hx (fun h3 hx => ?_) (fun h3 hx => ?_)
        · refine mm_icmp_eq 31 dX12_takeParts_18 (by decide) (fun _ => ?_) (fun h => absurd h3 h)
          refine mm_aload_n dX12_takeParts_31 rfl rfl ?_
          refine s_getS (q := 1154) (r := some a) (b := a) (ci := 12) (k := 65) in_X12 rfl (by decide) rfl kF_X12_172 dX12_takeParts_32 rfl hs (by decide) hn (by decide) rfl rfl ?_
          refine mm_aload_n dX12_takeParts_35 rfl rfl ?_
          refine s_getI (r := some a) (b := a) (ci := 12) (k := 37) in_X12 rfl (by decide) rfl kF_X12_431 dX12_takeParts_36 rfl hs (by decide) hn (by decide) rfl ?_
          refine mm_aload_n dX12_takeParts_39 rfl rfl ?_
          refine s_getI (r := some a) (b := a) (ci := 12) (k := 71) in_X12 rfl (by decide) rfl kF_X12_305 dX12_takeParts_40 rfl hs (by decide) hn (by decide) rfl ?_
          obtain ⟨j4, hj5, hb6, hl7, hx⟩ := ix_some hx
          refine s_iast (a := 1154) (v := sI σ a 71) sa_1154 hn hj5 hb6 na_1154 dX12_takeParts_43 hx (fun σ8 hx => ?_)
          refine mm_aload_n dX12_takeParts_44 rfl rfl ?_
          refine s_getS (q := 1155) (r := some a) (b := a) (ci := 12) (k := 66) in_X12 rfl (by decide) rfl kF_X12_175 dX12_takeParts_45 rfl hs (by decide) hn (by decide) rfl rfl ?_
          refine mm_aload_n dX12_takeParts_48 rfl rfl ?_
          refine s_getI (r := some a) (b := a) (ci := 12) (k := 37) in_X12 rfl (by decide) rfl kF_X12_431 dX12_takeParts_49 rfl hs (by decide) hn (by decide) rfl ?_
          refine mm_aload_n dX12_takeParts_52 rfl rfl ?_
          refine s_getI (r := some a) (b := a) (ci := 12) (k := 72) in_X12 rfl (by decide) rfl kF_X12_316 dX12_takeParts_53 rfl hs (by decide) hn (by decide) rfl ?_
          refine mm_aload_n dX12_takeParts_56 rfl rfl ?_
          refine s_getI (r := some a) (b := a) (ci := 12) (k := 71) in_X12 rfl (by decide) rfl kF_X12_305 dX12_takeParts_57 rfl hs (by decide) hn (by decide) rfl ?_
          refine mm_isub dX12_takeParts_60 ?_
          obtain ⟨j9, hj10, hb11, hl12, hx⟩ := ix_some hx
          refine s_iast (a := 1155) (v := (sI σ8 a 72) - (sI σ8 a 71)) sa_1155 hn hj10 hb11 na_1155 dX12_takeParts_61 hx (fun σ13 hx => ?_)
          refine mm_aload_n dX12_takeParts_62 rfl rfl ?_
          refine mm_dup dX12_takeParts_63 rfl ?_
          refine s_getI (r := some a) (b := a) (ci := 12) (k := 37) in_X12 rfl (by decide) rfl kF_X12_431 dX12_takeParts_64 rfl hs (by decide) hn (by decide) rfl ?_
          refine mm_iconst (v := 1) dX12_takeParts_67 (by decide) ?_
          refine mm_iadd dX12_takeParts_68 ?_
          refine s_putI (v := (sI σ13 a 37) + 1) (r := some a) (b := a) (ci := 12) (k := 37) in_X12 rfl (by decide) rfl tyX12_ok nmX12 rfl kF_X12_431 dX12_takeParts_69 (mm_fit_int _) rfl hs (by decide) hn (by decide) rfl hx (fun σ14 hx => ?_)
          refine mm_aload_n dX12_takeParts_72 rfl rfl ?_
          refine s_getS (q := 1144) (r := some a) (b := a) (ci := 12) (k := 55) in_X12 rfl (by decide) rfl kF_X12_142 dX12_takeParts_73 rfl hs (by decide) hn (by decide) rfl rfl ?_
          refine mm_iload_n dX12_takeParts_76 rfl ?_
          refine mm_dup2 dX12_takeParts_77 rfl rfl ?_
          obtain ⟨j15, hj16, hb17, hl18, hx⟩ := ix_some hx
          refine s_iald (a := 1144) sa_1144 hn hj16 hb17 na_1144 dX12_takeParts_78 ?_
          refine mm_iconst (v := 1) dX12_takeParts_79 (by decide) ?_
          refine mm_iadd dX12_takeParts_80 ?_
          obtain ⟨j19, hj20, hb21, hl22, hx⟩ := ix_some hx
          refine s_iast (a := 1144) (v := (sI σ14 1144 j15) + 1) sa_1144 hn hj20 hb21 na_1144 dX12_takeParts_81 hx (fun σ23 hx => ?_)
          refine mm_aload_n dX12_takeParts_82 rfl rfl ?_
          obtain ⟨σ25, hc24, hx⟩ := b1_some hx
          refine mm_callV3 (a := a) (ci := 12) wM_X12_next kM_X12_357 wI_X12_next wS_X12_next dX12_takeParts_83 (e_X12_next hst hZ hn hs hc24) (mem_obj hs (by decide)) (sh_ltn hs (by decide) hn) rfl rfl rfl (Nat.le_of_ble_eq_true rfl) (by omega) (by omega) (fun v9 S9 hq => ?_)
          obtain ⟨rfl, rfl⟩ := hq
          refine ⟨fun h => ⟨h, rfl⟩, ?_⟩
          refine mm_aload_n dX12_takeParts_86 rfl rfl ?_
          refine mm_bipush (v := 46) dX12_takeParts_87 (by decide) ?_
          obtain ⟨v27, hc26, hx⟩ := b1_some hx
          refine mm_callV3 (a := a) (ci := 12) wM_X12_isSign kM_X12_354 wI_X12_isSign wS_X12_isSign dX12_takeParts_89 (e_X12_isSign hst hZ hn hs hc26) (mem_obj hs (by decide)) (sh_ltn hs (by decide) hn) rfl rfl rfl (Nat.le_of_ble_eq_true rfl) (by omega) (by omega) (fun v9 S9 hq => ?_)
          obtain ⟨rfl, rfl⟩ := hq
          refine ⟨fun h => ⟨h, rfl⟩, ?_⟩
          refine mm_istore_n [some (.ref a), some (.int v1_), some (.int v27)] dX12_takeParts_92 (by decide) rfl ?_
          refine mm_iload_n dX12_takeParts_93 rfl ?_
          refine b_if hx (fun h28 hx => ?_) (fun h28 hx => ?_)
          · refine mm_if_eq 2 dX12_takeParts_94 (by decide) (fun _ => ?_) (fun h => absurd h28 h)
            exact ih _ _ hx
          · refine mm_if_eq 2 dX12_takeParts_94 (by decide) (fun h => absurd h h28) (fun _ => ?_)
            refine mm_aload_n dX12_takeParts_97 rfl rfl ?_
            obtain ⟨σ30, hc29, hx⟩ := b1_some hx
            refine mm_callV3 (a := a) (ci := 12) wM_X12_next kM_X12_357 wI_X12_next wS_X12_next dX12_takeParts_98 (e_X12_next hst hZ hn hs hc29) (mem_obj hs (by decide)) (sh_ltn hs (by decide) hn) rfl rfl rfl (Nat.le_of_ble_eq_true rfl) (by omega) (by omega) (fun v9 S9 hq => ?_)
            obtain ⟨rfl, rfl⟩ := hq
            refine ⟨fun h => ⟨h, rfl⟩, ?_⟩
            refine mm_goto 2 dX12_takeParts_101 (by decide) ?_
            exact ih _ _ hx
        · refine mm_icmp_eq 31 dX12_takeParts_18 (by decide) (fun h => absurd h h3) (fun _ => ?_)
          refine mm_fewer [some (.ref a), none, none] (few_ok (bs := [true, false, false]) rfl) ?_
          exact hk21  _ hx
      · refine mm_if_ne 104 dX12_takeParts_10 (by decide) (fun _ => ?_) (fun h => absurd h h2)
        refine mm_vret dX12_takeParts_104 rfl ?_ (by omega) (by omega)
        obtain rfl := fin1 hx
        exact ⟨rfl, rfl⟩
set_option maxHeartbeats 4000000 in
set_option maxRecDepth 100000 in
theorem e_X12_takeParts {g : mm_G} {l : Launch} (hst : l.stackTraces = false) {Z : Nat → Nat → Option Nat} (hZ : HZ Z) {n : Nat} (hn : 1186 ≤ n) {z : Bool} {d : Nat} {U : Nat} {a : Nat} (hs : sh a = 12) {p0 : Int32} {σ : SG} {σ' : SG} (hx : x_X12_takeParts U a p0 σ = some σ') : mm_Cm g l yX12_takeParts (.code yX12_takeParts cX12_takeParts 3 none) (d + 5) 0 0 [.ref a, .int p0] (mem Z σ, n, z) (fun v S' => v = none ∧ S' = (mem Z σ', n, z)) := by
  refine mm_Cm_of hst (by decide) (Nat.le_of_ble_eq_true rfl) ?_
  show mm_V g l RX12 "takeParts" cX12_takeParts 3 none [] (d + 5) 0 0 (mm_nt (fun v S' => v = none ∧ S' = (mem Z σ', n, z))) 0 [some (.ref a), some (.int p0), none] [] (mem Z σ, n, z) 0 0
  unfold x_X12_takeParts at hx
  refine mm_iconst (v := 1) dX12_takeParts_0 (by decide) ?_
  refine mm_istore_n [some (.ref a), some (.int p0), some (.int 1)] dX12_takeParts_1 (by decide) rfl ?_
  refine e_X12_takeParts_L2 hst hZ hn hs ?_ _ _ _ hx
  · intro  σ31 hx
    refine mm_aload_n dX12_takeParts_21 rfl rfl ?_
    refine mm_iconst (v := 1) dX12_takeParts_22 (by decide) ?_
    refine mm_aload_n dX12_takeParts_23 rfl rfl ?_
    refine s_getI (r := some a) (b := a) (ci := 12) (k := 71) in_X12 rfl (by decide) rfl kF_X12_305 dX12_takeParts_24 rfl hs (by decide) hn (by decide) rfl ?_
    obtain ⟨σ33, hc32, hx⟩ := b1_some hx
    refine mm_callV3 (a := a) (ci := 12) wM_X12_fail kM_X12_360 wI_X12_fail wS_X12_fail dX12_takeParts_27 (e_X12_fail hst hZ hn hs hc32) (mem_obj hs (by decide)) (sh_ltn hs (by decide) hn) rfl rfl rfl (Nat.le_of_ble_eq_true rfl) (by omega) (by omega) (fun v9 S9 hq => ?_)
    obtain ⟨rfl, rfl⟩ := hq
    refine ⟨fun h => ⟨h, rfl⟩, ?_⟩
    refine mm_vret dX12_takeParts_30 rfl ?_ (by omega) (by omega)
    obtain rfl := fin1 hx
    exact ⟨rfl, rfl⟩
set_option maxHeartbeats 4000000 in
set_option maxRecDepth 100000 in
theorem e_X12_takeType_114 {g : mm_G} {l : Launch} (hst : l.stackTraces = false) {Z : Nat → Nat → Option Nat} (hZ : HZ Z) {n : Nat} (hn : 1186 ≤ n) {z : Bool} {d : Nat} {U : Nat} {a : Nat} (hs : sh a = 12) {v1_ : Int32} {σ : SG} {σ' : SG} (hx : x_X12_takeType_114 U a v1_ σ = some σ') : mm_V g l RX12 "takeType" cX12_takeType 2 none [] (d + 6) 0 0 (mm_nt (fun v S' => v = none ∧ S' = (mem Z σ', n, z))) 114 [some (.ref a), some (.int v1_)] [] (mem Z σ, n, z) 0 0 := by
  unfold x_X12_takeType_114 at hx
  refine mm_aload_n dX12_takeType_114 rfl rfl ?_
  refine s_getS (q := 1139) (r := some a) (b := a) (ci := 12) (k := 50) in_X12 rfl (by decide) rfl kF_X12_127 dX12_takeType_115 rfl hs (by decide) hn (by decide) rfl rfl ?_
  refine mm_iload_n dX12_takeType_118 rfl ?_
  obtain ⟨j45, hj46, hb47, hl48, hx⟩ := ix_some hx
  refine s_iald (a := 1139) sa_1139 hn hj46 hb47 na_1139 dX12_takeType_119 ?_
  refine mm_iconst (v := (-1)) dX12_takeType_120 (by decide) ?_
  refine b_if hx (fun h49 hx => ?_) (fun h49 hx => ?_)
  · refine mm_icmp_ne 132 dX12_takeType_121 (by decide) (fun h => absurd h49 h) (fun _ => ?_)
    refine mm_aload_n dX12_takeType_124 rfl rfl ?_
    refine mm_iload_n dX12_takeType_125 rfl ?_
    obtain ⟨σ51, hc50, hx⟩ := b1_some hx
    refine mm_callV3 (a := a) (ci := 12) wM_X12_takeParts kM_X12_441 wI_X12_takeParts wS_X12_takeParts dX12_takeType_126 (e_X12_takeParts hst hZ hn hs hc50) (mem_obj hs (by decide)) (sh_ltn hs (by decide) hn) rfl rfl rfl (Nat.le_of_ble_eq_true rfl) (by omega) (by omega) (fun v9 S9 hq => ?_)
    obtain ⟨rfl, rfl⟩ := hq
    refine ⟨fun h => ⟨h, rfl⟩, ?_⟩
    refine mm_goto 136 dX12_takeType_129 (by decide) ?_
    refine mm_vret dX12_takeType_136 rfl ?_ (by omega) (by omega)
    obtain rfl := fin1 hx
    exact ⟨rfl, rfl⟩
  · refine mm_icmp_ne 132 dX12_takeType_121 (by decide) (fun _ => ?_) (fun h => absurd h h49)
    refine mm_aload_n dX12_takeType_132 rfl rfl ?_
    obtain ⟨σ53, hc52, hx⟩ := b1_some hx
    refine mm_callV3 (a := a) (ci := 12) wM_X12_next kM_X12_357 wI_X12_next wS_X12_next dX12_takeType_133 (e_X12_next hst hZ hn hs hc52) (mem_obj hs (by decide)) (sh_ltn hs (by decide) hn) rfl rfl rfl (Nat.le_of_ble_eq_true rfl) (by omega) (by omega) (fun v9 S9 hq => ?_)
    obtain ⟨rfl, rfl⟩ := hq
    refine ⟨fun h => ⟨h, rfl⟩, ?_⟩
    refine mm_vret dX12_takeType_136 rfl ?_ (by omega) (by omega)
    obtain rfl := fin1 hx
    exact ⟨rfl, rfl⟩
set_option maxHeartbeats 4000000 in
set_option maxRecDepth 100000 in
theorem e_X12_takeType_98 {g : mm_G} {l : Launch} (hst : l.stackTraces = false) {Z : Nat → Nat → Option Nat} (hZ : HZ Z) {n : Nat} (hn : 1186 ≤ n) {z : Bool} {d : Nat} {U : Nat} {a : Nat} (hs : sh a = 12) {v1_ : Int32} {σ : SG} {σ' : SG} (hx : x_X12_takeType_98 U a v1_ σ = some σ') : mm_V g l RX12 "takeType" cX12_takeType 2 none [] (d + 6) 0 0 (mm_nt (fun v S' => v = none ∧ S' = (mem Z σ', n, z))) 98 [some (.ref a), some (.int v1_)] [] (mem Z σ, n, z) 0 0 := by
  unfold x_X12_takeType_98 at hx
  refine mm_aload_n dX12_takeType_98 rfl rfl ?_
  refine s_getS (q := 1142) (r := some a) (b := a) (ci := 12) (k := 53) in_X12 rfl (by decide) rfl kF_X12_136 dX12_takeType_99 rfl hs (by decide) hn (by decide) rfl rfl ?_
  refine mm_iload_n dX12_takeType_102 rfl ?_
  obtain ⟨j40, hj41, hb42, hl43, hx⟩ := ix_some hx
  refine s_zald (a := 1142) sa_1142 hn hj41 hb42 na_1142 dX12_takeType_103 ?_
  refine b_if hx (fun h44 hx => ?_) (fun h44 hx => ?_)
  · refine mm_if_eq 114 dX12_takeType_104 (by decide) (fun _ => ?_) (fun h => absurd h44 h)
    exact e_X12_takeType_114 hst hZ hn hs hx
  · refine mm_if_eq 114 dX12_takeType_104 (by decide) (fun h => absurd h h44) (fun _ => ?_)
    refine mm_aload_n dX12_takeType_107 rfl rfl ?_
    refine s_getS (q := 1139) (r := some a) (b := a) (ci := 12) (k := 50) in_X12 rfl (by decide) rfl kF_X12_127 dX12_takeType_108 rfl hs (by decide) hn (by decide) rfl rfl ?_
    refine mm_iload_n dX12_takeType_111 rfl ?_
    refine mm_iconst (v := (-1)) dX12_takeType_112 (by decide) ?_
    obtain ⟨j54, hj55, hb56, hl57, hx⟩ := ix_some hx
    refine s_iast (a := 1139) (v := (-1)) sa_1139 hn hj55 hb56 na_1139 dX12_takeType_113 hx (fun σ58 hx => ?_)
    exact e_X12_takeType_114 hst hZ hn hs hx
set_option maxHeartbeats 4000000 in
set_option maxRecDepth 100000 in
theorem e_X12_takeType_88 {g : mm_G} {l : Launch} (hst : l.stackTraces = false) {Z : Nat → Nat → Option Nat} (hZ : HZ Z) {n : Nat} (hn : 1186 ≤ n) {z : Bool} {d : Nat} {U : Nat} {a : Nat} (hs : sh a = 12) {σ : SG} {σ' : SG} (hx : x_X12_takeType_88 U a σ = some σ') : mm_V g l RX12 "takeType" cX12_takeType 2 none [] (d + 6) 0 0 (mm_nt (fun v S' => v = none ∧ S' = (mem Z σ', n, z))) 88 [some (.ref a), none] [] (mem Z σ, n, z) 0 0 := by
  unfold x_X12_takeType_88 at hx
  refine mm_aload_n dX12_takeType_88 rfl rfl ?_
  refine mm_iconst (v := 1) dX12_takeType_89 (by decide) ?_
  refine mm_aload_n dX12_takeType_90 rfl rfl ?_
  refine s_getI (r := some a) (b := a) (ci := 12) (k := 71) in_X12 rfl (by decide) rfl kF_X12_305 dX12_takeType_91 rfl hs (by decide) hn (by decide) rfl ?_
  obtain ⟨σ60, hc59, hx⟩ := b1_some hx
  refine mm_callV3 (a := a) (ci := 12) wM_X12_fail kM_X12_360 wI_X12_fail wS_X12_fail dX12_takeType_94 (e_X12_fail hst hZ hn hs hc59) (mem_obj hs (by decide)) (sh_ltn hs (by decide) hn) rfl rfl rfl (Nat.le_of_ble_eq_true rfl) (by omega) (by omega) (fun v9 S9 hq => ?_)
  obtain ⟨rfl, rfl⟩ := hq
  refine ⟨fun h => ⟨h, rfl⟩, ?_⟩
  refine mm_vret dX12_takeType_97 rfl ?_ (by omega) (by omega)
  obtain rfl := fin1 hx
  exact ⟨rfl, rfl⟩
set_option maxHeartbeats 4000000 in
set_option maxRecDepth 100000 in
theorem e_X12_takeType {g : mm_G} {l : Launch} (hst : l.stackTraces = false) {Z : Nat → Nat → Option Nat} (hZ : HZ Z) {n : Nat} (hn : 1186 ≤ n) {z : Bool} {d : Nat} {U : Nat} {a : Nat} (hs : sh a = 12) {p0 : Int32} {σ : SG} {σ' : SG} (hx : x_X12_takeType U a p0 σ = some σ') : mm_Cm g l yX12_takeType (.code yX12_takeType cX12_takeType 2 none) (d + 6) 0 0 [.ref a, .int p0] (mem Z σ, n, z) (fun v S' => v = none ∧ S' = (mem Z σ', n, z)) := by
  refine mm_Cm_of hst (by decide) (Nat.le_of_ble_eq_true rfl) ?_
  show mm_V g l RX12 "takeType" cX12_takeType 2 none [] (d + 6) 0 0 (mm_nt (fun v S' => v = none ∧ S' = (mem Z σ', n, z))) 0 [some (.ref a), some (.int p0)] [] (mem Z σ, n, z) 0 0
  unfold x_X12_takeType at hx
  refine mm_aload_n dX12_takeType_0 rfl rfl ?_
  refine s_getI (r := some a) (b := a) (ci := 12) (k := 74) in_X12 rfl (by decide) rfl kF_X12_328 dX12_takeType_1 rfl hs (by decide) hn (by decide) rfl ?_
  refine b_if hx (fun h1 hx => ?_) (fun h1 hx => ?_)
  · refine mm_if_eq 8 dX12_takeType_4 (by decide) (fun _ => ?_) (fun h => absurd h1 h)
    refine mm_aload_n dX12_takeType_8 rfl rfl ?_
    refine s_getS (q := 1140) (r := some a) (b := a) (ci := 12) (k := 51) in_X12 rfl (by decide) rfl kF_X12_130 dX12_takeType_9 rfl hs (by decide) hn (by decide) rfl rfl ?_
    refine mm_iload_n dX12_takeType_12 rfl ?_
    refine mm_aload_n dX12_takeType_13 rfl rfl ?_
    refine s_getI (r := some a) (b := a) (ci := 12) (k := 71) in_X12 rfl (by decide) rfl kF_X12_305 dX12_takeType_14 rfl hs (by decide) hn (by decide) rfl ?_
    obtain ⟨j2, hj3, hb4, hl5, hx⟩ := ix_some hx
    refine s_iast (a := 1140) (v := sI σ a 71) sa_1140 hn hj3 hb4 na_1140 dX12_takeType_17 hx (fun σ6 hx => ?_)
    refine mm_aload_n dX12_takeType_18 rfl rfl ?_
    refine s_getS (q := 1143) (r := some a) (b := a) (ci := 12) (k := 54) in_X12 rfl (by decide) rfl kF_X12_139 dX12_takeType_19 rfl hs (by decide) hn (by decide) rfl rfl ?_
    refine mm_iload_n dX12_takeType_22 rfl ?_
    refine mm_aload_n dX12_takeType_23 rfl rfl ?_
    refine s_getI (r := some a) (b := a) (ci := 12) (k := 37) in_X12 rfl (by decide) rfl kF_X12_431 dX12_takeType_24 rfl hs (by decide) hn (by decide) rfl ?_
    obtain ⟨j7, hj8, hb9, hl10, hx⟩ := ix_some hx
    refine s_iast (a := 1143) (v := sI σ6 a 37) sa_1143 hn hj8 hb9 na_1143 dX12_takeType_27 hx (fun σ11 hx => ?_)
    refine mm_aload_n dX12_takeType_28 rfl rfl ?_
    refine s_getS (q := 1144) (r := some a) (b := a) (ci := 12) (k := 55) in_X12 rfl (by decide) rfl kF_X12_142 dX12_takeType_29 rfl hs (by decide) hn (by decide) rfl rfl ?_
    refine mm_iload_n dX12_takeType_32 rfl ?_
    refine mm_iconst (v := 0) dX12_takeType_33 (by decide) ?_
    obtain ⟨j12, hj13, hb14, hl15, hx⟩ := ix_some hx
    refine s_iast (a := 1144) (v := 0) sa_1144 hn hj13 hb14 na_1144 dX12_takeType_34 hx (fun σ16 hx => ?_)
    refine mm_aload_n dX12_takeType_35 rfl rfl ?_
    refine s_getS (q := 1142) (r := some a) (b := a) (ci := 12) (k := 53) in_X12 rfl (by decide) rfl kF_X12_136 dX12_takeType_36 rfl hs (by decide) hn (by decide) rfl rfl ?_
    refine mm_iload_n dX12_takeType_39 rfl ?_
    refine mm_aload_n dX12_takeType_40 rfl rfl ?_
    refine mm_bipush (v := 46) dX12_takeType_41 (by decide) ?_
    obtain ⟨v18, hc17, hx⟩ := b1_some hx
    refine mm_callV3 (a := a) (ci := 12) wM_X12_isSign kM_X12_354 wI_X12_isSign wS_X12_isSign dX12_takeType_43 (e_X12_isSign hst hZ hn hs hc17) (mem_obj hs (by decide)) (sh_ltn hs (by decide) hn) rfl rfl rfl (Nat.le_of_ble_eq_true rfl) (by omega) (by omega) (fun v9 S9 hq => ?_)
    obtain ⟨rfl, rfl⟩ := hq
    refine ⟨fun h => ⟨h, rfl⟩, ?_⟩
    obtain ⟨j19, hj20, hb21, hl22, hx⟩ := ix_some hx
    refine s_zast (a := 1142) (v := v18) sa_1142 hn hj20 hb21 na_1142 dX12_takeType_46 hx (fun σ23 hx => ?_)
    refine mm_aload_n dX12_takeType_47 rfl rfl ?_
    refine s_getS (q := 1139) (r := some a) (b := a) (ci := 12) (k := 50) in_X12 rfl (by decide) rfl kF_X12_127 dX12_takeType_48 rfl hs (by decide) hn (by decide) rfl rfl ?_
    refine mm_iload_n dX12_takeType_51 rfl ?_
    refine mm_aload_n dX12_takeType_52 rfl rfl ?_
    obtain ⟨v25, hc24, hx⟩ := b1_some hx
    refine mm_callV3 (a := a) (ci := 12) wM_X12_numberType kM_X12_434 wI_X12_numberType wS_X12_numberType dX12_takeType_53 (e_X12_numberType hst hZ hn hs hc24) (mem_obj hs (by decide)) (sh_ltn hs (by decide) hn) rfl rfl rfl (Nat.le_of_ble_eq_true rfl) (by omega) (by omega) (fun v9 S9 hq => ?_)
    obtain ⟨rfl, rfl⟩ := hq
    refine ⟨fun h => ⟨h, rfl⟩, ?_⟩
    obtain ⟨j26, hj27, hb28, hl29, hx⟩ := ix_some hx
    refine s_iast (a := 1139) (v := v25) sa_1139 hn hj27 hb28 na_1139 dX12_takeType_56 hx (fun σ30 hx => ?_)
    refine mm_aload_n dX12_takeType_57 rfl rfl ?_
    refine s_getS (q := 1142) (r := some a) (b := a) (ci := 12) (k := 53) in_X12 rfl (by decide) rfl kF_X12_136 dX12_takeType_58 rfl hs (by decide) hn (by decide) rfl rfl ?_
    refine mm_iload_n dX12_takeType_61 rfl ?_
    obtain ⟨j31, hj32, hb33, hl34, hx⟩ := ix_some hx
    refine s_zald (a := 1142) sa_1142 hn hj32 hb33 na_1142 dX12_takeType_62 ?_
    refine b_if hx (fun h35 hx => ?_) (fun h35 hx => ?_)
    · refine mm_if_eq 73 dX12_takeType_63 (by decide) (fun _ => ?_) (fun h => absurd h35 h)
      refine mm_aload_n dX12_takeType_73 rfl rfl ?_
      refine s_getI (r := some a) (b := a) (ci := 12) (k := 70) in_X12 rfl (by decide) rfl kF_X12_298 dX12_takeType_74 rfl hs (by decide) hn (by decide) rfl ?_
      refine mm_iconst (v := 1) dX12_takeType_77 (by decide) ?_
      refine b_if hx (fun h36 hx => ?_) (fun h36 hx => ?_)
      · refine mm_icmp_ne 88 dX12_takeType_78 (by decide) (fun h => absurd h36 h) (fun _ => ?_)
        refine mm_aload_n dX12_takeType_81 rfl rfl ?_
        obtain ⟨v38, hc37, hx⟩ := b1_some hx
        refine mm_callV3 (a := a) (ci := 12) wM_X12_isReservedName kM_X12_438 wI_X12_isReservedName wS_X12_isReservedName dX12_takeType_82 (e_X12_isReservedName hst hZ hn hs hc37) (mem_obj hs (by decide)) (sh_ltn hs (by decide) hn) rfl rfl rfl (Nat.le_of_ble_eq_true rfl) (by omega) (by omega) (fun v9 S9 hq => ?_)
        obtain ⟨rfl, rfl⟩ := hq
        refine ⟨fun h => ⟨h, rfl⟩, ?_⟩
        refine b_if hx (fun h39 hx => ?_) (fun h39 hx => ?_)
        · refine mm_if_eq 98 dX12_takeType_85 (by decide) (fun _ => ?_) (fun h => absurd h39 h)
          exact e_X12_takeType_98 hst hZ hn hs hx
        · refine mm_if_eq 98 dX12_takeType_85 (by decide) (fun h => absurd h h39) (fun _ => ?_)
          refine mm_fewer [some (.ref a), none] (few_ok (bs := [true, false]) rfl) ?_
          exact e_X12_takeType_88 hst hZ hn hs hx
      · refine mm_icmp_ne 88 dX12_takeType_78 (by decide) (fun _ => ?_) (fun h => absurd h h36)
        refine mm_fewer [some (.ref a), none] (few_ok (bs := [true, false]) rfl) ?_
        exact e_X12_takeType_88 hst hZ hn hs hx
    · refine mm_if_eq 73 dX12_takeType_63 (by decide) (fun h => absurd h h35) (fun _ => ?_)
      refine mm_aload_n dX12_takeType_66 rfl rfl ?_
      obtain ⟨σ62, hc61, hx⟩ := b1_some hx
      refine mm_callV3 (a := a) (ci := 12) wM_X12_next kM_X12_357 wI_X12_next wS_X12_next dX12_takeType_67 (e_X12_next hst hZ hn hs hc61) (mem_obj hs (by decide)) (sh_ltn hs (by decide) hn) rfl rfl rfl (Nat.le_of_ble_eq_true rfl) (by omega) (by omega) (fun v9 S9 hq => ?_)
      obtain ⟨rfl, rfl⟩ := hq
      refine ⟨fun h => ⟨h, rfl⟩, ?_⟩
      refine mm_goto 98 dX12_takeType_70 (by decide) ?_
      exact e_X12_takeType_98 hst hZ hn hs hx
  · refine mm_if_eq 8 dX12_takeType_4 (by decide) (fun h => absurd h h1) (fun _ => ?_)
    refine mm_vret dX12_takeType_7 rfl ?_ (by omega) (by omega)
    obtain rfl := fin1 hx
    exact ⟨rfl, rfl⟩
set_option maxHeartbeats 4000000 in
set_option maxRecDepth 100000 in
theorem e_X12_takePacked_109 {g : mm_G} {l : Launch} (hst : l.stackTraces = false) {Z : Nat → Nat → Option Nat} (hZ : HZ Z) {n : Nat} (hn : 1186 ≤ n) {z : Bool} {d : Nat} {U : Nat} {a : Nat} (hs : sh a = 12) {s0_ : Int32} {s1_ : Int32} {σ : SG} {σ' : SG} (hx : x_X12_takePacked_109 U a s0_ s1_ σ = some σ') : mm_V g l RX12 "takePacked" cX12_takePacked 2 none [] (d + 6) 0 0 (mm_nt (fun v S' => v = none ∧ S' = (mem Z σ', n, z))) 109 [some (.ref a), none] [.int s0_, .int s1_, .ref 1146] (mem Z σ, n, z) 0 0 := by
  unfold x_X12_takePacked_109 at hx
  obtain ⟨j33, hj34, hb35, hl36, hx⟩ := ix_some hx
  refine s_iast (a := 1146) (v := s0_) sa_1146 hn hj34 hb35 na_1146 dX12_takePacked_109 hx (fun σ37 hx => ?_)
  refine mm_aload_n dX12_takePacked_110 rfl rfl ?_
  obtain ⟨σ39, hc38, hx⟩ := b1_some hx
  refine mm_callV3 (a := a) (ci := 12) wM_X12_next kM_X12_357 wI_X12_next wS_X12_next dX12_takePacked_111 (e_X12_next hst hZ hn hs hc38) (mem_obj hs (by decide)) (sh_ltn hs (by decide) hn) rfl rfl rfl (Nat.le_of_ble_eq_true rfl) (by omega) (by omega) (fun v9 S9 hq => ?_)
  obtain ⟨rfl, rfl⟩ := hq
  refine ⟨fun h => ⟨h, rfl⟩, ?_⟩
  refine mm_aload_n dX12_takePacked_114 rfl rfl ?_
  refine mm_bipush (v := 93) dX12_takePacked_115 (by decide) ?_
  obtain ⟨σ41, hc40, hx⟩ := b1_some hx
  refine mm_callV3 (a := a) (ci := 12) wM_X12_takeSign kM_X12_450 wI_X12_takeSign wS_X12_takeSign dX12_takePacked_117 (e_X12_takeSign hst hZ hn hs hc40) (mem_obj hs (by decide)) (sh_ltn hs (by decide) hn) rfl rfl rfl (Nat.le_of_ble_eq_true rfl) (by omega) (by omega) (fun v9 S9 hq => ?_)
  obtain ⟨rfl, rfl⟩ := hq
  refine ⟨fun h => ⟨h, rfl⟩, ?_⟩
  refine mm_vret dX12_takePacked_120 rfl ?_ (by omega) (by omega)
  obtain rfl := fin1 hx
  exact ⟨rfl, rfl⟩
set_option maxHeartbeats 4000000 in
set_option maxRecDepth 100000 in
theorem e_X12_takePacked_89 {g : mm_G} {l : Launch} (hst : l.stackTraces = false) {Z : Nat → Nat → Option Nat} (hZ : HZ Z) {n : Nat} (hn : 1186 ≤ n) {z : Bool} {d : Nat} {U : Nat} {a : Nat} (hs : sh a = 12) {v1_ : Int32} {σ : SG} {σ' : SG} (hx : x_X12_takePacked_89 U a v1_ σ = some σ') : mm_V g l RX12 "takePacked" cX12_takePacked 2 none [] (d + 6) 0 0 (mm_nt (fun v S' => v = none ∧ S' = (mem Z σ', n, z))) 89 [some (.ref a), some (.int v1_)] [] (mem Z σ, n, z) 0 0 := by
  unfold x_X12_takePacked_89 at hx
  refine mm_aload_n dX12_takePacked_89 rfl rfl ?_
  refine s_getS (q := 1146) (r := some a) (b := a) (ci := 12) (k := 57) in_X12 rfl (by decide) rfl kF_X12_148 dX12_takePacked_90 rfl hs (by decide) hn (by decide) rfl rfl ?_
  refine mm_iload_n dX12_takePacked_93 rfl ?_
  refine mm_aload_n dX12_takePacked_94 rfl rfl ?_
  refine mm_ldc2 kL_X12_453 dX12_takePacked_95 ?_
  obtain ⟨v31, hc30, hx⟩ := b1_some hx
  refine mm_callV3 (a := a) (ci := 12) wM_X12_isWord kM_X12_364 wI_X12_isWord wS_X12_isWord dX12_takePacked_98 (e_X12_isWord hst hZ hn hs hc30) (mem_obj hs (by decide)) (sh_ltn hs (by decide) hn) rfl rfl rfl (Nat.le_of_ble_eq_true rfl) (by omega) (by omega) (fun v9 S9 hq => ?_)
  obtain ⟨rfl, rfl⟩ := hq
  refine ⟨fun h => ⟨h, rfl⟩, ?_⟩
  refine b_if hx (fun h32 hx => ?_) (fun h32 hx => ?_)
  · refine mm_if_eq 108 dX12_takePacked_101 (by decide) (fun _ => ?_) (fun h => absurd h32 h)
    refine mm_iconst (v := 2) dX12_takePacked_108 (by decide) ?_
    refine mm_fewer [some (.ref a), none] (few_ok (bs := [true, false]) rfl) ?_
    exact e_X12_takePacked_109 hst hZ hn hs hx
  · refine mm_if_eq 108 dX12_takePacked_101 (by decide) (fun h => absurd h h32) (fun _ => ?_)
    refine mm_iconst (v := 1) dX12_takePacked_104 (by decide) ?_
    refine mm_goto 109 dX12_takePacked_105 (by decide) ?_
    refine mm_fewer [some (.ref a), none] (few_ok (bs := [true, false]) rfl) ?_
    exact e_X12_takePacked_109 hst hZ hn hs hx
set_option maxHeartbeats 4000000 in
set_option maxRecDepth 100000 in
theorem e_X12_takePacked {g : mm_G} {l : Launch} (hst : l.stackTraces = false) {Z : Nat → Nat → Option Nat} (hZ : HZ Z) {n : Nat} (hn : 1186 ≤ n) {z : Bool} {d : Nat} {U : Nat} {a : Nat} (hs : sh a = 12) {p0 : Int32} {σ : SG} {σ' : SG} (hx : x_X12_takePacked U a p0 σ = some σ') : mm_Cm g l yX12_takePacked (.code yX12_takePacked cX12_takePacked 2 none) (d + 6) 0 0 [.ref a, .int p0] (mem Z σ, n, z) (fun v S' => v = none ∧ S' = (mem Z σ', n, z)) := by
  refine mm_Cm_of hst (by decide) (Nat.le_of_ble_eq_true rfl) ?_
  show mm_V g l RX12 "takePacked" cX12_takePacked 2 none [] (d + 6) 0 0 (mm_nt (fun v S' => v = none ∧ S' = (mem Z σ', n, z))) 0 [some (.ref a), some (.int p0)] [] (mem Z σ, n, z) 0 0
  unfold x_X12_takePacked at hx
  refine mm_aload_n dX12_takePacked_0 rfl rfl ?_
  refine s_getS (q := 1146) (r := some a) (b := a) (ci := 12) (k := 57) in_X12 rfl (by decide) rfl kF_X12_148 dX12_takePacked_1 rfl hs (by decide) hn (by decide) rfl rfl ?_
  refine mm_iload_n dX12_takePacked_4 rfl ?_
  refine mm_iconst (v := 0) dX12_takePacked_5 (by decide) ?_
  obtain ⟨j1, hj2, hb3, hl4, hx⟩ := ix_some hx
  refine s_iast (a := 1146) (v := 0) sa_1146 hn hj2 hb3 na_1146 dX12_takePacked_6 hx (fun σ5 hx => ?_)
  refine mm_aload_n dX12_takePacked_7 rfl rfl ?_
  refine s_getI (r := some a) (b := a) (ci := 12) (k := 74) in_X12 rfl (by decide) rfl kF_X12_328 dX12_takePacked_8 rfl hs (by decide) hn (by decide) rfl ?_
  refine b_if hx (fun h6 hx => ?_) (fun h6 hx => ?_)
  · refine mm_if_ne 23 dX12_takePacked_11 (by decide) (fun h => absurd h6 h) (fun _ => ?_)
    refine mm_aload_n dX12_takePacked_14 rfl rfl ?_
    refine mm_bipush (v := 91) dX12_takePacked_15 (by decide) ?_
    obtain ⟨v8, hc7, hx⟩ := b1_some hx
    refine mm_callV3 (a := a) (ci := 12) wM_X12_isSign kM_X12_354 wI_X12_isSign wS_X12_isSign dX12_takePacked_17 (e_X12_isSign hst hZ hn hs hc7) (mem_obj hs (by decide)) (sh_ltn hs (by decide) hn) rfl rfl rfl (Nat.le_of_ble_eq_true rfl) (by omega) (by omega) (fun v9 S9 hq => ?_)
    obtain ⟨rfl, rfl⟩ := hq
    refine ⟨fun h => ⟨h, rfl⟩, ?_⟩
    refine b_if hx (fun h9 hx => ?_) (fun h9 hx => ?_)
    · refine mm_if_ne 24 dX12_takePacked_20 (by decide) (fun h => absurd h9 h) (fun _ => ?_)
      refine mm_vret dX12_takePacked_23 rfl ?_ (by omega) (by omega)
      obtain rfl := fin1 hx
      exact ⟨rfl, rfl⟩
    · refine mm_if_ne 24 dX12_takePacked_20 (by decide) (fun _ => ?_) (fun h => absurd h h9)
      refine mm_aload_n dX12_takePacked_24 rfl rfl ?_
      obtain ⟨σ11, hc10, hx⟩ := b1_some hx
      refine mm_callV3 (a := a) (ci := 12) wM_X12_next kM_X12_357 wI_X12_next wS_X12_next dX12_takePacked_25 (e_X12_next hst hZ hn hs hc10) (mem_obj hs (by decide)) (sh_ltn hs (by decide) hn) rfl rfl rfl (Nat.le_of_ble_eq_true rfl) (by omega) (by omega) (fun v9 S9 hq => ?_)
      obtain ⟨rfl, rfl⟩ := hq
      refine ⟨fun h => ⟨h, rfl⟩, ?_⟩
      refine mm_aload_n dX12_takePacked_28 rfl rfl ?_
      refine s_getS (q := 1147) (r := some a) (b := a) (ci := 12) (k := 58) in_X12 rfl (by decide) rfl kF_X12_151 dX12_takePacked_29 rfl hs (by decide) hn (by decide) rfl rfl ?_
      refine mm_iload_n dX12_takePacked_32 rfl ?_
      refine mm_aload_n dX12_takePacked_33 rfl rfl ?_
      refine s_getI (r := some a) (b := a) (ci := 12) (k := 71) in_X12 rfl (by decide) rfl kF_X12_305 dX12_takePacked_34 rfl hs (by decide) hn (by decide) rfl ?_
      obtain ⟨j12, hj13, hb14, hl15, hx⟩ := ix_some hx
      refine s_iast (a := 1147) (v := sI σ11 a 71) sa_1147 hn hj13 hb14 na_1147 dX12_takePacked_37 hx (fun σ16 hx => ?_)
      refine mm_aload_n dX12_takePacked_38 rfl rfl ?_
      refine mm_ldc2 kL_X12_444 dX12_takePacked_39 ?_
      obtain ⟨σ18, hc17, hx⟩ := b1_some hx
      refine mm_callV3 (a := a) (ci := 12) wM_X12_takeWord kM_X12_446 wI_X12_takeWord wS_X12_takeWord dX12_takePacked_42 (e_X12_takeWord hst hZ hn hs hc17) (mem_obj hs (by decide)) (sh_ltn hs (by decide) hn) rfl rfl rfl (Nat.le_of_ble_eq_true rfl) (by omega) (by omega) (fun v9 S9 hq => ?_)
      obtain ⟨rfl, rfl⟩ := hq
      refine ⟨fun h => ⟨h, rfl⟩, ?_⟩
      refine mm_aload_n dX12_takePacked_45 rfl rfl ?_
      refine mm_bipush (v := 61) dX12_takePacked_46 (by decide) ?_
      obtain ⟨σ20, hc19, hx⟩ := b1_some hx
      refine mm_callV3 (a := a) (ci := 12) wM_X12_takeSign kM_X12_450 wI_X12_takeSign wS_X12_takeSign dX12_takePacked_48 (e_X12_takeSign hst hZ hn hs hc19) (mem_obj hs (by decide)) (sh_ltn hs (by decide) hn) rfl rfl rfl (Nat.le_of_ble_eq_true rfl) (by omega) (by omega) (fun v9 S9 hq => ?_)
      obtain ⟨rfl, rfl⟩ := hq
      refine ⟨fun h => ⟨h, rfl⟩, ?_⟩
      refine mm_aload_n dX12_takePacked_51 rfl rfl ?_
      refine s_getI (r := some a) (b := a) (ci := 12) (k := 74) in_X12 rfl (by decide) rfl kF_X12_328 dX12_takePacked_52 rfl hs (by decide) hn (by decide) rfl ?_
      refine b_if hx (fun h21 hx => ?_) (fun h21 hx => ?_)
      · refine mm_if_eq 59 dX12_takePacked_55 (by decide) (fun _ => ?_) (fun h => absurd h21 h)
        refine mm_aload_n dX12_takePacked_59 rfl rfl ?_
        refine mm_ldc2 kL_X12_453 dX12_takePacked_60 ?_
        obtain ⟨v23, hc22, hx⟩ := b1_some hx
        refine mm_callV3 (a := a) (ci := 12) wM_X12_isWord kM_X12_364 wI_X12_isWord wS_X12_isWord dX12_takePacked_63 (e_X12_isWord hst hZ hn hs hc22) (mem_obj hs (by decide)) (sh_ltn hs (by decide) hn) rfl rfl rfl (Nat.le_of_ble_eq_true rfl) (by omega) (by omega) (fun v9 S9 hq => ?_)
        obtain ⟨rfl, rfl⟩ := hq
        refine ⟨fun h => ⟨h, rfl⟩, ?_⟩
        refine b_if hx (fun h24 hx => ?_) (fun h24 hx => ?_)
        · refine mm_if_ne 89 dX12_takePacked_66 (by decide) (fun h => absurd h24 h) (fun _ => ?_)
          refine mm_aload_n dX12_takePacked_69 rfl rfl ?_
          refine mm_ldc2 kL_X12_455 dX12_takePacked_70 ?_
          obtain ⟨v26, hc25, hx⟩ := b1_some hx
          refine mm_callV3 (a := a) (ci := 12) wM_X12_isWord kM_X12_364 wI_X12_isWord wS_X12_isWord dX12_takePacked_73 (e_X12_isWord hst hZ hn hs hc25) (mem_obj hs (by decide)) (sh_ltn hs (by decide) hn) rfl rfl rfl (Nat.le_of_ble_eq_true rfl) (by omega) (by omega) (fun v9 S9 hq => ?_)
          obtain ⟨rfl, rfl⟩ := hq
          refine ⟨fun h => ⟨h, rfl⟩, ?_⟩
          refine b_if hx (fun h27 hx => ?_) (fun h27 hx => ?_)
          · refine mm_if_ne 89 dX12_takePacked_76 (by decide) (fun h => absurd h27 h) (fun _ => ?_)
            refine mm_aload_n dX12_takePacked_79 rfl rfl ?_
            refine mm_iconst (v := 1) dX12_takePacked_80 (by decide) ?_
            refine mm_aload_n dX12_takePacked_81 rfl rfl ?_
            refine s_getI (r := some a) (b := a) (ci := 12) (k := 71) in_X12 rfl (by decide) rfl kF_X12_305 dX12_takePacked_82 rfl hs (by decide) hn (by decide) rfl ?_
            obtain ⟨σ29, hc28, hx⟩ := b1_some hx
            refine mm_callV3 (a := a) (ci := 12) wM_X12_fail kM_X12_360 wI_X12_fail wS_X12_fail dX12_takePacked_85 (e_X12_fail hst hZ hn hs hc28) (mem_obj hs (by decide)) (sh_ltn hs (by decide) hn) rfl rfl rfl (Nat.le_of_ble_eq_true rfl) (by omega) (by omega) (fun v9 S9 hq => ?_)
            obtain ⟨rfl, rfl⟩ := hq
            refine ⟨fun h => ⟨h, rfl⟩, ?_⟩
            refine mm_vret dX12_takePacked_88 rfl ?_ (by omega) (by omega)
            obtain rfl := fin1 hx
            exact ⟨rfl, rfl⟩
          · refine mm_if_ne 89 dX12_takePacked_76 (by decide) (fun _ => ?_) (fun h => absurd h h27)
            exact e_X12_takePacked_89 hst hZ hn hs hx
        · refine mm_if_ne 89 dX12_takePacked_66 (by decide) (fun _ => ?_) (fun h => absurd h h24)
          exact e_X12_takePacked_89 hst hZ hn hs hx
      · refine mm_if_eq 59 dX12_takePacked_55 (by decide) (fun h => absurd h h21) (fun _ => ?_)
        refine mm_vret dX12_takePacked_58 rfl ?_ (by omega) (by omega)
        obtain rfl := fin1 hx
        exact ⟨rfl, rfl⟩
  · refine mm_if_ne 23 dX12_takePacked_11 (by decide) (fun _ => ?_) (fun h => absurd h h6)
    refine mm_vret dX12_takePacked_23 rfl ?_ (by omega) (by omega)
    obtain rfl := fin1 hx
    exact ⟨rfl, rfl⟩
set_option maxHeartbeats 4000000 in
set_option maxRecDepth 100000 in
theorem e_X12_takeField_52 {g : mm_G} {l : Launch} (hst : l.stackTraces = false) {Z : Nat → Nat → Option Nat} (hZ : HZ Z) {n : Nat} (hn : 1186 ≤ n) {z : Bool} {d : Nat} {U : Nat} {a : Nat} (hs : sh a = 12) {v1_ : Int32} {v3_ : Int32} {σ : SG} {σ' : SG} (hx : x_X12_takeField_52 U a v1_ v3_ σ = some σ') : mm_V g l RX12 "takeField" cX12_takeField 4 none [] (d + 7) 0 0 (mm_nt (fun v S' => v = none ∧ S' = (mem Z σ', n, z))) 52 [some (.ref a), some (.int v1_), none, some (.int v3_)] [] (mem Z σ, n, z) 0 0 := by
  unfold x_X12_takeField_52 at hx
  refine mm_aload_n dX12_takeField_52 rfl rfl ?_
  refine mm_iload_n dX12_takeField_53 rfl ?_
  obtain ⟨σ21, hc20, hx⟩ := b1_some hx
  refine mm_callV3 (a := a) (ci := 12) wM_X12_takeType kM_X12_460 wI_X12_takeType wS_X12_takeType dX12_takeField_54 (e_X12_takeType hst hZ hn hs hc20) (mem_obj hs (by decide)) (sh_ltn hs (by decide) hn) rfl rfl rfl (Nat.le_of_ble_eq_true rfl) (by omega) (by omega) (fun v9 S9 hq => ?_)
  obtain ⟨rfl, rfl⟩ := hq
  refine ⟨fun h => ⟨h, rfl⟩, ?_⟩
  refine mm_aload_n dX12_takeField_57 rfl rfl ?_
  refine mm_iload_n dX12_takeField_58 rfl ?_
  obtain ⟨σ23, hc22, hx⟩ := b1_some hx
  refine mm_callV3 (a := a) (ci := 12) wM_X12_declare kM_X12_463 wI_X12_declare wS_X12_declare dX12_takeField_59 (e_X12_declare hst hZ hn hs hc22) (mem_obj hs (by decide)) (sh_ltn hs (by decide) hn) rfl rfl rfl (Nat.le_of_ble_eq_true rfl) (by omega) (by omega) (fun v9 S9 hq => ?_)
  obtain ⟨rfl, rfl⟩ := hq
  refine ⟨fun h => ⟨h, rfl⟩, ?_⟩
  refine mm_aload_n dX12_takeField_62 rfl rfl ?_
  refine s_getS (q := 1135) (r := some a) (b := a) (ci := 12) (k := 46) in_X12 rfl (by decide) rfl kF_X12_114 dX12_takeField_63 rfl hs (by decide) hn (by decide) rfl rfl ?_
  refine mm_iload_n dX12_takeField_66 rfl ?_
  refine mm_aload_n dX12_takeField_67 rfl rfl ?_
  obtain ⟨v25, hc24, hx⟩ := b1_some hx
  refine mm_callV3 (a := a) (ci := 12) wM_X12_lastAt kM_X12_466 wI_X12_lastAt wS_X12_lastAt dX12_takeField_68 (e_X12_lastAt hst hZ hn hs hc24) (mem_obj hs (by decide)) (sh_ltn hs (by decide) hn) rfl rfl rfl (Nat.le_of_ble_eq_true rfl) (by omega) (by omega) (fun v9 S9 hq => ?_)
  obtain ⟨rfl, rfl⟩ := hq
  refine ⟨fun h => ⟨h, rfl⟩, ?_⟩
  obtain ⟨j26, hj27, hb28, hl29, hx⟩ := ix_some hx
  refine s_iast (a := 1135) (v := v25) sa_1135 hn hj27 hb28 na_1135 dX12_takeField_71 hx (fun σ30 hx => ?_)
  refine mm_aload_n dX12_takeField_72 rfl rfl ?_
  refine s_getS (q := 1136) (r := some a) (b := a) (ci := 12) (k := 47) in_X12 rfl (by decide) rfl kF_X12_117 dX12_takeField_73 rfl hs (by decide) hn (by decide) rfl rfl ?_
  refine mm_iload_n dX12_takeField_76 rfl ?_
  refine mm_aload_n dX12_takeField_77 rfl rfl ?_
  obtain ⟨v32, hc31, hx⟩ := b1_some hx
  refine mm_callV3 (a := a) (ci := 12) wM_X12_lastLong kM_X12_469 wI_X12_lastLong wS_X12_lastLong dX12_takeField_78 (e_X12_lastLong hst hZ hn hs hc31) (mem_obj hs (by decide)) (sh_ltn hs (by decide) hn) rfl rfl rfl (Nat.le_of_ble_eq_true rfl) (by omega) (by omega) (fun v9 S9 hq => ?_)
  obtain ⟨rfl, rfl⟩ := hq
  refine ⟨fun h => ⟨h, rfl⟩, ?_⟩
  obtain ⟨j33, hj34, hb35, hl36, hx⟩ := ix_some hx
  refine s_iast (a := 1136) (v := v32) sa_1136 hn hj34 hb35 na_1136 dX12_takeField_81 hx (fun σ37 hx => ?_)
  refine mm_aload_n dX12_takeField_82 rfl rfl ?_
  refine mm_bipush (v := 61) dX12_takeField_83 (by decide) ?_
  obtain ⟨σ39, hc38, hx⟩ := b1_some hx
  refine mm_callV3 (a := a) (ci := 12) wM_X12_takeSign kM_X12_450 wI_X12_takeSign wS_X12_takeSign dX12_takeField_85 (e_X12_takeSign hst hZ hn hs hc38) (mem_obj hs (by decide)) (sh_ltn hs (by decide) hn) rfl rfl rfl (Nat.le_of_ble_eq_true rfl) (by omega) (by omega) (fun v9 S9 hq => ?_)
  obtain ⟨rfl, rfl⟩ := hq
  refine ⟨fun h => ⟨h, rfl⟩, ?_⟩
  refine mm_aload_n dX12_takeField_88 rfl rfl ?_
  refine s_getI (r := some a) (b := a) (ci := 12) (k := 74) in_X12 rfl (by decide) rfl kF_X12_328 dX12_takeField_89 rfl hs (by decide) hn (by decide) rfl ?_
  refine b_if hx (fun h40 hx => ?_) (fun h40 hx => ?_)
  · refine mm_if_eq 96 dX12_takeField_92 (by decide) (fun _ => ?_) (fun h => absurd h40 h)
    refine mm_aload_n dX12_takeField_96 rfl rfl ?_
    refine s_getI (r := some a) (b := a) (ci := 12) (k := 70) in_X12 rfl (by decide) rfl kF_X12_298 dX12_takeField_97 rfl hs (by decide) hn (by decide) rfl ?_
    refine mm_iconst (v := 2) dX12_takeField_100 (by decide) ?_
    refine b_if hx (fun h41 hx => ?_) (fun h41 hx => ?_)
    · refine mm_icmp_eq 114 dX12_takeField_101 (by decide) (fun _ => ?_) (fun h => absurd h41 h)
      refine mm_aload_n dX12_takeField_114 rfl rfl ?_
      refine s_getS (q := 1137) (r := some a) (b := a) (ci := 12) (k := 48) in_X12 rfl (by decide) rfl kF_X12_120 dX12_takeField_115 rfl hs (by decide) hn (by decide) rfl rfl ?_
      refine mm_iload_n dX12_takeField_118 rfl ?_
      refine mm_aload_n dX12_takeField_119 rfl rfl ?_
      refine s_getL (r := some a) (b := a) (ci := 12) (k := 77) in_X12 rfl (by decide) rfl kF_X12_301 dX12_takeField_120 rfl hs (by decide) hn (by decide) rfl ?_
      obtain ⟨j42, hj43, hb44, hl45, hx⟩ := ix_some hx
      refine s_last (a := 1137) (v := sL σ39 a 77) sa_1137 hn hj43 hb44 na_1137 dX12_takeField_123 hx (fun σ46 hx => ?_)
      refine mm_aload_n dX12_takeField_124 rfl rfl ?_
      refine s_getS (q := 1138) (r := some a) (b := a) (ci := 12) (k := 49) in_X12 rfl (by decide) rfl kF_X12_124 dX12_takeField_125 rfl hs (by decide) hn (by decide) rfl rfl ?_
      refine mm_iload_n dX12_takeField_128 rfl ?_
      refine mm_aload_n dX12_takeField_129 rfl rfl ?_
      refine s_getI (r := some a) (b := a) (ci := 12) (k := 71) in_X12 rfl (by decide) rfl kF_X12_305 dX12_takeField_130 rfl hs (by decide) hn (by decide) rfl ?_
      obtain ⟨j47, hj48, hb49, hl50, hx⟩ := ix_some hx
      refine s_iast (a := 1138) (v := sI σ46 a 71) sa_1138 hn hj48 hb49 na_1138 dX12_takeField_133 hx (fun σ51 hx => ?_)
      refine mm_aload_n dX12_takeField_134 rfl rfl ?_
      obtain ⟨σ53, hc52, hx⟩ := b1_some hx
      refine mm_callV3 (a := a) (ci := 12) wM_X12_next kM_X12_357 wI_X12_next wS_X12_next dX12_takeField_135 (e_X12_next hst hZ hn hs hc52) (mem_obj hs (by decide)) (sh_ltn hs (by decide) hn) rfl rfl rfl (Nat.le_of_ble_eq_true rfl) (by omega) (by omega) (fun v9 S9 hq => ?_)
      obtain ⟨rfl, rfl⟩ := hq
      refine ⟨fun h => ⟨h, rfl⟩, ?_⟩
      refine mm_aload_n dX12_takeField_138 rfl rfl ?_
      refine mm_iload_n dX12_takeField_139 rfl ?_
      obtain ⟨σ55, hc54, hx⟩ := b1_some hx
      refine mm_callV3 (a := a) (ci := 12) wM_X12_takePacked kM_X12_472 wI_X12_takePacked wS_X12_takePacked dX12_takeField_140 (e_X12_takePacked hst hZ hn hs hc54) (mem_obj hs (by decide)) (sh_ltn hs (by decide) hn) rfl rfl rfl (Nat.le_of_ble_eq_true rfl) (by omega) (by omega) (fun v9 S9 hq => ?_)
      obtain ⟨rfl, rfl⟩ := hq
      refine ⟨fun h => ⟨h, rfl⟩, ?_⟩
      refine mm_aload_n dX12_takeField_143 rfl rfl ?_
      refine mm_bipush (v := 59) dX12_takeField_144 (by decide) ?_
      obtain ⟨σ57, hc56, hx⟩ := b1_some hx
      refine mm_callV3 (a := a) (ci := 12) wM_X12_takeSign kM_X12_450 wI_X12_takeSign wS_X12_takeSign dX12_takeField_146 (e_X12_takeSign hst hZ hn hs hc56) (mem_obj hs (by decide)) (sh_ltn hs (by decide) hn) rfl rfl rfl (Nat.le_of_ble_eq_true rfl) (by omega) (by omega) (fun v9 S9 hq => ?_)
      obtain ⟨rfl, rfl⟩ := hq
      refine ⟨fun h => ⟨h, rfl⟩, ?_⟩
      refine mm_aload_n dX12_takeField_149 rfl rfl ?_
      refine mm_dup dX12_takeField_150 rfl ?_
      refine s_getI (r := some a) (b := a) (ci := 12) (k := 34) in_X12 rfl (by decide) rfl kF_X12_457 dX12_takeField_151 rfl hs (by decide) hn (by decide) rfl ?_
      refine mm_iconst (v := 1) dX12_takeField_154 (by decide) ?_
      refine mm_iadd dX12_takeField_155 ?_
      refine s_putI (v := (sI σ57 a 34) + 1) (r := some a) (b := a) (ci := 12) (k := 34) in_X12 rfl (by decide) rfl tyX12_ok nmX12 rfl kF_X12_457 dX12_takeField_156 (mm_fit_int _) rfl hs (by decide) hn (by decide) rfl hx (fun σ58 hx => ?_)
      refine mm_vret dX12_takeField_159 rfl ?_ (by omega) (by omega)
      obtain rfl := fin1 hx
      exact ⟨rfl, rfl⟩
    · refine mm_icmp_eq 114 dX12_takeField_101 (by decide) (fun h => absurd h h41) (fun _ => ?_)
      refine mm_aload_n dX12_takeField_104 rfl rfl ?_
      refine mm_iconst (v := 1) dX12_takeField_105 (by decide) ?_
      refine mm_aload_n dX12_takeField_106 rfl rfl ?_
      refine s_getI (r := some a) (b := a) (ci := 12) (k := 71) in_X12 rfl (by decide) rfl kF_X12_305 dX12_takeField_107 rfl hs (by decide) hn (by decide) rfl ?_
      obtain ⟨σ60, hc59, hx⟩ := b1_some hx
      refine mm_callV3 (a := a) (ci := 12) wM_X12_fail kM_X12_360 wI_X12_fail wS_X12_fail dX12_takeField_110 (e_X12_fail hst hZ hn hs hc59) (mem_obj hs (by decide)) (sh_ltn hs (by decide) hn) rfl rfl rfl (Nat.le_of_ble_eq_true rfl) (by omega) (by omega) (fun v9 S9 hq => ?_)
      obtain ⟨rfl, rfl⟩ := hq
      refine ⟨fun h => ⟨h, rfl⟩, ?_⟩
      refine mm_vret dX12_takeField_113 rfl ?_ (by omega) (by omega)
      obtain rfl := fin1 hx
      exact ⟨rfl, rfl⟩
  · refine mm_if_eq 96 dX12_takeField_92 (by decide) (fun h => absurd h h40) (fun _ => ?_)
    refine mm_vret dX12_takeField_95 rfl ?_ (by omega) (by omega)
    obtain rfl := fin1 hx
    exact ⟨rfl, rfl⟩
set_option maxHeartbeats 4000000 in
set_option maxRecDepth 100000 in
theorem e_X12_takeField {g : mm_G} {l : Launch} (hst : l.stackTraces = false) {Z : Nat → Nat → Option Nat} (hZ : HZ Z) {n : Nat} (hn : 1186 ≤ n) {z : Bool} {d : Nat} {U : Nat} {a : Nat} (hs : sh a = 12) {p0 : Int32} {p1 : Int32} {σ : SG} {σ' : SG} (hx : x_X12_takeField U a p0 p1 σ = some σ') : mm_Cm g l yX12_takeField (.code yX12_takeField cX12_takeField 4 none) (d + 7) 0 0 [.ref a, .int p0, .int p1] (mem Z σ, n, z) (fun v S' => v = none ∧ S' = (mem Z σ', n, z)) := by
  refine mm_Cm_of hst (by decide) (Nat.le_of_ble_eq_true rfl) ?_
  show mm_V g l RX12 "takeField" cX12_takeField 4 none [] (d + 7) 0 0 (mm_nt (fun v S' => v = none ∧ S' = (mem Z σ', n, z))) 0 [some (.ref a), some (.int p0), some (.int p1), none] [] (mem Z σ, n, z) 0 0
  unfold x_X12_takeField at hx
  refine mm_aload_n dX12_takeField_0 rfl rfl ?_
  refine s_getI (r := some a) (b := a) (ci := 12) (k := 34) in_X12 rfl (by decide) rfl kF_X12_457 dX12_takeField_1 rfl hs (by decide) hn (by decide) rfl ?_
  refine mm_istore_n [some (.ref a), some (.int p0), some (.int p1), some (.int (sI σ a 34))] dX12_takeField_4 (by decide) rfl ?_
  refine mm_aload_n dX12_takeField_5 rfl rfl ?_
  refine s_getS (q := 1134) (r := some a) (b := a) (ci := 12) (k := 45) in_X12 rfl (by decide) rfl kF_X12_111 dX12_takeField_6 rfl hs (by decide) hn (by decide) rfl rfl ?_
  refine mm_iload_n dX12_takeField_9 rfl ?_
  refine mm_iload_n dX12_takeField_10 rfl ?_
  obtain ⟨j1, hj2, hb3, hl4, hx⟩ := ix_some hx
  refine s_iast (a := 1134) (v := p0) sa_1134 hn hj2 hb3 na_1134 dX12_takeField_11 hx (fun σ5 hx => ?_)
  refine mm_aload_n dX12_takeField_12 rfl rfl ?_
  refine s_getS (q := 1148) (r := some a) (b := a) (ci := 12) (k := 59) in_X12 rfl (by decide) rfl kF_X12_154 dX12_takeField_13 rfl hs (by decide) hn (by decide) rfl rfl ?_
  refine mm_iload_n dX12_takeField_16 rfl ?_
  refine mm_iload_n dX12_takeField_17 rfl ?_
  obtain ⟨j6, hj7, hb8, hl9, hx⟩ := ix_some hx
  refine s_iast (a := 1148) (v := p1) sa_1148 hn hj7 hb8 na_1148 dX12_takeField_18 hx (fun σ10 hx => ?_)
  refine mm_aload_n dX12_takeField_19 rfl rfl ?_
  refine s_getS (q := 1145) (r := some a) (b := a) (ci := 12) (k := 56) in_X12 rfl (by decide) rfl kF_X12_145 dX12_takeField_20 rfl hs (by decide) hn (by decide) rfl rfl ?_
  refine mm_iload_n dX12_takeField_23 rfl ?_
  refine mm_iconst (v := 0) dX12_takeField_24 (by decide) ?_
  obtain ⟨j11, hj12, hb13, hl14, hx⟩ := ix_some hx
  refine s_zast (a := 1145) (v := 0) sa_1145 hn hj12 hb13 na_1145 dX12_takeField_25 hx (fun σ15 hx => ?_)
  refine mm_iload_n dX12_takeField_26 rfl ?_
  refine mm_iconst (v := (-1)) dX12_takeField_27 (by decide) ?_
  refine b_if hx (fun h16 hx => ?_) (fun h16 hx => ?_)
  · refine mm_icmp_ne 52 dX12_takeField_28 (by decide) (fun h => absurd h16 h) (fun _ => ?_)
    refine mm_aload_n dX12_takeField_31 rfl rfl ?_
    refine mm_ldc2 kL_X12_429 dX12_takeField_32 ?_
    obtain ⟨v18, hc17, hx⟩ := b1_some hx
    refine mm_callV3 (a := a) (ci := 12) wM_X12_isWord kM_X12_364 wI_X12_isWord wS_X12_isWord dX12_takeField_35 (e_X12_isWord hst hZ hn hs hc17) (mem_obj hs (by decide)) (sh_ltn hs (by decide) hn) rfl rfl rfl (Nat.le_of_ble_eq_true rfl) (by omega) (by omega) (fun v9 S9 hq => ?_)
    obtain ⟨rfl, rfl⟩ := hq
    refine ⟨fun h => ⟨h, rfl⟩, ?_⟩
    refine b_if hx (fun h19 hx => ?_) (fun h19 hx => ?_)
    · refine mm_if_eq 52 dX12_takeField_38 (by decide) (fun _ => ?_) (fun h => absurd h19 h)
      refine mm_fewer [some (.ref a), some (.int p0), none, some (.int (sI σ a 34))] (few_ok (bs := [true, true, false, true]) rfl) ?_
      exact e_X12_takeField_52 hst hZ hn hs hx
    · refine mm_if_eq 52 dX12_takeField_38 (by decide) (fun h => absurd h h19) (fun _ => ?_)
      refine mm_aload_n dX12_takeField_41 rfl rfl ?_
      refine s_getS (q := 1145) (r := some a) (b := a) (ci := 12) (k := 56) in_X12 rfl (by decide) rfl kF_X12_145 dX12_takeField_42 rfl hs (by decide) hn (by decide) rfl rfl ?_
      refine mm_iload_n dX12_takeField_45 rfl ?_
      refine mm_iconst (v := 1) dX12_takeField_46 (by decide) ?_
      obtain ⟨j61, hj62, hb63, hl64, hx⟩ := ix_some hx
      refine s_zast (a := 1145) (v := 1) sa_1145 hn hj62 hb63 na_1145 dX12_takeField_47 hx (fun σ65 hx => ?_)
      refine mm_aload_n dX12_takeField_48 rfl rfl ?_
      obtain ⟨σ67, hc66, hx⟩ := b1_some hx
      refine mm_callV3 (a := a) (ci := 12) wM_X12_next kM_X12_357 wI_X12_next wS_X12_next dX12_takeField_49 (e_X12_next hst hZ hn hs hc66) (mem_obj hs (by decide)) (sh_ltn hs (by decide) hn) rfl rfl rfl (Nat.le_of_ble_eq_true rfl) (by omega) (by omega) (fun v9 S9 hq => ?_)
      obtain ⟨rfl, rfl⟩ := hq
      refine ⟨fun h => ⟨h, rfl⟩, ?_⟩
      refine mm_fewer [some (.ref a), some (.int p0), none, some (.int (sI σ a 34))] (few_ok (bs := [true, true, false, true]) rfl) ?_
      exact e_X12_takeField_52 hst hZ hn hs hx
  · refine mm_icmp_ne 52 dX12_takeField_28 (by decide) (fun _ => ?_) (fun h => absurd h h16)
    refine mm_fewer [some (.ref a), some (.int p0), none, some (.int (sI σ a 34))] (few_ok (bs := [true, true, false, true]) rfl) ?_
    exact e_X12_takeField_52 hst hZ hn hs hx
set_option maxHeartbeats 4000000 in
set_option maxRecDepth 100000 in
theorem e_X12_takeOneof_89 {g : mm_G} {l : Launch} (hst : l.stackTraces = false) {Z : Nat → Nat → Option Nat} (hZ : HZ Z) {n : Nat} (hn : 1186 ≤ n) {z : Bool} {d : Nat} {U : Nat} {a : Nat} (hs : sh a = 12) {k32 : Int32 → SG → Option (SG)} {k93 : SG → Option (SG)} {v1_ : Int32} {v2_ : Int32} {s0_ : Int32} {σ : SG} {σ' : SG} (hk32 : ∀ (v3_ : Int32) (σ8 : SG), k32 v3_ σ8 = some σ' → mm_V g l RX12 "takeOneof" cX12_takeOneof 4 none [] (d + 8) 0 0 (mm_nt (fun v S' => v = none ∧ S' = (mem Z σ', n, z))) 32 [some (.ref a), some (.int v1_), some (.int v2_), some (.int v3_)] [] (mem Z σ8, n, z) 0 0) (hk93 : ∀ (σ8 : SG), k93 σ8 = some σ' → mm_V g l RX12 "takeOneof" cX12_takeOneof 4 none [] (d + 8) 0 0 (mm_nt (fun v S' => v = none ∧ S' = (mem Z σ', n, z))) 93 [some (.ref a), none, none, none] [] (mem Z σ8, n, z) 0 0) (hx : x_X12_takeOneof_89 U a k32 k93 v1_ v2_ s0_ σ = some σ') : mm_V g l RX12 "takeOneof" cX12_takeOneof 4 none [] (d + 8) 0 0 (mm_nt (fun v S' => v = none ∧ S' = (mem Z σ', n, z))) 89 [some (.ref a), some (.int v1_), some (.int v2_), none] [.int s0_] (mem Z σ, n, z) 0 0 := by
  unfold x_X12_takeOneof_89 at hx
  refine mm_istore_n [some (.ref a), some (.int v1_), some (.int v2_), some (.int s0_)] dX12_takeOneof_89 (by decide) rfl ?_
  refine mm_goto 32 dX12_takeOneof_90 (by decide) ?_
  exact hk32 _ _ hx
set_option maxHeartbeats 4000000 in
set_option maxRecDepth 100000 in
theorem e_X12_takeOneof_88 {g : mm_G} {l : Launch} (hst : l.stackTraces = false) {Z : Nat → Nat → Option Nat} (hZ : HZ Z) {n : Nat} (hn : 1186 ≤ n) {z : Bool} {d : Nat} {U : Nat} {a : Nat} (hs : sh a = 12) {k32 : Int32 → SG → Option (SG)} {k93 : SG → Option (SG)} {v1_ : Int32} {v2_ : Int32} {σ : SG} {σ' : SG} (hk32 : ∀ (v3_ : Int32) (σ8 : SG), k32 v3_ σ8 = some σ' → mm_V g l RX12 "takeOneof" cX12_takeOneof 4 none [] (d + 8) 0 0 (mm_nt (fun v S' => v = none ∧ S' = (mem Z σ', n, z))) 32 [some (.ref a), some (.int v1_), some (.int v2_), some (.int v3_)] [] (mem Z σ8, n, z) 0 0) (hk93 : ∀ (σ8 : SG), k93 σ8 = some σ' → mm_V g l RX12 "takeOneof" cX12_takeOneof 4 none [] (d + 8) 0 0 (mm_nt (fun v S' => v = none ∧ S' = (mem Z σ', n, z))) 93 [some (.ref a), none, none, none] [] (mem Z σ8, n, z) 0 0) (hx : x_X12_takeOneof_88 U a k32 k93 v1_ v2_ σ = some σ') : mm_V g l RX12 "takeOneof" cX12_takeOneof 4 none [] (d + 8) 0 0 (mm_nt (fun v S' => v = none ∧ S' = (mem Z σ', n, z))) 88 [some (.ref a), some (.int v1_), some (.int v2_), none] [] (mem Z σ, n, z) 0 0 := by
  unfold x_X12_takeOneof_88 at hx
  refine mm_iconst (v := 0) dX12_takeOneof_88 (by decide) ?_
  exact e_X12_takeOneof_89 hst hZ hn hs hk32 hk93 hx
set_option maxHeartbeats 4000000 in
set_option maxRecDepth 100000 in
theorem e_X12_takeOneof_68 {g : mm_G} {l : Launch} (hst : l.stackTraces = false) {Z : Nat → Nat → Option Nat} (hZ : HZ Z) {n : Nat} (hn : 1186 ≤ n) {z : Bool} {d : Nat} {U : Nat} {a : Nat} (hs : sh a = 12) {k32 : Int32 → SG → Option (SG)} {k93 : SG → Option (SG)} {v1_ : Int32} {v2_ : Int32} {σ : SG} {σ' : SG} (hk32 : ∀ (v3_ : Int32) (σ8 : SG), k32 v3_ σ8 = some σ' → mm_V g l RX12 "takeOneof" cX12_takeOneof 4 none [] (d + 8) 0 0 (mm_nt (fun v S' => v = none ∧ S' = (mem Z σ', n, z))) 32 [some (.ref a), some (.int v1_), some (.int v2_), some (.int v3_)] [] (mem Z σ8, n, z) 0 0) (hk93 : ∀ (σ8 : SG), k93 σ8 = some σ' → mm_V g l RX12 "takeOneof" cX12_takeOneof 4 none [] (d + 8) 0 0 (mm_nt (fun v S' => v = none ∧ S' = (mem Z σ', n, z))) 93 [some (.ref a), none, none, none] [] (mem Z σ8, n, z) 0 0) (hx : x_X12_takeOneof_68 U a k32 k93 v1_ v2_ σ = some σ') : mm_V g l RX12 "takeOneof" cX12_takeOneof 4 none [] (d + 8) 0 0 (mm_nt (fun v S' => v = none ∧ S' = (mem Z σ', n, z))) 68 [some (.ref a), some (.int v1_), some (.int v2_), none] [] (mem Z σ, n, z) 0 0 := by
  unfold x_X12_takeOneof_68 at hx
  refine mm_aload_n dX12_takeOneof_68 rfl rfl ?_
  refine s_getI (r := some a) (b := a) (ci := 12) (k := 74) in_X12 rfl (by decide) rfl kF_X12_328 dX12_takeOneof_69 rfl hs (by decide) hn (by decide) rfl ?_
  refine b_if hx (fun h15 hx => ?_) (fun h15 hx => ?_)
  · refine mm_if_ne 88 dX12_takeOneof_72 (by decide) (fun h => absurd h15 h) (fun _ => ?_)
    refine mm_aload_n dX12_takeOneof_75 rfl rfl ?_
    refine mm_bipush (v := 125) dX12_takeOneof_76 (by decide) ?_
    obtain ⟨v17, hc16, hx⟩ := b1_some hx
    refine mm_callV3 (a := a) (ci := 12) wM_X12_isSign kM_X12_354 wI_X12_isSign wS_X12_isSign dX12_takeOneof_78 (e_X12_isSign hst hZ hn hs hc16) (mem_obj hs (by decide)) (sh_ltn hs (by decide) hn) rfl rfl rfl (Nat.le_of_ble_eq_true rfl) (by omega) (by omega) (fun v9 S9 hq => ?_)
    obtain ⟨rfl, rfl⟩ := hq
    refine ⟨fun h => ⟨h, rfl⟩, ?_⟩
    refine b_if hx (fun h18 hx => ?_) (fun h18 hx => ?_)
    · refine mm_if_ne 88 dX12_takeOneof_81 (by decide) (fun h => absurd h18 h) (fun _ => ?_)
      refine mm_iconst (v := 1) dX12_takeOneof_84 (by decide) ?_
      refine mm_goto 89 dX12_takeOneof_85 (by decide) ?_
      exact e_X12_takeOneof_89 hst hZ hn hs hk32 hk93 hx
    · refine mm_if_ne 88 dX12_takeOneof_81 (by decide) (fun _ => ?_) (fun h => absurd h h18)
      exact e_X12_takeOneof_88 hst hZ hn hs hk32 hk93 hx
  · refine mm_if_ne 88 dX12_takeOneof_72 (by decide) (fun _ => ?_) (fun h => absurd h h15)
    exact e_X12_takeOneof_88 hst hZ hn hs hk32 hk93 hx
set_option maxHeartbeats 4000000 in
set_option maxRecDepth 100000 in
theorem e_X12_takeOneof_L32 {g : mm_G} {l : Launch} (hst : l.stackTraces = false) {Z : Nat → Nat → Option Nat} (hZ : HZ Z) {n : Nat} (hn : 1186 ≤ n) {z : Bool} {d : Nat} {U : Nat} {a : Nat} (hs : sh a = 12) {k93 : SG → Option (SG)} {v1_ : Int32} {v2_ : Int32} {σ' : SG} (hk93 : ∀ (σ8 : SG), k93 σ8 = some σ' → mm_V g l RX12 "takeOneof" cX12_takeOneof 4 none [] (d + 8) 0 0 (mm_nt (fun v S' => v = none ∧ S' = (mem Z σ', n, z))) 93 [some (.ref a), none, none, none] [] (mem Z σ8, n, z) 0 0) : ∀ (U1 : Nat) (v3_ : Int32) (σ : SG), x_X12_takeOneof_L32 U a k93 v1_ v2_ U1 v3_ σ = some σ' → mm_V g l RX12 "takeOneof" cX12_takeOneof 4 none [] (d + 8) 0 0 (mm_nt (fun v S' => v = none ∧ S' = (mem Z σ', n, z))) 32 [some (.ref a), some (.int v1_), some (.int v2_), some (.int v3_)] [] (mem Z σ, n, z) 0 0 := by
  intro U1
  induction U1 with
  | zero => intro v3_ σ hx; exact absurd hx (by simp [x_X12_takeOneof_L32])
  | succ U1 ih =>
    intro v3_ σ hx
    rw [x_X12_takeOneof_L32] at hx
    refine mm_iload_n dX12_takeOneof_32 rfl ?_
    refine b_if hx (fun h8 hx => ?_) (fun h8 hx => ?_)
    · refine mm_if_eq 93 dX12_takeOneof_33 (by decide) (fun _ => ?_) (fun h => absurd h8 h)
      refine mm_fewer [some (.ref a), none, none, none] (few_ok (bs := [true, false, false, false]) rfl) ?_
      exact hk93  _ hx
    · refine mm_if_eq 93 dX12_takeOneof_33 (by decide) (fun h => absurd h h8) (fun _ => ?_)
      refine mm_aload_n dX12_takeOneof_36 rfl rfl ?_
      refine s_getI (r := some a) (b := a) (ci := 12) (k := 74) in_X12 rfl (by decide) rfl kF_X12_328 dX12_takeOneof_37 rfl hs (by decide) hn (by decide) rfl ?_
      refine b_if hx (fun h9 hx => ?_) (fun h9 hx => ?_)
      · refine mm_if_ne 93 dX12_takeOneof_40 (by decide) (fun h => absurd h9 h) (fun _ => ?_)
        refine mm_aload_n dX12_takeOneof_43 rfl rfl ?_
        obtain ⟨v11, hc10, hx⟩ := b1_some hx
        refine mm_callV3 (a := a) (ci := 12) wM_X12_isForeign kM_X12_478 wI_X12_isForeign wS_X12_isForeign dX12_takeOneof_44 (e_X12_isForeign hst hZ hn hs hc10) (mem_obj hs (by decide)) (sh_ltn hs (by decide) hn) rfl rfl rfl (Nat.le_of_ble_eq_true rfl) (by omega) (by omega) (fun v9 S9 hq => ?_)
        obtain ⟨rfl, rfl⟩ := hq
        refine ⟨fun h => ⟨h, rfl⟩, ?_⟩
        refine b_if hx (fun h12 hx => ?_) (fun h12 hx => ?_)
        · refine mm_if_eq 62 dX12_takeOneof_47 (by decide) (fun _ => ?_) (fun h => absurd h12 h)
          refine mm_aload_n dX12_takeOneof_62 rfl rfl ?_
          refine mm_iload_n dX12_takeOneof_63 rfl ?_
          refine mm_iload_n dX12_takeOneof_64 rfl ?_
          obtain ⟨σ14, hc13, hx⟩ := b1_some hx
          refine mm_callV3 (a := a) (ci := 12) wM_X12_takeField kM_X12_481 wI_X12_takeField wS_X12_takeField dX12_takeOneof_65 (e_X12_takeField hst hZ hn hs hc13) (mem_obj hs (by decide)) (sh_ltn hs (by decide) hn) rfl rfl rfl (Nat.le_of_ble_eq_true rfl) (by omega) (by omega) (fun v9 S9 hq => ?_)
          obtain ⟨rfl, rfl⟩ := hq
          refine ⟨fun h => ⟨h, rfl⟩, ?_⟩
          refine mm_fewer [some (.ref a), some (.int v1_), some (.int v2_), none] (few_ok (bs := [true, true, true, false]) rfl) ?_
          exact e_X12_takeOneof_68 hst hZ hn hs ih hk93 hx
        · refine mm_if_eq 62 dX12_takeOneof_47 (by decide) (fun h => absurd h h12) (fun _ => ?_)
          refine mm_aload_n dX12_takeOneof_50 rfl rfl ?_
          refine mm_iconst (v := 2) dX12_takeOneof_51 (by decide) ?_
          refine mm_aload_n dX12_takeOneof_52 rfl rfl ?_
          refine s_getI (r := some a) (b := a) (ci := 12) (k := 71) in_X12 rfl (by decide) rfl kF_X12_305 dX12_takeOneof_53 rfl hs (by decide) hn (by decide) rfl ?_
          obtain ⟨σ20, hc19, hx⟩ := b1_some hx
          refine mm_callV3 (a := a) (ci := 12) wM_X12_fail kM_X12_360 wI_X12_fail wS_X12_fail dX12_takeOneof_56 (e_X12_fail hst hZ hn hs hc19) (mem_obj hs (by decide)) (sh_ltn hs (by decide) hn) rfl rfl rfl (Nat.le_of_ble_eq_true rfl) (by omega) (by omega) (fun v9 S9 hq => ?_)
          obtain ⟨rfl, rfl⟩ := hq
          refine ⟨fun h => ⟨h, rfl⟩, ?_⟩
          refine mm_goto 68 dX12_takeOneof_59 (by decide) ?_
          refine mm_fewer [some (.ref a), some (.int v1_), some (.int v2_), none] (few_ok (bs := [true, true, true, false]) rfl) ?_
          exact e_X12_takeOneof_68 hst hZ hn hs ih hk93 hx
      · refine mm_if_ne 93 dX12_takeOneof_40 (by decide) (fun _ => ?_) (fun h => absurd h h9)
        refine mm_fewer [some (.ref a), none, none, none] (few_ok (bs := [true, false, false, false]) rfl) ?_
        exact hk93  _ hx
set_option maxHeartbeats 4000000 in
set_option maxRecDepth 100000 in
theorem e_X12_takeOneof_93 {g : mm_G} {l : Launch} (hst : l.stackTraces = false) {Z : Nat → Nat → Option Nat} (hZ : HZ Z) {n : Nat} (hn : 1186 ≤ n) {z : Bool} {d : Nat} {U : Nat} {a : Nat} (hs : sh a = 12) {σ : SG} {σ' : SG} (hx : x_X12_takeOneof_93 U a σ = some σ') : mm_V g l RX12 "takeOneof" cX12_takeOneof 4 none [] (d + 8) 0 0 (mm_nt (fun v S' => v = none ∧ S' = (mem Z σ', n, z))) 93 [some (.ref a), none, none, none] [] (mem Z σ, n, z) 0 0 := by
  unfold x_X12_takeOneof_93 at hx
  refine mm_aload_n dX12_takeOneof_93 rfl rfl ?_
  refine mm_bipush (v := 125) dX12_takeOneof_94 (by decide) ?_
  obtain ⟨σ23, hc22, hx⟩ := b1_some hx
  refine mm_callV3 (a := a) (ci := 12) wM_X12_takeSign kM_X12_450 wI_X12_takeSign wS_X12_takeSign dX12_takeOneof_96 (e_X12_takeSign hst hZ hn hs hc22) (mem_obj hs (by decide)) (sh_ltn hs (by decide) hn) rfl rfl rfl (Nat.le_of_ble_eq_true rfl) (by omega) (by omega) (fun v9 S9 hq => ?_)
  obtain ⟨rfl, rfl⟩ := hq
  refine ⟨fun h => ⟨h, rfl⟩, ?_⟩
  refine mm_vret dX12_takeOneof_99 rfl ?_ (by omega) (by omega)
  obtain rfl := fin1 hx
  exact ⟨rfl, rfl⟩
