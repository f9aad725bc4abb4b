set_option maxHeartbeats 4000000 in
set_option maxRecDepth 100000 in
theorem e_X2_judge {g : mm_G} {l : Launch} (hst : l.stackTraces = false) {Z : Nat → Nat → Option Nat} (hZ : HZ Z) {n : Nat} (hn : 1186 ≤ n) {z : Bool} {d : Nat} {U : Nat} {a : Nat} (hs : sh a = 2) {p0 : Option Nat} {p1 : Int32} {σ : SG} {σ' : SG} (hx : x_X2_judge U a p0 p1 σ = some σ') : mm_Cm g l yX2_judge (.code yX2_judge cX2_judge 4 none) (d + 5) 0 0 [.ref a, va_rf p0, .int p1] (mem Z σ, n, z) (fun v S' => v = none ∧ S' = (mem Z σ', n, z)) := by
  refine mm_Cm_of hst (by decide) (by cases p0 <;>  exact Nat.le_of_ble_eq_true rfl) ?_
  rw [show mm_ent [.ref a, va_rf p0, .int p1] 4 = [some (.ref a), some (va_rf p0), some (.int p1), none] from by cases p0 <;>  rfl]
  show mm_V g l RX2 "judge" cX2_judge 4 none [] (d + 5) 0 0 (mm_nt (fun v S' => v = none ∧ S' = (mem Z σ', n, z))) 0 [some (.ref a), some (va_rf p0), some (.int p1), none] [] (mem Z σ, n, z) 0 0
  unfold x_X2_judge at hx
  refine mm_aload_n dX2_judge_0 rfl (isr_rf _) ?_
  refine b_if hx (fun h1 hx => ?_) (fun h1 hx => ?_)
  · refine mm_ifnonnull (r := p0) 5 dX2_judge_1 (by decide) (fun h => absurd h1 h) (fun _ => ?_)
    refine mm_vret dX2_judge_4 rfl ?_ (by omega) (by omega)
    obtain rfl := fin1 hx
    exact ⟨rfl, rfl⟩
  · refine mm_ifnonnull (r := p0) 5 dX2_judge_1 (by decide) (fun _ => ?_) (fun h => absurd h h1)
    refine mm_aload_n dX2_judge_5 rfl (isr_rf _) ?_
    obtain ⟨q2, hr3, hs4, hx⟩ := ck_some hx
    refine s_getIN (r := p0) (b := q2) (ci := 3) (k := 0) in_X3 rfl (by decide) rfl kF_X2_88 dX2_judge_6 hr3 hs4 (by decide) hn (by decide) rfl ?_
    refine mm_iconst (v := 2) dX2_judge_9 (by decide) ?_
    refine b_if hx (fun h5 hx => ?_) (fun h5 hx => ?_)
    · refine mm_icmp_ne 17 dX2_judge_10 (by decide) (fun h => absurd h5 h) (fun _ => ?_)
      refine mm_iconst (v := 1) dX2_judge_13 (by decide) ?_
      refine mm_goto 18 dX2_judge_14 (by decide) ?_
      exact e_X2_judge_18 hst hZ hn hs hx
    · refine mm_icmp_ne 17 dX2_judge_10 (by decide) (fun _ => ?_) (fun h => absurd h h5)
      refine mm_iconst (v := 0) dX2_judge_17 (by decide) ?_
      exact e_X2_judge_18 hst hZ hn hs hx
set_option maxHeartbeats 4000000 in
set_option maxRecDepth 100000 in
theorem e_X6_count {g : mm_G} {l : Launch} (hst : l.stackTraces = false) {Z : Nat → Nat → Option Nat} (hZ : HZ Z) {n : Nat} (hn : 1186 ≤ n) {z : Bool} {d : Nat} {a : Nat} (hs : sh a = 6) {p0 : Int32} {σ : SG} {r : Int32} (hx : x_X6_count a p0 σ = some r) : mm_Cm g l yX6_count (.code yX6_count cX6_count 2 (some .int)) (d) 0 0 [.ref a, .int p0] (mem Z σ, n, z) (fun v S' => v = some (.int r) ∧ S' = (mem Z σ, n, z)) := by
  refine mm_Cm_of hst (by decide) (Nat.le_of_ble_eq_true rfl) ?_
  show mm_V g l RX6 "count" cX6_count 2 (some .int) [] (d) 0 0 (mm_nt (fun v S' => v = some (.int r) ∧ S' = (mem Z σ, n, z))) 0 [some (.ref a), some (.int p0)] [] (mem Z σ, n, z) 0 0
  unfold x_X6_count at hx
  refine mm_iload_n dX6_count_0 rfl ?_
  refine b_if hx (fun h1 hx => ?_) (fun h1 hx => ?_)
  · refine mm_if_lt 22 dX6_count_1 (by decide) (fun _ => ?_) (fun h => absurd h1 h)
    refine mm_iconst (v := 0) dX6_count_22 (by decide) ?_
    refine mm_iret dX6_count_23 rfl rfl ?_ (by omega) (by omega)
    obtain rfl := fin1 hx
    exact ⟨rfl, rfl⟩
  · refine mm_if_lt 22 dX6_count_1 (by decide) (fun h => absurd h h1) (fun _ => ?_)
    refine mm_iload_n dX6_count_4 rfl ?_
    refine mm_aload_n dX6_count_5 rfl rfl ?_
    refine s_getS (q := a + 184) (r := some a) (b := a) (ci := 6) (k := 2) in_X6 rfl (by decide) rfl kF_X6_27 dX6_count_6 rfl hs (by decide) hn (by decide) rfl rfl ?_
    refine s_alen (a := a + 184) (t := 0) (N := 5) (v := 5) (fun _ => rfl) (sv6_2 hs) (by decide) hn (sn6_2 hs) rfl dX6_count_9 ?_
    refine b_if hx (fun h2 hx => ?_) (fun h2 hx => ?_)
    · refine mm_icmp_ge 22 dX6_count_10 (by decide) (fun h => absurd h (Int32.not_le.mpr h2)) (fun _ => ?_)
      refine mm_aload_n dX6_count_13 rfl rfl ?_
      refine s_getS (q := a + 184) (r := some a) (b := a) (ci := 6) (k := 2) in_X6 rfl (by decide) rfl kF_X6_27 dX6_count_14 rfl hs (by decide) hn (by decide) rfl rfl ?_
      refine mm_iload_n dX6_count_17 rfl ?_
      obtain ⟨j3, hj4, hb5, hl6, hx⟩ := ix_some hx
      refine s_iald (a := a + 184) (sv6_2 hs) hn hj4 hb5 (sn6_2 hs) dX6_count_18 ?_
      refine mm_goto 23 dX6_count_19 (by decide) ?_
      refine mm_iret dX6_count_23 rfl rfl ?_ (by omega) (by omega)
      obtain rfl := fin1 hx
      exact ⟨rfl, rfl⟩
    · refine mm_icmp_ge 22 dX6_count_10 (by decide) (fun _ => ?_) (fun h => absurd (Int32.not_lt.mp h2) h)
      refine mm_iconst (v := 0) dX6_count_22 (by decide) ?_
      refine mm_iret dX6_count_23 rfl rfl ?_ (by omega) (by omega)
      obtain rfl := fin1 hx
      exact ⟨rfl, rfl⟩
set_option maxHeartbeats 4000000 in
set_option maxRecDepth 100000 in
theorem e_X6_nameBytes {g : mm_G} {l : Launch} (hst : l.stackTraces = false) {Z : Nat → Nat → Option Nat} (hZ : HZ Z) {n : Nat} (hn : 1186 ≤ n) {z : Bool} {d : Nat} {a : Nat} (hs : sh a = 6) {σ : SG} {r : Int32} (hx : x_X6_nameBytes a σ = some r) : mm_Cm g l yX6_nameBytes (.code yX6_nameBytes cX6_nameBytes 1 (some .int)) (d) 0 0 [.ref a] (mem Z σ, n, z) (fun v S' => v = some (.int r) ∧ S' = (mem Z σ, n, z)) := by
  refine mm_Cm_of hst (by decide) (Nat.le_of_ble_eq_true rfl) ?_
  show mm_V g l RX6 "nameBytes" cX6_nameBytes 1 (some .int) [] (d) 0 0 (mm_nt (fun v S' => v = some (.int r) ∧ S' = (mem Z σ, n, z))) 0 [some (.ref a)] [] (mem Z σ, n, z) 0 0
  unfold x_X6_nameBytes at hx
  refine mm_aload_n dX6_nameBytes_0 rfl rfl ?_
  refine s_getI (r := some a) (b := a) (ci := 6) (k := 4) in_X6 rfl (by decide) rfl kF_X6_38 dX6_nameBytes_1 rfl hs (by decide) hn (by decide) rfl ?_
  refine mm_iret dX6_nameBytes_4 rfl rfl ?_ (by omega) (by omega)
  obtain rfl := fin1 hx
  exact ⟨rfl, rfl⟩
set_option maxHeartbeats 4000000 in
set_option maxRecDepth 100000 in
theorem e_X2_isTooMuch {g : mm_G} {l : Launch} (hst : l.stackTraces = false) {Z : Nat → Nat → Option Nat} (hZ : HZ Z) {n : Nat} (hn : 1186 ≤ n) {z : Bool} {d : Nat} {a : Nat} (hs : sh a = 2) {σ : SG} {r : Int32} (hx : x_X2_isTooMuch a σ = some r) : mm_Cm g l yX2_isTooMuch (.code yX2_isTooMuch cX2_isTooMuch 1 (some .boolean)) (d + 1) 0 0 [.ref a] (mem Z σ, n, z) (fun v S' => v = some (.int r) ∧ S' = (mem Z σ, n, z)) := by
  refine mm_Cm_of hst (by decide) (Nat.le_of_ble_eq_true rfl) ?_
  show mm_V g l RX2 "isTooMuch" cX2_isTooMuch 1 (some .boolean) [] (d + 1) 0 0 (mm_nt (fun v S' => v = some (.int r) ∧ S' = (mem Z σ, n, z))) 0 [some (.ref a)] [] (mem Z σ, n, z) 0 0
  unfold x_X2_isTooMuch at hx
  refine mm_aload_n dX2_isTooMuch_0 rfl rfl ?_
  refine s_getS (q := a + 1) (r := some a) (b := a) (ci := 2) (k := 0) in_X2 rfl (by decide) rfl kF_X2_12 dX2_isTooMuch_1 rfl hs (by decide) hn (by decide) rfl rfl ?_
  refine mm_iconst (v := 0) dX2_isTooMuch_4 (by decide) ?_
  obtain ⟨v2, hc1, hx⟩ := b1_some hx
  refine mm_callV3 (a := a + 1) (ci := 6) wM_X6_count kM_X2_203 wI_X6_count wS_X6_count dX2_isTooMuch_5 (e_X6_count hst hZ hn (sv2_0 hs) hc1) (mem_obj (sv2_0 hs) (by decide)) (sh_ltn (sv2_0 hs) (by decide) hn) rfl rfl rfl (Nat.le_of_ble_eq_true rfl) (by omega) (by omega) (fun v9 S9 hq => ?_)
  obtain ⟨rfl, rfl⟩ := hq
  refine ⟨fun h => ⟨h, rfl⟩, ?_⟩
  refine mm_bipush (v := 16) dX2_isTooMuch_8 (by decide) ?_
  refine b_if hx (fun h3 hx => ?_) (fun h3 hx => ?_)
  · refine mm_icmp_gt 78 dX2_isTooMuch_10 (by decide) (fun _ => ?_) (fun h => absurd h3 h)
    refine mm_iconst (v := 1) dX2_isTooMuch_78 (by decide) ?_
    refine mm_goto 83 dX2_isTooMuch_79 (by decide) ?_
    refine mm_iret dX2_isTooMuch_83 rfl rfl ?_ (by omega) (by omega)
    obtain rfl := fin1 hx
    exact ⟨rfl, rfl⟩
  · refine mm_icmp_gt 78 dX2_isTooMuch_10 (by decide) (fun h => absurd h h3) (fun _ => ?_)
    refine mm_aload_n dX2_isTooMuch_13 rfl rfl ?_
    refine s_getS (q := a + 1) (r := some a) (b := a) (ci := 2) (k := 0) in_X2 rfl (by decide) rfl kF_X2_12 dX2_isTooMuch_14 rfl hs (by decide) hn (by decide) rfl rfl ?_
    refine mm_iconst (v := 1) dX2_isTooMuch_17 (by decide) ?_
    obtain ⟨v5, hc4, hx⟩ := b1_some hx
    refine mm_callV3 (a := a + 1) (ci := 6) wM_X6_count kM_X2_203 wI_X6_count wS_X6_count dX2_isTooMuch_18 (e_X6_count hst hZ hn (sv2_0 hs) hc4) (mem_obj (sv2_0 hs) (by decide)) (sh_ltn (sv2_0 hs) (by decide) hn) rfl rfl rfl (Nat.le_of_ble_eq_true rfl) (by omega) (by omega) (fun v9 S9 hq => ?_)
    obtain ⟨rfl, rfl⟩ := hq
    refine ⟨fun h => ⟨h, rfl⟩, ?_⟩
    refine mm_bipush (v := 8) dX2_isTooMuch_21 (by decide) ?_
    refine b_if hx (fun h6 hx => ?_) (fun h6 hx => ?_)
    · refine mm_icmp_gt 78 dX2_isTooMuch_23 (by decide) (fun _ => ?_) (fun h => absurd h6 h)
      refine mm_iconst (v := 1) dX2_isTooMuch_78 (by decide) ?_
      refine mm_goto 83 dX2_isTooMuch_79 (by decide) ?_
      refine mm_iret dX2_isTooMuch_83 rfl rfl ?_ (by omega) (by omega)
      obtain rfl := fin1 hx
      exact ⟨rfl, rfl⟩
    · refine mm_icmp_gt 78 dX2_isTooMuch_23 (by decide) (fun h => absurd h h6) (fun _ => ?_)
      refine mm_aload_n dX2_isTooMuch_26 rfl rfl ?_
      refine s_getS (q := a + 1) (r := some a) (b := a) (ci := 2) (k := 0) in_X2 rfl (by decide) rfl kF_X2_12 dX2_isTooMuch_27 rfl hs (by decide) hn (by decide) rfl rfl ?_
      refine mm_iconst (v := 2) dX2_isTooMuch_30 (by decide) ?_
      obtain ⟨v8, hc7, hx⟩ := b1_some hx
      refine mm_callV3 (a := a + 1) (ci := 6) wM_X6_count kM_X2_203 wI_X6_count wS_X6_count dX2_isTooMuch_31 (e_X6_count hst hZ hn (sv2_0 hs) hc7) (mem_obj (sv2_0 hs) (by decide)) (sh_ltn (sv2_0 hs) (by decide) hn) rfl rfl rfl (Nat.le_of_ble_eq_true rfl) (by omega) (by omega) (fun v9 S9 hq => ?_)
      obtain ⟨rfl, rfl⟩ := hq
      refine ⟨fun h => ⟨h, rfl⟩, ?_⟩
      refine mm_bipush (v := 60) dX2_isTooMuch_34 (by decide) ?_
      refine b_if hx (fun h9 hx => ?_) (fun h9 hx => ?_)
      · refine mm_icmp_gt 78 dX2_isTooMuch_36 (by decide) (fun _ => ?_) (fun h => absurd h9 h)
        refine mm_iconst (v := 1) dX2_isTooMuch_78 (by decide) ?_
        refine mm_goto 83 dX2_isTooMuch_79 (by decide) ?_
        refine mm_iret dX2_isTooMuch_83 rfl rfl ?_ (by omega) (by omega)
        obtain rfl := fin1 hx
        exact ⟨rfl, rfl⟩
      · refine mm_icmp_gt 78 dX2_isTooMuch_36 (by decide) (fun h => absurd h h9) (fun _ => ?_)
        refine mm_aload_n dX2_isTooMuch_39 rfl rfl ?_
        refine s_getS (q := a + 1) (r := some a) (b := a) (ci := 2) (k := 0) in_X2 rfl (by decide) rfl kF_X2_12 dX2_isTooMuch_40 rfl hs (by decide) hn (by decide) rfl rfl ?_
        refine mm_iconst (v := 3) dX2_isTooMuch_43 (by decide) ?_
        obtain ⟨v11, hc10, hx⟩ := b1_some hx
        refine mm_callV3 (a := a + 1) (ci := 6) wM_X6_count kM_X2_203 wI_X6_count wS_X6_count dX2_isTooMuch_44 (e_X6_count hst hZ hn (sv2_0 hs) hc10) (mem_obj (sv2_0 hs) (by decide)) (sh_ltn (sv2_0 hs) (by decide) hn) rfl rfl rfl (Nat.le_of_ble_eq_true rfl) (by omega) (by omega) (fun v9 S9 hq => ?_)
        obtain ⟨rfl, rfl⟩ := hq
        refine ⟨fun h => ⟨h, rfl⟩, ?_⟩
        refine mm_bipush (v := 40) dX2_isTooMuch_47 (by decide) ?_
        refine b_if hx (fun h12 hx => ?_) (fun h12 hx => ?_)
        · refine mm_icmp_gt 78 dX2_isTooMuch_49 (by decide) (fun _ => ?_) (fun h => absurd h12 h)
          refine mm_iconst (v := 1) dX2_isTooMuch_78 (by decide) ?_
          refine mm_goto 83 dX2_isTooMuch_79 (by decide) ?_
          refine mm_iret dX2_isTooMuch_83 rfl rfl ?_ (by omega) (by omega)
          obtain rfl := fin1 hx
          exact ⟨rfl, rfl⟩
        · refine mm_icmp_gt 78 dX2_isTooMuch_49 (by decide) (fun h => absurd h h12) (fun _ => ?_)
          refine mm_aload_n dX2_isTooMuch_52 rfl rfl ?_
          refine s_getS (q := a + 1) (r := some a) (b := a) (ci := 2) (k := 0) in_X2 rfl (by decide) rfl kF_X2_12 dX2_isTooMuch_53 rfl hs (by decide) hn (by decide) rfl rfl ?_
          refine mm_iconst (v := 4) dX2_isTooMuch_56 (by decide) ?_
          obtain ⟨v14, hc13, hx⟩ := b1_some hx
          refine mm_callV3 (a := a + 1) (ci := 6) wM_X6_count kM_X2_203 wI_X6_count wS_X6_count dX2_isTooMuch_57 (e_X6_count hst hZ hn (sv2_0 hs) hc13) (mem_obj (sv2_0 hs) (by decide)) (sh_ltn (sv2_0 hs) (by decide) hn) rfl rfl rfl (Nat.le_of_ble_eq_true rfl) (by omega) (by omega) (fun v9 S9 hq => ?_)
          obtain ⟨rfl, rfl⟩ := hq
          refine ⟨fun h => ⟨h, rfl⟩, ?_⟩
          refine mm_bipush (v := 16) dX2_isTooMuch_60 (by decide) ?_
          refine b_if hx (fun h15 hx => ?_) (fun h15 hx => ?_)
          · refine mm_icmp_gt 78 dX2_isTooMuch_62 (by decide) (fun _ => ?_) (fun h => absurd h15 h)
            refine mm_iconst (v := 1) dX2_isTooMuch_78 (by decide) ?_
            refine mm_goto 83 dX2_isTooMuch_79 (by decide) ?_
            refine mm_iret dX2_isTooMuch_83 rfl rfl ?_ (by omega) (by omega)
            obtain rfl := fin1 hx
            exact ⟨rfl, rfl⟩
          · refine mm_icmp_gt 78 dX2_isTooMuch_62 (by decide) (fun h => absurd h h15) (fun _ => ?_)
            refine mm_aload_n dX2_isTooMuch_65 rfl rfl ?_
            refine s_getS (q := a + 1) (r := some a) (b := a) (ci := 2) (k := 0) in_X2 rfl (by decide) rfl kF_X2_12 dX2_isTooMuch_66 rfl hs (by decide) hn (by decide) rfl rfl ?_
            obtain ⟨v17, hc16, hx⟩ := b1_some hx
            refine mm_callV3 (a := a + 1) (ci := 6) wM_X6_nameBytes kM_X2_205 wI_X6_nameBytes wS_X6_nameBytes dX2_isTooMuch_69 (e_X6_nameBytes hst hZ hn (sv2_0 hs) hc16) (mem_obj (sv2_0 hs) (by decide)) (sh_ltn (sv2_0 hs) (by decide) hn) rfl rfl rfl (Nat.le_of_ble_eq_true rfl) (by omega) (by omega) (fun v9 S9 hq => ?_)
            obtain ⟨rfl, rfl⟩ := hq
            refine ⟨fun h => ⟨h, rfl⟩, ?_⟩
            refine mm_sipush (v := 600) dX2_isTooMuch_72 (by decide) ?_
            refine b_if hx (fun h18 hx => ?_) (fun h18 hx => ?_)
            · refine mm_icmp_le 82 dX2_isTooMuch_75 (by decide) (fun h => absurd h (Int32.not_le.mpr h18)) (fun _ => ?_)
              refine mm_iconst (v := 1) dX2_isTooMuch_78 (by decide) ?_
              refine mm_goto 83 dX2_isTooMuch_79 (by decide) ?_
              refine mm_iret dX2_isTooMuch_83 rfl rfl ?_ (by omega) (by omega)
              obtain rfl := fin1 hx
              exact ⟨rfl, rfl⟩
            · refine mm_icmp_le 82 dX2_isTooMuch_75 (by decide) (fun _ => ?_) (fun h => absurd (Int32.not_lt.mp h18) h)
              refine mm_iconst (v := 0) dX2_isTooMuch_82 (by decide) ?_
              refine mm_iret dX2_isTooMuch_83 rfl rfl ?_ (by omega) (by omega)
              obtain rfl := fin1 hx
              exact ⟨rfl, rfl⟩
set_option maxHeartbeats 4000000 in
set_option maxRecDepth 100000 in
theorem e_X2_run_L65 {g : mm_G} {l : Launch} (hst : l.stackTraces = false) {Z : Nat → Nat → Option Nat} (hZ : HZ Z) {n : Nat} (hn : 1186 ≤ n) {z : Bool} {d : Nat} {U : Nat} {a : Nat} (hs : sh a = 2) {k102 : SG → Option (Int32 × SG)} {v1_ : Option Nat} {r : Int32} {σ' : SG} (hk102 : ∀ (σ8 : SG), k102 σ8 = some (r, σ') → mm_V g l RX2 "run" cX2_run 3 (some .int) [] (d + 9) 0 0 (mm_nt (fun v S' => v = some (.int r) ∧ S' = (mem Z σ', n, z))) 102 [some (.ref a), some (va_rf v1_), none] [] (mem Z σ8, n, z) 0 0) : ∀ (U1 : Nat) (v2_ : Int32) (σ : SG), x_X2_run_L65 U a k102 v1_ U1 v2_ σ = some (r, σ') → mm_V g l RX2 "run" cX2_run 3 (some .int) [] (d + 9) 0 0 (mm_nt (fun v S' => v = some (.int r) ∧ S' = (mem Z σ', n, z))) 65 [some (.ref a), some (va_rf v1_), some (.int v2_)] [] (mem Z σ, n, z) 0 0 := by
  intro U1
  induction U1 with
  | zero => intro v2_ σ hx; exact absurd hx (by simp [x_X2_run_L65])
  | succ U1 ih =>
    intro v2_ σ hx
    rw [x_X2_run_L65] at hx
    refine mm_iload_n dX2_run_65 rfl ?_
    refine mm_aload_n dX2_run_66 rfl rfl ?_
    refine s_getS (q := a + 1) (r := some a) (b := a) (ci := 2) (k := 0) in_X2 rfl (by decide) rfl kF_X2_12 dX2_run_67 rfl hs (by decide) hn (by decide) rfl rfl ?_
    obtain ⟨v24, hc23, hx⟩ := b1_some hx
    refine mm_callV3 (a := a + 1) (ci := 6) wM_X6_used kM_X2_69 wI_X6_used wS_X6_used dX2_run_70 (e_X6_used hst hZ hn (sv2_0 hs) hc23) (mem_obj (sv2_0 hs) (by decide)) (sh_ltn (sv2_0 hs) (by decide) hn) rfl rfl rfl (Nat.le_of_ble_eq_true rfl) (by omega) (by omega) (fun v9 S9 hq => ?_)
    obtain ⟨rfl, rfl⟩ := hq
    refine ⟨fun h => ⟨h, rfl⟩, ?_⟩
    refine b_if hx (fun h25 hx => ?_) (fun h25 hx => ?_)
    · refine mm_icmp_ge 102 dX2_run_73 (by decide) (fun h => absurd h (Int32.not_le.mpr h25)) (fun _ => ?_)
      refine mm_aload_n dX2_run_76 rfl rfl ?_
      refine s_getI (r := some a) (b := a) (ci := 2) (k := 3) in_X2 rfl (by decide) rfl kF_X2_63 dX2_run_77 rfl hs (by decide) hn (by decide) rfl ?_
      refine b_if hx (fun h26 hx => ?_) (fun h26 hx => ?_)
      · refine mm_if_ne 102 dX2_run_80 (by decide) (fun h => absurd h26 h) (fun _ => ?_)
        refine mm_aload_n dX2_run_83 rfl rfl ?_
        refine mm_aload_n dX2_run_84 rfl rfl ?_
        refine s_getS (q := a + 1) (r := some a) (b := a) (ci := 2) (k := 0) in_X2 rfl (by decide) rfl kF_X2_12 dX2_run_85 rfl hs (by decide) hn (by decide) rfl rfl ?_
        refine mm_iload_n dX2_run_88 rfl ?_
        obtain ⟨v28, hc27, hx⟩ := b1_some hx
        refine mm_callV3 (a := a + 1) (ci := 6) wM_X6_item kM_X2_72 wI_X6_item wS_X6_item dX2_run_89 (e_X6_item hst hZ hn (sv2_0 hs) hc27) (mem_obj (sv2_0 hs) (by decide)) (sh_ltn (sv2_0 hs) (by decide) hn) rfl rfl rfl (Nat.le_of_ble_eq_true rfl) (by omega) (by omega) (fun v9 S9 hq => ?_)
        obtain ⟨rfl, rfl⟩ := hq
        refine ⟨fun h => ⟨h, rfl⟩, ?_⟩
        refine mm_iload_n dX2_run_92 rfl ?_
        obtain ⟨σ30, hc29, hx⟩ := b1_some hx
        refine mm_callV3 (a := a) (ci := 2) wM_X2_judge kM_X2_76 wI_X2_judge wS_X2_judge dX2_run_93 (e_X2_judge hst hZ hn hs hc29) (mem_obj hs (by decide)) (sh_ltn hs (by decide) hn) rfl rfl rfl (Nat.le_of_ble_eq_true rfl) (by omega) (by omega) (fun v9 S9 hq => ?_)
        obtain ⟨rfl, rfl⟩ := hq
        refine ⟨fun h => ⟨h, rfl⟩, ?_⟩
        refine mm_iinc (v := v2_ + 1) [some (.ref a), some (va_rf v1_), some (.int (v2_ + 1))] dX2_run_96 rfl rfl (by decide) ((st1_o (r := v1_) rfl).trans rfl) ?_
        refine mm_goto 65 dX2_run_99 (by decide) ?_
        exact ih _ _ hx
      · refine mm_if_ne 102 dX2_run_80 (by decide) (fun _ => ?_) (fun h => absurd h h26)
        refine mm_fewer [some (.ref a), some (va_rf v1_), none] (few_ok (bs := [true, true, false]) rfl) ?_
        exact hk102  _ hx
    · refine mm_icmp_ge 102 dX2_run_73 (by decide) (fun _ => ?_) (fun h => absurd (Int32.not_lt.mp h25) h)
      refine mm_fewer [some (.ref a), some (va_rf v1_), none] (few_ok (bs := [true, true, false]) rfl) ?_
      exact hk102  _ hx
set_option maxHeartbeats 4000000 in
set_option maxRecDepth 100000 in
theorem e_X2_run_126 {g : mm_G} {l : Launch} (hst : l.stackTraces = false) {Z : Nat → Nat → Option Nat} (hZ : HZ Z) {n : Nat} (hn : 1186 ≤ n) {z : Bool} {d : Nat} {U : Nat} {a : Nat} (hs : sh a = 2) {σ : SG} {r : Int32} {σ' : SG} (hx : x_X2_run_126 U a σ = some (r, σ')) : mm_V g l RX2 "run" cX2_run 3 (some .int) [] (d + 9) 0 0 (mm_nt (fun v S' => v = some (.int r) ∧ S' = (mem Z σ', n, z))) 126 [some (.ref a), none, none] [] (mem Z σ, n, z) 0 0 := by
  unfold x_X2_run_126 at hx
  refine mm_aload_n dX2_run_126 rfl rfl ?_
  refine s_getI (r := some a) (b := a) (ci := 2) (k := 3) in_X2 rfl (by decide) rfl kF_X2_63 dX2_run_127 rfl hs (by decide) hn (by decide) rfl ?_
  refine b_if hx (fun h36 hx => ?_) (fun h36 hx => ?_)
  · refine mm_if_eq 140 dX2_run_130 (by decide) (fun _ => ?_) (fun h => absurd h36 h)
    refine mm_aload_n dX2_run_140 rfl rfl ?_
    refine s_getI (r := some a) (b := a) (ci := 2) (k := 3) in_X2 rfl (by decide) rfl kF_X2_63 dX2_run_141 rfl hs (by decide) hn (by decide) rfl ?_
    refine mm_iret dX2_run_144 rfl rfl ?_ (by omega) (by omega)
    obtain ⟨rfl, rfl⟩ := fin2 hx
    exact ⟨rfl, rfl⟩
  · refine mm_if_eq 140 dX2_run_130 (by decide) (fun h => absurd h h36) (fun _ => ?_)
    refine mm_aload_n dX2_run_133 rfl rfl ?_
    refine s_getS (q := a + 1) (r := some a) (b := a) (ci := 2) (k := 0) in_X2 rfl (by decide) rfl kF_X2_12 dX2_run_134 rfl hs (by decide) hn (by decide) rfl rfl ?_
    obtain ⟨σ38, hc37, hx⟩ := b1_some hx
    refine mm_callV3 (a := a + 1) (ci := 6) wM_X6_clear kM_X2_44 wI_X6_clear wS_X6_clear dX2_run_137 (e_X6_clear hst hZ hn (sv2_0 hs) hc37) (mem_obj (sv2_0 hs) (by decide)) (sh_ltn (sv2_0 hs) (by decide) hn) rfl rfl rfl (Nat.le_of_ble_eq_true rfl) (by omega) (by omega) (fun v9 S9 hq => ?_)
    obtain ⟨rfl, rfl⟩ := hq
    refine ⟨fun h => ⟨h, rfl⟩, ?_⟩
    refine mm_aload_n dX2_run_140 rfl rfl ?_
    refine s_getI (r := some a) (b := a) (ci := 2) (k := 3) in_X2 rfl (by decide) rfl kF_X2_63 dX2_run_141 rfl hs (by decide) hn (by decide) rfl ?_
    refine mm_iret dX2_run_144 rfl rfl ?_ (by omega) (by omega)
    obtain ⟨rfl, rfl⟩ := fin2 hx
    exact ⟨rfl, rfl⟩
set_option maxHeartbeats 4000000 in
set_option maxRecDepth 100000 in
theorem e_X2_run_102 {g : mm_G} {l : Launch} (hst : l.stackTraces = false) {Z : Nat → Nat → Option Nat} (hZ : HZ Z) {n : Nat} (hn : 1186 ≤ n) {z : Bool} {d : Nat} {U : Nat} {a : Nat} (hs : sh a = 2) {v1_ : Option Nat} {σ : SG} {r : Int32} {σ' : SG} (hx : x_X2_run_102 U a v1_ σ = some (r, σ')) : mm_V g l RX2 "run" cX2_run 3 (some .int) [] (d + 9) 0 0 (mm_nt (fun v S' => v = some (.int r) ∧ S' = (mem Z σ', n, z))) 102 [some (.ref a), some (va_rf v1_), none] [] (mem Z σ, n, z) 0 0 := by
  unfold x_X2_run_102 at hx
  refine mm_aload_n dX2_run_102 rfl rfl ?_
  refine s_getI (r := some a) (b := a) (ci := 2) (k := 3) in_X2 rfl (by decide) rfl kF_X2_63 dX2_run_103 rfl hs (by decide) hn (by decide) rfl ?_
  refine b_if hx (fun h32 hx => ?_) (fun h32 hx => ?_)
  · refine mm_if_ne 126 dX2_run_106 (by decide) (fun h => absurd h32 h) (fun _ => ?_)
    refine mm_aload_n dX2_run_109 rfl rfl ?_
    obtain ⟨v34, hc33, hx⟩ := b1_some hx
    refine mm_callV3 (a := a) (ci := 2) wM_X2_isTooMuch kM_X2_80 wI_X2_isTooMuch wS_X2_isTooMuch dX2_run_110 (e_X2_isTooMuch hst hZ hn hs hc33) (mem_obj hs (by decide)) (sh_ltn hs (by decide) hn) rfl rfl rfl (Nat.le_of_ble_eq_true rfl) (by omega) (by omega) (fun v9 S9 hq => ?_)
    obtain ⟨rfl, rfl⟩ := hq
    refine ⟨fun h => ⟨h, rfl⟩, ?_⟩
    refine b_if hx (fun h35 hx => ?_) (fun h35 hx => ?_)
    · refine mm_if_eq 126 dX2_run_113 (by decide) (fun _ => ?_) (fun h => absurd h35 h)
      refine mm_fewer [some (.ref a), none, none] (few_ok (bs := [true, false, false]) rfl) ?_
      exact e_X2_run_126 hst hZ hn hs hx
    · refine mm_if_eq 126 dX2_run_113 (by decide) (fun h => absurd h h35) (fun _ => ?_)
      refine mm_aload_n dX2_run_116 rfl rfl ?_
      refine mm_bipush (v := 7) dX2_run_117 (by decide) ?_
      refine mm_aload_n dX2_run_119 rfl (isr_rf _) ?_
      obtain ⟨q39, hr40, hs41, hx⟩ := ck_some hx
      obtain ⟨v43, hc42, hx⟩ := b1_some hx
      refine mm_callV3 (a := q39) (ci := 0) wM_X0_size kM_X2_47 wI_X0_size wS_X0_size dX2_run_120 (e_X0_size hst hZ hn hs41 hc42) (mem_obj hs41 (by decide)) (sh_ltn hs41 (by decide) hn) rfl rfl (by rw [hr40]; rfl) (Nat.le_of_ble_eq_true rfl) (by omega) (by omega) (fun v9 S9 hq => ?_)
      obtain ⟨rfl, rfl⟩ := hq
      refine ⟨fun h => ⟨h, rfl⟩, ?_⟩
      obtain ⟨σ45, hc44, hx⟩ := b1_some hx
      refine mm_callV3 (a := a) (ci := 2) wM_X2_fail kM_X2_84 wI_X2_fail wS_X2_fail dX2_run_123 (e_X2_fail hst hZ hn hs hc44) (mem_obj hs (by decide)) (sh_ltn hs (by decide) hn) rfl rfl rfl (Nat.le_of_ble_eq_true rfl) (by omega) (by omega) (fun v9 S9 hq => ?_)
      obtain ⟨rfl, rfl⟩ := hq
      refine ⟨fun h => ⟨h, rfl⟩, ?_⟩
      refine mm_fewer [some (.ref a), none, none] (few_ok (bs := [true, false, false]) rfl) ?_
      exact e_X2_run_126 hst hZ hn hs hx
  · refine mm_if_ne 126 dX2_run_106 (by decide) (fun _ => ?_) (fun h => absurd h h32)
    refine mm_fewer [some (.ref a), none, none] (few_ok (bs := [true, false, false]) rfl) ?_
    exact e_X2_run_126 hst hZ hn hs hx
set_option maxHeartbeats 4000000 in
set_option maxRecDepth 100000 in
theorem e_X2_run_60 {g : mm_G} {l : Launch} (hst : l.stackTraces = false) {Z : Nat → Nat → Option Nat} (hZ : HZ Z) {n : Nat} (hn : 1186 ≤ n) {z : Bool} {d : Nat} {U : Nat} {a : Nat} (hs : sh a = 2) {v1_ : Option Nat} {s0_ : Int32} {σ : SG} {r : Int32} {σ' : SG} (hx : x_X2_run_60 U a v1_ s0_ σ = some (r, σ')) : mm_V g l RX2 "run" cX2_run 3 (some .int) [] (d + 9) 0 0 (mm_nt (fun v S' => v = some (.int r) ∧ S' = (mem Z σ', n, z))) 60 [some (.ref a), some (va_rf v1_), none] [.int s0_, .ref a] (mem Z σ, n, z) 0 0 := by
  unfold x_X2_run_60 at hx
  refine s_putI (v := s0_) (r := some a) (b := a) (ci := 2) (k := 4) in_X2 rfl (by decide) rfl tyX2_ok nmX2 rfl kF_X2_40 dX2_run_60 (mm_fit_int _) rfl hs (by decide) hn (by decide) rfl hx (fun σ22 hx => ?_)
  refine mm_iconst (v := 0) dX2_run_63 (by decide) ?_
  refine mm_istore_n [some (.ref a), some (va_rf v1_), some (.int 0)] dX2_run_64 (by decide) ((st1_o (r := v1_) rfl).trans rfl) ?_
  refine e_X2_run_L65 hst hZ hn hs ?_ _ _ _ hx
  · intro  σ31 hx
    exact e_X2_run_102 hst hZ hn hs hx
set_option maxHeartbeats 4000000 in
set_option maxRecDepth 100000 in
theorem e_X2_run {g : mm_G} {l : Launch} (hst : l.stackTraces = false) {Z : Nat → Nat → Option Nat} (hZ : HZ Z) {n : Nat} (hn : 1186 ≤ n) {z : Bool} {d : Nat} {U : Nat} {a : Nat} (hs : sh a = 2) {p0 : Option Nat} {σ : SG} {r : Int32} {σ' : SG} (hx : x_X2_run U a p0 σ = some (r, σ')) : mm_Cm g l yX2_run (.code yX2_run cX2_run 3 (some .int)) (d + 9) 0 0 [.ref a, va_rf p0] (mem Z σ, n, z) (fun v S' => v = some (.int r) ∧ S' = (mem Z σ', n, z)) := by
  refine mm_Cm_of hst (by decide) (by cases p0 <;>  exact Nat.le_of_ble_eq_true rfl) ?_
  rw [show mm_ent [.ref a, va_rf p0] 3 = [some (.ref a), some (va_rf p0), none] from by cases p0 <;>  rfl]
  show mm_V g l RX2 "run" cX2_run 3 (some .int) [] (d + 9) 0 0 (mm_nt (fun v S' => v = some (.int r) ∧ S' = (mem Z σ', n, z))) 0 [some (.ref a), some (va_rf p0), none] [] (mem Z σ, n, z) 0 0
  unfold x_X2_run at hx
  refine mm_aload_n dX2_run_0 rfl rfl ?_
  refine s_getS (q := a + 1) (r := some a) (b := a) (ci := 2) (k := 0) in_X2 rfl (by decide) rfl kF_X2_12 dX2_run_1 rfl hs (by decide) hn (by decide) rfl rfl ?_
  obtain ⟨σ2, hc1, hx⟩ := b1_some hx
  refine mm_callV3 (a := a + 1) (ci := 6) wM_X6_clear kM_X2_44 wI_X6_clear wS_X6_clear dX2_run_4 (e_X6_clear hst hZ hn (sv2_0 hs) hc1) (mem_obj (sv2_0 hs) (by decide)) (sh_ltn (sv2_0 hs) (by decide) hn) rfl rfl rfl (Nat.le_of_ble_eq_true rfl) (by omega) (by omega) (fun v9 S9 hq => ?_)
  obtain ⟨rfl, rfl⟩ := hq
  refine ⟨fun h => ⟨h, rfl⟩, ?_⟩
  refine mm_aload_n dX2_run_7 rfl rfl ?_
  refine s_getS (q := a + 1) (r := some a) (b := a) (ci := 2) (k := 0) in_X2 rfl (by decide) rfl kF_X2_12 dX2_run_8 rfl hs (by decide) hn (by decide) rfl rfl ?_
  obtain ⟨v4, hc3, hx⟩ := b1_some hx
  refine mm_callV3 (a := a + 1) (ci := 6) wM_X6_text kM_X2_20 wI_X6_text wS_X6_text dX2_run_11 (e_X6_text hst hZ hn (sv2_0 hs) hc3) (mem_obj (sv2_0 hs) (by decide)) (sh_ltn (sv2_0 hs) (by decide) hn) rfl rfl rfl (Nat.le_of_ble_eq_true rfl) (by omega) (by omega) (fun v9 S9 hq => ?_)
  obtain ⟨rfl, rfl⟩ := hq
  refine ⟨fun h => ⟨h, rfl⟩, ?_⟩
  refine mm_aload_n dX2_run_14 rfl (isr_rf _) ?_
  refine mm_iconst (v := 0) dX2_run_15 (by decide) ?_
  refine mm_aload_n dX2_run_16 rfl (isr_rf _) ?_
  obtain ⟨q5, hr6, hs7, hx⟩ := ck_some hx
  obtain ⟨v9, hc8, hx⟩ := b1_some hx
  refine mm_callV3 (a := q5) (ci := 0) wM_X0_size kM_X2_47 wI_X0_size wS_X0_size dX2_run_17 (e_X0_size hst hZ hn hs7 hc8) (mem_obj hs7 (by decide)) (sh_ltn hs7 (by decide) hn) rfl rfl (by rw [hr6]; rfl) (show (([.int 0, va_rf p0, va_rf v4] : List Value).map fun v => v.category).sum ≤ 8 by simp only [List.map_cons, List.map_nil, List.sum_cons, List.sum_nil, cat_rf]; exact Nat.le_of_ble_eq_true rfl) (by omega) (by omega) (fun v9 S9 hq => ?_)
  obtain ⟨rfl, rfl⟩ := hq
  refine ⟨fun h => ⟨h, rfl⟩, ?_⟩
  obtain ⟨q10, hr11, hs12, hx⟩ := ck_some hx
  obtain ⟨σ14, hc13, hx⟩ := b1_some hx
  refine mm_callV3 (a := q10) (ci := 0) wM_X0_addAll kM_X2_53 wI_X0_addAll wS_X0_addAll dX2_run_20 (e_X0_addAll hst hZ hn hs12 hc13) (mem_obj hs12 (by decide)) (sh_ltn hs12 (by decide) hn) rfl rfl (by rw [hr11]; rfl) (Nat.le_of_ble_eq_true rfl) (by omega) (by omega) (fun v9 S9 hq => ?_)
  obtain ⟨rfl, rfl⟩ := hq
  refine ⟨fun h => ⟨h, rfl⟩, ?_⟩
  refine mm_aload_n dX2_run_23 rfl rfl ?_
  refine s_getS (q := a + 186) (r := some a) (b := a) (ci := 2) (k := 1) in_X2 rfl (by decide) rfl kF_X2_27 dX2_run_24 rfl hs (by decide) hn (by decide) rfl rfl ?_
  obtain ⟨σ16, hc15, hx⟩ := b1_some hx
  refine mm_callV3 (a := a + 186) (ci := 10) wM_X10_split kM_X2_57 wI_X10_split wS_X10_split dX2_run_27 (e_X10_split hst hZ hn (sv2_1 hs) hc15) (mem_obj (sv2_1 hs) (by decide)) (sh_ltn (sv2_1 hs) (by decide) hn) rfl rfl rfl (Nat.le_of_ble_eq_true rfl) (by omega) (by omega) (fun v9 S9 hq => ?_)
  obtain ⟨rfl, rfl⟩ := hq
  refine ⟨fun h => ⟨h, rfl⟩, ?_⟩
  refine mm_aload_n dX2_run_30 rfl rfl ?_
  refine mm_aload_n dX2_run_31 rfl rfl ?_
  refine s_getS (q := a + 191) (r := some a) (b := a) (ci := 2) (k := 2) in_X2 rfl (by decide) rfl kF_X2_36 dX2_run_32 rfl hs (by decide) hn (by decide) rfl rfl ?_
  obtain ⟨v18, σ19, hc17, hx⟩ := b2_some hx
  refine mm_callV3 (a := a + 191) (ci := 5) wM_X5_read kM_X2_60 wI_X5_read wS_X5_read dX2_run_35 (e_X5_read hst hZ hn (sv2_2 hs) hc17) (mem_obj (sv2_2 hs) (by decide)) (sh_ltn (sv2_2 hs) (by decide) hn) rfl rfl rfl (Nat.le_of_ble_eq_true rfl) (by omega) (by omega) (fun v9 S9 hq => ?_)
  obtain ⟨rfl, rfl⟩ := hq
  refine ⟨fun h => ⟨h, rfl⟩, ?_⟩
  refine s_putI (v := v18) (r := some a) (b := a) (ci := 2) (k := 3) in_X2 rfl (by decide) rfl tyX2_ok nmX2 rfl kF_X2_63 dX2_run_38 (mm_fit_int _) rfl hs (by decide) hn (by decide) rfl hx (fun σ20 hx => ?_)
  refine mm_aload_n dX2_run_41 rfl rfl ?_
  refine mm_aload_n dX2_run_42 rfl rfl ?_
  refine s_getI (r := some a) (b := a) (ci := 2) (k := 3) in_X2 rfl (by decide) rfl kF_X2_63 dX2_run_43 rfl hs (by decide) hn (by decide) rfl ?_
  refine b_if hx (fun h21 hx => ?_) (fun h21 hx => ?_)
  · refine mm_if_ne 53 dX2_run_46 (by decide) (fun h => absurd h21 h) (fun _ => ?_)
    refine mm_iconst (v := (-1)) dX2_run_49 (by decide) ?_
    refine mm_goto 60 dX2_run_50 (by decide) ?_
    exact e_X2_run_60 hst hZ hn hs hx
  · refine mm_if_ne 53 dX2_run_46 (by decide) (fun _ => ?_) (fun h => absurd h h21)
    refine mm_aload_n dX2_run_53 rfl rfl ?_
    refine s_getS (q := a + 191) (r := some a) (b := a) (ci := 2) (k := 2) in_X2 rfl (by decide) rfl kF_X2_36 dX2_run_54 rfl hs (by decide) hn (by decide) rfl rfl ?_
    obtain ⟨v47, hc46, hx⟩ := b1_some hx
    refine mm_callV3 (a := a + 191) (ci := 5) wM_X5_endPlace kM_X2_66 wI_X5_endPlace wS_X5_endPlace dX2_run_57 (e_X5_endPlace hst hZ hn (sv2_2 hs) hc46) (mem_obj (sv2_2 hs) (by decide)) (sh_ltn (sv2_2 hs) (by decide) hn) rfl rfl rfl (Nat.le_of_ble_eq_true rfl) (by omega) (by omega) (fun v9 S9 hq => ?_)
    obtain ⟨rfl, rfl⟩ := hq
    refine ⟨fun h => ⟨h, rfl⟩, ?_⟩
    exact e_X2_run_60 hst hZ hn hs hx
set_option maxHeartbeats 4000000 in
set_option maxRecDepth 100000 in
theorem e_X2_faultAt {g : mm_G} {l : Launch} (hst : l.stackTraces = false) {Z : Nat → Nat → Option Nat} (hZ : HZ Z) {n : Nat} (hn : 1186 ≤ n) {z : Bool} {d : Nat} {a : Nat} (hs : sh a = 2) {σ : SG} {r : Int32} (hx : x_X2_faultAt a σ = some r) : mm_Cm g l yX2_faultAt (.code yX2_faultAt cX2_faultAt 1 (some .int)) (d) 0 0 [.ref a] (mem Z σ, n, z) (fun v S' => v = some (.int r) ∧ S' = (mem Z σ, n, z)) := by
  refine mm_Cm_of hst (by decide) (Nat.le_of_ble_eq_true rfl) ?_
  show mm_V g l RX2 "faultAt" cX2_faultAt 1 (some .int) [] (d) 0 0 (mm_nt (fun v S' => v = some (.int r) ∧ S' = (mem Z σ, n, z))) 0 [some (.ref a)] [] (mem Z σ, n, z) 0 0
  unfold x_X2_faultAt at hx
  refine mm_aload_n dX2_faultAt_0 rfl rfl ?_
  refine s_getI (r := some a) (b := a) (ci := 2) (k := 4) in_X2 rfl (by decide) rfl kF_X2_40 dX2_faultAt_1 rfl hs (by decide) hn (by decide) rfl ?_
  refine mm_iret dX2_faultAt_4 rfl rfl ?_ (by omega) (by omega)
  obtain rfl := fin1 hx
  exact ⟨rfl, rfl⟩
set_option maxHeartbeats 4000000 in
set_option maxRecDepth 100000 in
theorem e_X11_compile {g : mm_G} {l : Launch} (hst : l.stackTraces = false) {Z : Nat → Nat → Option Nat} (hZ : HZ Z) {n : Nat} (hn : 1186 ≤ n) {d : Nat} {U : Nat} {a : Nat} (hs : sh a = 11) {p0 : Int32} {σ : SG} {r : mm_R} {σ' : SG} (hx : x_X11_compile U a p0 σ = some (r, σ')) : mm_Ct g l yX11_compile (.code yX11_compile cX11_compile 4 (some .int)) (d + 10) 1 6 [.ref a, .int p0] (mem Z σ, n, true) (fun r9 S' => r9 = r ∧ S' = (mem Z σ', n, true)) := by
  refine mm_Ct_of hst (by decide) (Nat.le_of_ble_eq_true rfl) ?_
  show mm_V g l RX11 "compile" cX11_compile 4 (some .int) [] (d + 10) 1 6 (fun r9 S' => r9 = r ∧ S' = (mem Z σ', n, true)) 0 [some (.ref a), some (.int p0), none, none] [] (mem Z σ, n, true) 0 0
  unfold x_X11_compile at hx
  refine mm_aload_n dX11_compile_0 rfl rfl ?_
  refine mm_iload_n dX11_compile_1 rfl ?_
  obtain ⟨v2, hc1, hx⟩ := b1_some hx
  refine mm_callV3 (a := a) (ci := 11) wM_X11_compilerOf kM_X11_86 wI_X11_compilerOf wS_X11_compilerOf dX11_compile_2 (e_X11_compilerOf hst hZ hn hs hc1) (mem_obj hs (by decide)) (sh_ltn hs (by decide) hn) rfl rfl rfl (Nat.le_of_ble_eq_true rfl) (by omega) (by omega) (fun v9 S9 hq => ?_)
  obtain ⟨rfl, rfl⟩ := hq
  refine ⟨fun h => ⟨h, rfl⟩, ?_⟩
  refine mm_astore_n [some (.ref a), some (.int p0), some (va_rf v2), none] dX11_compile_5 (by decide) (isr_rf _) rfl ?_
  refine mm_aload_n dX11_compile_6 rfl (isr_rf _) ?_
  refine b_if hx (fun h3 hx => ?_) (fun h3 hx => ?_)
  · refine mm_ifnonnull (r := v2) 20 dX11_compile_7 (by decide) (fun h => absurd h3 h) (fun _ => ?_)
    refine mm_throw (k := 2) (text := "no such schema") (by decide) kC_X11_67 wj_IllegalArgumentException rfl at_71 rfl dX11_compile_10 dX11_compile_13 dX11_compile_14 dX11_compile_16 dX11_compile_19 (Nat.le_of_ble_eq_true rfl) (by omega) (by omega) ?_
    obtain ⟨rfl, rfl⟩ := fin2 hx
    exact ⟨rfl, rfl⟩
  · refine mm_ifnonnull (r := v2) 20 dX11_compile_7 (by decide) (fun _ => ?_) (fun h => absurd h h3)
    refine mm_aload_n dX11_compile_20 rfl rfl ?_
    refine s_getS (q := 389) (r := some a) (b := a) (ci := 11) (k := 4) in_X11 rfl (by decide) rfl kF_X11_34 dX11_compile_21 rfl hs (by decide) hn (by decide) rfl rfl ?_
    obtain ⟨σ5, hc4, hx⟩ := b1_some hx
    refine mm_callV3 (a := 389) (ci := 8) wM_X8_drop kM_X11_92 wI_X8_drop wS_X8_drop dX11_compile_24 (e_X8_drop hst hZ hn sa_389 hc4) (mem_obj sa_389 (by decide)) (sh_ltn sa_389 (by decide) hn) rfl rfl rfl (Nat.le_of_ble_eq_true rfl) (by omega) (by omega) (fun v9 S9 hq => ?_)
    obtain ⟨rfl, rfl⟩ := hq
    refine ⟨fun h => ⟨h, rfl⟩, ?_⟩
    refine mm_aload_n dX11_compile_27 rfl (isr_rf _) ?_
    refine mm_aload_n dX11_compile_28 rfl rfl ?_
    refine s_getS (q := 1) (r := some a) (b := a) (ci := 11) (k := 0) in_X11 rfl (by decide) rfl kF_X11_14 dX11_compile_29 rfl hs (by decide) hn (by decide) rfl rfl ?_
    obtain ⟨q6, hr7, hs8, hx⟩ := ck_some hx
    obtain ⟨v10, σ11, hc9, hx⟩ := b2_some hx
    refine mm_callV3 (a := q6) (ci := 2) wM_X2_run kM_X11_95 wI_X2_run wS_X2_run dX11_compile_32 (e_X2_run hst hZ hn hs8 hc9) (mem_obj hs8 (by decide)) (sh_ltn hs8 (by decide) hn) rfl rfl (by rw [hr7]; rfl) (Nat.le_of_ble_eq_true rfl) (by omega) (by omega) (fun v9 S9 hq => ?_)
    obtain ⟨rfl, rfl⟩ := hq
    refine ⟨fun h => ⟨h, rfl⟩, ?_⟩
    refine mm_istore_n [some (.ref a), some (.int p0), some (va_rf v2), some (.int v10)] dX11_compile_35 (by decide) ((st1_o (r := v2) rfl).trans rfl) ?_
    refine mm_aload_n dX11_compile_36 rfl rfl ?_
    refine s_getS (q := 1) (r := some a) (b := a) (ci := 11) (k := 0) in_X11 rfl (by decide) rfl kF_X11_14 dX11_compile_37 rfl hs (by decide) hn (by decide) rfl rfl ?_
    obtain ⟨σ13, hc12, hx⟩ := b1_some hx
    refine mm_callV3 (a := 1) (ci := 0) wM_X0_clear kM_X11_99 wI_X0_clear wS_X0_clear dX11_compile_40 (e_X0_clear hst hZ hn sa_1 hc12) (mem_obj sa_1 (by decide)) (sh_ltn sa_1 (by decide) hn) rfl rfl rfl (Nat.le_of_ble_eq_true rfl) (by omega) (by omega) (fun v9 S9 hq => ?_)
    obtain ⟨rfl, rfl⟩ := hq
    refine ⟨fun h => ⟨h, rfl⟩, ?_⟩
    refine mm_aload_n dX11_compile_43 rfl rfl ?_
    refine mm_aload_n dX11_compile_44 rfl (isr_rf _) ?_
    obtain ⟨v15, hc14, hx⟩ := b1_some hx
    refine mm_callV3 (a := q6) (ci := 2) wM_X2_faultAt kM_X11_102 wI_X2_faultAt wS_X2_faultAt dX11_compile_45 (e_X2_faultAt hst hZ hn hs8 hc14) (mem_obj hs8 (by decide)) (sh_ltn hs8 (by decide) hn) rfl rfl (by rw [hr7]; rfl) (Nat.le_of_ble_eq_true rfl) (by omega) (by omega) (fun v9 S9 hq => ?_)
    obtain ⟨rfl, rfl⟩ := hq
    refine ⟨fun h => ⟨h, rfl⟩, ?_⟩
    refine s_putI (v := v15) (r := some a) (b := a) (ci := 11) (k := 8) in_X11 rfl (by decide) rfl tyX11_ok nmX11 rfl kF_X11_63 dX11_compile_48 (mm_fit_int _) rfl hs (by decide) hn (by decide) rfl hx (fun σ16 hx => ?_)
    refine mm_iload_n dX11_compile_51 rfl ?_
    refine mm_iret dX11_compile_52 rfl rfl ?_ (by omega) (by omega)
    obtain ⟨rfl, rfl⟩ := fin2 hx
    exact ⟨rfl, rfl⟩
set_option maxHeartbeats 4000000 in
set_option maxRecDepth 100000 in
theorem e_X11_messageOf {g : mm_G} {l : Launch} (hst : l.stackTraces = false) {Z : Nat → Nat → Option Nat} (hZ : HZ Z) {n : Nat} (hn : 1186 ≤ n) {z : Bool} {d : Nat} {U : Nat} {a : Nat} (hs : sh a = 11) {p0 : Int32} {p1 : Int32} {σ : SG} {r : Option Nat} (hx : x_X11_messageOf U a p0 p1 σ = some r) : mm_Cm g l yX11_messageOf (.code yX11_messageOf cX11_messageOf 4 (some (.object "ProtoDesk$Item"))) (d + 2) 0 0 [.ref a, .int p0, .int p1] (mem Z σ, n, z) (fun v S' => v = some (va_rf r) ∧ S' = (mem Z σ, n, z)) := by
  refine mm_Cm_of hst (by decide) (Nat.le_of_ble_eq_true rfl) ?_
  show mm_V g l RX11 "messageOf" cX11_messageOf 4 (some (.object "ProtoDesk$Item")) [] (d + 2) 0 0 (mm_nt (fun v S' => v = some (va_rf r) ∧ S' = (mem Z σ, n, z))) 0 [some (.ref a), some (.int p0), some (.int p1), none] [] (mem Z σ, n, z) 0 0
  unfold x_X11_messageOf at hx
  refine mm_aload_n dX11_messageOf_0 rfl rfl ?_
  refine mm_iload_n dX11_messageOf_1 rfl ?_
  obtain ⟨v2, hc1, hx⟩ := b1_some hx
  refine mm_callV3 (a := a) (ci := 11) wM_X11_compilerOf kM_X11_86 wI_X11_compilerOf wS_X11_compilerOf dX11_messageOf_2 (e_X11_compilerOf hst hZ hn hs hc1) (mem_obj hs (by decide)) (sh_ltn hs (by decide) hn) rfl rfl rfl (Nat.le_of_ble_eq_true rfl) (by omega) (by omega) (fun v9 S9 hq => ?_)
  obtain ⟨rfl, rfl⟩ := hq
  refine ⟨fun h => ⟨h, rfl⟩, ?_⟩
  refine mm_astore_n [some (.ref a), some (.int p0), some (.int p1), some (va_rf v2)] dX11_messageOf_5 (by decide) (isr_rf _) rfl ?_
  refine mm_aload_n dX11_messageOf_6 rfl (isr_rf _) ?_
  refine b_if hx (fun h3 hx => ?_) (fun h3 hx => ?_)
  · refine mm_ifnonnull (r := v2) 14 dX11_messageOf_7 (by decide) (fun h => absurd h3 h) (fun _ => ?_)
    refine mm_null dX11_messageOf_10 ?_
    refine mm_goto 22 dX11_messageOf_11 (by decide) ?_
    refine mm_aret (a := none) dX11_messageOf_22 rfl ?_ (by omega) (by omega)
    obtain rfl := fin1 hx
    exact ⟨rfl, rfl⟩
  · refine mm_ifnonnull (r := v2) 14 dX11_messageOf_7 (by decide) (fun _ => ?_) (fun h => absurd h h3)
    refine mm_aload_n dX11_messageOf_14 rfl (isr_rf _) ?_
    obtain ⟨q4, hr5, hs6, hx⟩ := ck_some hx
    obtain ⟨v8, hc7, hx⟩ := b1_some hx
    refine mm_callV3 (a := q4) (ci := 2) wM_X2_schema kM_X11_109 wI_X2_schema wS_X2_schema dX11_messageOf_15 (e_X2_schema hst hZ hn hs6 hc7) (mem_obj hs6 (by decide)) (sh_ltn hs6 (by decide) hn) rfl rfl (by rw [hr5]; rfl) (Nat.le_of_ble_eq_true rfl) (by omega) (by omega) (fun v9 S9 hq => ?_)
    obtain ⟨rfl, rfl⟩ := hq
    refine ⟨fun h => ⟨h, rfl⟩, ?_⟩
    refine mm_iload_n dX11_messageOf_18 rfl ?_
    obtain ⟨q9, hr10, hs11, hx⟩ := ck_some hx
    obtain ⟨v13, hc12, hx⟩ := b1_some hx
    refine mm_callV3 (a := q9) (ci := 6) wM_X6_message kM_X11_193 wI_X6_message wS_X6_message dX11_messageOf_19 (e_X6_message hst hZ hn hs11 hc12) (mem_obj hs11 (by decide)) (sh_ltn hs11 (by decide) hn) rfl rfl (by rw [hr10]; rfl) (Nat.le_of_ble_eq_true rfl) (by omega) (by omega) (fun v9 S9 hq => ?_)
    obtain ⟨rfl, rfl⟩ := hq
    refine ⟨fun h => ⟨h, rfl⟩, ?_⟩
    refine mm_aret (a := v13) dX11_messageOf_22 rfl ?_ (by omega) (by omega)
    obtain rfl := fin1 hx
    exact ⟨rfl, rfl⟩
set_option maxHeartbeats 4000000 in
set_option maxRecDepth 100000 in
theorem e_X8_begin {g : mm_G} {l : Launch} (hst : l.stackTraces = false) {Z : Nat → Nat → Option Nat} (hZ : HZ Z) {n : Nat} (hn : 1186 ≤ n) {z : Bool} {d : Nat} {a : Nat} (hs : sh a = 8) {p0 : Option Nat} {p1 : Option Nat} {σ : SG} {σ' : SG} (hx : x_X8_begin a p0 p1 σ = some σ') : mm_Cm g l yX8_begin (.code yX8_begin cX8_begin 3 none) (d + 2) 0 0 [.ref a, va_rf p0, va_rf p1] (mem Z σ, n, z) (fun v S' => v = none ∧ S' = (mem Z σ', n, z)) := by
  refine mm_Cm_of hst (by decide) (by cases p0 <;> cases p1 <;>  exact Nat.le_of_ble_eq_true rfl) ?_
  rw [show mm_ent [.ref a, va_rf p0, va_rf p1] 3 = [some (.ref a), some (va_rf p0), some (va_rf p1)] from by cases p0 <;> cases p1 <;>  rfl]
  show mm_V g l RX8 "begin" cX8_begin 3 none [] (d + 2) 0 0 (mm_nt (fun v S' => v = none ∧ S' = (mem Z σ', n, z))) 0 [some (.ref a), some (va_rf p0), some (va_rf p1)] [] (mem Z σ, n, z) 0 0
  unfold x_X8_begin at hx
  refine mm_aload_n dX8_begin_0 rfl rfl ?_
  obtain ⟨σ2, hc1, hx⟩ := b1_some hx
  refine mm_callV3 (a := a) (ci := 8) wM_X8_drop kM_X8_56 wI_X8_drop wS_X8_drop dX8_begin_1 (e_X8_drop hst hZ hn hs hc1) (mem_obj hs (by decide)) (sh_ltn hs (by decide) hn) rfl rfl rfl (Nat.le_of_ble_eq_true rfl) (by omega) (by omega) (fun v9 S9 hq => ?_)
  obtain ⟨rfl, rfl⟩ := hq
  refine ⟨fun h => ⟨h, rfl⟩, ?_⟩
  refine mm_aload_n dX8_begin_4 rfl rfl ?_
  refine mm_aload_n dX8_begin_5 rfl (isr_rf _) ?_
  refine s_putP (v := p0) (r := some a) (b := a) (ci := 8) (k := 4) in_X8 rfl (by decide) rfl tyX8_ok nmX8 rfl kF_X8_37 dX8_begin_6 (mm_fit_r _ _) rfl hs (by decide) hn (by decide) rfl hx (fun σ3 hx => ?_)
  refine mm_aload_n dX8_begin_9 rfl rfl ?_
  refine mm_aload_n dX8_begin_10 rfl (isr_rf _) ?_
  refine s_putP (v := p1) (r := some a) (b := a) (ci := 8) (k := 5) in_X8 rfl (by decide) rfl tyX8_ok nmX8 rfl kF_X8_33 dX8_begin_11 (mm_fit_r _ _) rfl hs (by decide) hn (by decide) rfl hx (fun σ4 hx => ?_)
  refine mm_vret dX8_begin_14 rfl ?_ (by omega) (by omega)
  obtain rfl := fin1 hx
  exact ⟨rfl, rfl⟩
set_option maxHeartbeats 4000000 in
set_option maxRecDepth 100000 in
theorem e_X11_opens {g : mm_G} {l : Launch} (hst : l.stackTraces = false) {Z : Nat → Nat → Option Nat} (hZ : HZ Z) {n : Nat} (hn : 1186 ≤ n) {z : Bool} {d : Nat} {U : Nat} {a : Nat} (hs : sh a = 11) {p0 : Int32} {p1 : Int32} {p2 : Int32} {σ : SG} {r : Int32} {σ' : SG} (hx : x_X11_opens U a p0 p1 p2 σ = some (r, σ')) : mm_Cm g l yX11_opens (.code yX11_opens cX11_opens 6 (some .boolean)) (d + 3) 0 0 [.ref a, .int p0, .int p1, .int p2] (mem Z σ, n, z) (fun v S' => v = some (.int r) ∧ S' = (mem Z σ', n, z)) := by
  refine mm_Cm_of hst (by decide) (Nat.le_of_ble_eq_true rfl) ?_
  show mm_V g l RX11 "opens" cX11_opens 6 (some .boolean) [] (d + 3) 0 0 (mm_nt (fun v S' => v = some (.int r) ∧ S' = (mem Z σ', n, z))) 0 [some (.ref a), some (.int p0), some (.int p1), some (.int p2), none, none] [] (mem Z σ, n, z) 0 0
  unfold x_X11_opens at hx
  refine mm_aload_n dX11_opens_0 rfl rfl ?_
  refine mm_iload_n dX11_opens_1 rfl ?_
  obtain ⟨v2, hc1, hx⟩ := b1_some hx
  refine mm_callV3 (a := a) (ci := 11) wM_X11_compilerOf kM_X11_86 wI_X11_compilerOf wS_X11_compilerOf dX11_opens_2 (e_X11_compilerOf hst hZ hn hs hc1) (mem_obj hs (by decide)) (sh_ltn hs (by decide) hn) rfl rfl rfl (Nat.le_of_ble_eq_true rfl) (by omega) (by omega) (fun v9 S9 hq => ?_)
  obtain ⟨rfl, rfl⟩ := hq
  refine ⟨fun h => ⟨h, rfl⟩, ?_⟩
  refine mm_astore [some (.ref a), some (.int p0), some (.int p1), some (.int p2), some (va_rf v2), none] dX11_opens_5 (by decide) (isr_rf _) rfl ?_
  refine mm_aload_n dX11_opens_7 rfl rfl ?_
  refine mm_iload_n dX11_opens_8 rfl ?_
  refine mm_iload_n dX11_opens_9 rfl ?_
  obtain ⟨v4, hc3, hx⟩ := b1_some hx
  refine mm_callV3 (a := a) (ci := 11) wM_X11_messageOf kM_X11_119 wI_X11_messageOf wS_X11_messageOf dX11_opens_10 (e_X11_messageOf hst hZ hn hs hc3) (mem_obj hs (by decide)) (sh_ltn hs (by decide) hn) rfl rfl rfl (Nat.le_of_ble_eq_true rfl) (by omega) (by omega) (fun v9 S9 hq => ?_)
  obtain ⟨rfl, rfl⟩ := hq
  refine ⟨fun h => ⟨h, rfl⟩, ?_⟩
  refine mm_astore [some (.ref a), some (.int p0), some (.int p1), some (.int p2), some (va_rf v2), some (va_rf v4)] dX11_opens_13 (by decide) (isr_rf _) ((st1_o (r := v2) rfl).trans rfl) ?_
  refine mm_aload dX11_opens_15 rfl (isr_rf _) ?_
  refine b_if hx (fun h5 hx => ?_) (fun h5 hx => ?_)
  · refine mm_ifnull (r := v2) 36 dX11_opens_17 (by decide) (fun _ => ?_) (fun h => absurd h5 h)
    refine mm_iconst (v := 0) dX11_opens_36 (by decide) ?_
    refine mm_iret dX11_opens_37 rfl rfl ?_ (by omega) (by omega)
    obtain ⟨rfl, rfl⟩ := fin2 hx
    exact ⟨rfl, rfl⟩
  · refine mm_ifnull (r := v2) 36 dX11_opens_17 (by decide) (fun h => absurd h h5) (fun _ => ?_)
    refine mm_aload dX11_opens_20 rfl (isr_rf _) ?_
    refine b_if hx (fun h6 hx => ?_) (fun h6 hx => ?_)
    · refine mm_ifnull (r := v4) 36 dX11_opens_22 (by decide) (fun _ => ?_) (fun h => absurd h6 h)
      refine mm_iconst (v := 0) dX11_opens_36 (by decide) ?_
      refine mm_iret dX11_opens_37 rfl rfl ?_ (by omega) (by omega)
      obtain ⟨rfl, rfl⟩ := fin2 hx
      exact ⟨rfl, rfl⟩
    · refine mm_ifnull (r := v4) 36 dX11_opens_22 (by decide) (fun h => absurd h h6) (fun _ => ?_)
      refine mm_iload_n dX11_opens_25 rfl ?_
      refine mm_iconst (v := 1) dX11_opens_26 (by decide) ?_
      refine b_if hx (fun h7 hx => ?_) (fun h7 hx => ?_)
      · refine mm_icmp_lt 36 dX11_opens_27 (by decide) (fun _ => ?_) (fun h => absurd h7 h)
        refine mm_iconst (v := 0) dX11_opens_36 (by decide) ?_
        refine mm_iret dX11_opens_37 rfl rfl ?_ (by omega) (by omega)
        obtain ⟨rfl, rfl⟩ := fin2 hx
        exact ⟨rfl, rfl⟩
      · refine mm_icmp_lt 36 dX11_opens_27 (by decide) (fun h => absurd h h7) (fun _ => ?_)
        refine mm_iload_n dX11_opens_30 rfl ?_
        refine mm_bipush (v := 20) dX11_opens_31 (by decide) ?_
        refine b_if hx (fun h8 hx => ?_) (fun h8 hx => ?_)
        · refine mm_icmp_le 38 dX11_opens_33 (by decide) (fun h => absurd h (Int32.not_le.mpr h8)) (fun _ => ?_)
          refine mm_iconst (v := 0) dX11_opens_36 (by decide) ?_
          refine mm_iret dX11_opens_37 rfl rfl ?_ (by omega) (by omega)
          obtain ⟨rfl, rfl⟩ := fin2 hx
          exact ⟨rfl, rfl⟩
        · refine mm_icmp_le 38 dX11_opens_33 (by decide) (fun _ => ?_) (fun h => absurd (Int32.not_lt.mp h8) h)
          refine mm_aload_n dX11_opens_38 rfl rfl ?_
          refine s_getS (q := 389) (r := some a) (b := a) (ci := 11) (k := 4) in_X11 rfl (by decide) rfl kF_X11_34 dX11_opens_39 rfl hs (by decide) hn (by decide) rfl rfl ?_
          refine mm_aload dX11_opens_42 rfl (isr_rf _) ?_
          obtain ⟨q9, hr10, hs11, hx⟩ := ck_some hx
          obtain ⟨v13, hc12, hx⟩ := b1_some hx
          refine mm_callV3 (a := q9) (ci := 2) wM_X2_schema kM_X11_109 wI_X2_schema wS_X2_schema dX11_opens_44 (e_X2_schema hst hZ hn hs11 hc12) (mem_obj hs11 (by decide)) (sh_ltn hs11 (by decide) hn) rfl rfl (by rw [hr10]; rfl) (Nat.le_of_ble_eq_true rfl) (by omega) (by omega) (fun v9 S9 hq => ?_)
          obtain ⟨rfl, rfl⟩ := hq
          refine ⟨fun h => ⟨h, rfl⟩, ?_⟩
          refine mm_aload dX11_opens_47 rfl (isr_rf _) ?_
          obtain ⟨σ15, hc14, hx⟩ := b1_some hx
          refine mm_callV3 (a := 389) (ci := 8) wM_X8_begin kM_X11_222 wI_X8_begin wS_X8_begin dX11_opens_49 (e_X8_begin hst hZ hn sa_389 hc14) (mem_obj sa_389 (by decide)) (sh_ltn sa_389 (by decide) hn) rfl rfl rfl (Nat.le_of_ble_eq_true rfl) (by omega) (by omega) (fun v9 S9 hq => ?_)
          obtain ⟨rfl, rfl⟩ := hq
          refine ⟨fun h => ⟨h, rfl⟩, ?_⟩
          refine mm_iconst (v := 1) dX11_opens_52 (by decide) ?_
          refine mm_iret dX11_opens_53 rfl rfl ?_ (by omega) (by omega)
          obtain ⟨rfl, rfl⟩ := fin2 hx
          exact ⟨rfl, rfl⟩
set_option maxHeartbeats 4000000 in
set_option maxRecDepth 100000 in
theorem e_X9_readNumber_146 {g : mm_G} {l : Launch} (hst : l.stackTraces = false) {Z : Nat → Nat → Option Nat} (hZ : HZ Z) {n : Nat} (hn : 1186 ≤ n) {z : Bool} {d : Nat} {U : Nat} {a : Nat} (hs : sh a = 9) {k51 : Int32 → SG → Option (Int32 × SG)} {v1_ : Int32} {v2_ : Int32} {v3_ : Int32} {v4_ : Int32} {v5_ : Int32} {σ : SG} {r : Int32} {σ' : SG} (hk51 : ∀ (v5_ : Int32) (σ8 : SG), k51 v5_ σ8 = some (r, σ') → mm_V g l RX9 "readNumber" cX9_readNumber 8 (some .boolean) [] (d + 1) 0 0 (mm_nt (fun v S' => v = some (.int r) ∧ S' = (mem Z σ', n, z))) 51 [some (.ref a), some (.int v1_), some (.int v2_), some (.int v3_), some (.int v4_), some (.int v5_), none, none] [] (mem Z σ8, n, z) 0 0) (hx : x_X9_readNumber_146 U a k51 v1_ v2_ v3_ v4_ v5_ σ = some (r, σ')) : mm_V g l RX9 "readNumber" cX9_readNumber 8 (some .boolean) [] (d + 1) 0 0 (mm_nt (fun v S' => v = some (.int r) ∧ S' = (mem Z σ', n, z))) 146 [some (.ref a), some (.int v1_), some (.int v2_), some (.int v3_), some (.int v4_), some (.int v5_), none, none] [] (mem Z σ, n, z) 0 0 := by
  unfold x_X9_readNumber_146 at hx
  refine mm_iinc (v := v5_ + 1) [some (.ref a), some (.int v1_), some (.int v2_), some (.int v3_), some (.int v4_), some (.int (v5_ + 1)), none, none] dX9_readNumber_146 rfl rfl (by decide) rfl ?_
  refine mm_goto 51 dX9_readNumber_149 (by decide) ?_
  exact hk51 _ _ hx
set_option maxHeartbeats 4000000 in
set_option maxRecDepth 100000 in
theorem e_X9_readNumber_110 {g : mm_G} {l : Launch} (hst : l.stackTraces = false) {Z : Nat → Nat → Option Nat} (hZ : HZ Z) {n : Nat} (hn : 1186 ≤ n) {z : Bool} {d : Nat} {U : Nat} {a : Nat} (hs : sh a = 9) {k51 : Int32 → SG → Option (Int32 × SG)} {v1_ : Int32} {v2_ : Int32} {v3_ : Int32} {v4_ : Int32} {v5_ : Int32} {v6_ : Int64} {s0_ : Int64} {s1_ : Int64} {σ : SG} {r : Int32} {σ' : SG} (hk51 : ∀ (v5_ : Int32) (σ8 : SG), k51 v5_ σ8 = some (r, σ') → mm_V g l RX9 "readNumber" cX9_readNumber 8 (some .boolean) [] (d + 1) 0 0 (mm_nt (fun v S' => v = some (.int r) ∧ S' = (mem Z σ', n, z))) 51 [some (.ref a), some (.int v1_), some (.int v2_), some (.int v3_), some (.int v4_), some (.int v5_), none, none] [] (mem Z σ8, n, z) 0 0) (hx : x_X9_readNumber_110 U a k51 v1_ v2_ v3_ v4_ v5_ v6_ s0_ s1_ σ = some (r, σ')) : mm_V g l RX9 "readNumber" cX9_readNumber 8 (some .boolean) [] (d + 1) 0 0 (mm_nt (fun v S' => v = some (.int r) ∧ S' = (mem Z σ', n, z))) 110 [some (.ref a), some (.int v1_), some (.int v2_), some (.int v3_), some (.int v4_), some (.int v5_), some (.long v6_), none] [.long s0_, .long s1_, .ref a] (mem Z σ, n, z) 0 0 := by
  unfold x_X9_readNumber_110 at hx
  refine mm_iload_n dX9_readNumber_110 rfl ?_
  refine mm_iload dX9_readNumber_111 rfl ?_
  refine mm_imul dX9_readNumber_113 ?_
  refine mm_lshl dX9_readNumber_114 ?_
  refine mm_lor dX9_readNumber_115 ?_
  refine s_putL (v := s1_ ||| (lshl9 s0_ (v3_ * v5_))) (r := some a) (b := a) (ci := 9) (k := 4) in_X9 rfl (by decide) rfl tyX9_ok nmX9 rfl kF_X9_53 dX9_readNumber_116 (mm_fit_long _) rfl hs (by decide) hn (by decide) rfl hx (fun σ10 hx => ?_)
  refine mm_iload_n dX9_readNumber_119 rfl ?_
  refine b_if hx (fun h11 hx => ?_) (fun h11 hx => ?_)
  · refine mm_if_ne 135 dX9_readNumber_120 (by decide) (fun h => absurd h11 h) (fun _ => ?_)
    refine mm_lload dX9_readNumber_123 rfl ?_
    refine mm_ldc2 kL_X9_139 dX9_readNumber_125 ?_
    refine mm_lcmp dX9_readNumber_128 ?_
    refine b_if hx (fun h12 hx => ?_) (fun h12 hx => ?_)
    · refine mm_if_ge 146 dX9_readNumber_129 (by decide) (fun h => absurd (lg_ge.mp h) (Int64.not_le.mpr h12)) (fun _ => ?_)
      refine mm_goto 144 dX9_readNumber_132 (by decide) ?_
      refine mm_iconst (v := 1) dX9_readNumber_144 (by decide) ?_
      refine mm_iret dX9_readNumber_145 rfl rfl ?_ (by omega) (by omega)
      obtain ⟨rfl, rfl⟩ := fin2 hx
      exact ⟨rfl, rfl⟩
    · refine mm_if_ge 146 dX9_readNumber_129 (by decide) (fun _ => ?_) (fun h => absurd (lg_ge.mpr (Int64.not_lt.mp h12)) h)
      refine mm_fewer [some (.ref a), some (.int v1_), some (.int v2_), some (.int v3_), some (.int v4_), some (.int v5_), none, none] (few_ok (bs := [true, true, true, true, true, true, false, false]) rfl) ?_
      exact e_X9_readNumber_146 hst hZ hn hs hk51 hx
  · refine mm_if_ne 135 dX9_readNumber_120 (by decide) (fun _ => ?_) (fun h => absurd h h11)
    refine mm_iload dX9_readNumber_135 rfl ?_
    refine mm_iload dX9_readNumber_137 rfl ?_
    refine mm_iconst (v := 1) dX9_readNumber_139 (by decide) ?_
    refine mm_isub dX9_readNumber_140 ?_
    refine b_if hx (fun h13 hx => ?_) (fun h13 hx => ?_)
    · refine mm_icmp_ne 146 dX9_readNumber_141 (by decide) (fun h => absurd h13 h) (fun _ => ?_)
      refine mm_iconst (v := 1) dX9_readNumber_144 (by decide) ?_
      refine mm_iret dX9_readNumber_145 rfl rfl ?_ (by omega) (by omega)
      obtain ⟨rfl, rfl⟩ := fin2 hx
      exact ⟨rfl, rfl⟩
    · refine mm_icmp_ne 146 dX9_readNumber_141 (by decide) (fun _ => ?_) (fun h => absurd h h13)
      refine mm_fewer [some (.ref a), some (.int v1_), some (.int v2_), some (.int v3_), some (.int v4_), some (.int v5_), none, none] (few_ok (bs := [true, true, true, true, true, true, false, false]) rfl) ?_
      exact e_X9_readNumber_146 hst hZ hn hs hk51 hx
set_option maxHeartbeats 4000000 in
set_option maxRecDepth 100000 in
theorem e_X9_readNumber_L51 {g : mm_G} {l : Launch} (hst : l.stackTraces = false) {Z : Nat → Nat → Option Nat} (hZ : HZ Z) {n : Nat} (hn : 1186 ≤ n) {z : Bool} {d : Nat} {U : Nat} {a : Nat} (hs : sh a = 9) {v1_ : Int32} {v2_ : Int32} {v3_ : Int32} {v4_ : Int32} {r : Int32} {σ' : SG} : ∀ (U1 : Nat) (v5_ : Int32) (σ : SG), x_X9_readNumber_L51 U a v1_ v2_ v3_ v4_ U1 v5_ σ = some (r, σ') → mm_V g l RX9 "readNumber" cX9_readNumber 8 (some .boolean) [] (d + 1) 0 0 (mm_nt (fun v S' => v = some (.int r) ∧ S' = (mem Z σ', n, z))) 51 [some (.ref a), some (.int v1_), some (.int v2_), some (.int v3_), some (.int v4_), some (.int v5_), none, none] [] (mem Z σ, n, z) 0 0 := by
  intro U1
  induction U1 with
  | zero => intro v5_ σ hx; exact absurd hx (by simp [x_X9_readNumber_L51])
  | succ U1 ih =>
    intro v5_ σ hx
    rw [x_X9_readNumber_L51] at hx
    refine mm_iload dX9_readNumber_51 rfl ?_
    refine mm_iload dX9_readNumber_53 rfl ?_
    refine b_if hx (fun h4 hx => ?_) (fun h4 hx => ?_)
    · refine mm_icmp_ge 152 dX9_readNumber_55 (by decide) (fun h => absurd h (Int32.not_le.mpr h4)) (fun _ => ?_)
      refine mm_aload_n dX9_readNumber_58 rfl rfl ?_
      refine s_getI (r := some a) (b := a) (ci := 9) (k := 3) in_X9 rfl (by decide) rfl kF_X9_22 dX9_readNumber_59 rfl hs (by decide) hn (by decide) rfl ?_
      refine mm_iload_n dX9_readNumber_62 rfl ?_
      refine b_if hx (fun h5 hx => ?_) (fun h5 hx => ?_)
      · refine mm_icmp_ge 152 dX9_readNumber_63 (by decide) (fun h => absurd h (Int32.not_le.mpr h5)) (fun _ => ?_)
        refine mm_aload_n dX9_readNumber_66 rfl rfl ?_
        refine s_getS (q := 1) (r := some a) (b := a) (ci := 9) (k := 0) in_X9 rfl (by decide) rfl kF_X9_9 dX9_readNumber_67 rfl hs (by decide) hn (by decide) rfl rfl ?_
        refine mm_aload_n dX9_readNumber_70 rfl rfl ?_
        refine s_getI (r := some a) (b := a) (ci := 9) (k := 3) in_X9 rfl (by decide) rfl kF_X9_22 dX9_readNumber_71 rfl hs (by decide) hn (by decide) rfl ?_
        obtain ⟨v7, hc6, hx⟩ := b1_some hx
        refine mm_callV3 (a := 1) (ci := 0) wM_X0_at kM_X9_135 wI_X0_at wS_X0_at dX9_readNumber_74 (e_X0_at hst hZ hn sa_1 hc6) (mem_obj sa_1 (by decide)) (sh_ltn sa_1 (by decide) hn) rfl rfl rfl (Nat.le_of_ble_eq_true rfl) (by omega) (by omega) (fun v9 S9 hq => ?_)
        obtain ⟨rfl, rfl⟩ := hq
        refine ⟨fun h => ⟨h, rfl⟩, ?_⟩
        refine mm_i2l dX9_readNumber_77 ?_
        refine mm_lstore [some (.ref a), some (.int v1_), some (.int v2_), some (.int v3_), some (.int v4_), some (.int v5_), some (.long (Int32.toInt64 v7)), none] dX9_readNumber_78 (by decide) rfl ?_
        refine mm_aload_n dX9_readNumber_80 rfl rfl ?_
        refine mm_dup dX9_readNumber_81 rfl ?_
        refine s_getI (r := some a) (b := a) (ci := 9) (k := 3) in_X9 rfl (by decide) rfl kF_X9_22 dX9_readNumber_82 rfl hs (by decide) hn (by decide) rfl ?_
        refine mm_iconst (v := 1) dX9_readNumber_85 (by decide) ?_
        refine mm_iadd dX9_readNumber_86 ?_
        refine s_putI (v := (sI σ a 3) + 1) (r := some a) (b := a) (ci := 9) (k := 3) in_X9 rfl (by decide) rfl tyX9_ok nmX9 rfl kF_X9_22 dX9_readNumber_87 (mm_fit_int _) rfl hs (by decide) hn (by decide) rfl hx (fun σ8 hx => ?_)
        refine mm_aload_n dX9_readNumber_90 rfl rfl ?_
        refine mm_dup dX9_readNumber_91 rfl ?_
        refine s_getL (r := some a) (b := a) (ci := 9) (k := 4) in_X9 rfl (by decide) rfl kF_X9_53 dX9_readNumber_92 rfl hs (by decide) hn (by decide) rfl ?_
        refine mm_iload_n dX9_readNumber_95 rfl ?_
        refine b_if hx (fun h9 hx => ?_) (fun h9 hx => ?_)
        · refine mm_if_ne 108 dX9_readNumber_96 (by decide) (fun h => absurd h9 h) (fun _ => ?_)
          refine mm_lload dX9_readNumber_99 rfl ?_
          refine mm_ldc2 kL_X9_137 dX9_readNumber_101 ?_
          refine mm_land dX9_readNumber_104 ?_
          refine mm_goto 110 dX9_readNumber_105 (by decide) ?_
          exact e_X9_readNumber_110 hst hZ hn hs ih hx
        · refine mm_if_ne 108 dX9_readNumber_96 (by decide) (fun _ => ?_) (fun h => absurd h h9)
          refine mm_lload dX9_readNumber_108 rfl ?_
          exact e_X9_readNumber_110 hst hZ hn hs ih hx
      · refine mm_icmp_ge 152 dX9_readNumber_63 (by decide) (fun _ => ?_) (fun h => absurd (Int32.not_lt.mp h5) h)
        refine mm_iconst (v := 0) dX9_readNumber_152 (by decide) ?_
        refine mm_iret dX9_readNumber_153 rfl rfl ?_ (by omega) (by omega)
        obtain ⟨rfl, rfl⟩ := fin2 hx
        exact ⟨rfl, rfl⟩
    · refine mm_icmp_ge 152 dX9_readNumber_55 (by decide) (fun _ => ?_) (fun h => absurd (Int32.not_lt.mp h4) h)
      refine mm_iconst (v := 0) dX9_readNumber_152 (by decide) ?_
      refine mm_iret dX9_readNumber_153 rfl rfl ?_ (by omega) (by omega)
      obtain ⟨rfl, rfl⟩ := fin2 hx
      exact ⟨rfl, rfl⟩
set_option maxHeartbeats 4000000 in
set_option maxRecDepth 100000 in
theorem e_X9_readNumber_41 {g : mm_G} {l : Launch} (hst : l.stackTraces = false) {Z : Nat → Nat → Option Nat} (hZ : HZ Z) {n : Nat} (hn : 1186 ≤ n) {z : Bool} {d : Nat} {U : Nat} {a : Nat} (hs : sh a = 9) {v1_ : Int32} {v2_ : Int32} {v3_ : Int32} {s0_ : Int32} {σ : SG} {r : Int32} {σ' : SG} (hx : x_X9_readNumber_41 U a v1_ v2_ v3_ s0_ σ = some (r, σ')) : mm_V g l RX9 "readNumber" cX9_readNumber 8 (some .boolean) [] (d + 1) 0 0 (mm_nt (fun v S' => v = some (.int r) ∧ S' = (mem Z σ', n, z))) 41 [some (.ref a), some (.int v1_), some (.int v2_), some (.int v3_), none, none, none, none] [.int s0_] (mem Z σ, n, z) 0 0 := by
  unfold x_X9_readNumber_41 at hx
  refine mm_istore [some (.ref a), some (.int v1_), some (.int v2_), some (.int v3_), some (.int s0_), none, none, none] dX9_readNumber_41 (by decide) rfl ?_
  refine mm_aload_n dX9_readNumber_43 rfl rfl ?_
  refine mm_lconst (v := 0) dX9_readNumber_44 (by decide) ?_
  refine s_putL (v := 0) (r := some a) (b := a) (ci := 9) (k := 4) in_X9 rfl (by decide) rfl tyX9_ok nmX9 rfl kF_X9_53 dX9_readNumber_45 (mm_fit_long _) rfl hs (by decide) hn (by decide) rfl hx (fun σ3 hx => ?_)
  refine mm_iconst (v := 0) dX9_readNumber_48 (by decide) ?_
  refine mm_istore [some (.ref a), some (.int v1_), some (.int v2_), some (.int v3_), some (.int s0_), some (.int 0), none, none] dX9_readNumber_49 (by decide) rfl ?_
  refine e_X9_readNumber_L51 hst hZ hn hs _ _ _ hx
set_option maxHeartbeats 4000000 in
set_option maxRecDepth 100000 in
theorem e_X9_readNumber_11 {g : mm_G} {l : Launch} (hst : l.stackTraces = false) {Z : Nat → Nat → Option Nat} (hZ : HZ Z) {n : Nat} (hn : 1186 ≤ n) {z : Bool} {d : Nat} {U : Nat} {a : Nat} (hs : sh a = 9) {v1_ : Int32} {v2_ : Int32} {s0_ : Int32} {σ : SG} {r : Int32} {σ' : SG} (hx : x_X9_readNumber_11 U a v1_ v2_ s0_ σ = some (r, σ')) : mm_V g l RX9 "readNumber" cX9_readNumber 8 (some .boolean) [] (d + 1) 0 0 (mm_nt (fun v S' => v = some (.int r) ∧ S' = (mem Z σ', n, z))) 11 [some (.ref a), some (.int v1_), some (.int v2_), none, none, none, none, none] [.int s0_] (mem Z σ, n, z) 0 0 := by
  unfold x_X9_readNumber_11 at hx
  refine mm_istore_n [some (.ref a), some (.int v1_), some (.int v2_), some (.int s0_), none, none, none, none] dX9_readNumber_11 (by decide) rfl ?_
  refine mm_iload_n dX9_readNumber_12 rfl ?_
  refine b_if hx (fun h2 hx => ?_) (fun h2 hx => ?_)
  · refine mm_if_ne 21 dX9_readNumber_13 (by decide) (fun h => absurd h2 h) (fun _ => ?_)
    refine mm_bipush (v := 10) dX9_readNumber_16 (by decide) ?_
    refine mm_goto 41 dX9_readNumber_18 (by decide) ?_
    exact e_X9_readNumber_41 hst hZ hn hs hx
  · refine mm_if_ne 21 dX9_readNumber_13 (by decide) (fun _ => ?_) (fun h => absurd h h2)
    refine mm_iload_n dX9_readNumber_21 rfl ?_
    refine mm_iconst (v := 1) dX9_readNumber_22 (by decide) ?_
    refine b_if hx (fun h14 hx => ?_) (fun h14 hx => ?_)
    · refine mm_icmp_ne 31 dX9_readNumber_23 (by decide) (fun h => absurd h14 h) (fun _ => ?_)
      refine mm_bipush (v := 8) dX9_readNumber_26 (by decide) ?_
      refine mm_goto 41 dX9_readNumber_28 (by decide) ?_
      exact e_X9_readNumber_41 hst hZ hn hs hx
    · refine mm_icmp_ne 31 dX9_readNumber_23 (by decide) (fun _ => ?_) (fun h => absurd h h14)
      refine mm_iload_n dX9_readNumber_31 rfl ?_
      refine mm_iconst (v := 5) dX9_readNumber_32 (by decide) ?_
      refine b_if hx (fun h15 hx => ?_) (fun h15 hx => ?_)
      · refine mm_icmp_ne 40 dX9_readNumber_33 (by decide) (fun h => absurd h15 h) (fun _ => ?_)
        refine mm_iconst (v := 4) dX9_readNumber_36 (by decide) ?_
        refine mm_goto 41 dX9_readNumber_37 (by decide) ?_
        exact e_X9_readNumber_41 hst hZ hn hs hx
      · refine mm_icmp_ne 40 dX9_readNumber_33 (by decide) (fun _ => ?_) (fun h => absurd h h15)
        refine mm_iconst (v := 0) dX9_readNumber_40 (by decide) ?_
        exact e_X9_readNumber_41 hst hZ hn hs hx
set_option maxHeartbeats 4000000 in
set_option maxRecDepth 100000 in
theorem e_X9_readNumber {g : mm_G} {l : Launch} (hst : l.stackTraces = false) {Z : Nat → Nat → Option Nat} (hZ : HZ Z) {n : Nat} (hn : 1186 ≤ n) {z : Bool} {d : Nat} {U : Nat} {a : Nat} (hs : sh a = 9) {p0 : Int32} {p1 : Int32} {σ : SG} {r : Int32} {σ' : SG} (hx : x_X9_readNumber U a p0 p1 σ = some (r, σ')) : mm_Cm g l yX9_readNumber (.code yX9_readNumber cX9_readNumber 8 (some .boolean)) (d + 1) 0 0 [.ref a, .int p0, .int p1] (mem Z σ, n, z) (fun v S' => v = some (.int r) ∧ S' = (mem Z σ', n, z)) := by
  refine mm_Cm_of hst (by decide) (Nat.le_of_ble_eq_true rfl) ?_
  show mm_V g l RX9 "readNumber" cX9_readNumber 8 (some .boolean) [] (d + 1) 0 0 (mm_nt (fun v S' => v = some (.int r) ∧ S' = (mem Z σ', n, z))) 0 [some (.ref a), some (.int p0), some (.int p1), none, none, none, none, none] [] (mem Z σ, n, z) 0 0
  unfold x_X9_readNumber at hx
  refine mm_iload_n dX9_readNumber_0 rfl ?_
  refine b_if hx (fun h1 hx => ?_) (fun h1 hx => ?_)
  · refine mm_if_ne 9 dX9_readNumber_1 (by decide) (fun h => absurd h1 h) (fun _ => ?_)
    refine mm_bipush (v := 7) dX9_readNumber_4 (by decide) ?_
    refine mm_goto 11 dX9_readNumber_6 (by decide) ?_
    exact e_X9_readNumber_11 hst hZ hn hs hx
  · refine mm_if_ne 9 dX9_readNumber_1 (by decide) (fun _ => ?_) (fun h => absurd h h1)
    refine mm_bipush (v := 8) dX9_readNumber_9 (by decide) ?_
    exact e_X9_readNumber_11 hst hZ hn hs hx
set_option maxHeartbeats 4000000 in
set_option maxRecDepth 100000 in
theorem e_X9_kindOf {g : mm_G} {l : Launch} (hst : l.stackTraces = false) {Z : Nat → Nat → Option Nat} (hZ : HZ Z) {n : Nat} (hn : 1186 ≤ n) {z : Bool} {d : Nat} {p0 : Int32} {σ : SG} {r : Int32} (hx : x_X9_kindOf p0 = some r) : mm_Cm g l yX9_kindOf (.code yX9_kindOf cX9_kindOf 1 (some .int)) (d) 0 0 [.int p0] (mem Z σ, n, z) (fun v S' => v = some (.int r) ∧ S' = (mem Z σ, n, z)) := by
  refine mm_Cm_of hst (by decide) (Nat.le_of_ble_eq_true rfl) ?_
  show mm_V g l RX9 "kindOf" cX9_kindOf 1 (some .int) [] (d) 0 0 (mm_nt (fun v S' => v = some (.int r) ∧ S' = (mem Z σ, n, z))) 0 [some (.int p0)] [] (mem Z σ, n, z) 0 0
  unfold x_X9_kindOf at hx
  refine mm_iload_n dX9_kindOf_0 rfl ?_
  refine b_if hx (fun h1 hx => ?_) (fun h1 hx => ?_)
  · refine mm_tsIn 50 dX9_kindOf_1 (by rw [h1]; decide) (by rw [h1]; decide) (by rw [h1]; rfl) (by decide) ?_
    refine mm_iconst (v := 5) dX9_kindOf_50 (by decide) ?_
    refine mm_iret dX9_kindOf_51 rfl rfl ?_ (by omega) (by omega)
    obtain rfl := fin1 hx
    exact ⟨rfl, rfl⟩
  · skip
    refine b_if hx (fun h2 hx => ?_) (fun h2 hx => ?_)
    · refine mm_tsIn 48 dX9_kindOf_1 (by rw [h2]; decide) (by rw [h2]; decide) (by rw [h2]; rfl) (by decide) ?_
      refine mm_iconst (v := 1) dX9_kindOf_48 (by decide) ?_
      refine mm_iret dX9_kindOf_49 rfl rfl ?_ (by omega) (by omega)
      obtain rfl := fin1 hx
      exact ⟨rfl, rfl⟩
    · skip
      refine b_if hx (fun h3 hx => ?_) (fun h3 hx => ?_)
      · refine mm_tsIn 50 dX9_kindOf_1 (by rw [h3]; decide) (by rw [h3]; decide) (by rw [h3]; rfl) (by decide) ?_
        refine mm_iconst (v := 5) dX9_kindOf_50 (by decide) ?_
        refine mm_iret dX9_kindOf_51 rfl rfl ?_ (by omega) (by omega)
        obtain rfl := fin1 hx
        exact ⟨rfl, rfl⟩
      · skip
        refine b_if hx (fun h4 hx => ?_) (fun h4 hx => ?_)
        · refine mm_tsIn 48 dX9_kindOf_1 (by rw [h4]; decide) (by rw [h4]; decide) (by rw [h4]; rfl) (by decide) ?_
          refine mm_iconst (v := 1) dX9_kindOf_48 (by decide) ?_
          refine mm_iret dX9_kindOf_49 rfl rfl ?_ (by omega) (by omega)
          obtain rfl := fin1 hx
          exact ⟨rfl, rfl⟩
        · skip
          refine b_if hx (fun h5 hx => ?_) (fun h5 hx => ?_)
          · refine mm_tsIn 54 dX9_kindOf_1 (by rw [h5]; decide) (by rw [h5]; decide) (by rw [h5]; rfl) (by decide) ?_
            refine mm_iconst (v := 0) dX9_kindOf_54 (by decide) ?_
            refine mm_iret dX9_kindOf_55 rfl rfl ?_ (by omega) (by omega)
            obtain rfl := fin1 hx
            exact ⟨rfl, rfl⟩
          · skip
            refine b_if hx (fun h6 hx => ?_) (fun h6 hx => ?_)
            · refine mm_tsIn 52 dX9_kindOf_1 (by rw [h6]; decide) (by rw [h6]; decide) (by rw [h6]; rfl) (by decide) ?_
              refine mm_iconst (v := 2) dX9_kindOf_52 (by decide) ?_
              refine mm_iret dX9_kindOf_53 rfl rfl ?_ (by omega) (by omega)
              obtain rfl := fin1 hx
              exact ⟨rfl, rfl⟩
            · skip
              refine b_if hx (fun h7 hx => ?_) (fun h7 hx => ?_)
              · refine mm_tsIn 52 dX9_kindOf_1 (by rw [h7]; decide) (by rw [h7]; decide) (by rw [h7]; rfl) (by decide) ?_
                refine mm_iconst (v := 2) dX9_kindOf_52 (by decide) ?_
                refine mm_iret dX9_kindOf_53 rfl rfl ?_ (by omega) (by omega)
                obtain rfl := fin1 hx
                exact ⟨rfl, rfl⟩
              · skip
                refine b_if hx (fun h8 hx => ?_) (fun h8 hx => ?_)
                · refine mm_tsIn 52 dX9_kindOf_1 (by rw [h8]; decide) (by rw [h8]; decide) (by rw [h8]; rfl) (by decide) ?_
                  refine mm_iconst (v := 2) dX9_kindOf_52 (by decide) ?_
                  refine mm_iret dX9_kindOf_53 rfl rfl ?_ (by omega) (by omega)
                  obtain rfl := fin1 hx
                  exact ⟨rfl, rfl⟩
                · skip
                  refine mm_tsOut 54 dX9_kindOf_1 (ts_out_608 h1 h2 h3 h4 h5 h6 h7 h8) (by decide) ?_
                  refine mm_iconst (v := 0) dX9_kindOf_54 (by decide) ?_
                  refine mm_iret dX9_kindOf_55 rfl rfl ?_ (by omega) (by omega)
                  obtain rfl := fin1 hx
                  exact ⟨rfl, rfl⟩
set_option maxHeartbeats 4000000 in
set_option maxRecDepth 100000 in
theorem e_X8_dropRivals_88 {g : mm_G} {l : Launch} (hst : l.stackTraces = false) {Z : Nat → Nat → Option Nat} (hZ : HZ Z) {n : Nat} (hn : 1186 ≤ n) {z : Bool} {d : Nat} {U : Nat} {a : Nat} (hs : sh a = 8) {k8 : Option Nat → Option Nat → SG → Option (SG)} {k98 : SG → Option (SG)} {v1_ : Option Nat} {v2_ : Option Nat} {v3_ : Option Nat} {v4_ : Option Nat} {σ : SG} {σ' : SG} (hk8 : ∀ (v3_ : Option Nat) (v4_ : Option Nat) (σ8 : SG), k8 v3_ v4_ σ8 = some σ' → mm_V g l RX8 "dropRivals" cX8_dropRivals 6 none [] (d) 0 0 (mm_nt (fun v S' => v = none ∧ S' = (mem Z σ', n, z))) 8 [none, some (va_rf v1_), some (va_rf v2_), some (va_rf v3_), some (va_rf v4_), none] [] (mem Z σ8, n, z) 0 0) (hk98 : ∀ (σ8 : SG), k98 σ8 = some σ' → mm_V g l RX8 "dropRivals" cX8_dropRivals 6 none [] (d) 0 0 (mm_nt (fun v S' => v = none ∧ S' = (mem Z σ', n, z))) 98 [none, some (va_rf v1_), none, none, none, none] [] (mem Z σ8, n, z) 0 0) (hx : x_X8_dropRivals_88 U a k8 k98 v1_ v2_ v3_ v4_ σ = some σ') : mm_V g l RX8 "dropRivals" cX8_dropRivals 6 none [] (d) 0 0 (mm_nt (fun v S' => v = none ∧ S' = (mem Z σ', n, z))) 88 [none, some (va_rf v1_), some (va_rf v2_), some (va_rf v3_), some (va_rf v4_), none] [] (mem Z σ, n, z) 0 0 := by
  unfold x_X8_dropRivals_88 at hx
  refine mm_aload dX8_dropRivals_88 rfl (isr_rf _) ?_
  obtain ⟨q10, hr11, hs12, hx⟩ := ck_some hx
  refine s_getPN (r := v4_) (b := q10) (ci := 4) (k := 1) in_X4 rfl (by decide) rfl kF_X8_72 dX8_dropRivals_90 hr11 hs12 (by decide) hn (by decide) rfl ?_
  refine mm_astore [none, some (va_rf v1_), some (va_rf v2_), some (va_rf v3_), some (va_rf (sP σ q10 1)), none] dX8_dropRivals_93 (by decide) (isr_rf _) ((st1_o (r := v3_) rfl).trans rfl) ?_
  refine mm_goto 8 dX8_dropRivals_95 (by decide) ?_
  exact hk8 _ _ _ hx
set_option maxHeartbeats 4000000 in
set_option maxRecDepth 100000 in
theorem e_X8_dropRivals_50 {g : mm_G} {l : Launch} (hst : l.stackTraces = false) {Z : Nat → Nat → Option Nat} (hZ : HZ Z) {n : Nat} (hn : 1186 ≤ n) {z : Bool} {d : Nat} {U : Nat} {a : Nat} (hs : sh a = 8) {k8 : Option Nat → Option Nat → SG → Option (SG)} {k98 : SG → Option (SG)} {v1_ : Option Nat} {v2_ : Option Nat} {v3_ : Option Nat} {v4_ : Option Nat} {s0_ : Int32} {σ : SG} {σ' : SG} (hk8 : ∀ (v3_ : Option Nat) (v4_ : Option Nat) (σ8 : SG), k8 v3_ v4_ σ8 = some σ' → mm_V g l RX8 "dropRivals" cX8_dropRivals 6 none [] (d) 0 0 (mm_nt (fun v S' => v = none ∧ S' = (mem Z σ', n, z))) 8 [none, some (va_rf v1_), some (va_rf v2_), some (va_rf v3_), some (va_rf v4_), none] [] (mem Z σ8, n, z) 0 0) (hk98 : ∀ (σ8 : SG), k98 σ8 = some σ' → mm_V g l RX8 "dropRivals" cX8_dropRivals 6 none [] (d) 0 0 (mm_nt (fun v S' => v = none ∧ S' = (mem Z σ', n, z))) 98 [none, some (va_rf v1_), none, none, none, none] [] (mem Z σ8, n, z) 0 0) (hx : x_X8_dropRivals_50 U a k8 k98 v1_ v2_ v3_ v4_ s0_ σ = some σ') : mm_V g l RX8 "dropRivals" cX8_dropRivals 6 none [] (d) 0 0 (mm_nt (fun v S' => v = none ∧ S' = (mem Z σ', n, z))) 50 [none, some (va_rf v1_), some (va_rf v2_), some (va_rf v3_), some (va_rf v4_), none] [.int s0_] (mem Z σ, n, z) 0 0 := by
  unfold x_X8_dropRivals_50 at hx
  refine mm_istore [none, some (va_rf v1_), some (va_rf v2_), some (va_rf v3_), some (va_rf v4_), some (.int s0_)] dX8_dropRivals_50 (by decide) ((st1_o (r := v4_) rfl).trans rfl) ?_
  refine mm_iload dX8_dropRivals_52 rfl ?_
  refine b_if hx (fun h9 hx => ?_) (fun h9 hx => ?_)
  · refine mm_if_ne 63 dX8_dropRivals_54 (by decide) (fun h => absurd h9 h) (fun _ => ?_)
    refine mm_aload dX8_dropRivals_57 rfl (isr_rf _) ?_
    refine mm_astore_n [none, some (va_rf v1_), some (va_rf v2_), some (va_rf v4_), some (va_rf v4_), some (.int s0_)] dX8_dropRivals_59 (by decide) (isr_rf _) ((st1_o (r := v2_) rfl).trans rfl) ?_
    refine mm_goto 88 dX8_dropRivals_60 (by decide) ?_
    refine mm_fewer [none, some (va_rf v1_), some (va_rf v2_), some (va_rf v4_), some (va_rf v4_), none] (few_ok (bs := [false, true, true, true, true, false]) rfl) ?_
    exact e_X8_dropRivals_88 hst hZ hn hs hk8 hk98 hx
  · refine mm_if_ne 63 dX8_dropRivals_54 (by decide) (fun _ => ?_) (fun h => absurd h h9)
    refine mm_aload_n dX8_dropRivals_63 rfl (isr_rf _) ?_
    refine b_if hx (fun h13 hx => ?_) (fun h13 hx => ?_)
    · refine mm_ifnonnull (r := v3_) 79 dX8_dropRivals_64 (by decide) (fun h => absurd h13 h) (fun _ => ?_)
      refine mm_aload_n dX8_dropRivals_67 rfl (isr_rf _) ?_
      refine mm_aload dX8_dropRivals_68 rfl (isr_rf _) ?_
      obtain ⟨q14, hr15, hs16, hx⟩ := ck_some hx
      refine s_getPN (r := v4_) (b := q14) (ci := 4) (k := 1) in_X4 rfl (by decide) rfl kF_X8_72 dX8_dropRivals_70 hr15 hs16 (by decide) hn (by decide) rfl ?_
      obtain ⟨q17, hr18, hs19, hx⟩ := ck_some hx
      refine s_putPN (v := sP σ q14 1) (r := v1_) (b := q17) (ci := 4) (k := 2) in_X4 rfl (by decide) rfl tyX4_ok nmX4 rfl kF_X8_63 dX8_dropRivals_73 (mm_fit_r _ _) hr18 hs19 (by decide) hn (by decide) rfl hx (fun σ20 hx => ?_)
      refine mm_goto 88 dX8_dropRivals_76 (by decide) ?_
      refine mm_fewer [none, some (va_rf v1_), some (va_rf v2_), some (va_rf v3_), some (va_rf v4_), none] (few_ok (bs := [false, true, true, true, true, false]) rfl) ?_
      exact e_X8_dropRivals_88 hst hZ hn hs hk8 hk98 hx
    · refine mm_ifnonnull (r := v3_) 79 dX8_dropRivals_64 (by decide) (fun _ => ?_) (fun h => absurd h h13)
      refine mm_aload_n dX8_dropRivals_79 rfl (isr_rf _) ?_
      refine mm_aload dX8_dropRivals_80 rfl (isr_rf _) ?_
      obtain ⟨q21, hr22, hs23, hx⟩ := ck_some hx
      refine s_getPN (r := v4_) (b := q21) (ci := 4) (k := 1) in_X4 rfl (by decide) rfl kF_X8_72 dX8_dropRivals_82 hr22 hs23 (by decide) hn (by decide) rfl ?_
      obtain ⟨q24, hr25, hs26, hx⟩ := ck_some hx
      refine s_putPN (v := sP σ q21 1) (r := v3_) (b := q24) (ci := 4) (k := 1) in_X4 rfl (by decide) rfl tyX4_ok nmX4 rfl kF_X8_72 dX8_dropRivals_85 (mm_fit_r _ _) hr25 hs26 (by decide) hn (by decide) rfl hx (fun σ27 hx => ?_)
      refine mm_fewer [none, some (va_rf v1_), some (va_rf v2_), some (va_rf v3_), some (va_rf v4_), none] (few_ok (bs := [false, true, true, true, true, false]) rfl) ?_
      exact e_X8_dropRivals_88 hst hZ hn hs hk8 hk98 hx
set_option maxHeartbeats 4000000 in
set_option maxRecDepth 100000 in
theorem e_X8_dropRivals_49 {g : mm_G} {l : Launch} (hst : l.stackTraces = false) {Z : Nat → Nat → Option Nat} (hZ : HZ Z) {n : Nat} (hn : 1186 ≤ n) {z : Bool} {d : Nat} {U : Nat} {a : Nat} (hs : sh a = 8) {k8 : Option Nat → Option Nat → SG → Option (SG)} {k98 : SG → Option (SG)} {v1_ : Option Nat} {v2_ : Option Nat} {v3_ : Option Nat} {v4_ : Option Nat} {σ : SG} {σ' : SG} (hk8 : ∀ (v3_ : Option Nat) (v4_ : Option Nat) (σ8 : SG), k8 v3_ v4_ σ8 = some σ' → mm_V g l RX8 "dropRivals" cX8_dropRivals 6 none [] (d) 0 0 (mm_nt (fun v S' => v = none ∧ S' = (mem Z σ', n, z))) 8 [none, some (va_rf v1_), some (va_rf v2_), some (va_rf v3_), some (va_rf v4_), none] [] (mem Z σ8, n, z) 0 0) (hk98 : ∀ (σ8 : SG), k98 σ8 = some σ' → mm_V g l RX8 "dropRivals" cX8_dropRivals 6 none [] (d) 0 0 (mm_nt (fun v S' => v = none ∧ S' = (mem Z σ', n, z))) 98 [none, some (va_rf v1_), none, none, none, none] [] (mem Z σ8, n, z) 0 0) (hx : x_X8_dropRivals_49 U a k8 k98 v1_ v2_ v3_ v4_ σ = some σ') : mm_V g l RX8 "dropRivals" cX8_dropRivals 6 none [] (d) 0 0 (mm_nt (fun v S' => v = none ∧ S' = (mem Z σ', n, z))) 49 [none, some (va_rf v1_), some (va_rf v2_), some (va_rf v3_), some (va_rf v4_), none] [] (mem Z σ, n, z) 0 0 := by
  unfold x_X8_dropRivals_49 at hx
  refine mm_iconst (v := 0) dX8_dropRivals_49 (by decide) ?_
  exact e_X8_dropRivals_50 hst hZ hn hs hk8 hk98 hx
set_option maxHeartbeats 4000000 in
set_option maxRecDepth 100000 in
theorem e_X8_dropRivals_L8 {g : mm_G} {l : Launch} (hst : l.stackTraces = false) {Z : Nat → Nat → Option Nat} (hZ : HZ Z) {n : Nat} (hn : 1186 ≤ n) {z : Bool} {d : Nat} {U : Nat} {a : Nat} (hs : sh a = 8) {k98 : SG → Option (SG)} {v1_ : Option Nat} {v2_ : Option Nat} {σ' : SG} (hk98 : ∀ (σ8 : SG), k98 σ8 = some σ' → mm_V g l RX8 "dropRivals" cX8_dropRivals 6 none [] (d) 0 0 (mm_nt (fun v S' => v = none ∧ S' = (mem Z σ', n, z))) 98 [none, some (va_rf v1_), none, none, none, none] [] (mem Z σ8, n, z) 0 0) : ∀ (U1 : Nat) (v3_ : Option Nat) (v4_ : Option Nat) (σ : SG), x_X8_dropRivals_L8 U a k98 v1_ v2_ U1 v3_ v4_ σ = some σ' → mm_V g l RX8 "dropRivals" cX8_dropRivals 6 none [] (d) 0 0 (mm_nt (fun v S' => v = none ∧ S' = (mem Z σ', n, z))) 8 [none, some (va_rf v1_), some (va_rf v2_), some (va_rf v3_), some (va_rf v4_), none] [] (mem Z σ, n, z) 0 0 := by
  intro U1
  induction U1 with
  | zero => intro v3_ v4_ σ hx; exact absurd hx (by simp [x_X8_dropRivals_L8])
  | succ U1 ih =>
    intro v3_ v4_ σ hx
    rw [x_X8_dropRivals_L8] at hx
    refine mm_aload dX8_dropRivals_8 rfl (isr_rf _) ?_
    refine b_if hx (fun h4 hx => ?_) (fun h4 hx => ?_)
    · refine mm_ifnull (r := v4_) 98 dX8_dropRivals_10 (by decide) (fun _ => ?_) (fun h => absurd h4 h)
      refine mm_fewer [none, some (va_rf v1_), none, none, none, none] (few_ok (bs := [false, true, false, false, false, false]) rfl) ?_
      exact hk98  _ hx
    · refine mm_ifnull (r := v4_) 98 dX8_dropRivals_10 (by decide) (fun h => absurd h h4) (fun _ => ?_)
      refine mm_aload dX8_dropRivals_13 rfl (isr_rf _) ?_
      obtain ⟨q5, hr6, hs7, hx⟩ := ck_some hx
      refine s_getPN (r := v4_) (b := q5) (ci := 4) (k := 0) in_X4 rfl (by decide) rfl kF_X8_66 dX8_dropRivals_15 hr6 hs7 (by decide) hn (by decide) rfl ?_
      refine b_if hx (fun h8 hx => ?_) (fun h8 hx => ?_)
      · refine mm_ifnull (r := sP σ q5 0) 49 dX8_dropRivals_18 (by decide) (fun _ => ?_) (fun h => absurd h8 h)
        exact e_X8_dropRivals_49 hst hZ hn hs ih hk98 hx
      · refine mm_ifnull (r := sP σ q5 0) 49 dX8_dropRivals_18 (by decide) (fun h => absurd h h8) (fun _ => ?_)
        refine mm_aload dX8_dropRivals_21 rfl (isr_rf _) ?_
        refine s_getPN (r := v4_) (b := q5) (ci := 4) (k := 0) in_X4 rfl (by decide) rfl kF_X8_66 dX8_dropRivals_23 hr6 hs7 (by decide) hn (by decide) rfl ?_
        refine mm_aload_n dX8_dropRivals_26 rfl (isr_rf _) ?_
        refine b_if hx (fun h28 hx => ?_) (fun h28 hx => ?_)
        · refine mm_acmp_eq (rx := sP σ q5 0) (ry := v2_) 49 dX8_dropRivals_27 (by decide) (fun _ => ?_) (fun h => absurd h28 h)
          exact e_X8_dropRivals_49 hst hZ hn hs ih hk98 hx
        · refine mm_acmp_eq (rx := sP σ q5 0) (ry := v2_) 49 dX8_dropRivals_27 (by decide) (fun h => absurd h h28) (fun _ => ?_)
          refine mm_aload dX8_dropRivals_30 rfl (isr_rf _) ?_
          refine s_getPN (r := v4_) (b := q5) (ci := 4) (k := 0) in_X4 rfl (by decide) rfl kF_X8_66 dX8_dropRivals_32 hr6 hs7 (by decide) hn (by decide) rfl ?_
          obtain ⟨q29, hr30, hs31, hx⟩ := ck_some hx
          refine s_getPN (r := sP σ q5 0) (b := q29) (ci := 3) (k := 3) in_X3 rfl (by decide) rfl kF_X8_75 dX8_dropRivals_35 hr30 hs31 (by decide) hn (by decide) rfl ?_
          refine mm_aload_n dX8_dropRivals_38 rfl (isr_rf _) ?_
          obtain ⟨q32, hr33, hs34, hx⟩ := ck_some hx
          refine s_getPN (r := v2_) (b := q32) (ci := 3) (k := 3) in_X3 rfl (by decide) rfl kF_X8_75 dX8_dropRivals_39 hr33 hs34 (by decide) hn (by decide) rfl ?_
          refine b_if hx (fun h35 hx => ?_) (fun h35 hx => ?_)
          · refine mm_acmp_ne (rx := sP σ q29 3) (ry := sP σ q32 3) 49 dX8_dropRivals_42 (by decide) (fun h => absurd h35 h) (fun _ => ?_)
            refine mm_iconst (v := 1) dX8_dropRivals_45 (by decide) ?_
            refine mm_goto 50 dX8_dropRivals_46 (by decide) ?_
            exact e_X8_dropRivals_50 hst hZ hn hs ih hk98 hx
          · refine mm_acmp_ne (rx := sP σ q29 3) (ry := sP σ q32 3) 49 dX8_dropRivals_42 (by decide) (fun _ => ?_) (fun h => absurd h h35)
            exact e_X8_dropRivals_49 hst hZ hn hs ih hk98 hx
set_option maxHeartbeats 4000000 in
set_option maxRecDepth 100000 in
theorem e_X8_dropRivals {g : mm_G} {l : Launch} (hst : l.stackTraces = false) {Z : Nat → Nat → Option Nat} (hZ : HZ Z) {n : Nat} (hn : 1186 ≤ n) {z : Bool} {d : Nat} {U : Nat} {a : Nat} (hs : sh a = 8) {p0 : Option Nat} {p1 : Option Nat} {σ : SG} {σ' : SG} (hx : x_X8_dropRivals U a p0 p1 σ = some σ') : mm_Cm g l yX8_dropRivals (.code yX8_dropRivals cX8_dropRivals 6 none) (d) 0 0 [.ref a, va_rf p0, va_rf p1] (mem Z σ, n, z) (fun v S' => v = none ∧ S' = (mem Z σ', n, z)) := by
  refine mm_Cm_of hst (by decide) (by cases p0 <;> cases p1 <;>  exact Nat.le_of_ble_eq_true rfl) ?_
  rw [show mm_ent [.ref a, va_rf p0, va_rf p1] 6 = [some (.ref a), some (va_rf p0), some (va_rf p1), none, none, none] from by cases p0 <;> cases p1 <;>  rfl]
  show mm_V g l RX8 "dropRivals" cX8_dropRivals 6 none [] (d) 0 0 (mm_nt (fun v S' => v = none ∧ S' = (mem Z σ', n, z))) 0 [some (.ref a), some (va_rf p0), some (va_rf p1), none, none, none] [] (mem Z σ, n, z) 0 0
  unfold x_X8_dropRivals at hx
  refine mm_null dX8_dropRivals_0 ?_
  refine mm_astore_n [some (.ref a), some (va_rf p0), some (va_rf p1), some (va_rf none), none, none] dX8_dropRivals_1 (by decide) rfl ((st1_o (r := p1) rfl).trans rfl) ?_
  refine mm_aload_n dX8_dropRivals_2 rfl (isr_rf _) ?_
  obtain ⟨q1, hr2, hs3, hx⟩ := ck_some hx
  refine s_getPN (r := p0) (b := q1) (ci := 4) (k := 2) in_X4 rfl (by decide) rfl kF_X8_63 dX8_dropRivals_3 hr2 hs3 (by decide) hn (by decide) rfl ?_
  refine mm_astore [some (.ref a), some (va_rf p0), some (va_rf p1), some (va_rf none), some (va_rf (sP σ q1 2)), none] dX8_dropRivals_6 (by decide) (isr_rf _) rfl ?_
  refine mm_fewer [none, some (va_rf p0), some (va_rf p1), some (va_rf none), some (va_rf (sP σ q1 2)), none] (few_ok (bs := [false, true, true, true, true, false]) rfl) ?_
  refine e_X8_dropRivals_L8 hst hZ hn hs ?_ _ _ _ _ hx
  · intro  σ36 hx
    refine mm_aload_n dX8_dropRivals_98 rfl (isr_rf _) ?_
    refine mm_null dX8_dropRivals_99 ?_
    refine s_putPN (v := none) (r := p0) (b := q1) (ci := 4) (k := 3) in_X4 rfl (by decide) rfl tyX4_ok nmX4 rfl kF_X8_98 dX8_dropRivals_100 (mm_fit_r _ _) hr2 hs3 (by decide) hn (by decide) rfl hx (fun σ37 hx => ?_)
    refine mm_vret dX8_dropRivals_103 rfl ?_ (by omega) (by omega)
    obtain rfl := fin1 hx
    exact ⟨rfl, rfl⟩
set_option maxHeartbeats 4000000 in
set_option maxRecDepth 100000 in
theorem e_X8_lastUpTo_87 {g : mm_G} {l : Launch} (hst : l.stackTraces = false) {Z : Nat → Nat → Option Nat} (hZ : HZ Z) {n : Nat} (hn : 1186 ≤ n) {z : Bool} {d : Nat} {U : Nat} {a : Nat} (hs : sh a = 8) {k60 : Option Nat → Option Nat → Option (Option Nat)} {v2_ : Int64} {v4_ : Option Nat} {v5_ : Option Nat} {s0_ : Int64} {σ : SG} {r : Option Nat} (hk60 : ∀ (v4_ : Option Nat) (v5_ : Option Nat), k60 v4_ v5_ = some r → mm_V g l RX8 "lastUpTo" cX8_lastUpTo 6 (some (.object "ProtoDesk$Node")) [] (d) 0 0 (mm_nt (fun v S' => v = some (va_rf r) ∧ S' = (mem Z σ, n, z))) 60 [none, none, some (.long v2_), none, some (va_rf v4_), some (va_rf v5_)] [] (mem Z σ, n, z) 0 0) (hx : x_X8_lastUpTo_87 U a k60 v2_ v4_ v5_ s0_ σ = some r) : mm_V g l RX8 "lastUpTo" cX8_lastUpTo 6 (some (.object "ProtoDesk$Node")) [] (d) 0 0 (mm_nt (fun v S' => v = some (va_rf r) ∧ S' = (mem Z σ, n, z))) 87 [none, none, some (.long v2_), none, some (va_rf v4_), some (va_rf v5_)] [.long s0_] (mem Z σ, n, z) 0 0 := by
  unfold x_X8_lastUpTo_87 at hx
  refine mm_lload_n dX8_lastUpTo_87 rfl ?_
  refine mm_lcmp dX8_lastUpTo_88 ?_
  refine b_if hx (fun h14 hx => ?_) (fun h14 hx => ?_)
  · refine mm_if_gt 106 dX8_lastUpTo_89 (by decide) (fun _ => ?_) (fun h => absurd (lg_gt.mpr h14) h)
    refine mm_aload dX8_lastUpTo_106 rfl (isr_rf _) ?_
    refine mm_aret (a := v4_) dX8_lastUpTo_108 rfl ?_ (by omega) (by omega)
    obtain rfl := fin1 hx
    exact ⟨rfl, rfl⟩
  · refine mm_if_gt 106 dX8_lastUpTo_89 (by decide) (fun h => absurd (lg_gt.mp h) h14) (fun _ => ?_)
    refine mm_aload dX8_lastUpTo_92 rfl (isr_rf _) ?_
    refine mm_astore [none, none, some (.long v2_), none, some (va_rf v5_), some (va_rf v5_)] dX8_lastUpTo_94 (by decide) (isr_rf _) rfl ?_
    refine mm_aload dX8_lastUpTo_96 rfl (isr_rf _) ?_
    obtain ⟨q15, hr16, hs17, hx⟩ := ck_some hx
    refine s_getPN (r := v5_) (b := q15) (ci := 4) (k := 1) in_X4 rfl (by decide) rfl kF_X8_72 dX8_lastUpTo_98 hr16 hs17 (by decide) hn (by decide) rfl ?_
    refine mm_astore [none, none, some (.long v2_), none, some (va_rf v5_), some (va_rf (sP σ q15 1))] dX8_lastUpTo_101 (by decide) (isr_rf _) ((st1_o (r := v5_) rfl).trans rfl) ?_
    refine mm_goto 60 dX8_lastUpTo_103 (by decide) ?_
    exact hk60 _ _ hx
set_option maxHeartbeats 4000000 in
set_option maxRecDepth 100000 in
theorem e_X8_lastUpTo_L60 {g : mm_G} {l : Launch} (hst : l.stackTraces = false) {Z : Nat → Nat → Option Nat} (hZ : HZ Z) {n : Nat} (hn : 1186 ≤ n) {z : Bool} {d : Nat} {U : Nat} {a : Nat} (hs : sh a = 8) {v2_ : Int64} {σ : SG} {r : Option Nat} : ∀ (U1 : Nat) (v4_ : Option Nat) (v5_ : Option Nat), x_X8_lastUpTo_L60 U a v2_ σ U1 v4_ v5_ = some r → mm_V g l RX8 "lastUpTo" cX8_lastUpTo 6 (some (.object "ProtoDesk$Node")) [] (d) 0 0 (mm_nt (fun v S' => v = some (va_rf r) ∧ S' = (mem Z σ, n, z))) 60 [none, none, some (.long v2_), none, some (va_rf v4_), some (va_rf v5_)] [] (mem Z σ, n, z) 0 0 := by
  intro U1
  induction U1 with
  | zero => intro v4_ v5_ hx; exact absurd hx (by simp [x_X8_lastUpTo_L60])
  | succ U1 ih =>
    intro v4_ v5_ hx
    rw [x_X8_lastUpTo_L60] at hx
    refine mm_aload dX8_lastUpTo_60 rfl (isr_rf _) ?_
    refine b_if hx (fun h9 hx => ?_) (fun h9 hx => ?_)
    · refine mm_ifnull (r := v5_) 106 dX8_lastUpTo_62 (by decide) (fun _ => ?_) (fun h => absurd h9 h)
      refine mm_aload dX8_lastUpTo_106 rfl (isr_rf _) ?_
      refine mm_aret (a := v4_) dX8_lastUpTo_108 rfl ?_ (by omega) (by omega)
      obtain rfl := fin1 hx
      exact ⟨rfl, rfl⟩
    · refine mm_ifnull (r := v5_) 106 dX8_lastUpTo_62 (by decide) (fun h => absurd h h9) (fun _ => ?_)
      refine mm_aload dX8_lastUpTo_65 rfl (isr_rf _) ?_
      obtain ⟨q10, hr11, hs12, hx⟩ := ck_some hx
      refine s_getPN (r := v5_) (b := q10) (ci := 4) (k := 0) in_X4 rfl (by decide) rfl kF_X8_66 dX8_lastUpTo_67 hr11 hs12 (by decide) hn (by decide) rfl ?_
      refine b_if hx (fun h13 hx => ?_) (fun h13 hx => ?_)
      · refine mm_ifnonnull (r := sP σ q10 0) 79 dX8_lastUpTo_70 (by decide) (fun h => absurd h13 h) (fun _ => ?_)
        refine mm_ldc2 kL_X8_84 dX8_lastUpTo_73 ?_
        refine mm_goto 87 dX8_lastUpTo_76 (by decide) ?_
        exact e_X8_lastUpTo_87 hst hZ hn hs ih hx
      · refine mm_ifnonnull (r := sP σ q10 0) 79 dX8_lastUpTo_70 (by decide) (fun _ => ?_) (fun h => absurd h h13)
        refine mm_aload dX8_lastUpTo_79 rfl (isr_rf _) ?_
        refine s_getPN (r := v5_) (b := q10) (ci := 4) (k := 0) in_X4 rfl (by decide) rfl kF_X8_66 dX8_lastUpTo_81 hr11 hs12 (by decide) hn (by decide) rfl ?_
        obtain ⟨q18, hr19, hs20, hx⟩ := ck_some hx
        refine s_getLN (r := sP σ q10 0) (b := q18) (ci := 3) (k := 6) in_X3 rfl (by decide) rfl kF_X8_86 dX8_lastUpTo_84 hr19 hs20 (by decide) hn (by decide) rfl ?_
        exact e_X8_lastUpTo_87 hst hZ hn hs ih hx
set_option maxHeartbeats 4000000 in
set_option maxRecDepth 100000 in
theorem e_X8_lastUpTo_58 {g : mm_G} {l : Launch} (hst : l.stackTraces = false) {Z : Nat → Nat → Option Nat} (hZ : HZ Z) {n : Nat} (hn : 1186 ≤ n) {z : Bool} {d : Nat} {U : Nat} {a : Nat} (hs : sh a = 8) {v2_ : Int64} {v4_ : Option Nat} {s0_ : Option Nat} {σ : SG} {r : Option Nat} (hx : x_X8_lastUpTo_58 U a v2_ v4_ s0_ σ = some r) : mm_V g l RX8 "lastUpTo" cX8_lastUpTo 6 (some (.object "ProtoDesk$Node")) [] (d) 0 0 (mm_nt (fun v S' => v = some (va_rf r) ∧ S' = (mem Z σ, n, z))) 58 [none, none, some (.long v2_), none, some (va_rf v4_), none] [va_rf s0_] (mem Z σ, n, z) 0 0 := by
  unfold x_X8_lastUpTo_58 at hx
  refine mm_astore [none, none, some (.long v2_), none, some (va_rf v4_), some (va_rf s0_)] dX8_lastUpTo_58 (by decide) (isr_rf _) ((st1_o (r := v4_) rfl).trans rfl) ?_
  refine e_X8_lastUpTo_L60 hst hZ hn hs _ _ _ hx
set_option maxHeartbeats 4000000 in
set_option maxRecDepth 100000 in
theorem e_X8_lastUpTo_41 {g : mm_G} {l : Launch} (hst : l.stackTraces = false) {Z : Nat → Nat → Option Nat} (hZ : HZ Z) {n : Nat} (hn : 1186 ≤ n) {z : Bool} {d : Nat} {U : Nat} {a : Nat} (hs : sh a = 8) {v1_ : Option Nat} {v2_ : Int64} {v4_ : Option Nat} {σ : SG} {r : Option Nat} (hx : x_X8_lastUpTo_41 U a v1_ v2_ v4_ σ = some r) : mm_V g l RX8 "lastUpTo" cX8_lastUpTo 6 (some (.object "ProtoDesk$Node")) [] (d) 0 0 (mm_nt (fun v S' => v = some (va_rf r) ∧ S' = (mem Z σ, n, z))) 41 [none, some (va_rf v1_), some (.long v2_), none, some (va_rf v4_), none] [] (mem Z σ, n, z) 0 0 := by
  unfold x_X8_lastUpTo_41 at hx
  refine mm_aload dX8_lastUpTo_41 rfl (isr_rf _) ?_
  refine b_if hx (fun h5 hx => ?_) (fun h5 hx => ?_)
  · refine mm_ifnonnull (r := v4_) 53 dX8_lastUpTo_43 (by decide) (fun h => absurd h5 h) (fun _ => ?_)
    refine mm_aload_n dX8_lastUpTo_46 rfl (isr_rf _) ?_
    obtain ⟨q6, hr7, hs8, hx⟩ := ck_some hx
    refine s_getPN (r := v1_) (b := q6) (ci := 4) (k := 2) in_X4 rfl (by decide) rfl kF_X8_63 dX8_lastUpTo_47 hr7 hs8 (by decide) hn (by decide) rfl ?_
    refine mm_goto 58 dX8_lastUpTo_50 (by decide) ?_
    refine mm_fewer [none, none, some (.long v2_), none, some (va_rf v4_), none] (few_ok (bs := [false, false, true, false, true, false]) rfl) ?_
    exact e_X8_lastUpTo_58 hst hZ hn hs hx
  · refine mm_ifnonnull (r := v4_) 53 dX8_lastUpTo_43 (by decide) (fun _ => ?_) (fun h => absurd h h5)
    refine mm_aload dX8_lastUpTo_53 rfl (isr_rf _) ?_
    obtain ⟨q21, hr22, hs23, hx⟩ := ck_some hx
    refine s_getPN (r := v4_) (b := q21) (ci := 4) (k := 1) in_X4 rfl (by decide) rfl kF_X8_72 dX8_lastUpTo_55 hr22 hs23 (by decide) hn (by decide) rfl ?_
    refine mm_fewer [none, none, some (.long v2_), none, some (va_rf v4_), none] (few_ok (bs := [false, false, true, false, true, false]) rfl) ?_
    exact e_X8_lastUpTo_58 hst hZ hn hs hx
set_option maxHeartbeats 4000000 in
set_option maxRecDepth 100000 in
theorem e_X8_lastUpTo_33 {g : mm_G} {l : Launch} (hst : l.stackTraces = false) {Z : Nat → Nat → Option Nat} (hZ : HZ Z) {n : Nat} (hn : 1186 ≤ n) {z : Bool} {d : Nat} {U : Nat} {a : Nat} (hs : sh a = 8) {v1_ : Option Nat} {v2_ : Int64} {v4_ : Option Nat} {s0_ : Int64} {σ : SG} {r : Option Nat} (hx : x_X8_lastUpTo_33 U a v1_ v2_ v4_ s0_ σ = some r) : mm_V g l RX8 "lastUpTo" cX8_lastUpTo 6 (some (.object "ProtoDesk$Node")) [] (d) 0 0 (mm_nt (fun v S' => v = some (va_rf r) ∧ S' = (mem Z σ, n, z))) 33 [none, some (va_rf v1_), some (.long v2_), none, some (va_rf v4_), none] [.long s0_] (mem Z σ, n, z) 0 0 := by
  unfold x_X8_lastUpTo_33 at hx
  refine mm_lload_n dX8_lastUpTo_33 rfl ?_
  refine mm_lcmp dX8_lastUpTo_34 ?_
  refine b_if hx (fun h28 hx => ?_) (fun h28 hx => ?_)
  · refine mm_if_le 41 dX8_lastUpTo_35 (by decide) (fun h => absurd (lg_le.mp h) (Int64.not_le.mpr h28)) (fun _ => ?_)
    refine mm_null dX8_lastUpTo_38 ?_
    refine mm_astore [none, some (va_rf v1_), some (.long v2_), none, some (va_rf none), none] dX8_lastUpTo_39 (by decide) rfl rfl ?_
    exact e_X8_lastUpTo_41 hst hZ hn hs hx
  · refine mm_if_le 41 dX8_lastUpTo_35 (by decide) (fun _ => ?_) (fun h => absurd (lg_le.mpr (Int64.not_lt.mp h28)) h)
    exact e_X8_lastUpTo_41 hst hZ hn hs hx
set_option maxHeartbeats 4000000 in
set_option maxRecDepth 100000 in
theorem e_X8_lastUpTo {g : mm_G} {l : Launch} (hst : l.stackTraces = false) {Z : Nat → Nat → Option Nat} (hZ : HZ Z) {n : Nat} (hn : 1186 ≤ n) {z : Bool} {d : Nat} {U : Nat} {a : Nat} (hs : sh a = 8) {p0 : Option Nat} {p1 : Int64} {σ : SG} {r : Option Nat} (hx : x_X8_lastUpTo U a p0 p1 σ = some r) : mm_Cm g l yX8_lastUpTo (.code yX8_lastUpTo cX8_lastUpTo 6 (some (.object "ProtoDesk$Node"))) (d) 0 0 [.ref a, va_rf p0, .long p1] (mem Z σ, n, z) (fun v S' => v = some (va_rf r) ∧ S' = (mem Z σ, n, z)) := by
  refine mm_Cm_of hst (by decide) (by cases p0 <;>  exact Nat.le_of_ble_eq_true rfl) ?_
  rw [show mm_ent [.ref a, va_rf p0, .long p1] 6 = [some (.ref a), some (va_rf p0), some (.long p1), none, none, none] from by cases p0 <;>  rfl]
  show mm_V g l RX8 "lastUpTo" cX8_lastUpTo 6 (some (.object "ProtoDesk$Node")) [] (d) 0 0 (mm_nt (fun v S' => v = some (va_rf r) ∧ S' = (mem Z σ, n, z))) 0 [some (.ref a), some (va_rf p0), some (.long p1), none, none, none] [] (mem Z σ, n, z) 0 0
  unfold x_X8_lastUpTo at hx
  refine mm_aload_n dX8_lastUpTo_0 rfl (isr_rf _) ?_
  obtain ⟨q1, hr2, hs3, hx⟩ := ck_some hx
  refine s_getPN (r := p0) (b := q1) (ci := 4) (k := 3) in_X4 rfl (by decide) rfl kF_X8_98 dX8_lastUpTo_1 hr2 hs3 (by decide) hn (by decide) rfl ?_
  refine mm_astore [some (.ref a), some (va_rf p0), some (.long p1), none, some (va_rf (sP σ q1 3)), none] dX8_lastUpTo_4 (by decide) (isr_rf _) rfl ?_
  refine mm_aload dX8_lastUpTo_6 rfl (isr_rf _) ?_
  refine b_if hx (fun h4 hx => ?_) (fun h4 hx => ?_)
  · refine mm_ifnull (r := sP σ q1 3) 41 dX8_lastUpTo_8 (by decide) (fun _ => ?_) (fun h => absurd h4 h)
    refine mm_fewer [none, some (va_rf p0), some (.long p1), none, some (va_rf (sP σ q1 3)), none] (few_ok (bs := [false, true, true, false, true, false]) rfl) ?_
    exact e_X8_lastUpTo_41 hst hZ hn hs hx
  · refine mm_ifnull (r := sP σ q1 3) 41 dX8_lastUpTo_8 (by decide) (fun h => absurd h h4) (fun _ => ?_)
    refine mm_aload dX8_lastUpTo_11 rfl (isr_rf _) ?_
    obtain ⟨q24, hr25, hs26, hx⟩ := ck_some hx
    refine s_getPN (r := sP σ q1 3) (b := q24) (ci := 4) (k := 0) in_X4 rfl (by decide) rfl kF_X8_66 dX8_lastUpTo_13 hr25 hs26 (by decide) hn (by decide) rfl ?_
    refine b_if hx (fun h27 hx => ?_) (fun h27 hx => ?_)
    · refine mm_ifnonnull (r := sP σ q24 0) 25 dX8_lastUpTo_16 (by decide) (fun h => absurd h27 h) (fun _ => ?_)
      refine mm_ldc2 kL_X8_84 dX8_lastUpTo_19 ?_
      refine mm_goto 33 dX8_lastUpTo_22 (by decide) ?_
      refine mm_fewer [none, some (va_rf p0), some (.long p1), none, some (va_rf (sP σ q1 3)), none] (few_ok (bs := [false, true, true, false, true, false]) rfl) ?_
      exact e_X8_lastUpTo_33 hst hZ hn hs hx
    · refine mm_ifnonnull (r := sP σ q24 0) 25 dX8_lastUpTo_16 (by decide) (fun _ => ?_) (fun h => absurd h h27)
      refine mm_aload dX8_lastUpTo_25 rfl (isr_rf _) ?_
      refine s_getPN (r := sP σ q1 3) (b := q24) (ci := 4) (k := 0) in_X4 rfl (by decide) rfl kF_X8_66 dX8_lastUpTo_27 hr25 hs26 (by decide) hn (by decide) rfl ?_
      obtain ⟨q29, hr30, hs31, hx⟩ := ck_some hx
      refine s_getLN (r := sP σ q24 0) (b := q29) (ci := 3) (k := 6) in_X3 rfl (by decide) rfl kF_X8_86 dX8_lastUpTo_30 hr30 hs31 (by decide) hn (by decide) rfl ?_
      refine mm_fewer [none, some (va_rf p0), some (.long p1), none, some (va_rf (sP σ q1 3)), none] (few_ok (bs := [false, true, true, false, true, false]) rfl) ?_
      exact e_X8_lastUpTo_33 hst hZ hn hs hx
set_option maxHeartbeats 4000000 in
set_option maxRecDepth 100000 in
theorem e_X8_put_156 {g : mm_G} {l : Launch} (hst : l.stackTraces = false) {Z : Nat → Nat → Option Nat} (hZ : HZ Z) {n : Nat} (hn : 1186 ≤ n) {z : Bool} {d : Nat} {U : Nat} {a : Nat} (hs : sh a = 8) {v1_ : Option Nat} {v4_ : Option Nat} {σ : SG} {r : Option Nat} {σ' : SG} (hx : x_X8_put_156 U a v1_ v4_ σ = some (r, σ')) : mm_V g l RX8 "put" cX8_put 5 (some (.object "ProtoDesk$Node")) [] (d + 1) 0 0 (mm_nt (fun v S' => v = some (va_rf r) ∧ S' = (mem Z σ', n, z))) 156 [none, some (va_rf v1_), none, none, some (va_rf v4_)] [] (mem Z σ, n, z) 0 0 := by
  unfold x_X8_put_156 at hx
  refine mm_aload_n dX8_put_156 rfl (isr_rf _) ?_
  refine mm_aload dX8_put_157 rfl (isr_rf _) ?_
  obtain ⟨q20, hr21, hs22, hx⟩ := ck_some hx
  refine s_putPN (v := v4_) (r := v1_) (b := q20) (ci := 4) (k := 3) in_X4 rfl (by decide) rfl tyX4_ok nmX4 rfl kF_X8_98 dX8_put_159 (mm_fit_r _ _) hr21 hs22 (by decide) hn (by decide) rfl hx (fun σ23 hx => ?_)
  refine mm_aload dX8_put_162 rfl (isr_rf _) ?_
  refine mm_aret (a := v4_) dX8_put_164 rfl ?_ (by omega) (by omega)
  obtain ⟨rfl, rfl⟩ := fin2 hx
  exact ⟨rfl, rfl⟩
set_option maxHeartbeats 4000000 in
set_option maxRecDepth 100000 in
theorem e_X8_put_94 {g : mm_G} {l : Launch} (hst : l.stackTraces = false) {Z : Nat → Nat → Option Nat} (hZ : HZ Z) {n : Nat} (hn : 1186 ≤ n) {z : Bool} {d : Nat} {U : Nat} {a : Nat} (hs : sh a = 8) {v1_ : Option Nat} {v2_ : Option Nat} {v3_ : Option Nat} {s0_ : Option Nat} {σ : SG} {r : Option Nat} {σ' : SG} (hx : x_X8_put_94 U a v1_ v2_ v3_ s0_ σ = some (r, σ')) : mm_V g l RX8 "put" cX8_put 5 (some (.object "ProtoDesk$Node")) [] (d + 1) 0 0 (mm_nt (fun v S' => v = some (va_rf r) ∧ S' = (mem Z σ', n, z))) 94 [some (.ref a), some (va_rf v1_), some (va_rf v2_), some (va_rf v3_), none] [va_rf s0_] (mem Z σ, n, z) 0 0 := by
  unfold x_X8_put_94 at hx
  refine mm_astore [some (.ref a), some (va_rf v1_), some (va_rf v2_), some (va_rf v3_), some (va_rf s0_)] dX8_put_94 (by decide) (isr_rf _) ((st1_o (r := v3_) rfl).trans rfl) ?_
  refine mm_aload dX8_put_96 rfl (isr_rf _) ?_
  refine b_if hx (fun h7 hx => ?_) (fun h7 hx => ?_)
  · refine mm_ifnonnull (r := s0_) 103 dX8_put_98 (by decide) (fun h => absurd h7 h) (fun _ => ?_)
    refine mm_null dX8_put_101 ?_
    refine mm_aret (a := none) dX8_put_102 rfl ?_ (by omega) (by omega)
    obtain ⟨rfl, rfl⟩ := fin2 hx
    exact ⟨rfl, rfl⟩
  · refine mm_ifnonnull (r := s0_) 103 dX8_put_98 (by decide) (fun _ => ?_) (fun h => absurd h h7)
    refine mm_aload_n dX8_put_103 rfl rfl ?_
    refine mm_dup dX8_put_104 rfl ?_
    refine s_getI (r := some a) (b := a) (ci := 8) (k := 3) in_X8 rfl (by decide) rfl kF_X8_48 dX8_put_105 rfl hs (by decide) hn (by decide) rfl ?_
    refine mm_iconst (v := 1) dX8_put_108 (by decide) ?_
    refine mm_iadd dX8_put_109 ?_
    refine s_putI (v := (sI σ a 3) + 1) (r := some a) (b := a) (ci := 8) (k := 3) in_X8 rfl (by decide) rfl tyX8_ok nmX8 rfl kF_X8_48 dX8_put_110 (mm_fit_int _) rfl hs (by decide) hn (by decide) rfl hx (fun σ8 hx => ?_)
    refine mm_aload dX8_put_113 rfl (isr_rf _) ?_
    refine mm_aload_n dX8_put_115 rfl (isr_rf _) ?_
    obtain ⟨q9, hr10, hs11, hx⟩ := ck_some hx
    obtain ⟨σ13, hc12, hx⟩ := b1_some hx
    refine mm_callV3 (a := q9) (ci := 4) wM_X4_begin kM_X8_52 wI_X4_begin wS_X4_begin dX8_put_116 (e_X4_begin hst hZ hn hs11 hc12) (mem_obj hs11 (by decide)) (sh_ltn hs11 (by decide) hn) rfl rfl (by rw [hr10]; rfl) (Nat.le_of_ble_eq_true rfl) (by omega) (by omega) (fun v9 S9 hq => ?_)
    obtain ⟨rfl, rfl⟩ := hq
    refine ⟨fun h => ⟨h, rfl⟩, ?_⟩
    refine mm_aload_n dX8_put_119 rfl (isr_rf _) ?_
    refine b_if hx (fun h14 hx => ?_) (fun h14 hx => ?_)
    · refine mm_ifnonnull (r := v3_) 141 dX8_put_120 (by decide) (fun h => absurd h14 h) (fun _ => ?_)
      refine mm_aload dX8_put_123 rfl (isr_rf _) ?_
      refine mm_aload_n dX8_put_125 rfl (isr_rf _) ?_
      obtain ⟨q15, hr16, hs17, hx⟩ := ck_some hx
      refine s_getPN (r := v1_) (b := q15) (ci := 4) (k := 2) in_X4 rfl (by decide) rfl kF_X8_63 dX8_put_126 hr16 hs17 (by decide) hn (by decide) rfl ?_
      refine s_putPN (v := sP σ13 q15 2) (r := s0_) (b := q9) (ci := 4) (k := 1) in_X4 rfl (by decide) rfl tyX4_ok nmX4 rfl kF_X8_72 dX8_put_129 (mm_fit_r _ _) hr10 hs11 (by decide) hn (by decide) rfl hx (fun σ18 hx => ?_)
      refine mm_aload_n dX8_put_132 rfl (isr_rf _) ?_
      refine mm_aload dX8_put_133 rfl (isr_rf _) ?_
      refine s_putPN (v := s0_) (r := v1_) (b := q15) (ci := 4) (k := 2) in_X4 rfl (by decide) rfl tyX4_ok nmX4 rfl kF_X8_63 dX8_put_135 (mm_fit_r _ _) hr16 hs17 (by decide) hn (by decide) rfl hx (fun σ19 hx => ?_)
      refine mm_goto 156 dX8_put_138 (by decide) ?_
      refine mm_fewer [none, some (va_rf v1_), none, none, some (va_rf s0_)] (few_ok (bs := [false, true, false, false, true]) rfl) ?_
      exact e_X8_put_156 hst hZ hn hs hx
    · refine mm_ifnonnull (r := v3_) 141 dX8_put_120 (by decide) (fun _ => ?_) (fun h => absurd h h14)
      refine mm_aload dX8_put_141 rfl (isr_rf _) ?_
      refine mm_aload_n dX8_put_143 rfl (isr_rf _) ?_
      obtain ⟨q24, hr25, hs26, hx⟩ := ck_some hx
      refine s_getPN (r := v3_) (b := q24) (ci := 4) (k := 1) in_X4 rfl (by decide) rfl kF_X8_72 dX8_put_144 hr25 hs26 (by decide) hn (by decide) rfl ?_
      refine s_putPN (v := sP σ13 q24 1) (r := s0_) (b := q9) (ci := 4) (k := 1) in_X4 rfl (by decide) rfl tyX4_ok nmX4 rfl kF_X8_72 dX8_put_147 (mm_fit_r _ _) hr10 hs11 (by decide) hn (by decide) rfl hx (fun σ27 hx => ?_)
      refine mm_aload_n dX8_put_150 rfl (isr_rf _) ?_
      refine mm_aload dX8_put_151 rfl (isr_rf _) ?_
      refine s_putPN (v := s0_) (r := v3_) (b := q24) (ci := 4) (k := 1) in_X4 rfl (by decide) rfl tyX4_ok nmX4 rfl kF_X8_72 dX8_put_153 (mm_fit_r _ _) hr25 hs26 (by decide) hn (by decide) rfl hx (fun σ28 hx => ?_)
      refine mm_fewer [none, some (va_rf v1_), none, none, some (va_rf s0_)] (few_ok (bs := [false, true, false, false, true]) rfl) ?_
      exact e_X8_put_156 hst hZ hn hs hx
set_option maxHeartbeats 4000000 in
set_option maxRecDepth 100000 in
theorem e_X8_put_93 {g : mm_G} {l : Launch} (hst : l.stackTraces = false) {Z : Nat → Nat → Option Nat} (hZ : HZ Z) {n : Nat} (hn : 1186 ≤ n) {z : Bool} {d : Nat} {U : Nat} {a : Nat} (hs : sh a = 8) {v1_ : Option Nat} {v2_ : Option Nat} {v3_ : Option Nat} {σ : SG} {r : Option Nat} {σ' : SG} (hx : x_X8_put_93 U a v1_ v2_ v3_ σ = some (r, σ')) : mm_V g l RX8 "put" cX8_put 5 (some (.object "ProtoDesk$Node")) [] (d + 1) 0 0 (mm_nt (fun v S' => v = some (va_rf r) ∧ S' = (mem Z σ', n, z))) 93 [some (.ref a), some (va_rf v1_), some (va_rf v2_), some (va_rf v3_), none] [] (mem Z σ, n, z) 0 0 := by
  unfold x_X8_put_93 at hx
  refine mm_null dX8_put_93 ?_
  exact e_X8_put_94 hst hZ hn hs hx
set_option maxHeartbeats 4000000 in
set_option maxRecDepth 100000 in
theorem e_X8_put_62 {g : mm_G} {l : Launch} (hst : l.stackTraces = false) {Z : Nat → Nat → Option Nat} (hZ : HZ Z) {n : Nat} (hn : 1186 ≤ n) {z : Bool} {d : Nat} {U : Nat} {a : Nat} (hs : sh a = 8) {v1_ : Option Nat} {v2_ : Option Nat} {v3_ : Option Nat} {σ : SG} {r : Option Nat} {σ' : SG} (hx : x_X8_put_62 U a v1_ v2_ v3_ σ = some (r, σ')) : mm_V g l RX8 "put" cX8_put 5 (some (.object "ProtoDesk$Node")) [] (d + 1) 0 0 (mm_nt (fun v S' => v = some (va_rf r) ∧ S' = (mem Z σ', n, z))) 62 [some (.ref a), some (va_rf v1_), some (va_rf v2_), some (va_rf v3_), none] [] (mem Z σ, n, z) 0 0 := by
  unfold x_X8_put_62 at hx
  refine mm_aload_n dX8_put_62 rfl rfl ?_
  refine s_getI (r := some a) (b := a) (ci := 8) (k := 3) in_X8 rfl (by decide) rfl kF_X8_48 dX8_put_63 rfl hs (by decide) hn (by decide) rfl ?_
  refine b_if hx (fun h6 hx => ?_) (fun h6 hx => ?_)
  · refine mm_if_lt 93 dX8_put_66 (by decide) (fun _ => ?_) (fun h => absurd h6 h)
    exact e_X8_put_93 hst hZ hn hs hx
  · refine mm_if_lt 93 dX8_put_66 (by decide) (fun h => absurd h h6) (fun _ => ?_)
    refine mm_aload_n dX8_put_69 rfl rfl ?_
    refine s_getI (r := some a) (b := a) (ci := 8) (k := 3) in_X8 rfl (by decide) rfl kF_X8_48 dX8_put_70 rfl hs (by decide) hn (by decide) rfl ?_
    refine mm_aload_n dX8_put_73 rfl rfl ?_
    refine s_getS (q := 390) (r := some a) (b := a) (ci := 8) (k := 0) in_X8 rfl (by decide) rfl kF_X8_15 dX8_put_74 rfl hs (by decide) hn (by decide) rfl rfl ?_
    refine s_alen (a := 390) (t := 5) (N := 700) (v := 700) (fun _ => rfl) sa_390 (by decide) hn na_390 rfl dX8_put_77 ?_
    refine b_if hx (fun h29 hx => ?_) (fun h29 hx => ?_)
    · refine mm_icmp_ge 93 dX8_put_78 (by decide) (fun h => absurd h (Int32.not_le.mpr h29)) (fun _ => ?_)
      refine mm_aload_n dX8_put_81 rfl rfl ?_
      refine s_getS (q := 390) (r := some a) (b := a) (ci := 8) (k := 0) in_X8 rfl (by decide) rfl kF_X8_15 dX8_put_82 rfl hs (by decide) hn (by decide) rfl rfl ?_
      refine mm_aload_n dX8_put_85 rfl rfl ?_
      refine s_getI (r := some a) (b := a) (ci := 8) (k := 3) in_X8 rfl (by decide) rfl kF_X8_48 dX8_put_86 rfl hs (by decide) hn (by decide) rfl ?_
      obtain ⟨j30, hj31, hb32, hl33, hx⟩ := ix_some hx
      refine s_aaldN hZ hn hj31 hb32 hl33 dX8_put_89 ?_
      refine mm_goto 94 dX8_put_90 (by decide) ?_
      exact e_X8_put_94 hst hZ hn hs hx
    · refine mm_icmp_ge 93 dX8_put_78 (by decide) (fun _ => ?_) (fun h => absurd (Int32.not_lt.mp h29) h)
      exact e_X8_put_93 hst hZ hn hs hx
set_option maxHeartbeats 4000000 in
set_option maxRecDepth 100000 in
theorem e_X8_put_33 {g : mm_G} {l : Launch} (hst : l.stackTraces = false) {Z : Nat → Nat → Option Nat} (hZ : HZ Z) {n : Nat} (hn : 1186 ≤ n) {z : Bool} {d : Nat} {U : Nat} {a : Nat} (hs : sh a = 8) {v1_ : Option Nat} {v2_ : Option Nat} {s0_ : Int64} {s1_ : Option Nat} {σ : SG} {r : Option Nat} {σ' : SG} (hx : x_X8_put_33 U a v1_ v2_ s0_ s1_ σ = some (r, σ')) : mm_V g l RX8 "put" cX8_put 5 (some (.object "ProtoDesk$Node")) [] (d + 1) 0 0 (mm_nt (fun v S' => v = some (va_rf r) ∧ S' = (mem Z σ', n, z))) 33 [some (.ref a), some (va_rf v1_), some (va_rf v2_), none, none] [.long s0_, va_rf s1_, .ref a] (mem Z σ, n, z) 0 0 := by
  unfold x_X8_put_33 at hx
  obtain ⟨v4, hc3, hx⟩ := b1_some hx
  refine mm_callV3 (a := a) (ci := 8) wM_X8_lastUpTo kM_X8_90 wI_X8_lastUpTo wS_X8_lastUpTo dX8_put_33 (e_X8_lastUpTo hst hZ hn hs hc3) (mem_obj hs (by decide)) (sh_ltn hs (by decide) hn) rfl rfl rfl (Nat.le_of_ble_eq_true rfl) (by omega) (by omega) (fun v9 S9 hq => ?_)
  obtain ⟨rfl, rfl⟩ := hq
  refine ⟨fun h => ⟨h, rfl⟩, ?_⟩
  refine mm_astore_n [some (.ref a), some (va_rf v1_), some (va_rf v2_), some (va_rf v4), none] dX8_put_36 (by decide) (isr_rf _) ((st1_o (r := v2_) rfl).trans rfl) ?_
  refine mm_aload_n dX8_put_37 rfl (isr_rf _) ?_
  refine b_if hx (fun h5 hx => ?_) (fun h5 hx => ?_)
  · refine mm_ifnull (r := v4) 62 dX8_put_38 (by decide) (fun _ => ?_) (fun h => absurd h5 h)
    exact e_X8_put_62 hst hZ hn hs hx
  · refine mm_ifnull (r := v4) 62 dX8_put_38 (by decide) (fun h => absurd h h5) (fun _ => ?_)
    refine mm_aload_n dX8_put_41 rfl (isr_rf _) ?_
    refine b_if hx (fun h34 hx => ?_) (fun h34 hx => ?_)
    · refine mm_ifnull (r := v2_) 62 dX8_put_42 (by decide) (fun _ => ?_) (fun h => absurd h34 h)
      exact e_X8_put_62 hst hZ hn hs hx
    · refine mm_ifnull (r := v2_) 62 dX8_put_42 (by decide) (fun h => absurd h h34) (fun _ => ?_)
      refine mm_aload_n dX8_put_45 rfl (isr_rf _) ?_
      obtain ⟨q35, hr36, hs37, hx⟩ := ck_some hx
      refine s_getPN (r := v4) (b := q35) (ci := 4) (k := 0) in_X4 rfl (by decide) rfl kF_X8_66 dX8_put_46 hr36 hs37 (by decide) hn (by decide) rfl ?_
      refine mm_aload_n dX8_put_49 rfl (isr_rf _) ?_
      refine b_if hx (fun h38 hx => ?_) (fun h38 hx => ?_)
      · refine mm_acmp_ne (rx := sP σ q35 0) (ry := v2_) 62 dX8_put_50 (by decide) (fun h => absurd h38 h) (fun _ => ?_)
        refine mm_aload_n dX8_put_53 rfl (isr_rf _) ?_
        obtain ⟨q39, hr40, hs41, hx⟩ := ck_some hx
        refine s_getIN (r := v2_) (b := q39) (ci := 3) (k := 11) in_X3 rfl (by decide) rfl kF_X8_94 dX8_put_54 hr40 hs41 (by decide) hn (by decide) rfl ?_
        refine b_if hx (fun h42 hx => ?_) (fun h42 hx => ?_)
        · refine mm_if_ne 62 dX8_put_57 (by decide) (fun h => absurd h42 h) (fun _ => ?_)
          refine mm_aload_n dX8_put_60 rfl (isr_rf _) ?_
          refine mm_aret (a := v4) dX8_put_61 rfl ?_ (by omega) (by omega)
          obtain ⟨rfl, rfl⟩ := fin2 hx
          exact ⟨rfl, rfl⟩
        · refine mm_if_ne 62 dX8_put_57 (by decide) (fun _ => ?_) (fun h => absurd h h42)
          exact e_X8_put_62 hst hZ hn hs hx
      · refine mm_acmp_ne (rx := sP σ q35 0) (ry := v2_) 62 dX8_put_50 (by decide) (fun _ => ?_) (fun h => absurd h h38)
        exact e_X8_put_62 hst hZ hn hs hx
set_option maxHeartbeats 4000000 in
set_option maxRecDepth 100000 in
theorem e_X8_put_17 {g : mm_G} {l : Launch} (hst : l.stackTraces = false) {Z : Nat → Nat → Option Nat} (hZ : HZ Z) {n : Nat} (hn : 1186 ≤ n) {z : Bool} {d : Nat} {U : Nat} {a : Nat} (hs : sh a = 8) {v1_ : Option Nat} {v2_ : Option Nat} {σ : SG} {r : Option Nat} {σ' : SG} (hx : x_X8_put_17 U a v1_ v2_ σ = some (r, σ')) : mm_V g l RX8 "put" cX8_put 5 (some (.object "ProtoDesk$Node")) [] (d + 1) 0 0 (mm_nt (fun v S' => v = some (va_rf r) ∧ S' = (mem Z σ', n, z))) 17 [some (.ref a), some (va_rf v1_), some (va_rf v2_), none, none] [] (mem Z σ, n, z) 0 0 := by
  unfold x_X8_put_17 at hx
  refine mm_aload_n dX8_put_17 rfl rfl ?_
  refine mm_aload_n dX8_put_18 rfl (isr_rf _) ?_
  refine mm_aload_n dX8_put_19 rfl (isr_rf _) ?_
  refine b_if hx (fun h2 hx => ?_) (fun h2 hx => ?_)
  · refine mm_ifnonnull (r := v2_) 29 dX8_put_20 (by decide) (fun h => absurd h2 h) (fun _ => ?_)
    refine mm_ldc2 kL_X8_84 dX8_put_23 ?_
    refine mm_goto 33 dX8_put_26 (by decide) ?_
    exact e_X8_put_33 hst hZ hn hs hx
  · refine mm_ifnonnull (r := v2_) 29 dX8_put_20 (by decide) (fun _ => ?_) (fun h => absurd h h2)
    refine mm_aload_n dX8_put_29 rfl (isr_rf _) ?_
    obtain ⟨q43, hr44, hs45, hx⟩ := ck_some hx
    refine s_getLN (r := v2_) (b := q43) (ci := 3) (k := 6) in_X3 rfl (by decide) rfl kF_X8_86 dX8_put_30 hr44 hs45 (by decide) hn (by decide) rfl ?_
    exact e_X8_put_33 hst hZ hn hs hx
set_option maxHeartbeats 4000000 in
set_option maxRecDepth 100000 in
theorem e_X8_put {g : mm_G} {l : Launch} (hst : l.stackTraces = false) {Z : Nat → Nat → Option Nat} (hZ : HZ Z) {n : Nat} (hn : 1186 ≤ n) {z : Bool} {d : Nat} {U : Nat} {a : Nat} (hs : sh a = 8) {p0 : Option Nat} {p1 : Option Nat} {σ : SG} {r : Option Nat} {σ' : SG} (hx : x_X8_put U a p0 p1 σ = some (r, σ')) : mm_Cm g l yX8_put (.code yX8_put cX8_put 5 (some (.object "ProtoDesk$Node"))) (d + 1) 0 0 [.ref a, va_rf p0, va_rf p1] (mem Z σ, n, z) (fun v S' => v = some (va_rf r) ∧ S' = (mem Z σ', n, z)) := by
  refine mm_Cm_of hst (by decide) (by cases p0 <;> cases p1 <;>  exact Nat.le_of_ble_eq_true rfl) ?_
  rw [show mm_ent [.ref a, va_rf p0, va_rf p1] 5 = [some (.ref a), some (va_rf p0), some (va_rf p1), none, none] from by cases p0 <;> cases p1 <;>  rfl]
  show mm_V g l RX8 "put" cX8_put 5 (some (.object "ProtoDesk$Node")) [] (d + 1) 0 0 (mm_nt (fun v S' => v = some (va_rf r) ∧ S' = (mem Z σ', n, z))) 0 [some (.ref a), some (va_rf p0), some (va_rf p1), none, none] [] (mem Z σ, n, z) 0 0
  unfold x_X8_put at hx
  refine mm_aload_n dX8_put_0 rfl (isr_rf _) ?_
  refine b_if hx (fun h1 hx => ?_) (fun h1 hx => ?_)
  · refine mm_ifnull (r := p1) 17 dX8_put_1 (by decide) (fun _ => ?_) (fun h => absurd h1 h)
    exact e_X8_put_17 hst hZ hn hs hx
  · refine mm_ifnull (r := p1) 17 dX8_put_1 (by decide) (fun h => absurd h h1) (fun _ => ?_)
    refine mm_aload_n dX8_put_4 rfl (isr_rf _) ?_
    obtain ⟨q46, hr47, hs48, hx⟩ := ck_some hx
    refine s_getPN (r := p1) (b := q46) (ci := 3) (k := 3) in_X3 rfl (by decide) rfl kF_X8_75 dX8_put_5 hr47 hs48 (by decide) hn (by decide) rfl ?_
    refine b_if hx (fun h49 hx => ?_) (fun h49 hx => ?_)
    · refine mm_ifnull (r := sP σ q46 3) 17 dX8_put_8 (by decide) (fun _ => ?_) (fun h => absurd h49 h)
      exact e_X8_put_17 hst hZ hn hs hx
    · refine mm_ifnull (r := sP σ q46 3) 17 dX8_put_8 (by decide) (fun h => absurd h h49) (fun _ => ?_)
      refine mm_aload_n dX8_put_11 rfl rfl ?_
      refine mm_aload_n dX8_put_12 rfl (isr_rf _) ?_
      refine mm_aload_n dX8_put_13 rfl (isr_rf _) ?_
      obtain ⟨σ51, hc50, hx⟩ := b1_some hx
      refine mm_callV3 (a := a) (ci := 8) wM_X8_dropRivals kM_X8_80 wI_X8_dropRivals wS_X8_dropRivals dX8_put_14 (e_X8_dropRivals hst hZ hn hs hc50) (mem_obj hs (by decide)) (sh_ltn hs (by decide) hn) rfl rfl rfl (Nat.le_of_ble_eq_true rfl) (by omega) (by omega) (fun v9 S9 hq => ?_)
      obtain ⟨rfl, rfl⟩ := hq
      refine ⟨fun h => ⟨h, rfl⟩, ?_⟩
      exact e_X8_put_17 hst hZ hn hs hx
set_option maxHeartbeats 4000000 in
set_option maxRecDepth 100000 in
theorem e_X9_meaning {g : mm_G} {l : Launch} (hst : l.stackTraces = false) {Z : Nat → Nat → Option Nat} (hZ : HZ Z) {n : Nat} (hn : 1186 ≤ n) {z : Bool} {d : Nat} {p0 : Int32} {p1 : Int64} {σ : SG} {r : Int64} (hx : x_X9_meaning p0 p1 = some r) : mm_Cm g l yX9_meaning (.code yX9_meaning cX9_meaning 3 (some .long)) (d) 0 0 [.int p0, .long p1] (mem Z σ, n, z) (fun v S' => v = some (.long r) ∧ S' = (mem Z σ, n, z)) := by
  refine mm_Cm_of hst (by decide) (Nat.le_of_ble_eq_true rfl) ?_
  show mm_V g l RX9 "meaning" cX9_meaning 3 (some .long) [] (d) 0 0 (mm_nt (fun v S' => v = some (.long r) ∧ S' = (mem Z σ, n, z))) 0 [some (.int p0), some (.long p1), none] [] (mem Z σ, n, z) 0 0
  unfold x_X9_meaning at hx
  refine mm_iload_n dX9_meaning_0 rfl ?_
  refine b_if hx (fun h1 hx => ?_) (fun h1 hx => ?_)
  · refine mm_tsIn 76 dX9_meaning_1 (by rw [h1]; decide) (by rw [h1]; decide) (by rw [h1]; rfl) (by decide) ?_
    refine mm_lload_n dX9_meaning_76 rfl ?_
    refine mm_l2i dX9_meaning_77 ?_
    refine mm_i2l dX9_meaning_78 ?_
    refine mm_lret dX9_meaning_79 rfl ?_ (by omega) (by omega)
    obtain rfl := fin1 hx
    exact ⟨rfl, rfl⟩
  · skip
    refine b_if hx (fun h2 hx => ?_) (fun h2 hx => ?_)
    · refine mm_tsIn 119 dX9_meaning_1 (by rw [h2]; decide) (by rw [h2]; decide) (by rw [h2]; rfl) (by decide) ?_
      refine mm_lload_n dX9_meaning_119 rfl ?_
      refine mm_lret dX9_meaning_120 rfl ?_ (by omega) (by omega)
      obtain rfl := fin1 hx
      exact ⟨rfl, rfl⟩
    · skip
      refine b_if hx (fun h3 hx => ?_) (fun h3 hx => ?_)
      · refine mm_tsIn 80 dX9_meaning_1 (by rw [h3]; decide) (by rw [h3]; decide) (by rw [h3]; rfl) (by decide) ?_
        refine mm_lload_n dX9_meaning_80 rfl ?_
        refine mm_ldc2 kL_X9_141 dX9_meaning_81 ?_
        refine mm_land dX9_meaning_84 ?_
        refine mm_lret dX9_meaning_85 rfl ?_ (by omega) (by omega)
        obtain rfl := fin1 hx
        exact ⟨rfl, rfl⟩
      · skip
        refine b_if hx (fun h4 hx => ?_) (fun h4 hx => ?_)
        · refine mm_tsIn 119 dX9_meaning_1 (by rw [h4]; decide) (by rw [h4]; decide) (by rw [h4]; rfl) (by decide) ?_
          refine mm_lload_n dX9_meaning_119 rfl ?_
          refine mm_lret dX9_meaning_120 rfl ?_ (by omega) (by omega)
          obtain rfl := fin1 hx
          exact ⟨rfl, rfl⟩
        · skip
          refine b_if hx (fun h5 hx => ?_) (fun h5 hx => ?_)
          · refine mm_tsIn 86 dX9_meaning_1 (by rw [h5]; decide) (by rw [h5]; decide) (by rw [h5]; rfl) (by decide) ?_
            refine mm_lload_n dX9_meaning_86 rfl ?_
            refine mm_l2i dX9_meaning_87 ?_
            refine mm_iconst (v := 1) dX9_meaning_88 (by decide) ?_
            refine mm_iushr dX9_meaning_89 ?_
            refine mm_lload_n dX9_meaning_90 rfl ?_
            refine mm_l2i dX9_meaning_91 ?_
            refine mm_iconst (v := 1) dX9_meaning_92 (by decide) ?_
            refine mm_iand dX9_meaning_93 ?_
            refine mm_ineg dX9_meaning_94 ?_
            refine mm_ixor dX9_meaning_95 ?_
            refine mm_i2l dX9_meaning_96 ?_
            refine mm_lret dX9_meaning_97 rfl ?_ (by omega) (by omega)
            obtain rfl := fin1 hx
            exact ⟨rfl, rfl⟩
          · skip
            refine b_if hx (fun h6 hx => ?_) (fun h6 hx => ?_)
            · refine mm_tsIn 98 dX9_meaning_1 (by rw [h6]; decide) (by rw [h6]; decide) (by rw [h6]; rfl) (by decide) ?_
              refine mm_lload_n dX9_meaning_98 rfl ?_
              refine mm_iconst (v := 1) dX9_meaning_99 (by decide) ?_
              refine mm_lushr dX9_meaning_100 ?_
              refine mm_lload_n dX9_meaning_101 rfl ?_
              refine mm_lconst (v := 1) dX9_meaning_102 (by decide) ?_
              refine mm_land dX9_meaning_103 ?_
              refine mm_lneg dX9_meaning_104 ?_
              refine mm_lxor dX9_meaning_105 ?_
              refine mm_lret dX9_meaning_106 rfl ?_ (by omega) (by omega)
              obtain rfl := fin1 hx
              exact ⟨rfl, rfl⟩
            · skip
              refine b_if hx (fun h7 hx => ?_) (fun h7 hx => ?_)
              · refine mm_tsIn 80 dX9_meaning_1 (by rw [h7]; decide) (by rw [h7]; decide) (by rw [h7]; rfl) (by decide) ?_
                refine mm_lload_n dX9_meaning_80 rfl ?_
                refine mm_ldc2 kL_X9_141 dX9_meaning_81 ?_
                refine mm_land dX9_meaning_84 ?_
                refine mm_lret dX9_meaning_85 rfl ?_ (by omega) (by omega)
                obtain rfl := fin1 hx
                exact ⟨rfl, rfl⟩
              · skip
                refine b_if hx (fun h8 hx => ?_) (fun h8 hx => ?_)
                · refine mm_tsIn 119 dX9_meaning_1 (by rw [h8]; decide) (by rw [h8]; decide) (by rw [h8]; rfl) (by decide) ?_
                  refine mm_lload_n dX9_meaning_119 rfl ?_
                  refine mm_lret dX9_meaning_120 rfl ?_ (by omega) (by omega)
                  obtain rfl := fin1 hx
                  exact ⟨rfl, rfl⟩
                · skip
                  refine b_if hx (fun h9 hx => ?_) (fun h9 hx => ?_)
                  · refine mm_tsIn 76 dX9_meaning_1 (by rw [h9]; decide) (by rw [h9]; decide) (by rw [h9]; rfl) (by decide) ?_
                    refine mm_lload_n dX9_meaning_76 rfl ?_
                    refine mm_l2i dX9_meaning_77 ?_
                    refine mm_i2l dX9_meaning_78 ?_
                    refine mm_lret dX9_meaning_79 rfl ?_ (by omega) (by omega)
                    obtain rfl := fin1 hx
                    exact ⟨rfl, rfl⟩
                  · skip
                    refine b_if hx (fun h10 hx => ?_) (fun h10 hx => ?_)
                    · refine mm_tsIn 119 dX9_meaning_1 (by rw [h10]; decide) (by rw [h10]; decide) (by rw [h10]; rfl) (by decide) ?_
                      refine mm_lload_n dX9_meaning_119 rfl ?_
                      refine mm_lret dX9_meaning_120 rfl ?_ (by omega) (by omega)
                      obtain rfl := fin1 hx
                      exact ⟨rfl, rfl⟩
                    · skip
                      refine b_if hx (fun h11 hx => ?_) (fun h11 hx => ?_)
                      · refine mm_tsIn 107 dX9_meaning_1 (by rw [h11]; decide) (by rw [h11]; decide) (by rw [h11]; rfl) (by decide) ?_
                        refine mm_lload_n dX9_meaning_107 rfl ?_
                        refine mm_lconst (v := 0) dX9_meaning_108 (by decide) ?_
                        refine mm_lcmp dX9_meaning_109 ?_
                        refine b_if hx (fun h12 hx => ?_) (fun h12 hx => ?_)
                        · refine mm_if_eq 117 dX9_meaning_110 (by decide) (fun _ => ?_) (fun h => absurd (lg_eq.mpr h12) h)
                          refine mm_lconst (v := 0) dX9_meaning_117 (by decide) ?_
                          refine mm_lret dX9_meaning_118 rfl ?_ (by omega) (by omega)
                          obtain rfl := fin1 hx
                          exact ⟨rfl, rfl⟩
                        · refine mm_if_eq 117 dX9_meaning_110 (by decide) (fun h => absurd (lg_eq.mp h) h12) (fun _ => ?_)
                          refine mm_lconst (v := 1) dX9_meaning_113 (by decide) ?_
                          refine mm_goto 118 dX9_meaning_114 (by decide) ?_
                          refine mm_lret dX9_meaning_118 rfl ?_ (by omega) (by omega)
                          obtain rfl := fin1 hx
                          exact ⟨rfl, rfl⟩
                      · skip
                        refine b_if hx (fun h13 hx => ?_) (fun h13 hx => ?_)
                        · refine mm_tsIn 119 dX9_meaning_1 (by rw [h13]; decide) (by rw [h13]; decide) (by rw [h13]; rfl) (by decide) ?_
                          refine mm_lload_n dX9_meaning_119 rfl ?_
                          refine mm_lret dX9_meaning_120 rfl ?_ (by omega) (by omega)
                          obtain rfl := fin1 hx
                          exact ⟨rfl, rfl⟩
                        · skip
                          refine b_if hx (fun h14 hx => ?_) (fun h14 hx => ?_)
                          · refine mm_tsIn 119 dX9_meaning_1 (by rw [h14]; decide) (by rw [h14]; decide) (by rw [h14]; rfl) (by decide) ?_
                            refine mm_lload_n dX9_meaning_119 rfl ?_
                            refine mm_lret dX9_meaning_120 rfl ?_ (by omega) (by omega)
                            obtain rfl := fin1 hx
                            exact ⟨rfl, rfl⟩
                          · skip
                            refine b_if hx (fun h15 hx => ?_) (fun h15 hx => ?_)
                            · refine mm_tsIn 119 dX9_meaning_1 (by rw [h15]; decide) (by rw [h15]; decide) (by rw [h15]; rfl) (by decide) ?_
                              refine mm_lload_n dX9_meaning_119 rfl ?_
                              refine mm_lret dX9_meaning_120 rfl ?_ (by omega) (by omega)
                              obtain rfl := fin1 hx
                              exact ⟨rfl, rfl⟩
                            · skip
                              refine b_if hx (fun h16 hx => ?_) (fun h16 hx => ?_)
                              · refine mm_tsIn 76 dX9_meaning_1 (by rw [h16]; decide) (by rw [h16]; decide) (by rw [h16]; rfl) (by decide) ?_
                                refine mm_lload_n dX9_meaning_76 rfl ?_
                                refine mm_l2i dX9_meaning_77 ?_
                                refine mm_i2l dX9_meaning_78 ?_
                                refine mm_lret dX9_meaning_79 rfl ?_ (by omega) (by omega)
                                obtain rfl := fin1 hx
                                exact ⟨rfl, rfl⟩
                              · skip
                                refine mm_tsOut 119 dX9_meaning_1 (ts_out_15 h1 h2 h3 h4 h5 h6 h7 h8 h9 h10 h11 h13 h14 h15 h16) (by decide) ?_
                                refine mm_lload_n dX9_meaning_119 rfl ?_
                                refine mm_lret dX9_meaning_120 rfl ?_ (by omega) (by omega)
                                obtain rfl := fin1 hx
                                exact ⟨rfl, rfl⟩
set_option maxHeartbeats 4000000 in
set_option maxRecDepth 100000 in
theorem e_X9_putNumber {g : mm_G} {l : Launch} (hst : l.stackTraces = false) {Z : Nat → Nat → Option Nat} (hZ : HZ Z) {n : Nat} (hn : 1186 ≤ n) {z : Bool} {d : Nat} {U : Nat} {a : Nat} (hs : sh a = 9) {p0 : Option Nat} {p1 : Option Nat} {σ : SG} {r : Int32} {σ' : SG} (hx : x_X9_putNumber U a p0 p1 σ = some (r, σ')) : mm_Cm g l yX9_putNumber (.code yX9_putNumber cX9_putNumber 4 (some .boolean)) (d + 2) 0 0 [.ref a, va_rf p0, va_rf p1] (mem Z σ, n, z) (fun v S' => v = some (.int r) ∧ S' = (mem Z σ', n, z)) := by
  refine mm_Cm_of hst (by decide) (by cases p0 <;> cases p1 <;>  exact Nat.le_of_ble_eq_true rfl) ?_
  rw [show mm_ent [.ref a, va_rf p0, va_rf p1] 4 = [some (.ref a), some (va_rf p0), some (va_rf p1), none] from by cases p0 <;> cases p1 <;>  rfl]
  show mm_V g l RX9 "putNumber" cX9_putNumber 4 (some .boolean) [] (d + 2) 0 0 (mm_nt (fun v S' => v = some (.int r) ∧ S' = (mem Z σ', n, z))) 0 [some (.ref a), some (va_rf p0), some (va_rf p1), none] [] (mem Z σ, n, z) 0 0
  unfold x_X9_putNumber at hx
  refine mm_aload_n dX9_putNumber_0 rfl rfl ?_
  refine s_getS (q := 389) (r := some a) (b := a) (ci := 9) (k := 1) in_X9 rfl (by decide) rfl kF_X9_15 dX9_putNumber_1 rfl hs (by decide) hn (by decide) rfl rfl ?_
  refine mm_aload_n dX9_putNumber_4 rfl (isr_rf _) ?_
  refine mm_aload_n dX9_putNumber_5 rfl (isr_rf _) ?_
  obtain ⟨v2, σ3, hc1, hx⟩ := b2_some hx
  refine mm_callV3 (a := 389) (ci := 8) wM_X8_put kM_X9_104 wI_X8_put wS_X8_put dX9_putNumber_6 (e_X8_put hst hZ hn sa_389 hc1) (mem_obj sa_389 (by decide)) (sh_ltn sa_389 (by decide) hn) rfl rfl rfl (Nat.le_of_ble_eq_true rfl) (by omega) (by omega) (fun v9 S9 hq => ?_)
  obtain ⟨rfl, rfl⟩ := hq
  refine ⟨fun h => ⟨h, rfl⟩, ?_⟩
  refine mm_astore_n [some (.ref a), some (va_rf p0), some (va_rf p1), some (va_rf v2)] dX9_putNumber_9 (by decide) (isr_rf _) ((st1_o (r := p1) rfl).trans rfl) ?_
  refine mm_aload_n dX9_putNumber_10 rfl (isr_rf _) ?_
  refine b_if hx (fun h4 hx => ?_) (fun h4 hx => ?_)
  · refine mm_ifnonnull (r := v2) 16 dX9_putNumber_11 (by decide) (fun h => absurd h4 h) (fun _ => ?_)
    refine mm_iconst (v := 0) dX9_putNumber_14 (by decide) ?_
    refine mm_iret dX9_putNumber_15 rfl rfl ?_ (by omega) (by omega)
    obtain ⟨rfl, rfl⟩ := fin2 hx
    exact ⟨rfl, rfl⟩
  · refine mm_ifnonnull (r := v2) 16 dX9_putNumber_11 (by decide) (fun _ => ?_) (fun h => absurd h h4)
    refine mm_aload_n dX9_putNumber_16 rfl (isr_rf _) ?_
    refine mm_aload_n dX9_putNumber_17 rfl (isr_rf _) ?_
    obtain ⟨q5, hr6, hs7, hx⟩ := ck_some hx
    refine s_getIN (r := p1) (b := q5) (ci := 3) (k := 8) in_X3 rfl (by decide) rfl kF_X9_74 dX9_putNumber_18 hr6 hs7 (by decide) hn (by decide) rfl ?_
    refine mm_aload_n dX9_putNumber_21 rfl rfl ?_
    refine s_getL (r := some a) (b := a) (ci := 9) (k := 4) in_X9 rfl (by decide) rfl kF_X9_53 dX9_putNumber_22 rfl hs (by decide) hn (by decide) rfl ?_
    obtain ⟨v9, hc8, hx⟩ := b1_some hx
    refine mm_callS wM_X9_meaning kM_X9_115 wT_X9_meaning dX9_putNumber_25 (e_X9_meaning hst hZ hn hc8) rfl rfl (show (([va_rf v2] : List Value).map fun v => v.category).sum ≤ 8 by simp only [List.map_cons, List.map_nil, List.sum_cons, List.sum_nil, cat_rf]; exact Nat.le_of_ble_eq_true rfl) (by omega) (by omega) (fun v9 S9 hq => ?_)
    obtain ⟨rfl, rfl⟩ := hq
    refine ⟨fun h => ⟨h, rfl⟩, ?_⟩
    obtain ⟨q10, hr11, hs12, hx⟩ := ck_some hx
    refine s_putLN (v := v9) (r := v2) (b := q10) (ci := 4) (k := 4) in_X4 rfl (by decide) rfl tyX4_ok nmX4 rfl kF_X9_119 dX9_putNumber_28 (mm_fit_long _) hr11 hs12 (by decide) hn (by decide) rfl hx (fun σ13 hx => ?_)
    refine mm_iconst (v := 1) dX9_putNumber_31 (by decide) ?_
    refine mm_iret dX9_putNumber_32 rfl rfl ?_ (by omega) (by omega)
    obtain ⟨rfl, rfl⟩ := fin2 hx
    exact ⟨rfl, rfl⟩
set_option maxHeartbeats 4000000 in
set_option maxRecDepth 100000 in
theorem e_X9_takeRow_L3 {g : mm_G} {l : Launch} (hst : l.stackTraces = false) {Z : Nat → Nat → Option Nat} (hZ : HZ Z) {n : Nat} (hn : 1186 ≤ n) {z : Bool} {d : Nat} {U : Nat} {a : Nat} (hs : sh a = 9) {k51 : SG → Option (Int32 × SG)} {v1_ : Option Nat} {v2_ : Option Nat} {v3_ : Int32} {r : Int32} {σ' : SG} (hk51 : ∀ (σ8 : SG), k51 σ8 = some (r, σ') → mm_V g l RX9 "takeRow" cX9_takeRow 5 (some .boolean) [] (d + 3) 0 0 (mm_nt (fun v S' => v = some (.int r) ∧ S' = (mem Z σ', n, z))) 51 [some (.ref a), none, none, some (.int v3_), none] [] (mem Z σ8, n, z) 0 0) : ∀ (U1 : Nat) (v4_ : Int32) (σ : SG), x_X9_takeRow_L3 U a k51 v1_ v2_ v3_ U1 v4_ σ = some (r, σ') → mm_V g l RX9 "takeRow" cX9_takeRow 5 (some .boolean) [] (d + 3) 0 0 (mm_nt (fun v S' => v = some (.int r) ∧ S' = (mem Z σ', n, z))) 3 [some (.ref a), some (va_rf v1_), some (va_rf v2_), some (.int v3_), some (.int v4_)] [] (mem Z σ, n, z) 0 0 := by
  intro U1
  induction U1 with
  | zero => intro v4_ σ hx; exact absurd hx (by simp [x_X9_takeRow_L3])
  | succ U1 ih =>
    intro v4_ σ hx
    rw [x_X9_takeRow_L3] at hx
    refine mm_iload dX9_takeRow_3 rfl ?_
    refine mm_sipush (v := 700) dX9_takeRow_5 (by decide) ?_
    refine b_if hx (fun h1 hx => ?_) (fun h1 hx => ?_)
    · refine mm_icmp_ge 51 dX9_takeRow_8 (by decide) (fun h => absurd h (Int32.not_le.mpr h1)) (fun _ => ?_)
      refine mm_aload_n dX9_takeRow_11 rfl rfl ?_
      refine s_getI (r := some a) (b := a) (ci := 9) (k := 3) in_X9 rfl (by decide) rfl kF_X9_22 dX9_takeRow_12 rfl hs (by decide) hn (by decide) rfl ?_
      refine mm_iload_n dX9_takeRow_15 rfl ?_
      refine b_if hx (fun h2 hx => ?_) (fun h2 hx => ?_)
      · refine mm_icmp_ge 51 dX9_takeRow_16 (by decide) (fun h => absurd h (Int32.not_le.mpr h2)) (fun _ => ?_)
        refine mm_aload_n dX9_takeRow_19 rfl rfl ?_
        refine mm_aload_n dX9_takeRow_20 rfl (isr_rf _) ?_
        obtain ⟨q3, hr4, hs5, hx⟩ := ck_some hx
        refine s_getIN (r := v2_) (b := q3) (ci := 3) (k := 8) in_X3 rfl (by decide) rfl kF_X9_74 dX9_takeRow_21 hr4 hs5 (by decide) hn (by decide) rfl ?_
        obtain ⟨v7, hc6, hx⟩ := b1_some hx
        refine mm_callS wM_X9_kindOf kM_X9_77 wT_X9_kindOf dX9_takeRow_24 (e_X9_kindOf hst hZ hn hc6) rfl rfl (Nat.le_of_ble_eq_true rfl) (by omega) (by omega) (fun v9 S9 hq => ?_)
        obtain ⟨rfl, rfl⟩ := hq
        refine ⟨fun h => ⟨h, rfl⟩, ?_⟩
        refine mm_iload_n dX9_takeRow_27 rfl ?_
        obtain ⟨v9, σ10, hc8, hx⟩ := b2_some hx
        refine mm_callV3 (a := a) (ci := 9) wM_X9_readNumber kM_X9_49 wI_X9_readNumber wS_X9_readNumber dX9_takeRow_28 (e_X9_readNumber hst hZ hn hs hc8) (mem_obj hs (by decide)) (sh_ltn hs (by decide) hn) rfl rfl rfl (Nat.le_of_ble_eq_true rfl) (by omega) (by omega) (fun v9 S9 hq => ?_)
        obtain ⟨rfl, rfl⟩ := hq
        refine ⟨fun h => ⟨h, rfl⟩, ?_⟩
        refine b_if hx (fun h11 hx => ?_) (fun h11 hx => ?_)
        · refine mm_if_eq 43 dX9_takeRow_31 (by decide) (fun _ => ?_) (fun h => absurd h11 h)
          refine mm_iconst (v := 0) dX9_takeRow_43 (by decide) ?_
          refine mm_iret dX9_takeRow_44 rfl rfl ?_ (by omega) (by omega)
          obtain ⟨rfl, rfl⟩ := fin2 hx
          exact ⟨rfl, rfl⟩
        · refine mm_if_eq 43 dX9_takeRow_31 (by decide) (fun h => absurd h h11) (fun _ => ?_)
          refine mm_aload_n dX9_takeRow_34 rfl rfl ?_
          refine mm_aload_n dX9_takeRow_35 rfl (isr_rf _) ?_
          refine mm_aload_n dX9_takeRow_36 rfl (isr_rf _) ?_
          obtain ⟨v13, σ14, hc12, hx⟩ := b2_some hx
          refine mm_callV3 (a := a) (ci := 9) wM_X9_putNumber kM_X9_81 wI_X9_putNumber wS_X9_putNumber dX9_takeRow_37 (e_X9_putNumber hst hZ hn hs hc12) (mem_obj hs (by decide)) (sh_ltn hs (by decide) hn) rfl rfl rfl (Nat.le_of_ble_eq_true rfl) (by omega) (by omega) (fun v9 S9 hq => ?_)
          obtain ⟨rfl, rfl⟩ := hq
          refine ⟨fun h => ⟨h, rfl⟩, ?_⟩
          refine b_if hx (fun h15 hx => ?_) (fun h15 hx => ?_)
          · refine mm_if_ne 45 dX9_takeRow_40 (by decide) (fun h => absurd h15 h) (fun _ => ?_)
            refine mm_iconst (v := 0) dX9_takeRow_43 (by decide) ?_
            refine mm_iret dX9_takeRow_44 rfl rfl ?_ (by omega) (by omega)
            obtain ⟨rfl, rfl⟩ := fin2 hx
            exact ⟨rfl, rfl⟩
          · refine mm_if_ne 45 dX9_takeRow_40 (by decide) (fun _ => ?_) (fun h => absurd h h15)
            refine mm_iinc (v := v4_ + 1) [some (.ref a), some (va_rf v1_), some (va_rf v2_), some (.int v3_), some (.int (v4_ + 1))] dX9_takeRow_45 rfl rfl (by decide) rfl ?_
            refine mm_goto 3 dX9_takeRow_48 (by decide) ?_
            exact ih _ _ hx
      · refine mm_icmp_ge 51 dX9_takeRow_16 (by decide) (fun _ => ?_) (fun h => absurd (Int32.not_lt.mp h2) h)
        refine mm_fewer [some (.ref a), none, none, some (.int v3_), none] (few_ok (bs := [true, false, false, true, false]) rfl) ?_
        exact hk51  _ hx
    · refine mm_icmp_ge 51 dX9_takeRow_8 (by decide) (fun _ => ?_) (fun h => absurd (Int32.not_lt.mp h1) h)
      refine mm_fewer [some (.ref a), none, none, some (.int v3_), none] (few_ok (bs := [true, false, false, true, false]) rfl) ?_
      exact hk51  _ hx
set_option maxHeartbeats 4000000 in
set_option maxRecDepth 100000 in
theorem e_X9_takeRow_51 {g : mm_G} {l : Launch} (hst : l.stackTraces = false) {Z : Nat → Nat → Option Nat} (hZ : HZ Z) {n : Nat} (hn : 1186 ≤ n) {z : Bool} {d : Nat} {U : Nat} {a : Nat} (hs : sh a = 9) {v3_ : Int32} {σ : SG} {r : Int32} {σ' : SG} (hx : x_X9_takeRow_51 U a v3_ σ = some (r, σ')) : mm_V g l RX9 "takeRow" cX9_takeRow 5 (some .boolean) [] (d + 3) 0 0 (mm_nt (fun v S' => v = some (.int r) ∧ S' = (mem Z σ', n, z))) 51 [some (.ref a), none, none, some (.int v3_), none] [] (mem Z σ, n, z) 0 0 := by
  unfold x_X9_takeRow_51 at hx
  refine mm_aload_n dX9_takeRow_51 rfl rfl ?_
  refine s_getI (r := some a) (b := a) (ci := 9) (k := 3) in_X9 rfl (by decide) rfl kF_X9_22 dX9_takeRow_52 rfl hs (by decide) hn (by decide) rfl ?_
  refine mm_iload_n dX9_takeRow_55 rfl ?_
  refine b_if hx (fun h17 hx => ?_) (fun h17 hx => ?_)
  · refine mm_icmp_ne 63 dX9_takeRow_56 (by decide) (fun h => absurd h17 h) (fun _ => ?_)
    refine mm_iconst (v := 1) dX9_takeRow_59 (by decide) ?_
    refine mm_goto 64 dX9_takeRow_60 (by decide) ?_
    refine mm_iret dX9_takeRow_64 rfl rfl ?_ (by omega) (by omega)
    obtain ⟨rfl, rfl⟩ := fin2 hx
    exact ⟨rfl, rfl⟩
  · refine mm_icmp_ne 63 dX9_takeRow_56 (by decide) (fun _ => ?_) (fun h => absurd h h17)
    refine mm_iconst (v := 0) dX9_takeRow_63 (by decide) ?_
    refine mm_iret dX9_takeRow_64 rfl rfl ?_ (by omega) (by omega)
    obtain ⟨rfl, rfl⟩ := fin2 hx
    exact ⟨rfl, rfl⟩
set_option maxHeartbeats 4000000 in
set_option maxRecDepth 100000 in
theorem e_X9_takeRow {g : mm_G} {l : Launch} (hst : l.stackTraces = false) {Z : Nat → Nat → Option Nat} (hZ : HZ Z) {n : Nat} (hn : 1186 ≤ n) {z : Bool} {d : Nat} {U : Nat} {a : Nat} (hs : sh a = 9) {p0 : Option Nat} {p1 : Option Nat} {p2 : Int32} {σ : SG} {r : Int32} {σ' : SG} (hx : x_X9_takeRow U a p0 p1 p2 σ = some (r, σ')) : mm_Cm g l yX9_takeRow (.code yX9_takeRow cX9_takeRow 5 (some .boolean)) (d + 3) 0 0 [.ref a, va_rf p0, va_rf p1, .int p2] (mem Z σ, n, z) (fun v S' => v = some (.int r) ∧ S' = (mem Z σ', n, z)) := by
  refine mm_Cm_of hst (by decide) (by cases p0 <;> cases p1 <;>  exact Nat.le_of_ble_eq_true rfl) ?_
  rw [show mm_ent [.ref a, va_rf p0, va_rf p1, .int p2] 5 = [some (.ref a), some (va_rf p0), some (va_rf p1), some (.int p2), none] from by cases p0 <;> cases p1 <;>  rfl]
  show mm_V g l RX9 "takeRow" cX9_takeRow 5 (some .boolean) [] (d + 3) 0 0 (mm_nt (fun v S' => v = some (.int r) ∧ S' = (mem Z σ', n, z))) 0 [some (.ref a), some (va_rf p0), some (va_rf p1), some (.int p2), none] [] (mem Z σ, n, z) 0 0
  unfold x_X9_takeRow at hx
  refine mm_iconst (v := 0) dX9_takeRow_0 (by decide) ?_
  refine mm_istore [some (.ref a), some (va_rf p0), some (va_rf p1), some (.int p2), some (.int 0)] dX9_takeRow_1 (by decide) rfl ?_
  refine e_X9_takeRow_L3 hst hZ hn hs ?_ _ _ _ hx
  · intro  σ16 hx
    exact e_X9_takeRow_51 hst hZ hn hs hx
set_option maxHeartbeats 4000000 in
set_option maxRecDepth 100000 in
theorem e_X9_copy {g : mm_G} {l : Launch} (hst : l.stackTraces = false) {Z : Nat → Nat → Option Nat} (hZ : HZ Z) {n : Nat} (hn : 1186 ≤ n) {z : Bool} {d : Nat} {U : Nat} {a : Nat} (hs : sh a = 9) {p0 : Option Nat} {p1 : Int32} {p2 : Int32} {σ : SG} {r : Int32} {σ' : SG} (hx : x_X9_copy U a p0 p1 p2 σ = some (r, σ')) : mm_Cm g l yX9_copy (.code yX9_copy cX9_copy 4 (some .boolean)) (d + 2) 0 0 [.ref a, va_rf p0, .int p1, .int p2] (mem Z σ, n, z) (fun v S' => v = some (.int r) ∧ S' = (mem Z σ', n, z)) := by
  refine mm_Cm_of hst (by decide) (by cases p0 <;>  exact Nat.le_of_ble_eq_true rfl) ?_
  rw [show mm_ent [.ref a, va_rf p0, .int p1, .int p2] 4 = [some (.ref a), some (va_rf p0), some (.int p1), some (.int p2)] from by cases p0 <;>  rfl]
  show mm_V g l RX9 "copy" cX9_copy 4 (some .boolean) [] (d + 2) 0 0 (mm_nt (fun v S' => v = some (.int r) ∧ S' = (mem Z σ', n, z))) 0 [some (.ref a), some (va_rf p0), some (.int p1), some (.int p2)] [] (mem Z σ, n, z) 0 0
  unfold x_X9_copy at hx
  refine mm_aload_n dX9_copy_0 rfl (isr_rf _) ?_
  refine mm_aload_n dX9_copy_1 rfl rfl ?_
  refine s_getS (q := 389) (r := some a) (b := a) (ci := 9) (k := 1) in_X9 rfl (by decide) rfl kF_X9_15 dX9_copy_2 rfl hs (by decide) hn (by decide) rfl rfl ?_
  refine s_getSN (q := 1092) (r := some 389) (b := 389) (ci := 8) (k := 2) in_X8 rfl (by decide) rfl kF_X9_122 dX9_copy_5 rfl sa_389 (by decide) hn (by decide) rfl rfl ?_
  obtain ⟨v2, hc1, hx⟩ := b1_some hx
  refine mm_callV3 (a := 1092) (ci := 0) wM_X0_size kM_X9_39 wI_X0_size wS_X0_size dX9_copy_8 (e_X0_size hst hZ hn sa_1092 hc1) (mem_obj sa_1092 (by decide)) (sh_ltn sa_1092 (by decide) hn) rfl rfl rfl (show (([va_rf p0] : List Value).map fun v => v.category).sum ≤ 8 by simp only [List.map_cons, List.map_nil, List.sum_cons, List.sum_nil, cat_rf]; exact Nat.le_of_ble_eq_true rfl) (by omega) (by omega) (fun v9 S9 hq => ?_)
  obtain ⟨rfl, rfl⟩ := hq
  refine ⟨fun h => ⟨h, rfl⟩, ?_⟩
  obtain ⟨q3, hr4, hs5, hx⟩ := ck_some hx
  refine s_putIN (v := v2) (r := p0) (b := q3) (ci := 4) (k := 5) in_X4 rfl (by decide) rfl tyX4_ok nmX4 rfl kF_X9_125 dX9_copy_11 (mm_fit_int _) hr4 hs5 (by decide) hn (by decide) rfl hx (fun σ6 hx => ?_)
  refine mm_aload_n dX9_copy_14 rfl rfl ?_
  refine s_getS (q := 389) (r := some a) (b := a) (ci := 9) (k := 1) in_X9 rfl (by decide) rfl kF_X9_15 dX9_copy_15 rfl hs (by decide) hn (by decide) rfl rfl ?_
  refine s_getSN (q := 1092) (r := some 389) (b := 389) (ci := 8) (k := 2) in_X8 rfl (by decide) rfl kF_X9_122 dX9_copy_18 rfl sa_389 (by decide) hn (by decide) rfl rfl ?_
  refine mm_aload_n dX9_copy_21 rfl rfl ?_
  refine s_getS (q := 1) (r := some a) (b := a) (ci := 9) (k := 0) in_X9 rfl (by decide) rfl kF_X9_9 dX9_copy_22 rfl hs (by decide) hn (by decide) rfl rfl ?_
  refine mm_iload_n dX9_copy_25 rfl ?_
  refine mm_iload_n dX9_copy_26 rfl ?_
  obtain ⟨σ8, hc7, hx⟩ := b1_some hx
  refine mm_callV3 (a := 1092) (ci := 0) wM_X0_addAll kM_X9_128 wI_X0_addAll wS_X0_addAll dX9_copy_27 (e_X0_addAll hst hZ hn sa_1092 hc7) (mem_obj sa_1092 (by decide)) (sh_ltn sa_1092 (by decide) hn) rfl rfl rfl (Nat.le_of_ble_eq_true rfl) (by omega) (by omega) (fun v9 S9 hq => ?_)
  obtain ⟨rfl, rfl⟩ := hq
  refine ⟨fun h => ⟨h, rfl⟩, ?_⟩
  refine mm_aload_n dX9_copy_30 rfl (isr_rf _) ?_
  refine mm_aload_n dX9_copy_31 rfl rfl ?_
  refine s_getS (q := 389) (r := some a) (b := a) (ci := 9) (k := 1) in_X9 rfl (by decide) rfl kF_X9_15 dX9_copy_32 rfl hs (by decide) hn (by decide) rfl rfl ?_
  refine s_getSN (q := 1092) (r := some 389) (b := 389) (ci := 8) (k := 2) in_X8 rfl (by decide) rfl kF_X9_122 dX9_copy_35 rfl sa_389 (by decide) hn (by decide) rfl rfl ?_
  obtain ⟨v10, hc9, hx⟩ := b1_some hx
  refine mm_callV3 (a := 1092) (ci := 0) wM_X0_size kM_X9_39 wI_X0_size wS_X0_size dX9_copy_38 (e_X0_size hst hZ hn sa_1092 hc9) (mem_obj sa_1092 (by decide)) (sh_ltn sa_1092 (by decide) hn) rfl rfl rfl (show (([va_rf p0] : List Value).map fun v => v.category).sum ≤ 8 by simp only [List.map_cons, List.map_nil, List.sum_cons, List.sum_nil, cat_rf]; exact Nat.le_of_ble_eq_true rfl) (by omega) (by omega) (fun v9 S9 hq => ?_)
  obtain ⟨rfl, rfl⟩ := hq
  refine ⟨fun h => ⟨h, rfl⟩, ?_⟩
  refine s_putIN (v := v10) (r := p0) (b := q3) (ci := 4) (k := 6) in_X4 rfl (by decide) rfl tyX4_ok nmX4 rfl kF_X9_132 dX9_copy_41 (mm_fit_int _) hr4 hs5 (by decide) hn (by decide) rfl hx (fun σ11 hx => ?_)
  refine mm_aload_n dX9_copy_44 rfl rfl ?_
  refine mm_iload_n dX9_copy_45 rfl ?_
  refine s_putI (v := p2) (r := some a) (b := a) (ci := 9) (k := 3) in_X9 rfl (by decide) rfl tyX9_ok nmX9 rfl kF_X9_22 dX9_copy_46 (mm_fit_int _) rfl hs (by decide) hn (by decide) rfl hx (fun σ12 hx => ?_)
  refine mm_iconst (v := 1) dX9_copy_49 (by decide) ?_
  refine mm_iret dX9_copy_50 rfl rfl ?_ (by omega) (by omega)
  obtain ⟨rfl, rfl⟩ := fin2 hx
  exact ⟨rfl, rfl⟩
set_option maxHeartbeats 4000000 in
set_option maxRecDepth 100000 in
theorem e_X9_keep {g : mm_G} {l : Launch} (hst : l.stackTraces = false) {Z : Nat → Nat → Option Nat} (hZ : HZ Z) {n : Nat} (hn : 1186 ≤ n) {z : Bool} {d : Nat} {U : Nat} {a : Nat} (hs : sh a = 9) {p0 : Option Nat} {p1 : Int32} {σ : SG} {r : Int32} {σ' : SG} (hx : x_X9_keep U a p0 p1 σ = some (r, σ')) : mm_Cm g l yX9_keep (.code yX9_keep cX9_keep 4 (some .boolean)) (d + 3) 0 0 [.ref a, va_rf p0, .int p1] (mem Z σ, n, z) (fun v S' => v = some (.int r) ∧ S' = (mem Z σ', n, z)) := by
  refine mm_Cm_of hst (by decide) (by cases p0 <;>  exact Nat.le_of_ble_eq_true rfl) ?_
  rw [show mm_ent [.ref a, va_rf p0, .int p1] 4 = [some (.ref a), some (va_rf p0), some (.int p1), none] from by cases p0 <;>  rfl]
  show mm_V g l RX9 "keep" cX9_keep 4 (some .boolean) [] (d + 3) 0 0 (mm_nt (fun v S' => v = some (.int r) ∧ S' = (mem Z σ', n, z))) 0 [some (.ref a), some (va_rf p0), some (.int p1), none] [] (mem Z σ, n, z) 0 0
  unfold x_X9_keep at hx
  refine mm_aload_n dX9_keep_0 rfl rfl ?_
  refine s_getS (q := 389) (r := some a) (b := a) (ci := 9) (k := 1) in_X9 rfl (by decide) rfl kF_X9_15 dX9_keep_1 rfl hs (by decide) hn (by decide) rfl rfl ?_
  refine mm_aload_n dX9_keep_4 rfl (isr_rf _) ?_
  refine mm_null dX9_keep_5 ?_
  obtain ⟨v2, σ3, hc1, hx⟩ := b2_some hx
  refine mm_callV3 (a := 389) (ci := 8) wM_X8_put kM_X9_104 wI_X8_put wS_X8_put dX9_keep_6 (e_X8_put hst hZ hn sa_389 hc1) (mem_obj sa_389 (by decide)) (sh_ltn sa_389 (by decide) hn) rfl rfl rfl (Nat.le_of_ble_eq_true rfl) (by omega) (by omega) (fun v9 S9 hq => ?_)
  obtain ⟨rfl, rfl⟩ := hq
  refine ⟨fun h => ⟨h, rfl⟩, ?_⟩
  refine mm_astore_n [some (.ref a), some (va_rf p0), some (.int p1), some (va_rf v2)] dX9_keep_9 (by decide) (isr_rf _) rfl ?_
  refine mm_aload_n dX9_keep_10 rfl (isr_rf _) ?_
  refine b_if hx (fun h4 hx => ?_) (fun h4 hx => ?_)
  · refine mm_ifnull (r := v2) 31 dX9_keep_11 (by decide) (fun _ => ?_) (fun h => absurd h4 h)
    refine mm_iconst (v := 0) dX9_keep_31 (by decide) ?_
    refine mm_iret dX9_keep_32 rfl rfl ?_ (by omega) (by omega)
    obtain ⟨rfl, rfl⟩ := fin2 hx
    exact ⟨rfl, rfl⟩
  · refine mm_ifnull (r := v2) 31 dX9_keep_11 (by decide) (fun h => absurd h h4) (fun _ => ?_)
    refine mm_aload_n dX9_keep_14 rfl rfl ?_
    refine mm_aload_n dX9_keep_15 rfl (isr_rf _) ?_
    refine mm_iload_n dX9_keep_16 rfl ?_
    refine mm_aload_n dX9_keep_17 rfl rfl ?_
    refine s_getI (r := some a) (b := a) (ci := 9) (k := 3) in_X9 rfl (by decide) rfl kF_X9_22 dX9_keep_18 rfl hs (by decide) hn (by decide) rfl ?_
    obtain ⟨v6, σ7, hc5, hx⟩ := b2_some hx
    refine mm_callV3 (a := a) (ci := 9) wM_X9_copy kM_X9_111 wI_X9_copy wS_X9_copy dX9_keep_21 (e_X9_copy hst hZ hn hs hc5) (mem_obj hs (by decide)) (sh_ltn hs (by decide) hn) rfl rfl rfl (Nat.le_of_ble_eq_true rfl) (by omega) (by omega) (fun v9 S9 hq => ?_)
    obtain ⟨rfl, rfl⟩ := hq
    refine ⟨fun h => ⟨h, rfl⟩, ?_⟩
    refine b_if hx (fun h8 hx => ?_) (fun h8 hx => ?_)
    · refine mm_if_eq 31 dX9_keep_24 (by decide) (fun _ => ?_) (fun h => absurd h8 h)
      refine mm_iconst (v := 0) dX9_keep_31 (by decide) ?_
      refine mm_iret dX9_keep_32 rfl rfl ?_ (by omega) (by omega)
      obtain ⟨rfl, rfl⟩ := fin2 hx
      exact ⟨rfl, rfl⟩
    · refine mm_if_eq 31 dX9_keep_24 (by decide) (fun h => absurd h h8) (fun _ => ?_)
      refine mm_iconst (v := 1) dX9_keep_27 (by decide) ?_
      refine mm_goto 32 dX9_keep_28 (by decide) ?_
      refine mm_iret dX9_keep_32 rfl rfl ?_ (by omega) (by omega)
      obtain ⟨rfl, rfl⟩ := fin2 hx
      exact ⟨rfl, rfl⟩
set_option maxHeartbeats 4000000 in
set_option maxRecDepth 100000 in
theorem e_X9_takeLength_105 {g : mm_G} {l : Launch} (hst : l.stackTraces = false) {Z : Nat → Nat → Option Nat} (hZ : HZ Z) {n : Nat} (hn : 1186 ≤ n) {z : Bool} {d : Nat} {U : Nat} {rc : Option Nat → Option Nat → Int32 → Int32 → SG → Option (Int32 × SG)} {a : Nat} (hs : sh a = 9) (hrc : ∀ (y0 : Option Nat) (y1 : Option Nat) (y2 : Int32) (y3 : Int32) (σ : SG) (r : Int32) (σ' : SG), rc y0 y1 y2 y3 σ = some (r, σ') → mm_Cm g l yX9_readMessage (.code yX9_readMessage cX9_readMessage 10 (some .boolean)) (d + 8) 0 0 [.ref a, va_rf y0, va_rf y1, .int y2, .int y3] (mem Z σ, n, z) (fun v S' => v = some (.int r) ∧ S' = (mem Z σ', n, z))) {v1_ : Option Nat} {v3_ : Int32} {v6_ : Int32} {σ : SG} {r : Int32} {σ' : SG} (hx : x_X9_takeLength_105 U rc a v1_ v3_ v6_ σ = some (r, σ')) : mm_V g l RX9 "takeLength" cX9_takeLength 9 (some .boolean) [] (d + 9) 0 0 (mm_nt (fun v S' => v = some (.int r) ∧ S' = (mem Z σ', n, z))) 105 [some (.ref a), some (va_rf v1_), none, some (.int v3_), none, none, some (.int v6_), none, none] [] (mem Z σ, n, z) 0 0 := by
  unfold x_X9_takeLength_105 at hx
  refine mm_aload_n dX9_takeLength_105 rfl rfl ?_
  refine mm_iload dX9_takeLength_106 rfl ?_
  refine s_putI (v := v6_) (r := some a) (b := a) (ci := 9) (k := 3) in_X9 rfl (by decide) rfl tyX9_ok nmX9 rfl kF_X9_22 dX9_takeLength_108 (mm_fit_int _) rfl hs (by decide) hn (by decide) rfl hx (fun σ10 hx => ?_)
  refine mm_aload_n dX9_takeLength_111 rfl rfl ?_
  refine mm_aload_n dX9_takeLength_112 rfl (isr_rf _) ?_
  refine mm_iload_n dX9_takeLength_113 rfl ?_
  obtain ⟨v12, σ13, hc11, hx⟩ := b2_some hx
  refine mm_callV3 (a := a) (ci := 9) wM_X9_keep kM_X9_85 wI_X9_keep wS_X9_keep dX9_takeLength_114 (e_X9_keep hst hZ hn hs hc11) (mem_obj hs (by decide)) (sh_ltn hs (by decide) hn) rfl rfl rfl (Nat.le_of_ble_eq_true rfl) (by omega) (by omega) (fun v9 S9 hq => ?_)
  obtain ⟨rfl, rfl⟩ := hq
  refine ⟨fun h => ⟨h, rfl⟩, ?_⟩
  obtain ⟨hz14, hx⟩ := zb_some hx
  refine mm_iret dX9_takeLength_117 rfl (zb_nar hz14) ?_ (by omega) (by omega)
  obtain ⟨rfl, rfl⟩ := fin2 hx
  exact ⟨rfl, rfl⟩
set_option maxHeartbeats 4000000 in
set_option maxRecDepth 100000 in
theorem e_X9_takeLength_145 {g : mm_G} {l : Launch} (hst : l.stackTraces = false) {Z : Nat → Nat → Option Nat} (hZ : HZ Z) {n : Nat} (hn : 1186 ≤ n) {z : Bool} {d : Nat} {U : Nat} {rc : Option Nat → Option Nat → Int32 → Int32 → SG → Option (Int32 × SG)} {a : Nat} (hs : sh a = 9) (hrc : ∀ (y0 : Option Nat) (y1 : Option Nat) (y2 : Int32) (y3 : Int32) (σ : SG) (r : Int32) (σ' : SG), rc y0 y1 y2 y3 σ = some (r, σ') → mm_Cm g l yX9_readMessage (.code yX9_readMessage cX9_readMessage 10 (some .boolean)) (d + 8) 0 0 [.ref a, va_rf y0, va_rf y1, .int y2, .int y3] (mem Z σ, n, z) (fun v S' => v = some (.int r) ∧ S' = (mem Z σ', n, z))) {v1_ : Option Nat} {v2_ : Option Nat} {v5_ : Int32} {v6_ : Int32} {σ : SG} {r : Int32} {σ' : SG} (hx : x_X9_takeLength_145 U rc a v1_ v2_ v5_ v6_ σ = some (r, σ')) : mm_V g l RX9 "takeLength" cX9_takeLength 9 (some .boolean) [] (d + 9) 0 0 (mm_nt (fun v S' => v = some (.int r) ∧ S' = (mem Z σ', n, z))) 145 [some (.ref a), some (va_rf v1_), some (va_rf v2_), none, none, some (.int v5_), some (.int v6_), none, none] [] (mem Z σ, n, z) 0 0 := by
  unfold x_X9_takeLength_145 at hx
  refine mm_aload_n dX9_takeLength_145 rfl rfl ?_
  refine s_getS (q := 389) (r := some a) (b := a) (ci := 9) (k := 1) in_X9 rfl (by decide) rfl kF_X9_15 dX9_takeLength_146 rfl hs (by decide) hn (by decide) rfl rfl ?_
  refine mm_aload_n dX9_takeLength_149 rfl (isr_rf _) ?_
  refine mm_aload_n dX9_takeLength_150 rfl (isr_rf _) ?_
  obtain ⟨v26, σ27, hc25, hx⟩ := b2_some hx
  refine mm_callV3 (a := 389) (ci := 8) wM_X8_put kM_X9_104 wI_X8_put wS_X8_put dX9_takeLength_151 (e_X8_put hst hZ hn sa_389 hc25) (mem_obj sa_389 (by decide)) (sh_ltn sa_389 (by decide) hn) rfl rfl rfl (Nat.le_of_ble_eq_true rfl) (by omega) (by omega) (fun v9 S9 hq => ?_)
  obtain ⟨rfl, rfl⟩ := hq
  refine ⟨fun h => ⟨h, rfl⟩, ?_⟩
  refine mm_astore [some (.ref a), some (va_rf v1_), some (va_rf v2_), none, none, some (.int v5_), some (.int v6_), none, some (va_rf v26)] dX9_takeLength_154 (by decide) (isr_rf _) rfl ?_
  refine mm_aload dX9_takeLength_156 rfl (isr_rf _) ?_
  refine b_if hx (fun h28 hx => ?_) (fun h28 hx => ?_)
  · refine mm_ifnonnull (r := v26) 163 dX9_takeLength_158 (by decide) (fun h => absurd h28 h) (fun _ => ?_)
    refine mm_iconst (v := 0) dX9_takeLength_161 (by decide) ?_
    refine mm_iret dX9_takeLength_162 rfl rfl ?_ (by omega) (by omega)
    obtain ⟨rfl, rfl⟩ := fin2 hx
    exact ⟨rfl, rfl⟩
  · refine mm_ifnonnull (r := v26) 163 dX9_takeLength_158 (by decide) (fun _ => ?_) (fun h => absurd h h28)
    refine mm_aload_n dX9_takeLength_163 rfl (isr_rf _) ?_
    obtain ⟨q29, hr30, hs31, hx⟩ := ck_some hx
    refine s_getIN (r := v2_) (b := q29) (ci := 3) (k := 8) in_X3 rfl (by decide) rfl kF_X9_74 dX9_takeLength_164 hr30 hs31 (by decide) hn (by decide) rfl ?_
    refine mm_bipush (v := 13) dX9_takeLength_167 (by decide) ?_
    refine b_if hx (fun h32 hx => ?_) (fun h32 hx => ?_)
    · refine mm_icmp_ne 189 dX9_takeLength_169 (by decide) (fun h => absurd h32 h) (fun _ => ?_)
      refine mm_aload_n dX9_takeLength_172 rfl rfl ?_
      refine mm_aload dX9_takeLength_173 rfl (isr_rf _) ?_
      refine mm_aload_n dX9_takeLength_175 rfl (isr_rf _) ?_
      refine s_getPN (r := v2_) (b := q29) (ci := 3) (k := 10) in_X3 rfl (by decide) rfl kF_X9_108 dX9_takeLength_176 hr30 hs31 (by decide) hn (by decide) rfl ?_
      refine mm_iload dX9_takeLength_179 rfl ?_
      refine mm_iload dX9_takeLength_181 rfl ?_
      refine mm_iconst (v := 1) dX9_takeLength_183 (by decide) ?_
      refine mm_iadd dX9_takeLength_184 ?_
      obtain ⟨v34, σ35, hc33, hx⟩ := b2_some hx
      refine mm_callV3 (a := a) (ci := 9) wM_X9_readMessage kM_X9_45 wI_X9_readMessage wS_X9_readMessage dX9_takeLength_185 (hrc _ _ _ _ _ _ _ hc33) (mem_obj hs (by decide)) (sh_ltn hs (by decide) hn) rfl rfl rfl (Nat.le_of_ble_eq_true rfl) (by omega) (by omega) (fun v9 S9 hq => ?_)
      obtain ⟨rfl, rfl⟩ := hq
      refine ⟨fun h => ⟨h, rfl⟩, ?_⟩
      obtain ⟨hz36, hx⟩ := zb_some hx
      refine mm_iret dX9_takeLength_188 rfl (zb_nar hz36) ?_ (by omega) (by omega)
      obtain ⟨rfl, rfl⟩ := fin2 hx
      exact ⟨rfl, rfl⟩
    · refine mm_icmp_ne 189 dX9_takeLength_169 (by decide) (fun _ => ?_) (fun h => absurd h h32)
      refine mm_aload_n dX9_takeLength_189 rfl rfl ?_
      refine mm_aload dX9_takeLength_190 rfl (isr_rf _) ?_
      refine mm_aload_n dX9_takeLength_192 rfl rfl ?_
      refine s_getI (r := some a) (b := a) (ci := 9) (k := 3) in_X9 rfl (by decide) rfl kF_X9_22 dX9_takeLength_193 rfl hs (by decide) hn (by decide) rfl ?_
      refine mm_iload dX9_takeLength_196 rfl ?_
      obtain ⟨v38, σ39, hc37, hx⟩ := b2_some hx
      refine mm_callV3 (a := a) (ci := 9) wM_X9_copy kM_X9_111 wI_X9_copy wS_X9_copy dX9_takeLength_198 (e_X9_copy hst hZ hn hs hc37) (mem_obj hs (by decide)) (sh_ltn hs (by decide) hn) rfl rfl rfl (Nat.le_of_ble_eq_true rfl) (by omega) (by omega) (fun v9 S9 hq => ?_)
      obtain ⟨rfl, rfl⟩ := hq
      refine ⟨fun h => ⟨h, rfl⟩, ?_⟩
      obtain ⟨hz40, hx⟩ := zb_some hx
      refine mm_iret dX9_takeLength_201 rfl (zb_nar hz40) ?_ (by omega) (by omega)
      obtain ⟨rfl, rfl⟩ := fin2 hx
      exact ⟨rfl, rfl⟩
set_option maxHeartbeats 4000000 in
set_option maxRecDepth 100000 in
theorem e_X9_takeLength_75 {g : mm_G} {l : Launch} (hst : l.stackTraces = false) {Z : Nat → Nat → Option Nat} (hZ : HZ Z) {n : Nat} (hn : 1186 ≤ n) {z : Bool} {d : Nat} {U : Nat} {rc : Option Nat → Option Nat → Int32 → Int32 → SG → Option (Int32 × SG)} {a : Nat} (hs : sh a = 9) (hrc : ∀ (y0 : Option Nat) (y1 : Option Nat) (y2 : Int32) (y3 : Int32) (σ : SG) (r : Int32) (σ' : SG), rc y0 y1 y2 y3 σ = some (r, σ') → mm_Cm g l yX9_readMessage (.code yX9_readMessage cX9_readMessage 10 (some .boolean)) (d + 8) 0 0 [.ref a, va_rf y0, va_rf y1, .int y2, .int y3] (mem Z σ, n, z) (fun v S' => v = some (.int r) ∧ S' = (mem Z σ', n, z))) {v1_ : Option Nat} {v2_ : Option Nat} {v3_ : Int32} {v5_ : Int32} {v6_ : Int32} {s0_ : Int32} {σ : SG} {r : Int32} {σ' : SG} (hx : x_X9_takeLength_75 U rc a v1_ v2_ v3_ v5_ v6_ s0_ σ = some (r, σ')) : mm_V g l RX9 "takeLength" cX9_takeLength 9 (some .boolean) [] (d + 9) 0 0 (mm_nt (fun v S' => v = some (.int r) ∧ S' = (mem Z σ', n, z))) 75 [some (.ref a), some (va_rf v1_), some (va_rf v2_), some (.int v3_), none, some (.int v5_), some (.int v6_), none, none] [.int s0_] (mem Z σ, n, z) 0 0 := by
  unfold x_X9_takeLength_75 at hx
  refine mm_istore [some (.ref a), some (va_rf v1_), some (va_rf v2_), some (.int v3_), none, some (.int v5_), some (.int v6_), some (.int s0_), none] dX9_takeLength_75 (by decide) rfl ?_
  refine mm_iload dX9_takeLength_77 rfl ?_
  refine b_if hx (fun h8 hx => ?_) (fun h8 hx => ?_)
  · refine mm_if_eq 91 dX9_takeLength_79 (by decide) (fun _ => ?_) (fun h => absurd h8 h)
    refine mm_aload_n dX9_takeLength_91 rfl (isr_rf _) ?_
    refine b_if hx (fun h9 hx => ?_) (fun h9 hx => ?_)
    · refine mm_ifnull (r := v2_) 105 dX9_takeLength_92 (by decide) (fun _ => ?_) (fun h => absurd h9 h)
      refine mm_fewer [some (.ref a), some (va_rf v1_), none, some (.int v3_), none, none, some (.int v6_), none, none] (few_ok (bs := [true, true, false, true, false, false, true, false, false]) rfl) ?_
      exact e_X9_takeLength_105 hst hZ hn hs hrc hx
    · refine mm_ifnull (r := v2_) 105 dX9_takeLength_92 (by decide) (fun h => absurd h h9) (fun _ => ?_)
      refine mm_aload_n dX9_takeLength_95 rfl (isr_rf _) ?_
      obtain ⟨q15, hr16, hs17, hx⟩ := ck_some hx
      refine s_getIN (r := v2_) (b := q15) (ci := 3) (k := 8) in_X3 rfl (by decide) rfl kF_X9_74 dX9_takeLength_96 hr16 hs17 (by decide) hn (by decide) rfl ?_
      obtain ⟨v19, hc18, hx⟩ := b1_some hx
      refine mm_callSN wM_X11_isNumeric kM_X9_93 wT_X11_isNumeric dX9_takeLength_99 (e_X11_isNumeric hst hZ hn hc18) rfl rfl (Nat.le_of_ble_eq_true rfl) (by omega) (by omega) (fun v9 S9 hq => ?_)
      obtain ⟨rfl, rfl⟩ := hq
      refine ⟨fun h => ⟨h, rfl⟩, ?_⟩
      refine b_if hx (fun h20 hx => ?_) (fun h20 hx => ?_)
      · refine mm_if_eq 118 dX9_takeLength_102 (by decide) (fun _ => ?_) (fun h => absurd h20 h)
        refine mm_aload_n dX9_takeLength_118 rfl (isr_rf _) ?_
        refine s_getIN (r := v2_) (b := q15) (ci := 3) (k := 8) in_X3 rfl (by decide) rfl kF_X9_74 dX9_takeLength_119 hr16 hs17 (by decide) hn (by decide) rfl ?_
        refine mm_bipush (v := 11) dX9_takeLength_122 (by decide) ?_
        refine b_if hx (fun h21 hx => ?_) (fun h21 hx => ?_)
        · refine mm_icmp_ne 145 dX9_takeLength_124 (by decide) (fun h => absurd h21 h) (fun _ => ?_)
          refine mm_aload_n dX9_takeLength_127 rfl rfl ?_
          refine s_getS (q := 1) (r := some a) (b := a) (ci := 9) (k := 0) in_X9 rfl (by decide) rfl kF_X9_9 dX9_takeLength_128 rfl hs (by decide) hn (by decide) rfl rfl ?_
          refine mm_aload_n dX9_takeLength_131 rfl rfl ?_
          refine s_getI (r := some a) (b := a) (ci := 9) (k := 3) in_X9 rfl (by decide) rfl kF_X9_22 dX9_takeLength_132 rfl hs (by decide) hn (by decide) rfl ?_
          refine mm_iload dX9_takeLength_135 rfl ?_
          obtain ⟨v23, hc22, hx⟩ := b1_some hx
          refine mm_callV3 (a := 1) (ci := 0) wM_X0_isUtf8 kM_X9_101 wI_X0_isUtf8 wS_X0_isUtf8 dX9_takeLength_137 (e_X0_isUtf8 hst hZ hn sa_1 hc22) (mem_obj sa_1 (by decide)) (sh_ltn sa_1 (by decide) hn) rfl rfl rfl (Nat.le_of_ble_eq_true rfl) (by omega) (by omega) (fun v9 S9 hq => ?_)
          obtain ⟨rfl, rfl⟩ := hq
          refine ⟨fun h => ⟨h, rfl⟩, ?_⟩
          refine b_if hx (fun h24 hx => ?_) (fun h24 hx => ?_)
          · refine mm_if_ne 145 dX9_takeLength_140 (by decide) (fun h => absurd h24 h) (fun _ => ?_)
            refine mm_iconst (v := 0) dX9_takeLength_143 (by decide) ?_
            refine mm_iret dX9_takeLength_144 rfl rfl ?_ (by omega) (by omega)
            obtain ⟨rfl, rfl⟩ := fin2 hx
            exact ⟨rfl, rfl⟩
          · refine mm_if_ne 145 dX9_takeLength_140 (by decide) (fun _ => ?_) (fun h => absurd h h24)
            refine mm_fewer [some (.ref a), some (va_rf v1_), some (va_rf v2_), none, none, some (.int v5_), some (.int v6_), none, none] (few_ok (bs := [true, true, true, false, false, true, true, false, false]) rfl) ?_
            exact e_X9_takeLength_145 hst hZ hn hs hrc hx
        · refine mm_icmp_ne 145 dX9_takeLength_124 (by decide) (fun _ => ?_) (fun h => absurd h h21)
          refine mm_fewer [some (.ref a), some (va_rf v1_), some (va_rf v2_), none, none, some (.int v5_), some (.int v6_), none, none] (few_ok (bs := [true, true, true, false, false, true, true, false, false]) rfl) ?_
          exact e_X9_takeLength_145 hst hZ hn hs hrc hx
      · refine mm_if_eq 118 dX9_takeLength_102 (by decide) (fun h => absurd h h20) (fun _ => ?_)
        refine mm_fewer [some (.ref a), some (va_rf v1_), none, some (.int v3_), none, none, some (.int v6_), none, none] (few_ok (bs := [true, true, false, true, false, false, true, false, false]) rfl) ?_
        exact e_X9_takeLength_105 hst hZ hn hs hrc hx
  · refine mm_if_eq 91 dX9_takeLength_79 (by decide) (fun h => absurd h h8) (fun _ => ?_)
    refine mm_aload_n dX9_takeLength_82 rfl rfl ?_
    refine mm_aload_n dX9_takeLength_83 rfl (isr_rf _) ?_
    refine mm_aload_n dX9_takeLength_84 rfl (isr_rf _) ?_
    refine mm_iload dX9_takeLength_85 rfl ?_
    obtain ⟨v42, σ43, hc41, hx⟩ := b2_some hx
    refine mm_callV3 (a := a) (ci := 9) wM_X9_takeRow kM_X9_97 wI_X9_takeRow wS_X9_takeRow dX9_takeLength_87 (e_X9_takeRow hst hZ hn hs hc41) (mem_obj hs (by decide)) (sh_ltn hs (by decide) hn) rfl rfl rfl (Nat.le_of_ble_eq_true rfl) (by omega) (by omega) (fun v9 S9 hq => ?_)
    obtain ⟨rfl, rfl⟩ := hq
    refine ⟨fun h => ⟨h, rfl⟩, ?_⟩
    obtain ⟨hz44, hx⟩ := zb_some hx
    refine mm_iret dX9_takeLength_90 rfl (zb_nar hz44) ?_ (by omega) (by omega)
    obtain ⟨rfl, rfl⟩ := fin2 hx
    exact ⟨rfl, rfl⟩
set_option maxHeartbeats 4000000 in
set_option maxRecDepth 100000 in
theorem e_X9_takeLength_74 {g : mm_G} {l : Launch} (hst : l.stackTraces = false) {Z : Nat → Nat → Option Nat} (hZ : HZ Z) {n : Nat} (hn : 1186 ≤ n) {z : Bool} {d : Nat} {U : Nat} {rc : Option Nat → Option Nat → Int32 → Int32 → SG → Option (Int32 × SG)} {a : Nat} (hs : sh a = 9) (hrc : ∀ (y0 : Option Nat) (y1 : Option Nat) (y2 : Int32) (y3 : Int32) (σ : SG) (r : Int32) (σ' : SG), rc y0 y1 y2 y3 σ = some (r, σ') → mm_Cm g l yX9_readMessage (.code yX9_readMessage cX9_readMessage 10 (some .boolean)) (d + 8) 0 0 [.ref a, va_rf y0, va_rf y1, .int y2, .int y3] (mem Z σ, n, z) (fun v S' => v = some (.int r) ∧ S' = (mem Z σ', n, z))) {v1_ : Option Nat} {v2_ : Option Nat} {v3_ : Int32} {v5_ : Int32} {v6_ : Int32} {σ : SG} {r : Int32} {σ' : SG} (hx : x_X9_takeLength_74 U rc a v1_ v2_ v3_ v5_ v6_ σ = some (r, σ')) : mm_V g l RX9 "takeLength" cX9_takeLength 9 (some .boolean) [] (d + 9) 0 0 (mm_nt (fun v S' => v = some (.int r) ∧ S' = (mem Z σ', n, z))) 74 [some (.ref a), some (va_rf v1_), some (va_rf v2_), some (.int v3_), none, some (.int v5_), some (.int v6_), none, none] [] (mem Z σ, n, z) 0 0 := by
  unfold x_X9_takeLength_74 at hx
  refine mm_iconst (v := 0) dX9_takeLength_74 (by decide) ?_
  exact e_X9_takeLength_75 hst hZ hn hs hrc hx
set_option maxHeartbeats 4000000 in
set_option maxRecDepth 100000 in
theorem e_X9_takeLength {g : mm_G} {l : Launch} (hst : l.stackTraces = false) {Z : Nat → Nat → Option Nat} (hZ : HZ Z) {n : Nat} (hn : 1186 ≤ n) {z : Bool} {d : Nat} {U : Nat} {rc : Option Nat → Option Nat → Int32 → Int32 → SG → Option (Int32 × SG)} {a : Nat} (hs : sh a = 9) (hrc : ∀ (y0 : Option Nat) (y1 : Option Nat) (y2 : Int32) (y3 : Int32) (σ : SG) (r : Int32) (σ' : SG), rc y0 y1 y2 y3 σ = some (r, σ') → mm_Cm g l yX9_readMessage (.code yX9_readMessage cX9_readMessage 10 (some .boolean)) (d + 8) 0 0 [.ref a, va_rf y0, va_rf y1, .int y2, .int y3] (mem Z σ, n, z) (fun v S' => v = some (.int r) ∧ S' = (mem Z σ', n, z))) {p0 : Option Nat} {p1 : Option Nat} {p2 : Int32} {p3 : Int32} {p4 : Int32} {σ : SG} {r : Int32} {σ' : SG} (hx : x_X9_takeLength U rc a p0 p1 p2 p3 p4 σ = some (r, σ')) : mm_Cm g l yX9_takeLength (.code yX9_takeLength cX9_takeLength 9 (some .boolean)) (d + 9) 0 0 [.ref a, va_rf p0, va_rf p1, .int p2, .int p3, .int p4] (mem Z σ, n, z) (fun v S' => v = some (.int r) ∧ S' = (mem Z σ', n, z)) := by
  refine mm_Cm_of hst (by decide) (by cases p0 <;> cases p1 <;>  exact Nat.le_of_ble_eq_true rfl) ?_
  rw [show mm_ent [.ref a, va_rf p0, va_rf p1, .int p2, .int p3, .int p4] 9 = [some (.ref a), some (va_rf p0), some (va_rf p1), some (.int p2), some (.int p3), some (.int p4), none, none, none] from by cases p0 <;> cases p1 <;>  rfl]
  show mm_V g l RX9 "takeLength" cX9_takeLength 9 (some .boolean) [] (d + 9) 0 0 (mm_nt (fun v S' => v = some (.int r) ∧ S' = (mem Z σ', n, z))) 0 [some (.ref a), some (va_rf p0), some (va_rf p1), some (.int p2), some (.int p3), some (.int p4), none, none, none] [] (mem Z σ, n, z) 0 0
  unfold x_X9_takeLength at hx
  refine mm_aload_n dX9_takeLength_0 rfl rfl ?_
  refine mm_iconst (v := 0) dX9_takeLength_1 (by decide) ?_
  refine mm_iload dX9_takeLength_2 rfl ?_
  obtain ⟨v2, σ3, hc1, hx⟩ := b2_some hx
  refine mm_callV3 (a := a) (ci := 9) wM_X9_readNumber kM_X9_49 wI_X9_readNumber wS_X9_readNumber dX9_takeLength_4 (e_X9_readNumber hst hZ hn hs hc1) (mem_obj hs (by decide)) (sh_ltn hs (by decide) hn) rfl rfl rfl (Nat.le_of_ble_eq_true rfl) (by omega) (by omega) (fun v9 S9 hq => ?_)
  obtain ⟨rfl, rfl⟩ := hq
  refine ⟨fun h => ⟨h, rfl⟩, ?_⟩
  refine b_if hx (fun h4 hx => ?_) (fun h4 hx => ?_)
  · refine mm_if_eq 35 dX9_takeLength_7 (by decide) (fun _ => ?_) (fun h => absurd h4 h)
    refine mm_iconst (v := 0) dX9_takeLength_35 (by decide) ?_
    refine mm_iret dX9_takeLength_36 rfl rfl ?_ (by omega) (by omega)
    obtain ⟨rfl, rfl⟩ := fin2 hx
    exact ⟨rfl, rfl⟩
  · refine mm_if_eq 35 dX9_takeLength_7 (by decide) (fun h => absurd h h4) (fun _ => ?_)
    refine mm_aload_n dX9_takeLength_10 rfl rfl ?_
    refine s_getL (r := some a) (b := a) (ci := 9) (k := 4) in_X9 rfl (by decide) rfl kF_X9_53 dX9_takeLength_11 rfl hs (by decide) hn (by decide) rfl ?_
    refine mm_lconst (v := 0) dX9_takeLength_14 (by decide) ?_
    refine mm_lcmp dX9_takeLength_15 ?_
    refine b_if hx (fun h5 hx => ?_) (fun h5 hx => ?_)
    · refine mm_if_lt 35 dX9_takeLength_16 (by decide) (fun _ => ?_) (fun h => absurd (lg_lt.mpr h5) h)
      refine mm_iconst (v := 0) dX9_takeLength_35 (by decide) ?_
      refine mm_iret dX9_takeLength_36 rfl rfl ?_ (by omega) (by omega)
      obtain ⟨rfl, rfl⟩ := fin2 hx
      exact ⟨rfl, rfl⟩
    · refine mm_if_lt 35 dX9_takeLength_16 (by decide) (fun h => absurd (lg_lt.mp h) h5) (fun _ => ?_)
      refine mm_aload_n dX9_takeLength_19 rfl rfl ?_
      refine s_getL (r := some a) (b := a) (ci := 9) (k := 4) in_X9 rfl (by decide) rfl kF_X9_53 dX9_takeLength_20 rfl hs (by decide) hn (by decide) rfl ?_
      refine mm_iload dX9_takeLength_23 rfl ?_
      refine mm_aload_n dX9_takeLength_25 rfl rfl ?_
      refine s_getI (r := some a) (b := a) (ci := 9) (k := 3) in_X9 rfl (by decide) rfl kF_X9_22 dX9_takeLength_26 rfl hs (by decide) hn (by decide) rfl ?_
      refine mm_isub dX9_takeLength_29 ?_
      refine mm_i2l dX9_takeLength_30 ?_
      refine mm_lcmp dX9_takeLength_31 ?_
      refine b_if hx (fun h6 hx => ?_) (fun h6 hx => ?_)
      · refine mm_if_le 37 dX9_takeLength_32 (by decide) (fun h => absurd (lg_le.mp h) (Int64.not_le.mpr h6)) (fun _ => ?_)
        refine mm_iconst (v := 0) dX9_takeLength_35 (by decide) ?_
        refine mm_iret dX9_takeLength_36 rfl rfl ?_ (by omega) (by omega)
        obtain ⟨rfl, rfl⟩ := fin2 hx
        exact ⟨rfl, rfl⟩
      · refine mm_if_le 37 dX9_takeLength_32 (by decide) (fun _ => ?_) (fun h => absurd (lg_le.mpr (Int64.not_lt.mp h6)) h)
        refine mm_aload_n dX9_takeLength_37 rfl rfl ?_
        refine s_getI (r := some a) (b := a) (ci := 9) (k := 3) in_X9 rfl (by decide) rfl kF_X9_22 dX9_takeLength_38 rfl hs (by decide) hn (by decide) rfl ?_
        refine mm_aload_n dX9_takeLength_41 rfl rfl ?_
        refine s_getL (r := some a) (b := a) (ci := 9) (k := 4) in_X9 rfl (by decide) rfl kF_X9_53 dX9_takeLength_42 rfl hs (by decide) hn (by decide) rfl ?_
        refine mm_l2i dX9_takeLength_45 ?_
        refine mm_iadd dX9_takeLength_46 ?_
        refine mm_istore [some (.ref a), some (va_rf p0), some (va_rf p1), some (.int p2), some (.int p3), some (.int p4), some (.int ((sI σ3 a 3) + (Int64.toInt32 (sL σ3 a 4)))), none, none] dX9_takeLength_47 (by decide) rfl ?_
        refine mm_aload_n dX9_takeLength_49 rfl (isr_rf _) ?_
        refine b_if hx (fun h7 hx => ?_) (fun h7 hx => ?_)
        · refine mm_ifnull (r := p1) 74 dX9_takeLength_50 (by decide) (fun _ => ?_) (fun h => absurd h7 h)
          refine mm_fewer [some (.ref a), some (va_rf p0), some (va_rf p1), some (.int p2), none, some (.int p4), some (.int ((sI σ3 a 3) + (Int64.toInt32 (sL σ3 a 4)))), none, none] (few_ok (bs := [true, true, true, true, false, true, true, false, false]) rfl) ?_
          exact e_X9_takeLength_74 hst hZ hn hs hrc hx
        · refine mm_ifnull (r := p1) 74 dX9_takeLength_50 (by decide) (fun h => absurd h h7) (fun _ => ?_)
          refine mm_aload_n dX9_takeLength_53 rfl (isr_rf _) ?_
          obtain ⟨q45, hr46, hs47, hx⟩ := ck_some hx
          refine s_getIN (r := p1) (b := q45) (ci := 3) (k := 11) in_X3 rfl (by decide) rfl kF_X9_89 dX9_takeLength_54 hr46 hs47 (by decide) hn (by decide) rfl ?_
          refine b_if hx (fun h48 hx => ?_) (fun h48 hx => ?_)
          · refine mm_if_eq 74 dX9_takeLength_57 (by decide) (fun _ => ?_) (fun h => absurd h48 h)
            refine mm_fewer [some (.ref a), some (va_rf p0), some (va_rf p1), some (.int p2), none, some (.int p4), some (.int ((sI σ3 a 3) + (Int64.toInt32 (sL σ3 a 4)))), none, none] (few_ok (bs := [true, true, true, true, false, true, true, false, false]) rfl) ?_
            exact e_X9_takeLength_74 hst hZ hn hs hrc hx
          · refine mm_if_eq 74 dX9_takeLength_57 (by decide) (fun h => absurd h h48) (fun _ => ?_)
            refine mm_aload_n dX9_takeLength_60 rfl (isr_rf _) ?_
            refine s_getIN (r := p1) (b := q45) (ci := 3) (k := 8) in_X3 rfl (by decide) rfl kF_X9_74 dX9_takeLength_61 hr46 hs47 (by decide) hn (by decide) rfl ?_
            obtain ⟨v50, hc49, hx⟩ := b1_some hx
            refine mm_callSN wM_X11_isNumeric kM_X9_93 wT_X11_isNumeric dX9_takeLength_64 (e_X11_isNumeric hst hZ hn hc49) rfl rfl (Nat.le_of_ble_eq_true rfl) (by omega) (by omega) (fun v9 S9 hq => ?_)
            obtain ⟨rfl, rfl⟩ := hq
            refine ⟨fun h => ⟨h, rfl⟩, ?_⟩
            refine b_if hx (fun h51 hx => ?_) (fun h51 hx => ?_)
            · refine mm_if_eq 74 dX9_takeLength_67 (by decide) (fun _ => ?_) (fun h => absurd h51 h)
              refine mm_fewer [some (.ref a), some (va_rf p0), some (va_rf p1), some (.int p2), none, some (.int p4), some (.int ((sI σ3 a 3) + (Int64.toInt32 (sL σ3 a 4)))), none, none] (few_ok (bs := [true, true, true, true, false, true, true, false, false]) rfl) ?_
              exact e_X9_takeLength_74 hst hZ hn hs hrc hx
            · refine mm_if_eq 74 dX9_takeLength_67 (by decide) (fun h => absurd h h51) (fun _ => ?_)
              refine mm_iconst (v := 1) dX9_takeLength_70 (by decide) ?_
              refine mm_goto 75 dX9_takeLength_71 (by decide) ?_
              refine mm_fewer [some (.ref a), some (va_rf p0), some (va_rf p1), some (.int p2), none, some (.int p4), some (.int ((sI σ3 a 3) + (Int64.toInt32 (sL σ3 a 4)))), none, none] (few_ok (bs := [true, true, true, true, false, true, true, false, false]) rfl) ?_
              exact e_X9_takeLength_75 hst hZ hn hs hrc hx
set_option maxHeartbeats 4000000 in
set_option maxRecDepth 100000 in
theorem e_X9_takeNumber_36 {g : mm_G} {l : Launch} (hst : l.stackTraces = false) {Z : Nat → Nat → Option Nat} (hZ : HZ Z) {n : Nat} (hn : 1186 ≤ n) {z : Bool} {d : Nat} {U : Nat} {a : Nat} (hs : sh a = 9) {v1_ : Option Nat} {v4_ : Int32} {σ : SG} {r : Int32} {σ' : SG} (hx : x_X9_takeNumber_36 U a v1_ v4_ σ = some (r, σ')) : mm_V g l RX9 "takeNumber" cX9_takeNumber 6 (some .boolean) [] (d + 4) 0 0 (mm_nt (fun v S' => v = some (.int r) ∧ S' = (mem Z σ', n, z))) 36 [some (.ref a), some (va_rf v1_), none, none, some (.int v4_), none] [] (mem Z σ, n, z) 0 0 := by
  unfold x_X9_takeNumber_36 at hx
  refine mm_aload_n dX9_takeNumber_36 rfl rfl ?_
  refine mm_aload_n dX9_takeNumber_37 rfl (isr_rf _) ?_
  refine mm_iload dX9_takeNumber_38 rfl ?_
  obtain ⟨v7, σ8, hc6, hx⟩ := b2_some hx
  refine mm_callV3 (a := a) (ci := 9) wM_X9_keep kM_X9_85 wI_X9_keep wS_X9_keep dX9_takeNumber_40 (e_X9_keep hst hZ hn hs hc6) (mem_obj hs (by decide)) (sh_ltn hs (by decide) hn) rfl rfl rfl (Nat.le_of_ble_eq_true rfl) (by omega) (by omega) (fun v9 S9 hq => ?_)
  obtain ⟨rfl, rfl⟩ := hq
  refine ⟨fun h => ⟨h, rfl⟩, ?_⟩
  obtain ⟨hz9, hx⟩ := zb_some hx
  refine mm_iret dX9_takeNumber_43 rfl (zb_nar hz9) ?_ (by omega) (by omega)
  obtain ⟨rfl, rfl⟩ := fin2 hx
  exact ⟨rfl, rfl⟩
set_option maxHeartbeats 4000000 in
set_option maxRecDepth 100000 in
theorem e_X9_takeNumber {g : mm_G} {l : Launch} (hst : l.stackTraces = false) {Z : Nat → Nat → Option Nat} (hZ : HZ Z) {n : Nat} (hn : 1186 ≤ n) {z : Bool} {d : Nat} {U : Nat} {a : Nat} (hs : sh a = 9) {p0 : Option Nat} {p1 : Option Nat} {p2 : Int32} {p3 : Int32} {p4 : Int32} {σ : SG} {r : Int32} {σ' : SG} (hx : x_X9_takeNumber U a p0 p1 p2 p3 p4 σ = some (r, σ')) : mm_Cm g l yX9_takeNumber (.code yX9_takeNumber cX9_takeNumber 6 (some .boolean)) (d + 4) 0 0 [.ref a, va_rf p0, va_rf p1, .int p2, .int p3, .int p4] (mem Z σ, n, z) (fun v S' => v = some (.int r) ∧ S' = (mem Z σ', n, z)) := by
  refine mm_Cm_of hst (by decide) (by cases p0 <;> cases p1 <;>  exact Nat.le_of_ble_eq_true rfl) ?_
  rw [show mm_ent [.ref a, va_rf p0, va_rf p1, .int p2, .int p3, .int p4] 6 = [some (.ref a), some (va_rf p0), some (va_rf p1), some (.int p2), some (.int p3), some (.int p4)] from by cases p0 <;> cases p1 <;>  rfl]
  show mm_V g l RX9 "takeNumber" cX9_takeNumber 6 (some .boolean) [] (d + 4) 0 0 (mm_nt (fun v S' => v = some (.int r) ∧ S' = (mem Z σ', n, z))) 0 [some (.ref a), some (va_rf p0), some (va_rf p1), some (.int p2), some (.int p3), some (.int p4)] [] (mem Z σ, n, z) 0 0
  unfold x_X9_takeNumber at hx
  refine mm_aload_n dX9_takeNumber_0 rfl rfl ?_
  refine mm_iload_n dX9_takeNumber_1 rfl ?_
  refine mm_iload dX9_takeNumber_2 rfl ?_
  obtain ⟨v2, σ3, hc1, hx⟩ := b2_some hx
  refine mm_callV3 (a := a) (ci := 9) wM_X9_readNumber kM_X9_49 wI_X9_readNumber wS_X9_readNumber dX9_takeNumber_4 (e_X9_readNumber hst hZ hn hs hc1) (mem_obj hs (by decide)) (sh_ltn hs (by decide) hn) rfl rfl rfl (Nat.le_of_ble_eq_true rfl) (by omega) (by omega) (fun v9 S9 hq => ?_)
  obtain ⟨rfl, rfl⟩ := hq
  refine ⟨fun h => ⟨h, rfl⟩, ?_⟩
  refine b_if hx (fun h4 hx => ?_) (fun h4 hx => ?_)
  · refine mm_if_ne 12 dX9_takeNumber_7 (by decide) (fun h => absurd h4 h) (fun _ => ?_)
    refine mm_iconst (v := 0) dX9_takeNumber_10 (by decide) ?_
    refine mm_iret dX9_takeNumber_11 rfl rfl ?_ (by omega) (by omega)
    obtain ⟨rfl, rfl⟩ := fin2 hx
    exact ⟨rfl, rfl⟩
  · refine mm_if_ne 12 dX9_takeNumber_7 (by decide) (fun _ => ?_) (fun h => absurd h h4)
    refine mm_aload_n dX9_takeNumber_12 rfl (isr_rf _) ?_
    refine b_if hx (fun h5 hx => ?_) (fun h5 hx => ?_)
    · refine mm_ifnull (r := p1) 36 dX9_takeNumber_13 (by decide) (fun _ => ?_) (fun h => absurd h5 h)
      refine mm_fewer [some (.ref a), some (va_rf p0), none, none, some (.int p3), none] (few_ok (bs := [true, true, false, false, true, false]) rfl) ?_
      exact e_X9_takeNumber_36 hst hZ hn hs hx
    · refine mm_ifnull (r := p1) 36 dX9_takeNumber_13 (by decide) (fun h => absurd h h5) (fun _ => ?_)
      refine mm_aload_n dX9_takeNumber_16 rfl (isr_rf _) ?_
      obtain ⟨q10, hr11, hs12, hx⟩ := ck_some hx
      refine s_getIN (r := p1) (b := q10) (ci := 3) (k := 8) in_X3 rfl (by decide) rfl kF_X9_74 dX9_takeNumber_17 hr11 hs12 (by decide) hn (by decide) rfl ?_
      obtain ⟨v14, hc13, hx⟩ := b1_some hx
      refine mm_callS wM_X9_kindOf kM_X9_77 wT_X9_kindOf dX9_takeNumber_20 (e_X9_kindOf hst hZ hn hc13) rfl rfl (Nat.le_of_ble_eq_true rfl) (by omega) (by omega) (fun v9 S9 hq => ?_)
      obtain ⟨rfl, rfl⟩ := hq
      refine ⟨fun h => ⟨h, rfl⟩, ?_⟩
      refine mm_iload_n dX9_takeNumber_23 rfl ?_
      refine b_if hx (fun h15 hx => ?_) (fun h15 hx => ?_)
      · refine mm_icmp_ne 36 dX9_takeNumber_24 (by decide) (fun h => absurd h15 h) (fun _ => ?_)
        refine mm_aload_n dX9_takeNumber_27 rfl rfl ?_
        refine mm_aload_n dX9_takeNumber_28 rfl (isr_rf _) ?_
        refine mm_aload_n dX9_takeNumber_29 rfl (isr_rf _) ?_
        obtain ⟨v17, σ18, hc16, hx⟩ := b2_some hx
        refine mm_callV3 (a := a) (ci := 9) wM_X9_putNumber kM_X9_81 wI_X9_putNumber wS_X9_putNumber dX9_takeNumber_30 (e_X9_putNumber hst hZ hn hs hc16) (mem_obj hs (by decide)) (sh_ltn hs (by decide) hn) rfl rfl rfl (Nat.le_of_ble_eq_true rfl) (by omega) (by omega) (fun v9 S9 hq => ?_)
        obtain ⟨rfl, rfl⟩ := hq
        refine ⟨fun h => ⟨h, rfl⟩, ?_⟩
        refine mm_goto 43 dX9_takeNumber_33 (by decide) ?_
        obtain ⟨hz19, hx⟩ := zb_some hx
        refine mm_iret dX9_takeNumber_43 rfl (zb_nar hz19) ?_ (by omega) (by omega)
        obtain ⟨rfl, rfl⟩ := fin2 hx
        exact ⟨rfl, rfl⟩
      · refine mm_icmp_ne 36 dX9_takeNumber_24 (by decide) (fun _ => ?_) (fun h => absurd h h15)
        refine mm_fewer [some (.ref a), some (va_rf p0), none, none, some (.int p3), none] (few_ok (bs := [true, true, false, false, true, false]) rfl) ?_
        exact e_X9_takeNumber_36 hst hZ hn hs hx
set_option maxHeartbeats 4000000 in
set_option maxRecDepth 100000 in
theorem e_X9_readMessage_130 {g : mm_G} {l : Launch} (hst : l.stackTraces = false) {Z : Nat → Nat → Option Nat} (hZ : HZ Z) {n : Nat} (hn : 1186 ≤ n) {z : Bool} {d : Nat} {U : Nat} {rc : Option Nat → Option Nat → Int32 → Int32 → SG → Option (Int32 × SG)} {a : Nat} (hs : sh a = 9) (hrc : ∀ (y0 : Option Nat) (y1 : Option Nat) (y2 : Int32) (y3 : Int32) (σ : SG) (r : Int32) (σ' : SG), rc y0 y1 y2 y3 σ = some (r, σ') → mm_Cm g l yX9_readMessage (.code yX9_readMessage cX9_readMessage 10 (some .boolean)) (d + 8) 0 0 [.ref a, va_rf y0, va_rf y1, .int y2, .int y3] (mem Z σ, n, z) (fun v S' => v = some (.int r) ∧ S' = (mem Z σ', n, z))) {k18 : Int32 → SG → Option (Int32 × SG)} {k145 : SG → Option (Int32 × SG)} {v1_ : Option Nat} {v2_ : Option Nat} {v3_ : Int32} {v4_ : Int32} {v5_ : Int32} {s0_ : Int32} {σ : SG} {r : Int32} {σ' : SG} (hk18 : ∀ (v5_ : Int32) (σ8 : SG), k18 v5_ σ8 = some (r, σ') → mm_V g l RX9 "readMessage" cX9_readMessage 10 (some .boolean) [] (d + 10) 0 0 (mm_nt (fun v S' => v = some (.int r) ∧ S' = (mem Z σ', n, z))) 18 [some (.ref a), some (va_rf v1_), some (va_rf v2_), some (.int v3_), some (.int v4_), some (.int v5_), none, none, none, none] [] (mem Z σ8, n, z) 0 0) (hk145 : ∀ (σ8 : SG), k145 σ8 = some (r, σ') → mm_V g l RX9 "readMessage" cX9_readMessage 10 (some .boolean) [] (d + 10) 0 0 (mm_nt (fun v S' => v = some (.int r) ∧ S' = (mem Z σ', n, z))) 145 [some (.ref a), none, none, some (.int v3_), none, none, none, none, none, none] [] (mem Z σ8, n, z) 0 0) (hx : x_X9_readMessage_130 U rc a k18 k145 v1_ v2_ v3_ v4_ v5_ s0_ σ = some (r, σ')) : mm_V g l RX9 "readMessage" cX9_readMessage 10 (some .boolean) [] (d + 10) 0 0 (mm_nt (fun v S' => v = some (.int r) ∧ S' = (mem Z σ', n, z))) 130 [some (.ref a), some (va_rf v1_), some (va_rf v2_), some (.int v3_), some (.int v4_), some (.int v5_), none, none, none, none] [.int s0_] (mem Z σ, n, z) 0 0 := by
  unfold x_X9_readMessage_130 at hx
  refine mm_istore [some (.ref a), some (va_rf v1_), some (va_rf v2_), some (.int v3_), some (.int v4_), some (.int v5_), none, none, none, some (.int s0_)] dX9_readMessage_130 (by decide) rfl ?_
  refine mm_iload dX9_readMessage_132 rfl ?_
  refine b_if hx (fun h20 hx => ?_) (fun h20 hx => ?_)
  · refine mm_if_ne 139 dX9_readMessage_134 (by decide) (fun h => absurd h20 h) (fun _ => ?_)
    refine mm_iconst (v := 0) dX9_readMessage_137 (by decide) ?_
    refine mm_iret dX9_readMessage_138 rfl rfl ?_ (by omega) (by omega)
    obtain ⟨rfl, rfl⟩ := fin2 hx
    exact ⟨rfl, rfl⟩
  · refine mm_if_ne 139 dX9_readMessage_134 (by decide) (fun _ => ?_) (fun h => absurd h h20)
    refine mm_iinc (v := v5_ + 1) [some (.ref a), some (va_rf v1_), some (va_rf v2_), some (.int v3_), some (.int v4_), some (.int (v5_ + 1)), none, none, none, some (.int s0_)] dX9_readMessage_139 rfl rfl (by decide) rfl ?_
    refine mm_goto 18 dX9_readMessage_142 (by decide) ?_
    refine mm_fewer [some (.ref a), some (va_rf v1_), some (va_rf v2_), some (.int v3_), some (.int v4_), some (.int (v5_ + 1)), none, none, none, none] (few_ok (bs := [true, true, true, true, true, true, false, false, false, false]) rfl) ?_
    exact hk18 _ _ hx
set_option maxHeartbeats 4000000 in
set_option maxRecDepth 100000 in
theorem e_X9_readMessage_L18 {g : mm_G} {l : Launch} (hst : l.stackTraces = false) {Z : Nat → Nat → Option Nat} (hZ : HZ Z) {n : Nat} (hn : 1186 ≤ n) {z : Bool} {d : Nat} {U : Nat} {rc : Option Nat → Option Nat → Int32 → Int32 → SG → Option (Int32 × SG)} {a : Nat} (hs : sh a = 9) (hrc : ∀ (y0 : Option Nat) (y1 : Option Nat) (y2 : Int32) (y3 : Int32) (σ : SG) (r : Int32) (σ' : SG), rc y0 y1 y2 y3 σ = some (r, σ') → mm_Cm g l yX9_readMessage (.code yX9_readMessage cX9_readMessage 10 (some .boolean)) (d + 8) 0 0 [.ref a, va_rf y0, va_rf y1, .int y2, .int y3] (mem Z σ, n, z) (fun v S' => v = some (.int r) ∧ S' = (mem Z σ', n, z))) {k145 : SG → Option (Int32 × SG)} {v1_ : Option Nat} {v2_ : Option Nat} {v3_ : Int32} {v4_ : Int32} {r : Int32} {σ' : SG} (hk145 : ∀ (σ8 : SG), k145 σ8 = some (r, σ') → mm_V g l RX9 "readMessage" cX9_readMessage 10 (some .boolean) [] (d + 10) 0 0 (mm_nt (fun v S' => v = some (.int r) ∧ S' = (mem Z σ', n, z))) 145 [some (.ref a), none, none, some (.int v3_), none, none, none, none, none, none] [] (mem Z σ8, n, z) 0 0) : ∀ (U1 : Nat) (v5_ : Int32) (σ : SG), x_X9_readMessage_L18 U rc a k145 v1_ v2_ v3_ v4_ U1 v5_ σ = some (r, σ') → mm_V g l RX9 "readMessage" cX9_readMessage 10 (some .boolean) [] (d + 10) 0 0 (mm_nt (fun v S' => v = some (.int r) ∧ S' = (mem Z σ', n, z))) 18 [some (.ref a), some (va_rf v1_), some (va_rf v2_), some (.int v3_), some (.int v4_), some (.int v5_), none, none, none, none] [] (mem Z σ, n, z) 0 0 := by
  intro U1
  induction U1 with
  | zero => intro v5_ σ hx; exact absurd hx (by simp [x_X9_readMessage_L18])
  | succ U1 ih =>
    intro v5_ σ hx
    rw [x_X9_readMessage_L18] at hx
    refine mm_iload dX9_readMessage_18 rfl ?_
    refine mm_sipush (v := 700) dX9_readMessage_20 (by decide) ?_
    refine b_if hx (fun h3 hx => ?_) (fun h3 hx => ?_)
    · refine mm_icmp_ge 145 dX9_readMessage_23 (by decide) (fun h => absurd h (Int32.not_le.mpr h3)) (fun _ => ?_)
      refine mm_aload_n dX9_readMessage_26 rfl rfl ?_
      refine s_getI (r := some a) (b := a) (ci := 9) (k := 3) in_X9 rfl (by decide) rfl kF_X9_22 dX9_readMessage_27 rfl hs (by decide) hn (by decide) rfl ?_
      refine mm_iload_n dX9_readMessage_30 rfl ?_
      refine b_if hx (fun h4 hx => ?_) (fun h4 hx => ?_)
      · refine mm_icmp_ge 145 dX9_readMessage_31 (by decide) (fun h => absurd h (Int32.not_le.mpr h4)) (fun _ => ?_)
        refine mm_aload_n dX9_readMessage_34 rfl rfl ?_
        refine s_getI (r := some a) (b := a) (ci := 9) (k := 3) in_X9 rfl (by decide) rfl kF_X9_22 dX9_readMessage_35 rfl hs (by decide) hn (by decide) rfl ?_
        refine mm_istore [some (.ref a), some (va_rf v1_), some (va_rf v2_), some (.int v3_), some (.int v4_), some (.int v5_), some (.int (sI σ a 3)), none, none, none] dX9_readMessage_38 (by decide) rfl ?_
        refine mm_aload_n dX9_readMessage_40 rfl rfl ?_
        refine mm_iconst (v := 0) dX9_readMessage_41 (by decide) ?_
        refine mm_iload_n dX9_readMessage_42 rfl ?_
        obtain ⟨v6, σ7, hc5, hx⟩ := b2_some hx
        refine mm_callV3 (a := a) (ci := 9) wM_X9_readNumber kM_X9_49 wI_X9_readNumber wS_X9_readNumber dX9_readMessage_43 (e_X9_readNumber hst hZ hn hs hc5) (mem_obj hs (by decide)) (sh_ltn hs (by decide) hn) rfl rfl rfl (Nat.le_of_ble_eq_true rfl) (by omega) (by omega) (fun v9 S9 hq => ?_)
        obtain ⟨rfl, rfl⟩ := hq
        refine ⟨fun h => ⟨h, rfl⟩, ?_⟩
        refine b_if hx (fun h8 hx => ?_) (fun h8 hx => ?_)
        · refine mm_if_eq 72 dX9_readMessage_46 (by decide) (fun _ => ?_) (fun h => absurd h8 h)
          refine mm_iconst (v := 0) dX9_readMessage_72 (by decide) ?_
          refine mm_iret dX9_readMessage_73 rfl rfl ?_ (by omega) (by omega)
          obtain ⟨rfl, rfl⟩ := fin2 hx
          exact ⟨rfl, rfl⟩
        · refine mm_if_eq 72 dX9_readMessage_46 (by decide) (fun h => absurd h h8) (fun _ => ?_)
          refine mm_aload_n dX9_readMessage_49 rfl rfl ?_
          refine s_getL (r := some a) (b := a) (ci := 9) (k := 4) in_X9 rfl (by decide) rfl kF_X9_53 dX9_readMessage_50 rfl hs (by decide) hn (by decide) rfl ?_
          refine mm_bipush (v := 32) dX9_readMessage_53 (by decide) ?_
          refine mm_lushr dX9_readMessage_55 ?_
          refine mm_lconst (v := 0) dX9_readMessage_56 (by decide) ?_
          refine mm_lcmp dX9_readMessage_57 ?_
          refine b_if hx (fun h9 hx => ?_) (fun h9 hx => ?_)
          · refine mm_if_ne 72 dX9_readMessage_58 (by decide) (fun h => absurd (lg_eq.mpr h9) h) (fun _ => ?_)
            refine mm_aload_n dX9_readMessage_61 rfl rfl ?_
            refine s_getL (r := some a) (b := a) (ci := 9) (k := 4) in_X9 rfl (by decide) rfl kF_X9_53 dX9_readMessage_62 rfl hs (by decide) hn (by decide) rfl ?_
            refine mm_ldc2 kL_X9_57 dX9_readMessage_65 ?_
            refine mm_lcmp dX9_readMessage_68 ?_
            refine b_if hx (fun h10 hx => ?_) (fun h10 hx => ?_)
            · refine mm_if_ge 74 dX9_readMessage_69 (by decide) (fun h => absurd (lg_ge.mp h) (Int64.not_le.mpr h10)) (fun _ => ?_)
              refine mm_iconst (v := 0) dX9_readMessage_72 (by decide) ?_
              refine mm_iret dX9_readMessage_73 rfl rfl ?_ (by omega) (by omega)
              obtain ⟨rfl, rfl⟩ := fin2 hx
              exact ⟨rfl, rfl⟩
            · refine mm_if_ge 74 dX9_readMessage_69 (by decide) (fun _ => ?_) (fun h => absurd (lg_ge.mpr (Int64.not_lt.mp h10)) h)
              refine mm_aload_n dX9_readMessage_74 rfl rfl ?_
              refine s_getL (r := some a) (b := a) (ci := 9) (k := 4) in_X9 rfl (by decide) rfl kF_X9_53 dX9_readMessage_75 rfl hs (by decide) hn (by decide) rfl ?_
              refine mm_ldc2 kL_X9_59 dX9_readMessage_78 ?_
              refine mm_land dX9_readMessage_81 ?_
              refine mm_l2i dX9_readMessage_82 ?_
              refine mm_istore [some (.ref a), some (va_rf v1_), some (va_rf v2_), some (.int v3_), some (.int v4_), some (.int v5_), some (.int (sI σ a 3)), some (.int (Int64.toInt32 ((sL σ7 a 4) &&& 7))), none, none] dX9_readMessage_83 (by decide) rfl ?_
              refine mm_aload_n dX9_readMessage_85 rfl (isr_rf _) ?_
              refine mm_aload_n dX9_readMessage_86 rfl rfl ?_
              refine s_getL (r := some a) (b := a) (ci := 9) (k := 4) in_X9 rfl (by decide) rfl kF_X9_53 dX9_readMessage_87 rfl hs (by decide) hn (by decide) rfl ?_
              refine mm_iconst (v := 3) dX9_readMessage_90 (by decide) ?_
              refine mm_lushr dX9_readMessage_91 ?_
              obtain ⟨q11, hr12, hs13, hx⟩ := ck_some hx
              obtain ⟨v15, hc14, hx⟩ := b1_some hx
              refine mm_callV3 (a := q11) (ci := 3) wM_X3_memberNumbered kM_X9_61 wI_X3_memberNumbered wS_X3_memberNumbered dX9_readMessage_92 (e_X3_memberNumbered hst hZ hn hs13 hc14) (mem_obj hs13 (by decide)) (sh_ltn hs13 (by decide) hn) rfl rfl (by rw [hr12]; rfl) (Nat.le_of_ble_eq_true rfl) (by omega) (by omega) (fun v9 S9 hq => ?_)
              obtain ⟨rfl, rfl⟩ := hq
              refine ⟨fun h => ⟨h, rfl⟩, ?_⟩
              refine mm_astore [some (.ref a), some (va_rf v1_), some (va_rf v2_), some (.int v3_), some (.int v4_), some (.int v5_), some (.int (sI σ a 3)), some (.int (Int64.toInt32 ((sL σ7 a 4) &&& 7))), some (va_rf v15), none] dX9_readMessage_95 (by decide) (isr_rf _) rfl ?_
              refine mm_iload dX9_readMessage_97 rfl ?_
              refine mm_iconst (v := 2) dX9_readMessage_99 (by decide) ?_
              refine b_if hx (fun h16 hx => ?_) (fun h16 hx => ?_)
              · refine mm_icmp_ne 118 dX9_readMessage_100 (by decide) (fun h => absurd h16 h) (fun _ => ?_)
                refine mm_aload_n dX9_readMessage_103 rfl rfl ?_
                refine mm_aload_n dX9_readMessage_104 rfl (isr_rf _) ?_
                refine mm_aload dX9_readMessage_105 rfl (isr_rf _) ?_
                refine mm_iload dX9_readMessage_107 rfl ?_
                refine mm_iload_n dX9_readMessage_109 rfl ?_
                refine mm_iload dX9_readMessage_110 rfl ?_
                obtain ⟨v18, σ19, hc17, hx⟩ := b2_some hx
                refine mm_callV3 (a := a) (ci := 9) wM_X9_takeLength kM_X9_67 wI_X9_takeLength wS_X9_takeLength dX9_readMessage_112 (e_X9_takeLength hst hZ hn hs hrc hc17) (mem_obj hs (by decide)) (sh_ltn hs (by decide) hn) rfl rfl rfl (Nat.le_of_ble_eq_true rfl) (by omega) (by omega) (fun v9 S9 hq => ?_)
                obtain ⟨rfl, rfl⟩ := hq
                refine ⟨fun h => ⟨h, rfl⟩, ?_⟩
                refine mm_goto 130 dX9_readMessage_115 (by decide) ?_
                refine mm_fewer [some (.ref a), some (va_rf v1_), some (va_rf v2_), some (.int v3_), some (.int v4_), some (.int v5_), none, none, none, none] (few_ok (bs := [true, true, true, true, true, true, false, false, false, false]) rfl) ?_
                exact e_X9_readMessage_130 hst hZ hn hs hrc ih hk145 hx
              · refine mm_icmp_ne 118 dX9_readMessage_100 (by decide) (fun _ => ?_) (fun h => absurd h h16)
                refine mm_aload_n dX9_readMessage_118 rfl rfl ?_
                refine mm_aload_n dX9_readMessage_119 rfl (isr_rf _) ?_
                refine mm_aload dX9_readMessage_120 rfl (isr_rf _) ?_
                refine mm_iload dX9_readMessage_122 rfl ?_
                refine mm_iload dX9_readMessage_124 rfl ?_
                refine mm_iload_n dX9_readMessage_126 rfl ?_
                obtain ⟨v22, σ23, hc21, hx⟩ := b2_some hx
                refine mm_callV3 (a := a) (ci := 9) wM_X9_takeNumber kM_X9_71 wI_X9_takeNumber wS_X9_takeNumber dX9_readMessage_127 (e_X9_takeNumber hst hZ hn hs hc21) (mem_obj hs (by decide)) (sh_ltn hs (by decide) hn) rfl rfl rfl (Nat.le_of_ble_eq_true rfl) (by omega) (by omega) (fun v9 S9 hq => ?_)
                obtain ⟨rfl, rfl⟩ := hq
                refine ⟨fun h => ⟨h, rfl⟩, ?_⟩
                refine mm_fewer [some (.ref a), some (va_rf v1_), some (va_rf v2_), some (.int v3_), some (.int v4_), some (.int v5_), none, none, none, none] (few_ok (bs := [true, true, true, true, true, true, false, false, false, false]) rfl) ?_
                exact e_X9_readMessage_130 hst hZ hn hs hrc ih hk145 hx
          · refine mm_if_ne 72 dX9_readMessage_58 (by decide) (fun _ => ?_) (fun h => absurd (lg_eq.mp h) h9)
            refine mm_iconst (v := 0) dX9_readMessage_72 (by decide) ?_
            refine mm_iret dX9_readMessage_73 rfl rfl ?_ (by omega) (by omega)
            obtain ⟨rfl, rfl⟩ := fin2 hx
            exact ⟨rfl, rfl⟩
      · refine mm_icmp_ge 145 dX9_readMessage_31 (by decide) (fun _ => ?_) (fun h => absurd (Int32.not_lt.mp h4) h)
        refine mm_fewer [some (.ref a), none, none, some (.int v3_), none, none, none, none, none, none] (few_ok (bs := [true, false, false, true, false, false, false, false, false, false]) rfl) ?_
        exact hk145  _ hx
    · refine mm_icmp_ge 145 dX9_readMessage_23 (by decide) (fun _ => ?_) (fun h => absurd (Int32.not_lt.mp h3) h)
      refine mm_fewer [some (.ref a), none, none, some (.int v3_), none, none, none, none, none, none] (few_ok (bs := [true, false, false, true, false, false, false, false, false, false]) rfl) ?_
      exact hk145  _ hx
set_option maxHeartbeats 4000000 in
set_option maxRecDepth 100000 in
theorem e_X9_readMessage_145 {g : mm_G} {l : Launch} (hst : l.stackTraces = false) {Z : Nat → Nat → Option Nat} (hZ : HZ Z) {n : Nat} (hn : 1186 ≤ n) {z : Bool} {d : Nat} {U : Nat} {rc : Option Nat → Option Nat → Int32 → Int32 → SG → Option (Int32 × SG)} {a : Nat} (hs : sh a = 9) (hrc : ∀ (y0 : Option Nat) (y1 : Option Nat) (y2 : Int32) (y3 : Int32) (σ : SG) (r : Int32) (σ' : SG), rc y0 y1 y2 y3 σ = some (r, σ') → mm_Cm g l yX9_readMessage (.code yX9_readMessage cX9_readMessage 10 (some .boolean)) (d + 8) 0 0 [.ref a, va_rf y0, va_rf y1, .int y2, .int y3] (mem Z σ, n, z) (fun v S' => v = some (.int r) ∧ S' = (mem Z σ', n, z))) {v3_ : Int32} {σ : SG} {r : Int32} {σ' : SG} (hx : x_X9_readMessage_145 U rc a v3_ σ = some (r, σ')) : mm_V g l RX9 "readMessage" cX9_readMessage 10 (some .boolean) [] (d + 10) 0 0 (mm_nt (fun v S' => v = some (.int r) ∧ S' = (mem Z σ', n, z))) 145 [some (.ref a), none, none, some (.int v3_), none, none, none, none, none, none] [] (mem Z σ, n, z) 0 0 := by
  unfold x_X9_readMessage_145 at hx
  refine mm_aload_n dX9_readMessage_145 rfl rfl ?_
  refine s_getI (r := some a) (b := a) (ci := 9) (k := 3) in_X9 rfl (by decide) rfl kF_X9_22 dX9_readMessage_146 rfl hs (by decide) hn (by decide) rfl ?_
  refine mm_iload_n dX9_readMessage_149 rfl ?_
  refine b_if hx (fun h25 hx => ?_) (fun h25 hx => ?_)
  · refine mm_icmp_ne 157 dX9_readMessage_150 (by decide) (fun h => absurd h25 h) (fun _ => ?_)
    refine mm_iconst (v := 1) dX9_readMessage_153 (by decide) ?_
    refine mm_goto 158 dX9_readMessage_154 (by decide) ?_
    refine mm_iret dX9_readMessage_158 rfl rfl ?_ (by omega) (by omega)
    obtain ⟨rfl, rfl⟩ := fin2 hx
    exact ⟨rfl, rfl⟩
  · refine mm_icmp_ne 157 dX9_readMessage_150 (by decide) (fun _ => ?_) (fun h => absurd h h25)
    refine mm_iconst (v := 0) dX9_readMessage_157 (by decide) ?_
    refine mm_iret dX9_readMessage_158 rfl rfl ?_ (by omega) (by omega)
    obtain ⟨rfl, rfl⟩ := fin2 hx
    exact ⟨rfl, rfl⟩
set_option maxHeartbeats 4000000 in
set_option maxRecDepth 100000 in
theorem e_X9_readMessage_b {g : mm_G} {l : Launch} (hst : l.stackTraces = false) {Z : Nat → Nat → Option Nat} (hZ : HZ Z) {n : Nat} (hn : 1186 ≤ n) {z : Bool} {d : Nat} {U : Nat} {rc : Option Nat → Option Nat → Int32 → Int32 → SG → Option (Int32 × SG)} {a : Nat} (hs : sh a = 9) (hrc : ∀ (y0 : Option Nat) (y1 : Option Nat) (y2 : Int32) (y3 : Int32) (σ : SG) (r : Int32) (σ' : SG), rc y0 y1 y2 y3 σ = some (r, σ') → mm_Cm g l yX9_readMessage (.code yX9_readMessage cX9_readMessage 10 (some .boolean)) (d + 8) 0 0 [.ref a, va_rf y0, va_rf y1, .int y2, .int y3] (mem Z σ, n, z) (fun v S' => v = some (.int r) ∧ S' = (mem Z σ', n, z))) {p0 : Option Nat} {p1 : Option Nat} {p2 : Int32} {p3 : Int32} {σ : SG} {r : Int32} {σ' : SG} (hx : x_X9_readMessage_b U rc a p0 p1 p2 p3 σ = some (r, σ')) : mm_Cm g l yX9_readMessage (.code yX9_readMessage cX9_readMessage 10 (some .boolean)) (d + 10) 0 0 [.ref a, va_rf p0, va_rf p1, .int p2, .int p3] (mem Z σ, n, z) (fun v S' => v = some (.int r) ∧ S' = (mem Z σ', n, z)) := by
  refine mm_Cm_of hst (by decide) (by cases p0 <;> cases p1 <;>  exact Nat.le_of_ble_eq_true rfl) ?_
  rw [show mm_ent [.ref a, va_rf p0, va_rf p1, .int p2, .int p3] 10 = [some (.ref a), some (va_rf p0), some (va_rf p1), some (.int p2), some (.int p3), none, none, none, none, none] from by cases p0 <;> cases p1 <;>  rfl]
  show mm_V g l RX9 "readMessage" cX9_readMessage 10 (some .boolean) [] (d + 10) 0 0 (mm_nt (fun v S' => v = some (.int r) ∧ S' = (mem Z σ', n, z))) 0 [some (.ref a), some (va_rf p0), some (va_rf p1), some (.int p2), some (.int p3), none, none, none, none, none] [] (mem Z σ, n, z) 0 0
  unfold x_X9_readMessage_b at hx
  refine mm_aload_n dX9_readMessage_0 rfl (isr_rf _) ?_
  refine b_if hx (fun h1 hx => ?_) (fun h1 hx => ?_)
  · refine mm_ifnull (r := p1) 13 dX9_readMessage_1 (by decide) (fun _ => ?_) (fun h => absurd h1 h)
    refine mm_iconst (v := 0) dX9_readMessage_13 (by decide) ?_
    refine mm_iret dX9_readMessage_14 rfl rfl ?_ (by omega) (by omega)
    obtain ⟨rfl, rfl⟩ := fin2 hx
    exact ⟨rfl, rfl⟩
  · refine mm_ifnull (r := p1) 13 dX9_readMessage_1 (by decide) (fun h => absurd h h1) (fun _ => ?_)
    refine mm_iload dX9_readMessage_4 rfl ?_
    refine mm_aload_n dX9_readMessage_6 rfl rfl ?_
    refine s_getI (r := some a) (b := a) (ci := 9) (k := 5) in_X9 rfl (by decide) rfl kF_X9_26 dX9_readMessage_7 rfl hs (by decide) hn (by decide) rfl ?_
    refine b_if hx (fun h2 hx => ?_) (fun h2 hx => ?_)
    · refine mm_icmp_le 15 dX9_readMessage_10 (by decide) (fun h => absurd h (Int32.not_le.mpr h2)) (fun _ => ?_)
      refine mm_iconst (v := 0) dX9_readMessage_13 (by decide) ?_
      refine mm_iret dX9_readMessage_14 rfl rfl ?_ (by omega) (by omega)
      obtain ⟨rfl, rfl⟩ := fin2 hx
      exact ⟨rfl, rfl⟩
    · refine mm_icmp_le 15 dX9_readMessage_10 (by decide) (fun _ => ?_) (fun h => absurd (Int32.not_lt.mp h2) h)
      refine mm_iconst (v := 0) dX9_readMessage_15 (by decide) ?_
      refine mm_istore [some (.ref a), some (va_rf p0), some (va_rf p1), some (.int p2), some (.int p3), some (.int 0), none, none, none, none] dX9_readMessage_16 (by decide) rfl ?_
      refine e_X9_readMessage_L18 hst hZ hn hs hrc ?_ _ _ _ hx
      · intro  σ24 hx
        exact e_X9_readMessage_145 hst hZ hn hs hrc hx
set_option maxHeartbeats 4000000 in
set_option maxRecDepth 100000 in
theorem e_X9_readMessage_D {g : mm_G} {l : Launch} (hst : l.stackTraces = false) {Z : Nat → Nat → Option Nat} (hZ : HZ Z) {n : Nat} (hn : 1186 ≤ n) {z : Bool} {d : Nat} {U : Nat} {a : Nat} (hs : sh a = 9) : ∀ (D : Nat) (p0 : Option Nat) (p1 : Option Nat) (p2 : Int32) (p3 : Int32) (σ : SG) (r : Int32) (σ' : SG), x_X9_readMessage U a D p0 p1 p2 p3 σ = some (r, σ') → mm_Cm g l yX9_readMessage (.code yX9_readMessage cX9_readMessage 10 (some .boolean)) (d + 2 * D + 8) 0 0 [.ref a, va_rf p0, va_rf p1, .int p2, .int p3] (mem Z σ, n, z) (fun v S' => v = some (.int r) ∧ S' = (mem Z σ', n, z)) := by
  intro D
  induction D with
  | zero => intro p0 p1 p2 p3 σ r σ' hx; exact absurd hx (by simp [x_X9_readMessage])
  | succ D ih =>
    intro p0 p1 p2 p3 σ r σ' hx
    rw [x_X9_readMessage] at hx
    have h := e_X9_readMessage_b (d := d + 2 * D) hst hZ hn hs (fun y0 y1 y2 y3 y4 y5 y6 hx => ih y0 y1 y2 y3 y4 y5 y6 hx) hx
    rw [show d + 2 * (D + 1) + 8 = d + 2 * D + 10 by omega]
    exact h
set_option maxHeartbeats 4000000 in
set_option maxRecDepth 100000 in
theorem e_X9_readMessage {g : mm_G} {l : Launch} (hst : l.stackTraces = false) {Z : Nat → Nat → Option Nat} (hZ : HZ Z) {n : Nat} (hn : 1186 ≤ n) {z : Bool} {d : Nat} {U : Nat} {a : Nat} (hs : sh a = 9) {p0 : Option Nat} {p1 : Option Nat} {p2 : Int32} {p3 : Int32} {σ : SG} {r : Int32} {σ' : SG} (hx : x_X9_readMessage U a 24 p0 p1 p2 p3 σ = some (r, σ')) : mm_Cm g l yX9_readMessage (.code yX9_readMessage cX9_readMessage 10 (some .boolean)) (d + 56) 0 0 [.ref a, va_rf p0, va_rf p1, .int p2, .int p3] (mem Z σ, n, z) (fun v S' => v = some (.int r) ∧ S' = (mem Z σ', n, z)) := e_X9_readMessage_D (d := d) hst hZ hn hs 24 _ _ _ _ _ _ _ hx
set_option maxHeartbeats 4000000 in
set_option maxRecDepth 100000 in
theorem e_X9_read {g : mm_G} {l : Launch} (hst : l.stackTraces = false) {Z : Nat → Nat → Option Nat} (hZ : HZ Z) {n : Nat} (hn : 1186 ≤ n) {z : Bool} {d : Nat} {U : Nat} {a : Nat} (hs : sh a = 9) {p0 : Int32} {σ : SG} {r : Int32} {σ' : SG} (hx : x_X9_read U a p0 σ = some (r, σ')) : mm_Cm g l yX9_read (.code yX9_read cX9_read 2 (some .boolean)) (d + 57) 0 0 [.ref a, .int p0] (mem Z σ, n, z) (fun v S' => v = some (.int r) ∧ S' = (mem Z σ', n, z)) := by
  refine mm_Cm_of hst (by decide) (Nat.le_of_ble_eq_true rfl) ?_
  show mm_V g l RX9 "read" cX9_read 2 (some .boolean) [] (d + 57) 0 0 (mm_nt (fun v S' => v = some (.int r) ∧ S' = (mem Z σ', n, z))) 0 [some (.ref a), some (.int p0)] [] (mem Z σ, n, z) 0 0
  unfold x_X9_read at hx
  refine mm_aload_n dX9_read_0 rfl rfl ?_
  refine mm_iconst (v := 0) dX9_read_1 (by decide) ?_
  refine s_putI (v := 0) (r := some a) (b := a) (ci := 9) (k := 3) in_X9 rfl (by decide) rfl tyX9_ok nmX9 rfl kF_X9_22 dX9_read_2 (mm_fit_int _) rfl hs (by decide) hn (by decide) rfl hx (fun σ1 hx => ?_)
  refine mm_aload_n dX9_read_5 rfl rfl ?_
  refine mm_iload_n dX9_read_6 rfl ?_
  refine s_putI (v := p0) (r := some a) (b := a) (ci := 9) (k := 5) in_X9 rfl (by decide) rfl tyX9_ok nmX9 rfl kF_X9_26 dX9_read_7 (mm_fit_int _) rfl hs (by decide) hn (by decide) rfl hx (fun σ2 hx => ?_)
  refine mm_aload_n dX9_read_10 rfl rfl ?_
  refine mm_aload_n dX9_read_11 rfl rfl ?_
  refine s_getS (q := 389) (r := some a) (b := a) (ci := 9) (k := 1) in_X9 rfl (by decide) rfl kF_X9_15 dX9_read_12 rfl hs (by decide) hn (by decide) rfl rfl ?_
  refine s_getSN (q := 1091) (r := some 389) (b := 389) (ci := 8) (k := 1) in_X8 rfl (by decide) rfl kF_X9_29 dX9_read_15 rfl sa_389 (by decide) hn (by decide) rfl rfl ?_
  refine mm_aload_n dX9_read_18 rfl rfl ?_
  refine s_getS (q := 389) (r := some a) (b := a) (ci := 9) (k := 1) in_X9 rfl (by decide) rfl kF_X9_15 dX9_read_19 rfl hs (by decide) hn (by decide) rfl rfl ?_
  refine s_getPN (r := some 389) (b := 389) (ci := 8) (k := 5) in_X8 rfl (by decide) rfl kF_X9_35 dX9_read_22 rfl sa_389 (by decide) hn (by decide) rfl ?_
  refine mm_aload_n dX9_read_25 rfl rfl ?_
  refine s_getS (q := 1) (r := some a) (b := a) (ci := 9) (k := 0) in_X9 rfl (by decide) rfl kF_X9_9 dX9_read_26 rfl hs (by decide) hn (by decide) rfl rfl ?_
  obtain ⟨v4, hc3, hx⟩ := b1_some hx
  refine mm_callV3 (a := 1) (ci := 0) wM_X0_size kM_X9_39 wI_X0_size wS_X0_size dX9_read_29 (e_X0_size hst hZ hn sa_1 hc3) (mem_obj sa_1 (by decide)) (sh_ltn sa_1 (by decide) hn) rfl rfl rfl (show (([va_rf (sP σ2 389 5), .ref 1091, .ref a] : List Value).map fun v => v.category).sum ≤ 8 by simp only [List.map_cons, List.map_nil, List.sum_cons, List.sum_nil, cat_rf]; exact Nat.le_of_ble_eq_true rfl) (by omega) (by omega) (fun v9 S9 hq => ?_)
  obtain ⟨rfl, rfl⟩ := hq
  refine ⟨fun h => ⟨h, rfl⟩, ?_⟩
  refine mm_iconst (v := 1) dX9_read_32 (by decide) ?_
  obtain ⟨v6, σ7, hc5, hx⟩ := b2_some hx
  refine mm_callV3 (a := a) (ci := 9) wM_X9_readMessage kM_X9_45 wI_X9_readMessage wS_X9_readMessage dX9_read_33 (e_X9_readMessage hst hZ hn hs hc5) (mem_obj hs (by decide)) (sh_ltn hs (by decide) hn) rfl rfl rfl (Nat.le_of_ble_eq_true rfl) (by omega) (by omega) (fun v9 S9 hq => ?_)
  obtain ⟨rfl, rfl⟩ := hq
  refine ⟨fun h => ⟨h, rfl⟩, ?_⟩
  obtain ⟨hz8, hx⟩ := zb_some hx
  refine mm_iret dX9_read_36 rfl (zb_nar hz8) ?_ (by omega) (by omega)
  obtain ⟨rfl, rfl⟩ := fin2 hx
  exact ⟨rfl, rfl⟩
set_option maxHeartbeats 4000000 in
set_option maxRecDepth 100000 in
theorem e_X4_isNothing {g : mm_G} {l : Launch} (hst : l.stackTraces = false) {Z : Nat → Nat → Option Nat} (hZ : HZ Z) {n : Nat} (hn : 1186 ≤ n) {z : Bool} {d : Nat} {a : Nat} (hs : sh a = 4) {σ : SG} {r : Int32} (hx : x_X4_isNothing a σ = some r) : mm_Cm g l yX4_isNothing (.code yX4_isNothing cX4_isNothing 1 (some .boolean)) (d + 1) 0 0 [.ref a] (mem Z σ, n, z) (fun v S' => v = some (.int r) ∧ S' = (mem Z σ, n, z)) := by
  refine mm_Cm_of hst (by decide) (Nat.le_of_ble_eq_true rfl) ?_
  show mm_V g l RX4 "isNothing" cX4_isNothing 1 (some .boolean) [] (d + 1) 0 0 (mm_nt (fun v S' => v = some (.int r) ∧ S' = (mem Z σ, n, z))) 0 [some (.ref a)] [] (mem Z σ, n, z) 0 0
  unfold x_X4_isNothing at hx
  refine mm_aload_n dX4_isNothing_0 rfl rfl ?_
  refine s_getP (r := some a) (b := a) (ci := 4) (k := 0) in_X4 rfl (by decide) rfl kF_X4_9 dX4_isNothing_1 rfl hs (by decide) hn (by decide) rfl ?_
  refine b_if hx (fun h1 hx => ?_) (fun h1 hx => ?_)
  · refine mm_ifnull (r := sP σ a 0) 39 dX4_isNothing_4 (by decide) (fun _ => ?_) (fun h => absurd h1 h)
    refine mm_iconst (v := 0) dX4_isNothing_39 (by decide) ?_
    refine mm_iret dX4_isNothing_40 rfl rfl ?_ (by omega) (by omega)
    obtain rfl := fin1 hx
    exact ⟨rfl, rfl⟩
  · refine mm_ifnull (r := sP σ a 0) 39 dX4_isNothing_4 (by decide) (fun h => absurd h h1) (fun _ => ?_)
    refine mm_aload_n dX4_isNothing_7 rfl rfl ?_
    refine s_getP (r := some a) (b := a) (ci := 4) (k := 0) in_X4 rfl (by decide) rfl kF_X4_9 dX4_isNothing_8 rfl hs (by decide) hn (by decide) rfl ?_
    obtain ⟨q2, hr3, hs4, hx⟩ := ck_some hx
    refine s_getIN (r := sP σ a 0) (b := q2) (ci := 3) (k := 11) in_X3 rfl (by decide) rfl kF_X4_36 dX4_isNothing_11 hr3 hs4 (by decide) hn (by decide) rfl ?_
    refine b_if hx (fun h5 hx => ?_) (fun h5 hx => ?_)
    · refine mm_if_ne 39 dX4_isNothing_14 (by decide) (fun h => absurd h5 h) (fun _ => ?_)
      refine mm_aload_n dX4_isNothing_17 rfl rfl ?_
      refine s_getP (r := some a) (b := a) (ci := 4) (k := 0) in_X4 rfl (by decide) rfl kF_X4_9 dX4_isNothing_18 rfl hs (by decide) hn (by decide) rfl ?_
      refine s_getPN (r := sP σ a 0) (b := q2) (ci := 3) (k := 3) in_X3 rfl (by decide) rfl kF_X4_42 dX4_isNothing_21 hr3 hs4 (by decide) hn (by decide) rfl ?_
      refine b_if hx (fun h6 hx => ?_) (fun h6 hx => ?_)
      · refine mm_ifnonnull (r := sP σ q2 3) 39 dX4_isNothing_24 (by decide) (fun h => absurd h6 h) (fun _ => ?_)
        refine mm_aload_n dX4_isNothing_27 rfl rfl ?_
        refine s_getP (r := some a) (b := a) (ci := 4) (k := 0) in_X4 rfl (by decide) rfl kF_X4_9 dX4_isNothing_28 rfl hs (by decide) hn (by decide) rfl ?_
        refine s_getIN (r := sP σ a 0) (b := q2) (ci := 3) (k := 8) in_X3 rfl (by decide) rfl kF_X4_45 dX4_isNothing_31 hr3 hs4 (by decide) hn (by decide) rfl ?_
        refine mm_bipush (v := 13) dX4_isNothing_34 (by decide) ?_
        refine b_if hx (fun h7 hx => ?_) (fun h7 hx => ?_)
        · refine mm_icmp_ne 41 dX4_isNothing_36 (by decide) (fun h => absurd h7 h) (fun _ => ?_)
          refine mm_iconst (v := 0) dX4_isNothing_39 (by decide) ?_
          refine mm_iret dX4_isNothing_40 rfl rfl ?_ (by omega) (by omega)
          obtain rfl := fin1 hx
          exact ⟨rfl, rfl⟩
        · refine mm_icmp_ne 41 dX4_isNothing_36 (by decide) (fun _ => ?_) (fun h => absurd h h7)
          refine mm_aload_n dX4_isNothing_41 rfl rfl ?_
          refine s_getP (r := some a) (b := a) (ci := 4) (k := 0) in_X4 rfl (by decide) rfl kF_X4_9 dX4_isNothing_42 rfl hs (by decide) hn (by decide) rfl ?_
          refine s_getIN (r := sP σ a 0) (b := q2) (ci := 3) (k := 8) in_X3 rfl (by decide) rfl kF_X4_45 dX4_isNothing_45 hr3 hs4 (by decide) hn (by decide) rfl ?_
          obtain ⟨v9, hc8, hx⟩ := b1_some hx
          refine mm_callSN wM_X11_isNumeric kM_X4_48 wT_X11_isNumeric dX4_isNothing_48 (e_X11_isNumeric hst hZ hn hc8) rfl rfl (Nat.le_of_ble_eq_true rfl) (by omega) (by omega) (fun v9 S9 hq => ?_)
          obtain ⟨rfl, rfl⟩ := hq
          refine ⟨fun h => ⟨h, rfl⟩, ?_⟩
          refine b_if hx (fun h10 hx => ?_) (fun h10 hx => ?_)
          · refine mm_if_eq 71 dX4_isNothing_51 (by decide) (fun _ => ?_) (fun h => absurd h10 h)
            refine mm_aload_n dX4_isNothing_71 rfl rfl ?_
            refine s_getI (r := some a) (b := a) (ci := 4) (k := 5) in_X4 rfl (by decide) rfl kF_X4_29 dX4_isNothing_72 rfl hs (by decide) hn (by decide) rfl ?_
            refine mm_aload_n dX4_isNothing_75 rfl rfl ?_
            refine s_getI (r := some a) (b := a) (ci := 4) (k := 6) in_X4 rfl (by decide) rfl kF_X4_33 dX4_isNothing_76 rfl hs (by decide) hn (by decide) rfl ?_
            refine b_if hx (fun h11 hx => ?_) (fun h11 hx => ?_)
            · refine mm_icmp_ne 86 dX4_isNothing_79 (by decide) (fun h => absurd h11 h) (fun _ => ?_)
              refine mm_iconst (v := 1) dX4_isNothing_82 (by decide) ?_
              refine mm_goto 87 dX4_isNothing_83 (by decide) ?_
              refine mm_iret dX4_isNothing_87 rfl rfl ?_ (by omega) (by omega)
              obtain rfl := fin1 hx
              exact ⟨rfl, rfl⟩
            · refine mm_icmp_ne 86 dX4_isNothing_79 (by decide) (fun _ => ?_) (fun h => absurd h h11)
              refine mm_iconst (v := 0) dX4_isNothing_86 (by decide) ?_
              refine mm_iret dX4_isNothing_87 rfl rfl ?_ (by omega) (by omega)
              obtain rfl := fin1 hx
              exact ⟨rfl, rfl⟩
          · refine mm_if_eq 71 dX4_isNothing_51 (by decide) (fun h => absurd h h10) (fun _ => ?_)
            refine mm_aload_n dX4_isNothing_54 rfl rfl ?_
            refine s_getL (r := some a) (b := a) (ci := 4) (k := 4) in_X4 rfl (by decide) rfl kF_X4_25 dX4_isNothing_55 rfl hs (by decide) hn (by decide) rfl ?_
            refine mm_lconst (v := 0) dX4_isNothing_58 (by decide) ?_
            refine mm_lcmp dX4_isNothing_59 ?_
            refine b_if hx (fun h12 hx => ?_) (fun h12 hx => ?_)
            · refine mm_if_ne 67 dX4_isNothing_60 (by decide) (fun h => absurd (lg_eq.mpr h12) h) (fun _ => ?_)
              refine mm_iconst (v := 1) dX4_isNothing_63 (by decide) ?_
              refine mm_goto 87 dX4_isNothing_64 (by decide) ?_
              refine mm_iret dX4_isNothing_87 rfl rfl ?_ (by omega) (by omega)
              obtain rfl := fin1 hx
              exact ⟨rfl, rfl⟩
            · refine mm_if_ne 67 dX4_isNothing_60 (by decide) (fun _ => ?_) (fun h => absurd (lg_eq.mp h) h12)
              refine mm_iconst (v := 0) dX4_isNothing_67 (by decide) ?_
              refine mm_goto 87 dX4_isNothing_68 (by decide) ?_
              refine mm_iret dX4_isNothing_87 rfl rfl ?_ (by omega) (by omega)
              obtain rfl := fin1 hx
              exact ⟨rfl, rfl⟩
      · refine mm_ifnonnull (r := sP σ q2 3) 39 dX4_isNothing_24 (by decide) (fun _ => ?_) (fun h => absurd h h6)
        refine mm_iconst (v := 0) dX4_isNothing_39 (by decide) ?_
        refine mm_iret dX4_isNothing_40 rfl rfl ?_ (by omega) (by omega)
        obtain rfl := fin1 hx
        exact ⟨rfl, rfl⟩
    · refine mm_if_ne 39 dX4_isNothing_14 (by decide) (fun _ => ?_) (fun h => absurd h h5)
      refine mm_iconst (v := 0) dX4_isNothing_39 (by decide) ?_
      refine mm_iret dX4_isNothing_40 rfl rfl ?_ (by omega) (by omega)
      obtain rfl := fin1 hx
      exact ⟨rfl, rfl⟩
set_option maxHeartbeats 4000000 in
set_option maxRecDepth 100000 in
theorem e_X8_countIn_58 {g : mm_G} {l : Launch} (hst : l.stackTraces = false) {Z : Nat → Nat → Option Nat} (hZ : HZ Z) {n : Nat} (hn : 1186 ≤ n) {z : Bool} {d : Nat} {U : Nat} {rc : Option Nat → Int32 → SG → Option (Int32)} {a : Nat} (hs : sh a = 8) (hrc : ∀ (y0 : Option Nat) (y1 : Int32) (σ : SG) (r : Int32), rc y0 y1 σ = some r → mm_Cm g l yX8_countIn (.code yX8_countIn cX8_countIn 5 (some .int)) (d + 4) 0 0 [.ref a, va_rf y0, .int y1] (mem Z σ, n, z) (fun v S' => v = some (.int r) ∧ S' = (mem Z σ, n, z))) {k8 : Int32 → Option Nat → Option (Int32)} {v2_ : Int32} {v3_ : Int32} {v4_ : Option Nat} {σ : SG} {r : Int32} (hk8 : ∀ (v3_ : Int32) (v4_ : Option Nat), k8 v3_ v4_ = some r → mm_V g l RX8 "countIn" cX8_countIn 5 (some .int) [] (d + 5) 0 0 (mm_nt (fun v S' => v = some (.int r) ∧ S' = (mem Z σ, n, z))) 8 [some (.ref a), none, some (.int v2_), some (.int v3_), some (va_rf v4_)] [] (mem Z σ, n, z) 0 0) (hx : x_X8_countIn_58 U rc a k8 v2_ v3_ v4_ σ = some r) : mm_V g l RX8 "countIn" cX8_countIn 5 (some .int) [] (d + 5) 0 0 (mm_nt (fun v S' => v = some (.int r) ∧ S' = (mem Z σ, n, z))) 58 [some (.ref a), none, some (.int v2_), some (.int v3_), some (va_rf v4_)] [] (mem Z σ, n, z) 0 0 := by
  unfold x_X8_countIn_58 at hx
  refine mm_aload dX8_countIn_58 rfl (isr_rf _) ?_
  obtain ⟨q13, hr14, hs15, hx⟩ := ck_some hx
  refine s_getPN (r := v4_) (b := q13) (ci := 4) (k := 1) in_X4 rfl (by decide) rfl kF_X8_72 dX8_countIn_60 hr14 hs15 (by decide) hn (by decide) rfl ?_
  refine mm_astore [some (.ref a), none, some (.int v2_), some (.int v3_), some (va_rf (sP σ q13 1))] dX8_countIn_63 (by decide) (isr_rf _) rfl ?_
  refine mm_goto 8 dX8_countIn_65 (by decide) ?_
  exact hk8 _ _ hx
set_option maxHeartbeats 4000000 in
set_option maxRecDepth 100000 in
theorem e_X8_countIn_32 {g : mm_G} {l : Launch} (hst : l.stackTraces = false) {Z : Nat → Nat → Option Nat} (hZ : HZ Z) {n : Nat} (hn : 1186 ≤ n) {z : Bool} {d : Nat} {U : Nat} {rc : Option Nat → Int32 → SG → Option (Int32)} {a : Nat} (hs : sh a = 8) (hrc : ∀ (y0 : Option Nat) (y1 : Int32) (σ : SG) (r : Int32), rc y0 y1 σ = some r → mm_Cm g l yX8_countIn (.code yX8_countIn cX8_countIn 5 (some .int)) (d + 4) 0 0 [.ref a, va_rf y0, .int y1] (mem Z σ, n, z) (fun v S' => v = some (.int r) ∧ S' = (mem Z σ, n, z))) {k8 : Int32 → Option Nat → Option (Int32)} {v2_ : Int32} {v3_ : Int32} {v4_ : Option Nat} {σ : SG} {r : Int32} (hk8 : ∀ (v3_ : Int32) (v4_ : Option Nat), k8 v3_ v4_ = some r → mm_V g l RX8 "countIn" cX8_countIn 5 (some .int) [] (d + 5) 0 0 (mm_nt (fun v S' => v = some (.int r) ∧ S' = (mem Z σ, n, z))) 8 [some (.ref a), none, some (.int v2_), some (.int v3_), some (va_rf v4_)] [] (mem Z σ, n, z) 0 0) (hx : x_X8_countIn_32 U rc a k8 v2_ v3_ v4_ σ = some r) : mm_V g l RX8 "countIn" cX8_countIn 5 (some .int) [] (d + 5) 0 0 (mm_nt (fun v S' => v = some (.int r) ∧ S' = (mem Z σ, n, z))) 32 [some (.ref a), none, some (.int v2_), some (.int v3_), some (va_rf v4_)] [] (mem Z σ, n, z) 0 0 := by
  unfold x_X8_countIn_32 at hx
  refine mm_aload dX8_countIn_32 rfl (isr_rf _) ?_
  obtain ⟨q9, hr10, hs11, hx⟩ := ck_some hx
  refine s_getPN (r := v4_) (b := q9) (ci := 4) (k := 2) in_X4 rfl (by decide) rfl kF_X8_63 dX8_countIn_34 hr10 hs11 (by decide) hn (by decide) rfl ?_
  refine b_if hx (fun h12 hx => ?_) (fun h12 hx => ?_)
  · refine mm_ifnull (r := sP σ q9 2) 58 dX8_countIn_37 (by decide) (fun _ => ?_) (fun h => absurd h12 h)
    exact e_X8_countIn_58 hst hZ hn hs hrc hk8 hx
  · refine mm_ifnull (r := sP σ q9 2) 58 dX8_countIn_37 (by decide) (fun h => absurd h h12) (fun _ => ?_)
    refine mm_iload_n dX8_countIn_40 rfl ?_
    refine mm_bipush (v := 20) dX8_countIn_41 (by decide) ?_
    refine b_if hx (fun h16 hx => ?_) (fun h16 hx => ?_)
    · refine mm_icmp_gt 58 dX8_countIn_43 (by decide) (fun _ => ?_) (fun h => absurd h16 h)
      exact e_X8_countIn_58 hst hZ hn hs hrc hk8 hx
    · refine mm_icmp_gt 58 dX8_countIn_43 (by decide) (fun h => absurd h h16) (fun _ => ?_)
      refine mm_iload_n dX8_countIn_46 rfl ?_
      refine mm_aload_n dX8_countIn_47 rfl rfl ?_
      refine mm_aload dX8_countIn_48 rfl (isr_rf _) ?_
      refine mm_iload_n dX8_countIn_50 rfl ?_
      refine mm_iconst (v := 1) dX8_countIn_51 (by decide) ?_
      refine mm_iadd dX8_countIn_52 ?_
      obtain ⟨v18, hc17, hx⟩ := b1_some hx
      refine mm_callV3 (a := a) (ci := 8) wM_X8_countIn kM_X8_59 wI_X8_countIn wS_X8_countIn dX8_countIn_53 (hrc _ _ _ _ hc17) (mem_obj hs (by decide)) (sh_ltn hs (by decide) hn) rfl rfl rfl (Nat.le_of_ble_eq_true rfl) (by omega) (by omega) (fun v9 S9 hq => ?_)
      obtain ⟨rfl, rfl⟩ := hq
      refine ⟨fun h => ⟨h, rfl⟩, ?_⟩
      refine mm_iadd dX8_countIn_56 ?_
      refine mm_istore_n [some (.ref a), none, some (.int v2_), some (.int (v3_ + v18)), some (va_rf v4_)] dX8_countIn_57 (by decide) rfl ?_
      exact e_X8_countIn_58 hst hZ hn hs hrc hk8 hx
set_option maxHeartbeats 4000000 in
set_option maxRecDepth 100000 in
theorem e_X8_countIn_L8 {g : mm_G} {l : Launch} (hst : l.stackTraces = false) {Z : Nat → Nat → Option Nat} (hZ : HZ Z) {n : Nat} (hn : 1186 ≤ n) {z : Bool} {d : Nat} {U : Nat} {rc : Option Nat → Int32 → SG → Option (Int32)} {a : Nat} (hs : sh a = 8) (hrc : ∀ (y0 : Option Nat) (y1 : Int32) (σ : SG) (r : Int32), rc y0 y1 σ = some r → mm_Cm g l yX8_countIn (.code yX8_countIn cX8_countIn 5 (some .int)) (d + 4) 0 0 [.ref a, va_rf y0, .int y1] (mem Z σ, n, z) (fun v S' => v = some (.int r) ∧ S' = (mem Z σ, n, z))) {v2_ : Int32} {σ : SG} {r : Int32} : ∀ (U1 : Nat) (v3_ : Int32) (v4_ : Option Nat), x_X8_countIn_L8 U rc a v2_ σ U1 v3_ v4_ = some r → mm_V g l RX8 "countIn" cX8_countIn 5 (some .int) [] (d + 5) 0 0 (mm_nt (fun v S' => v = some (.int r) ∧ S' = (mem Z σ, n, z))) 8 [some (.ref a), none, some (.int v2_), some (.int v3_), some (va_rf v4_)] [] (mem Z σ, n, z) 0 0 := by
  intro U1
  induction U1 with
  | zero => intro v3_ v4_ hx; exact absurd hx (by simp [x_X8_countIn_L8])
  | succ U1 ih =>
    intro v3_ v4_ hx
    rw [x_X8_countIn_L8] at hx
    refine mm_aload dX8_countIn_8 rfl (isr_rf _) ?_
    refine b_if hx (fun h4 hx => ?_) (fun h4 hx => ?_)
    · refine mm_ifnull (r := v4_) 68 dX8_countIn_10 (by decide) (fun _ => ?_) (fun h => absurd h4 h)
      refine mm_iload_n dX8_countIn_68 rfl ?_
      refine mm_iret dX8_countIn_69 rfl rfl ?_ (by omega) (by omega)
      obtain rfl := fin1 hx
      exact ⟨rfl, rfl⟩
    · refine mm_ifnull (r := v4_) 68 dX8_countIn_10 (by decide) (fun h => absurd h h4) (fun _ => ?_)
      refine mm_aload dX8_countIn_13 rfl (isr_rf _) ?_
      obtain ⟨q5, hr6, hs7, hx⟩ := ck_some hx
      refine s_getPN (r := v4_) (b := q5) (ci := 4) (k := 0) in_X4 rfl (by decide) rfl kF_X8_66 dX8_countIn_15 hr6 hs7 (by decide) hn (by decide) rfl ?_
      refine b_if hx (fun h8 hx => ?_) (fun h8 hx => ?_)
      · refine mm_ifnull (r := sP σ q5 0) 32 dX8_countIn_18 (by decide) (fun _ => ?_) (fun h => absurd h8 h)
        exact e_X8_countIn_32 hst hZ hn hs hrc ih hx
      · refine mm_ifnull (r := sP σ q5 0) 32 dX8_countIn_18 (by decide) (fun h => absurd h h8) (fun _ => ?_)
        refine mm_aload dX8_countIn_21 rfl (isr_rf _) ?_
        obtain ⟨v20, hc19, hx⟩ := b1_some hx
        refine mm_callV3 (a := q5) (ci := 4) wM_X4_isNothing kM_X8_69 wI_X4_isNothing wS_X4_isNothing dX8_countIn_23 (e_X4_isNothing hst hZ hn hs7 hc19) (mem_obj hs7 (by decide)) (sh_ltn hs7 (by decide) hn) rfl rfl (by rw [hr6]; rfl) (Nat.le_of_ble_eq_true rfl) (by omega) (by omega) (fun v9 S9 hq => ?_)
        obtain ⟨rfl, rfl⟩ := hq
        refine ⟨fun h => ⟨h, rfl⟩, ?_⟩
        refine b_if hx (fun h21 hx => ?_) (fun h21 hx => ?_)
        · refine mm_if_ne 32 dX8_countIn_26 (by decide) (fun h => absurd h21 h) (fun _ => ?_)
          refine mm_iinc (v := v3_ + 1) [some (.ref a), none, some (.int v2_), some (.int (v3_ + 1)), some (va_rf v4_)] dX8_countIn_29 rfl rfl (by decide) rfl ?_
          exact e_X8_countIn_32 hst hZ hn hs hrc ih hx
        · refine mm_if_ne 32 dX8_countIn_26 (by decide) (fun _ => ?_) (fun h => absurd h h21)
          exact e_X8_countIn_32 hst hZ hn hs hrc ih hx
set_option maxHeartbeats 4000000 in
set_option maxRecDepth 100000 in
theorem e_X8_countIn_b {g : mm_G} {l : Launch} (hst : l.stackTraces = false) {Z : Nat → Nat → Option Nat} (hZ : HZ Z) {n : Nat} (hn : 1186 ≤ n) {z : Bool} {d : Nat} {U : Nat} {rc : Option Nat → Int32 → SG → Option (Int32)} {a : Nat} (hs : sh a = 8) (hrc : ∀ (y0 : Option Nat) (y1 : Int32) (σ : SG) (r : Int32), rc y0 y1 σ = some r → mm_Cm g l yX8_countIn (.code yX8_countIn cX8_countIn 5 (some .int)) (d + 4) 0 0 [.ref a, va_rf y0, .int y1] (mem Z σ, n, z) (fun v S' => v = some (.int r) ∧ S' = (mem Z σ, n, z))) {p0 : Option Nat} {p1 : Int32} {σ : SG} {r : Int32} (hx : x_X8_countIn_b U rc a p0 p1 σ = some r) : mm_Cm g l yX8_countIn (.code yX8_countIn cX8_countIn 5 (some .int)) (d + 5) 0 0 [.ref a, va_rf p0, .int p1] (mem Z σ, n, z) (fun v S' => v = some (.int r) ∧ S' = (mem Z σ, n, z)) := by
  refine mm_Cm_of hst (by decide) (by cases p0 <;>  exact Nat.le_of_ble_eq_true rfl) ?_
  rw [show mm_ent [.ref a, va_rf p0, .int p1] 5 = [some (.ref a), some (va_rf p0), some (.int p1), none, none] from by cases p0 <;>  rfl]
  show mm_V g l RX8 "countIn" cX8_countIn 5 (some .int) [] (d + 5) 0 0 (mm_nt (fun v S' => v = some (.int r) ∧ S' = (mem Z σ, n, z))) 0 [some (.ref a), some (va_rf p0), some (.int p1), none, none] [] (mem Z σ, n, z) 0 0
  unfold x_X8_countIn_b at hx
  refine mm_iconst (v := 0) dX8_countIn_0 (by decide) ?_
  refine mm_istore_n [some (.ref a), some (va_rf p0), some (.int p1), some (.int 0), none] dX8_countIn_1 (by decide) rfl ?_
  refine mm_aload_n dX8_countIn_2 rfl (isr_rf _) ?_
  obtain ⟨q1, hr2, hs3, hx⟩ := ck_some hx
  refine s_getPN (r := p0) (b := q1) (ci := 4) (k := 2) in_X4 rfl (by decide) rfl kF_X8_63 dX8_countIn_3 hr2 hs3 (by decide) hn (by decide) rfl ?_
  refine mm_astore [some (.ref a), some (va_rf p0), some (.int p1), some (.int 0), some (va_rf (sP σ q1 2))] dX8_countIn_6 (by decide) (isr_rf _) rfl ?_
  refine mm_fewer [some (.ref a), none, some (.int p1), some (.int 0), some (va_rf (sP σ q1 2))] (few_ok (bs := [true, false, true, true, true]) rfl) ?_
  refine e_X8_countIn_L8 hst hZ hn hs hrc _ _ _ hx
set_option maxHeartbeats 4000000 in
set_option maxRecDepth 100000 in
theorem e_X8_countIn_D {g : mm_G} {l : Launch} (hst : l.stackTraces = false) {Z : Nat → Nat → Option Nat} (hZ : HZ Z) {n : Nat} (hn : 1186 ≤ n) {z : Bool} {d : Nat} {U : Nat} {a : Nat} (hs : sh a = 8) : ∀ (D : Nat) (p0 : Option Nat) (p1 : Int32) (σ : SG) (r : Int32), x_X8_countIn U a D p0 p1 σ = some r → mm_Cm g l yX8_countIn (.code yX8_countIn cX8_countIn 5 (some .int)) (d + 1 * D + 4) 0 0 [.ref a, va_rf p0, .int p1] (mem Z σ, n, z) (fun v S' => v = some (.int r) ∧ S' = (mem Z σ, n, z)) := by
  intro D
  induction D with
  | zero => intro p0 p1 σ r hx; exact absurd hx (by simp [x_X8_countIn])
  | succ D ih =>
    intro p0 p1 σ r hx
    rw [x_X8_countIn] at hx
    have h := e_X8_countIn_b (d := d + 1 * D) hst hZ hn hs (fun y0 y1 y2 y3 hx => ih y0 y1 y2 y3 hx) hx
    rw [show d + 1 * (D + 1) + 4 = d + 1 * D + 5 by omega]
    exact h
set_option maxHeartbeats 4000000 in
set_option maxRecDepth 100000 in
theorem e_X8_countIn {g : mm_G} {l : Launch} (hst : l.stackTraces = false) {Z : Nat → Nat → Option Nat} (hZ : HZ Z) {n : Nat} (hn : 1186 ≤ n) {z : Bool} {d : Nat} {U : Nat} {a : Nat} (hs : sh a = 8) {p0 : Option Nat} {p1 : Int32} {σ : SG} {r : Int32} (hx : x_X8_countIn U a 24 p0 p1 σ = some r) : mm_Cm g l yX8_countIn (.code yX8_countIn cX8_countIn 5 (some .int)) (d + 28) 0 0 [.ref a, va_rf p0, .int p1] (mem Z σ, n, z) (fun v S' => v = some (.int r) ∧ S' = (mem Z σ, n, z)) := e_X8_countIn_D (d := d) hst hZ hn hs 24 _ _ _ _ hx
set_option maxHeartbeats 4000000 in
set_option maxRecDepth 100000 in
theorem e_X8_count {g : mm_G} {l : Launch} (hst : l.stackTraces = false) {Z : Nat → Nat → Option Nat} (hZ : HZ Z) {n : Nat} (hn : 1186 ≤ n) {z : Bool} {d : Nat} {U : Nat} {a : Nat} (hs : sh a = 8) {σ : SG} {r : Int32} (hx : x_X8_count U a σ = some r) : mm_Cm g l yX8_count (.code yX8_count cX8_count 1 (some .int)) (d + 29) 0 0 [.ref a] (mem Z σ, n, z) (fun v S' => v = some (.int r) ∧ S' = (mem Z σ, n, z)) := by
  refine mm_Cm_of hst (by decide) (Nat.le_of_ble_eq_true rfl) ?_
  show mm_V g l RX8 "count" cX8_count 1 (some .int) [] (d + 29) 0 0 (mm_nt (fun v S' => v = some (.int r) ∧ S' = (mem Z σ, n, z))) 0 [some (.ref a)] [] (mem Z σ, n, z) 0 0
  unfold x_X8_count at hx
  refine mm_aload_n dX8_count_0 rfl rfl ?_
  refine mm_aload_n dX8_count_1 rfl rfl ?_
  refine s_getS (q := 1091) (r := some a) (b := a) (ci := 8) (k := 1) in_X8 rfl (by decide) rfl kF_X8_20 dX8_count_2 rfl hs (by decide) hn (by decide) rfl rfl ?_
  refine mm_iconst (v := 1) dX8_count_5 (by decide) ?_
  obtain ⟨v2, hc1, hx⟩ := b1_some hx
  refine mm_callV3 (a := a) (ci := 8) wM_X8_countIn kM_X8_59 wI_X8_countIn wS_X8_countIn dX8_count_6 (e_X8_countIn hst hZ hn hs hc1) (mem_obj hs (by decide)) (sh_ltn hs (by decide) hn) rfl rfl rfl (Nat.le_of_ble_eq_true rfl) (by omega) (by omega) (fun v9 S9 hq => ?_)
  obtain ⟨rfl, rfl⟩ := hq
  refine ⟨fun h => ⟨h, rfl⟩, ?_⟩
  refine mm_iret dX8_count_9 rfl rfl ?_ (by omega) (by omega)
  obtain rfl := fin1 hx
  exact ⟨rfl, rfl⟩
set_option maxHeartbeats 4000000 in
set_option maxRecDepth 100000 in
theorem e_X8_isSpilt {g : mm_G} {l : Launch} (hst : l.stackTraces = false) {Z : Nat → Nat → Option Nat} (hZ : HZ Z) {n : Nat} (hn : 1186 ≤ n) {z : Bool} {d : Nat} {a : Nat} (hs : sh a = 8) {σ : SG} {r : Int32} (hx : x_X8_isSpilt a σ = some r) : mm_Cm g l yX8_isSpilt (.code yX8_isSpilt cX8_isSpilt 1 (some .boolean)) (d + 1) 0 0 [.ref a] (mem Z σ, n, z) (fun v S' => v = some (.int r) ∧ S' = (mem Z σ, n, z)) := by
  refine mm_Cm_of hst (by decide) (Nat.le_of_ble_eq_true rfl) ?_
  show mm_V g l RX8 "isSpilt" cX8_isSpilt 1 (some .boolean) [] (d + 1) 0 0 (mm_nt (fun v S' => v = some (.int r) ∧ S' = (mem Z σ, n, z))) 0 [some (.ref a)] [] (mem Z σ, n, z) 0 0
  unfold x_X8_isSpilt at hx
  refine mm_aload_n dX8_isSpilt_0 rfl rfl ?_
  refine s_getS (q := 1092) (r := some a) (b := a) (ci := 8) (k := 2) in_X8 rfl (by decide) rfl kF_X8_29 dX8_isSpilt_1 rfl hs (by decide) hn (by decide) rfl rfl ?_
  obtain ⟨v2, hc1, hx⟩ := b1_some hx
  refine mm_callV3 (a := 1092) (ci := 0) wM_X0_isSpilt kM_X8_41 wI_X0_isSpilt wS_X0_isSpilt dX8_isSpilt_4 (e_X0_isSpilt hst hZ hn sa_1092 hc1) (mem_obj sa_1092 (by decide)) (sh_ltn sa_1092 (by decide) hn) rfl rfl rfl (Nat.le_of_ble_eq_true rfl) (by omega) (by omega) (fun v9 S9 hq => ?_)
  obtain ⟨rfl, rfl⟩ := hq
  refine ⟨fun h => ⟨h, rfl⟩, ?_⟩
  obtain ⟨hz3, hx⟩ := zb_some hx
  refine mm_iret dX8_isSpilt_7 rfl (zb_nar hz3) ?_ (by omega) (by omega)
  obtain rfl := fin1 hx
  exact ⟨rfl, rfl⟩
set_option maxHeartbeats 4000000 in
set_option maxRecDepth 100000 in
theorem e_X11_settle_61 {g : mm_G} {l : Launch} (hst : l.stackTraces = false) {Z : Nat → Nat → Option Nat} (hZ : HZ Z) {n : Nat} (hn : 1186 ≤ n) {d : Nat} {U : Nat} {a : Nat} (hs : sh a = 11) {v1_ : Int32} {v2_ : Int32} {v3_ : Int32} {σ : SG} {r : mm_R} {σ' : SG} (hx : x_X11_settle_61 U a v1_ v2_ v3_ σ = some (r, σ')) : mm_V g l RX11 "settle" cX11_settle 4 (some .int) [] (d + 30) 1 6 (fun r9 S' => r9 = r ∧ S' = (mem Z σ', n, true)) 61 [none, some (.int v1_), some (.int v2_), some (.int v3_)] [] (mem Z σ, n, true) 0 0 := by
  unfold x_X11_settle_61 at hx
  refine mm_iload_n dX11_settle_61 rfl ?_
  refine b_if hx (fun h8 hx => ?_) (fun h8 hx => ?_)
  · refine mm_if_ne 75 dX11_settle_62 (by decide) (fun h => absurd h8 h) (fun _ => ?_)
    refine mm_throw (k := 8) (text := "no such schema, message or depth, or the tape is wrong") (by decide) kC_X11_67 wj_IllegalArgumentException rfl at_71 rfl dX11_settle_65 dX11_settle_68 dX11_settle_69 dX11_settle_71 dX11_settle_74 (Nat.le_of_ble_eq_true rfl) (by omega) (by omega) ?_
    obtain ⟨rfl, rfl⟩ := fin2 hx
    exact ⟨rfl, rfl⟩
  · refine mm_if_ne 75 dX11_settle_62 (by decide) (fun _ => ?_) (fun h => absurd h h8)
    refine mm_iload_n dX11_settle_75 rfl ?_
    refine b_if hx (fun h9 hx => ?_) (fun h9 hx => ?_)
    · refine mm_if_eq 89 dX11_settle_76 (by decide) (fun _ => ?_) (fun h => absurd h9 h)
      refine mm_iload_n dX11_settle_89 rfl ?_
      refine mm_iret dX11_settle_90 rfl rfl ?_ (by omega) (by omega)
      obtain ⟨rfl, rfl⟩ := fin2 hx
      exact ⟨rfl, rfl⟩
    · refine mm_if_eq 89 dX11_settle_76 (by decide) (fun h => absurd h h9) (fun _ => ?_)
      refine mm_throw (k := 9) (text := "the value is beyond the limits") (by decide) kC_X11_78 wj_IllegalStateException rfl at_82 rfl dX11_settle_79 dX11_settle_82 dX11_settle_83 dX11_settle_85 dX11_settle_88 (Nat.le_of_ble_eq_true rfl) (by omega) (by omega) ?_
      obtain ⟨rfl, rfl⟩ := fin2 hx
      exact ⟨rfl, rfl⟩
set_option maxHeartbeats 4000000 in
set_option maxRecDepth 100000 in
theorem e_X11_settle_54 {g : mm_G} {l : Launch} (hst : l.stackTraces = false) {Z : Nat → Nat → Option Nat} (hZ : HZ Z) {n : Nat} (hn : 1186 ≤ n) {d : Nat} {U : Nat} {a : Nat} (hs : sh a = 11) {v1_ : Int32} {v2_ : Int32} {v3_ : Int32} {σ : SG} {r : mm_R} {σ' : SG} (hx : x_X11_settle_54 U a v1_ v2_ v3_ σ = some (r, σ')) : mm_V g l RX11 "settle" cX11_settle 4 (some .int) [] (d + 30) 1 6 (fun r9 S' => r9 = r ∧ S' = (mem Z σ', n, true)) 54 [some (.ref a), some (.int v1_), some (.int v2_), some (.int v3_)] [] (mem Z σ, n, true) 0 0 := by
  unfold x_X11_settle_54 at hx
  refine mm_aload_n dX11_settle_54 rfl rfl ?_
  refine s_getS (q := 389) (r := some a) (b := a) (ci := 11) (k := 4) in_X11 rfl (by decide) rfl kF_X11_34 dX11_settle_55 rfl hs (by decide) hn (by decide) rfl rfl ?_
  obtain ⟨σ7, hc6, hx⟩ := b1_some hx
  refine mm_callV3 (a := 389) (ci := 8) wM_X8_drop kM_X11_92 wI_X8_drop wS_X8_drop dX11_settle_58 (e_X8_drop hst hZ hn sa_389 hc6) (mem_obj sa_389 (by decide)) (sh_ltn sa_389 (by decide) hn) rfl rfl rfl (Nat.le_of_ble_eq_true rfl) (by omega) (by omega) (fun v9 S9 hq => ?_)
  obtain ⟨rfl, rfl⟩ := hq
  refine ⟨fun h => ⟨h, rfl⟩, ?_⟩
  refine mm_fewer [none, some (.int v1_), some (.int v2_), some (.int v3_)] (few_ok (bs := [false, true, true, true]) rfl) ?_
  exact e_X11_settle_61 hst hZ hn hs hx
set_option maxHeartbeats 4000000 in
set_option maxRecDepth 100000 in
theorem e_X11_settle_45 {g : mm_G} {l : Launch} (hst : l.stackTraces = false) {Z : Nat → Nat → Option Nat} (hZ : HZ Z) {n : Nat} (hn : 1186 ≤ n) {d : Nat} {U : Nat} {a : Nat} (hs : sh a = 11) {v1_ : Int32} {v2_ : Int32} {s0_ : Int32} {σ : SG} {r : mm_R} {σ' : SG} (hx : x_X11_settle_45 U a v1_ v2_ s0_ σ = some (r, σ')) : mm_V g l RX11 "settle" cX11_settle 4 (some .int) [] (d + 30) 1 6 (fun r9 S' => r9 = r ∧ S' = (mem Z σ', n, true)) 45 [some (.ref a), some (.int v1_), some (.int v2_), none] [.int s0_] (mem Z σ, n, true) 0 0 := by
  unfold x_X11_settle_45 at hx
  refine mm_istore_n [some (.ref a), some (.int v1_), some (.int v2_), some (.int s0_)] dX11_settle_45 (by decide) rfl ?_
  refine mm_iload_n dX11_settle_46 rfl ?_
  refine b_if hx (fun h5 hx => ?_) (fun h5 hx => ?_)
  · refine mm_if_eq 54 dX11_settle_47 (by decide) (fun _ => ?_) (fun h => absurd h5 h)
    exact e_X11_settle_54 hst hZ hn hs hx
  · refine mm_if_eq 54 dX11_settle_47 (by decide) (fun h => absurd h h5) (fun _ => ?_)
    refine mm_iload_n dX11_settle_50 rfl ?_
    refine b_if hx (fun h10 hx => ?_) (fun h10 hx => ?_)
    · refine mm_if_eq 61 dX11_settle_51 (by decide) (fun _ => ?_) (fun h => absurd h10 h)
      refine mm_fewer [none, some (.int v1_), some (.int v2_), some (.int s0_)] (few_ok (bs := [false, true, true, true]) rfl) ?_
      exact e_X11_settle_61 hst hZ hn hs hx
    · refine mm_if_eq 61 dX11_settle_51 (by decide) (fun h => absurd h h10) (fun _ => ?_)
      exact e_X11_settle_54 hst hZ hn hs hx
set_option maxHeartbeats 4000000 in
set_option maxRecDepth 100000 in
theorem e_X11_settle_40 {g : mm_G} {l : Launch} (hst : l.stackTraces = false) {Z : Nat → Nat → Option Nat} (hZ : HZ Z) {n : Nat} (hn : 1186 ≤ n) {d : Nat} {U : Nat} {a : Nat} (hs : sh a = 11) {v1_ : Int32} {v2_ : Int32} {σ : SG} {r : mm_R} {σ' : SG} (hx : x_X11_settle_40 U a v1_ v2_ σ = some (r, σ')) : mm_V g l RX11 "settle" cX11_settle 4 (some .int) [] (d + 30) 1 6 (fun r9 S' => r9 = r ∧ S' = (mem Z σ', n, true)) 40 [some (.ref a), some (.int v1_), some (.int v2_), none] [] (mem Z σ, n, true) 0 0 := by
  unfold x_X11_settle_40 at hx
  refine mm_iconst (v := 1) dX11_settle_40 (by decide) ?_
  refine mm_goto 45 dX11_settle_41 (by decide) ?_
  exact e_X11_settle_45 hst hZ hn hs hx
set_option maxHeartbeats 4000000 in
set_option maxRecDepth 100000 in
theorem e_X11_settle_22 {g : mm_G} {l : Launch} (hst : l.stackTraces = false) {Z : Nat → Nat → Option Nat} (hZ : HZ Z) {n : Nat} (hn : 1186 ≤ n) {d : Nat} {U : Nat} {a : Nat} (hs : sh a = 11) {v1_ : Int32} {s0_ : Int32} {σ : SG} {r : mm_R} {σ' : SG} (hx : x_X11_settle_22 U a v1_ s0_ σ = some (r, σ')) : mm_V g l RX11 "settle" cX11_settle 4 (some .int) [] (d + 30) 1 6 (fun r9 S' => r9 = r ∧ S' = (mem Z σ', n, true)) 22 [some (.ref a), some (.int v1_), none, none] [.int s0_] (mem Z σ, n, true) 0 0 := by
  unfold x_X11_settle_22 at hx
  refine mm_istore_n [some (.ref a), some (.int v1_), some (.int s0_), none] dX11_settle_22 (by decide) rfl ?_
  refine mm_iload_n dX11_settle_23 rfl ?_
  refine mm_sipush (v := 200) dX11_settle_24 (by decide) ?_
  refine b_if hx (fun h4 hx => ?_) (fun h4 hx => ?_)
  · refine mm_icmp_gt 40 dX11_settle_27 (by decide) (fun _ => ?_) (fun h => absurd h4 h)
    exact e_X11_settle_40 hst hZ hn hs hx
  · refine mm_icmp_gt 40 dX11_settle_27 (by decide) (fun h => absurd h h4) (fun _ => ?_)
    refine mm_aload_n dX11_settle_30 rfl rfl ?_
    refine s_getS (q := 389) (r := some a) (b := a) (ci := 11) (k := 4) in_X11 rfl (by decide) rfl kF_X11_34 dX11_settle_31 rfl hs (by decide) hn (by decide) rfl rfl ?_
    obtain ⟨v12, hc11, hx⟩ := b1_some hx
    refine mm_callV3 (a := 389) (ci := 8) wM_X8_isSpilt kM_X11_228 wI_X8_isSpilt wS_X8_isSpilt dX11_settle_34 (e_X8_isSpilt hst hZ hn sa_389 hc11) (mem_obj sa_389 (by decide)) (sh_ltn sa_389 (by decide) hn) rfl rfl rfl (Nat.le_of_ble_eq_true rfl) (by omega) (by omega) (fun v9 S9 hq => ?_)
    obtain ⟨rfl, rfl⟩ := hq
    refine ⟨fun h => ⟨h, rfl⟩, ?_⟩
    refine b_if hx (fun h13 hx => ?_) (fun h13 hx => ?_)
    · refine mm_if_eq 44 dX11_settle_37 (by decide) (fun _ => ?_) (fun h => absurd h13 h)
      refine mm_iconst (v := 0) dX11_settle_44 (by decide) ?_
      exact e_X11_settle_45 hst hZ hn hs hx
    · refine mm_if_eq 44 dX11_settle_37 (by decide) (fun h => absurd h h13) (fun _ => ?_)
      exact e_X11_settle_40 hst hZ hn hs hx
set_option maxHeartbeats 4000000 in
set_option maxRecDepth 100000 in
theorem e_X11_settle {g : mm_G} {l : Launch} (hst : l.stackTraces = false) {Z : Nat → Nat → Option Nat} (hZ : HZ Z) {n : Nat} (hn : 1186 ≤ n) {d : Nat} {U : Nat} {a : Nat} (hs : sh a = 11) {p0 : Int32} {σ : SG} {r : mm_R} {σ' : SG} (hx : x_X11_settle U a p0 σ = some (r, σ')) : mm_Ct g l yX11_settle (.code yX11_settle cX11_settle 4 (some .int)) (d + 30) 1 6 [.ref a, .int p0] (mem Z σ, n, true) (fun r9 S' => r9 = r ∧ S' = (mem Z σ', n, true)) := by
  refine mm_Ct_of hst (by decide) (Nat.le_of_ble_eq_true rfl) ?_
  show mm_V g l RX11 "settle" cX11_settle 4 (some .int) [] (d + 30) 1 6 (fun r9 S' => r9 = r ∧ S' = (mem Z σ', n, true)) 0 [some (.ref a), some (.int p0), none, none] [] (mem Z σ, n, true) 0 0
  unfold x_X11_settle at hx
  refine mm_aload_n dX11_settle_0 rfl rfl ?_
  refine s_getS (q := 1) (r := some a) (b := a) (ci := 11) (k := 0) in_X11 rfl (by decide) rfl kF_X11_14 dX11_settle_1 rfl hs (by decide) hn (by decide) rfl rfl ?_
  obtain ⟨σ2, hc1, hx⟩ := b1_some hx
  refine mm_callV3 (a := 1) (ci := 0) wM_X0_clear kM_X11_99 wI_X0_clear wS_X0_clear dX11_settle_4 (e_X0_clear hst hZ hn sa_1 hc1) (mem_obj sa_1 (by decide)) (sh_ltn sa_1 (by decide) hn) rfl rfl rfl (Nat.le_of_ble_eq_true rfl) (by omega) (by omega) (fun v9 S9 hq => ?_)
  obtain ⟨rfl, rfl⟩ := hq
  refine ⟨fun h => ⟨h, rfl⟩, ?_⟩
  refine mm_iload_n dX11_settle_7 rfl ?_
  refine b_if hx (fun h3 hx => ?_) (fun h3 hx => ?_)
  · refine mm_if_eq 21 dX11_settle_8 (by decide) (fun _ => ?_) (fun h => absurd h3 h)
    refine mm_iconst (v := 0) dX11_settle_21 (by decide) ?_
    exact e_X11_settle_22 hst hZ hn hs hx
  · refine mm_if_eq 21 dX11_settle_8 (by decide) (fun h => absurd h h3) (fun _ => ?_)
    refine mm_aload_n dX11_settle_11 rfl rfl ?_
    refine s_getS (q := 389) (r := some a) (b := a) (ci := 11) (k := 4) in_X11 rfl (by decide) rfl kF_X11_34 dX11_settle_12 rfl hs (by decide) hn (by decide) rfl rfl ?_
    obtain ⟨v15, hc14, hx⟩ := b1_some hx
    refine mm_callV3 (a := 389) (ci := 8) wM_X8_count kM_X11_226 wI_X8_count wS_X8_count dX11_settle_15 (e_X8_count hst hZ hn sa_389 hc14) (mem_obj sa_389 (by decide)) (sh_ltn sa_389 (by decide) hn) rfl rfl rfl (Nat.le_of_ble_eq_true rfl) (by omega) (by omega) (fun v9 S9 hq => ?_)
    obtain ⟨rfl, rfl⟩ := hq
    refine ⟨fun h => ⟨h, rfl⟩, ?_⟩
    refine mm_goto 22 dX11_settle_18 (by decide) ?_
    exact e_X11_settle_22 hst hZ hn hs hx
set_option maxHeartbeats 4000000 in
set_option maxRecDepth 100000 in
theorem e_X11_decode_27 {g : mm_G} {l : Launch} (hst : l.stackTraces = false) {Z : Nat → Nat → Option Nat} (hZ : HZ Z) {n : Nat} (hn : 1186 ≤ n) {d : Nat} {U : Nat} {a : Nat} (hs : sh a = 11) {s0_ : Int32} {σ : SG} {r : mm_R} {σ' : SG} (hx : x_X11_decode_27 U a s0_ σ = some (r, σ')) : mm_V g l RX11 "decode" cX11_decode 4 (some .int) [] (d + 58) 1 6 (fun r9 S' => r9 = r ∧ S' = (mem Z σ', n, true)) 27 [none, none, none, none] [.int s0_, .ref a] (mem Z σ, n, true) 0 0 := by
  unfold x_X11_decode_27 at hx
  obtain ⟨hc5, hr6⟩ := tcI_some hx
  refine mm_callX3 (st := []) (a := a) (ci := 11) wM_X11_settle kM_X11_170 wI_X11_settle wS_X11_settle dX11_decode_27 (e_X11_settle hst hZ hn hs hc5) (mem_obj hs (by decide)) (sh_ltn hs (by decide) hn) rfl rfl rfl (Nat.le_of_ble_eq_true rfl) (by omega) (by omega) (fun v9 S9 hq => ?_) rfl (fun E9 S9 hq => ?_)
  · rcases hr6 with ⟨x9, rfl⟩ | ⟨E8, rfl⟩
    · obtain ⟨g1, rfl⟩ := hq
      cases g1
      refine ⟨fun h => (by cases h), ?_⟩
      refine mm_iret dX11_decode_30 rfl rfl ?_ (by omega) (by omega)
      exact ⟨rfl, rfl⟩
    · cases hq.1
  · obtain ⟨g1, rfl⟩ := hq
    rcases hr6 with ⟨x9, rfl⟩ | ⟨E8, rfl⟩
    · cases g1
    · cases g1; exact ⟨rfl, rfl⟩
set_option maxHeartbeats 4000000 in
set_option maxRecDepth 100000 in
theorem e_X11_decode_26 {g : mm_G} {l : Launch} (hst : l.stackTraces = false) {Z : Nat → Nat → Option Nat} (hZ : HZ Z) {n : Nat} (hn : 1186 ≤ n) {d : Nat} {U : Nat} {a : Nat} (hs : sh a = 11) {σ : SG} {r : mm_R} {σ' : SG} (hx : x_X11_decode_26 U a σ = some (r, σ')) : mm_V g l RX11 "decode" cX11_decode 4 (some .int) [] (d + 58) 1 6 (fun r9 S' => r9 = r ∧ S' = (mem Z σ', n, true)) 26 [none, none, none, none] [.ref a] (mem Z σ, n, true) 0 0 := by
  unfold x_X11_decode_26 at hx
  refine mm_iconst (v := 0) dX11_decode_26 (by decide) ?_
  exact e_X11_decode_27 hst hZ hn hs hx
set_option maxHeartbeats 4000000 in
set_option maxRecDepth 100000 in
theorem e_X11_decode {g : mm_G} {l : Launch} (hst : l.stackTraces = false) {Z : Nat → Nat → Option Nat} (hZ : HZ Z) {n : Nat} (hn : 1186 ≤ n) {d : Nat} {U : Nat} {a : Nat} (hs : sh a = 11) {p0 : Int32} {p1 : Int32} {p2 : Int32} {σ : SG} {r : mm_R} {σ' : SG} (hx : x_X11_decode U a p0 p1 p2 σ = some (r, σ')) : mm_Ct g l yX11_decode (.code yX11_decode cX11_decode 4 (some .int)) (d + 58) 1 6 [.ref a, .int p0, .int p1, .int p2] (mem Z σ, n, true) (fun r9 S' => r9 = r ∧ S' = (mem Z σ', n, true)) := by
  refine mm_Ct_of hst (by decide) (Nat.le_of_ble_eq_true rfl) ?_
  show mm_V g l RX11 "decode" cX11_decode 4 (some .int) [] (d + 58) 1 6 (fun r9 S' => r9 = r ∧ S' = (mem Z σ', n, true)) 0 [some (.ref a), some (.int p0), some (.int p1), some (.int p2)] [] (mem Z σ, n, true) 0 0
  unfold x_X11_decode at hx
  refine mm_aload_n dX11_decode_0 rfl rfl ?_
  refine mm_aload_n dX11_decode_1 rfl rfl ?_
  refine mm_iload_n dX11_decode_2 rfl ?_
  refine mm_iload_n dX11_decode_3 rfl ?_
  refine mm_iload_n dX11_decode_4 rfl ?_
  obtain ⟨v2, σ3, hc1, hx⟩ := b2_some hx
  refine mm_callV3 (a := a) (ci := 11) wM_X11_opens kM_X11_162 wI_X11_opens wS_X11_opens dX11_decode_5 (e_X11_opens hst hZ hn hs hc1) (mem_obj hs (by decide)) (sh_ltn hs (by decide) hn) rfl rfl rfl (Nat.le_of_ble_eq_true rfl) (by omega) (by omega) (fun v9 S9 hq => ?_)
  obtain ⟨rfl, rfl⟩ := hq
  refine ⟨fun h => ⟨h, rfl⟩, ?_⟩
  refine b_if hx (fun h4 hx => ?_) (fun h4 hx => ?_)
  · refine mm_if_eq 26 dX11_decode_8 (by decide) (fun _ => ?_) (fun h => absurd h4 h)
    refine mm_fewer [none, none, none, none] (few_ok (bs := [false, false, false, false]) rfl) ?_
    exact e_X11_decode_26 hst hZ hn hs hx
  · refine mm_if_eq 26 dX11_decode_8 (by decide) (fun h => absurd h h4) (fun _ => ?_)
    refine mm_aload_n dX11_decode_11 rfl rfl ?_
    refine s_getS (q := 1094) (r := some a) (b := a) (ci := 11) (k := 5) in_X11 rfl (by decide) rfl kF_X11_43 dX11_decode_12 rfl hs (by decide) hn (by decide) rfl rfl ?_
    refine mm_iload_n dX11_decode_15 rfl ?_
    obtain ⟨v8, σ9, hc7, hx⟩ := b2_some hx
    refine mm_callV3 (a := 1094) (ci := 9) wM_X9_read kM_X11_166 wI_X9_read wS_X9_read dX11_decode_16 (e_X9_read hst hZ hn sa_1094 hc7) (mem_obj sa_1094 (by decide)) (sh_ltn sa_1094 (by decide) hn) rfl rfl rfl (Nat.le_of_ble_eq_true rfl) (by omega) (by omega) (fun v9 S9 hq => ?_)
    obtain ⟨rfl, rfl⟩ := hq
    refine ⟨fun h => ⟨h, rfl⟩, ?_⟩
    refine b_if hx (fun h10 hx => ?_) (fun h10 hx => ?_)
    · refine mm_if_eq 26 dX11_decode_19 (by decide) (fun _ => ?_) (fun h => absurd h10 h)
      refine mm_fewer [none, none, none, none] (few_ok (bs := [false, false, false, false]) rfl) ?_
      exact e_X11_decode_26 hst hZ hn hs hx
    · refine mm_if_eq 26 dX11_decode_19 (by decide) (fun h => absurd h h10) (fun _ => ?_)
      refine mm_iconst (v := 1) dX11_decode_22 (by decide) ?_
      refine mm_goto 27 dX11_decode_23 (by decide) ?_
      refine mm_fewer [none, none, none, none] (few_ok (bs := [false, false, false, false]) rfl) ?_
      exact e_X11_decode_27 hst hZ hn hs hx
set_option maxHeartbeats 4000000 in
set_option maxRecDepth 100000 in
theorem e_X8_isThere {g : mm_G} {l : Launch} (hst : l.stackTraces = false) {Z : Nat → Nat → Option Nat} (hZ : HZ Z) {n : Nat} (hn : 1186 ≤ n) {z : Bool} {d : Nat} {a : Nat} (hs : sh a = 8) {σ : SG} {r : Int32} (hx : x_X8_isThere a σ = some r) : mm_Cm g l yX8_isThere (.code yX8_isThere cX8_isThere 1 (some .boolean)) (d) 0 0 [.ref a] (mem Z σ, n, z) (fun v S' => v = some (.int r) ∧ S' = (mem Z σ, n, z)) := by
  refine mm_Cm_of hst (by decide) (Nat.le_of_ble_eq_true rfl) ?_
  show mm_V g l RX8 "isThere" cX8_isThere 1 (some .boolean) [] (d) 0 0 (mm_nt (fun v S' => v = some (.int r) ∧ S' = (mem Z σ, n, z))) 0 [some (.ref a)] [] (mem Z σ, n, z) 0 0
  unfold x_X8_isThere at hx
  refine mm_aload_n dX8_isThere_0 rfl rfl ?_
  refine s_getP (r := some a) (b := a) (ci := 8) (k := 5) in_X8 rfl (by decide) rfl kF_X8_33 dX8_isThere_1 rfl hs (by decide) hn (by decide) rfl ?_
  refine b_if hx (fun h1 hx => ?_) (fun h1 hx => ?_)
  · refine mm_ifnull (r := sP σ a 5) 18 dX8_isThere_4 (by decide) (fun _ => ?_) (fun h => absurd h1 h)
    refine mm_iconst (v := 0) dX8_isThere_18 (by decide) ?_
    refine mm_iret dX8_isThere_19 rfl rfl ?_ (by omega) (by omega)
    obtain rfl := fin1 hx
    exact ⟨rfl, rfl⟩
  · refine mm_ifnull (r := sP σ a 5) 18 dX8_isThere_4 (by decide) (fun h => absurd h h1) (fun _ => ?_)
    refine mm_aload_n dX8_isThere_7 rfl rfl ?_
    refine s_getP (r := some a) (b := a) (ci := 8) (k := 4) in_X8 rfl (by decide) rfl kF_X8_37 dX8_isThere_8 rfl hs (by decide) hn (by decide) rfl ?_
    refine b_if hx (fun h2 hx => ?_) (fun h2 hx => ?_)
    · refine mm_ifnull (r := sP σ a 4) 18 dX8_isThere_11 (by decide) (fun _ => ?_) (fun h => absurd h2 h)
      refine mm_iconst (v := 0) dX8_isThere_18 (by decide) ?_
      refine mm_iret dX8_isThere_19 rfl rfl ?_ (by omega) (by omega)
      obtain rfl := fin1 hx
      exact ⟨rfl, rfl⟩
    · refine mm_ifnull (r := sP σ a 4) 18 dX8_isThere_11 (by decide) (fun h => absurd h h2) (fun _ => ?_)
      refine mm_iconst (v := 1) dX8_isThere_14 (by decide) ?_
      refine mm_goto 19 dX8_isThere_15 (by decide) ?_
      refine mm_iret dX8_isThere_19 rfl rfl ?_ (by omega) (by omega)
      obtain rfl := fin1 hx
      exact ⟨rfl, rfl⟩
set_option maxHeartbeats 4000000 in
set_option maxRecDepth 100000 in
theorem e_X9_writeNumber_53 {g : mm_G} {l : Launch} (hst : l.stackTraces = false) {Z : Nat → Nat → Option Nat} (hZ : HZ Z) {n : Nat} (hn : 1186 ≤ n) {z : Bool} {d : Nat} {U : Nat} {a : Nat} (hs : sh a = 9) {v2_ : Int64} {σ : SG} {σ' : SG} (hx : x_X9_writeNumber_53 U a v2_ σ = some σ') : mm_V g l RX9 "writeNumber" cX9_writeNumber 5 none [] (d + 2) 0 0 (mm_nt (fun v S' => v = none ∧ S' = (mem Z σ', n, z))) 53 [some (.ref a), none, some (.long v2_), none, none] [] (mem Z σ, n, z) 0 0 := by
  unfold x_X9_writeNumber_53 at hx
  refine mm_aload_n dX9_writeNumber_53 rfl rfl ?_
  refine s_getS (q := 3) (r := some a) (b := a) (ci := 9) (k := 2) in_X9 rfl (by decide) rfl kF_X9_19 dX9_writeNumber_54 rfl hs (by decide) hn (by decide) rfl rfl ?_
  refine mm_lload_n dX9_writeNumber_57 rfl ?_
  refine mm_iconst (v := 1) dX9_writeNumber_58 (by decide) ?_
  refine mm_lshl dX9_writeNumber_59 ?_
  refine mm_lload_n dX9_writeNumber_60 rfl ?_
  refine mm_bipush (v := 63) dX9_writeNumber_61 (by decide) ?_
  refine mm_lshr dX9_writeNumber_63 ?_
  refine mm_lxor dX9_writeNumber_64 ?_
  obtain ⟨σ11, hc10, hx⟩ := b1_some hx
  refine mm_callV3 (a := 3) (ci := 0) wM_X0_addVarint kM_X9_173 wI_X0_addVarint wS_X0_addVarint dX9_writeNumber_65 (e_X0_addVarint hst hZ hn sa_3 hc10) (mem_obj sa_3 (by decide)) (sh_ltn sa_3 (by decide) hn) rfl rfl rfl (Nat.le_of_ble_eq_true rfl) (by omega) (by omega) (fun v9 S9 hq => ?_)
  obtain ⟨rfl, rfl⟩ := hq
  refine ⟨fun h => ⟨h, rfl⟩, ?_⟩
  refine mm_goto 79 dX9_writeNumber_68 (by decide) ?_
  refine mm_vret dX9_writeNumber_79 rfl ?_ (by omega) (by omega)
  obtain rfl := fin1 hx
  exact ⟨rfl, rfl⟩
set_option maxHeartbeats 4000000 in
set_option maxRecDepth 100000 in
theorem e_X9_writeNumber {g : mm_G} {l : Launch} (hst : l.stackTraces = false) {Z : Nat → Nat → Option Nat} (hZ : HZ Z) {n : Nat} (hn : 1186 ≤ n) {z : Bool} {d : Nat} {U : Nat} {a : Nat} (hs : sh a = 9) {p0 : Int32} {p1 : Int64} {σ : SG} {σ' : SG} (hx : x_X9_writeNumber U a p0 p1 σ = some σ') : mm_Cm g l yX9_writeNumber (.code yX9_writeNumber cX9_writeNumber 5 none) (d + 2) 0 0 [.ref a, .int p0, .long p1] (mem Z σ, n, z) (fun v S' => v = none ∧ S' = (mem Z σ', n, z)) := by
  refine mm_Cm_of hst (by decide) (Nat.le_of_ble_eq_true rfl) ?_
  show mm_V g l RX9 "writeNumber" cX9_writeNumber 5 none [] (d + 2) 0 0 (mm_nt (fun v S' => v = none ∧ S' = (mem Z σ', n, z))) 0 [some (.ref a), some (.int p0), some (.long p1), none, none] [] (mem Z σ, n, z) 0 0
  unfold x_X9_writeNumber at hx
  refine mm_iload_n dX9_writeNumber_0 rfl ?_
  obtain ⟨v2, hc1, hx⟩ := b1_some hx
  refine mm_callS wM_X9_kindOf kM_X9_77 wT_X9_kindOf dX9_writeNumber_1 (e_X9_kindOf hst hZ hn hc1) rfl rfl (Nat.le_of_ble_eq_true rfl) (by omega) (by omega) (fun v9 S9 hq => ?_)
  obtain ⟨rfl, rfl⟩ := hq
  refine ⟨fun h => ⟨h, rfl⟩, ?_⟩
  refine mm_istore [some (.ref a), some (.int p0), some (.long p1), none, some (.int v2)] dX9_writeNumber_4 (by decide) rfl ?_
  refine mm_iload dX9_writeNumber_6 rfl ?_
  refine mm_iconst (v := 1) dX9_writeNumber_8 (by decide) ?_
  refine b_if hx (fun h3 hx => ?_) (fun h3 hx => ?_)
  · refine mm_icmp_ne 25 dX9_writeNumber_9 (by decide) (fun h => absurd h3 h) (fun _ => ?_)
    refine mm_aload_n dX9_writeNumber_12 rfl rfl ?_
    refine s_getS (q := 3) (r := some a) (b := a) (ci := 9) (k := 2) in_X9 rfl (by decide) rfl kF_X9_19 dX9_writeNumber_13 rfl hs (by decide) hn (by decide) rfl rfl ?_
    refine mm_lload_n dX9_writeNumber_16 rfl ?_
    refine mm_bipush (v := 8) dX9_writeNumber_17 (by decide) ?_
    obtain ⟨σ5, hc4, hx⟩ := b1_some hx
    refine mm_callV3 (a := 3) (ci := 0) wM_X0_addFixed kM_X9_185 wI_X0_addFixed wS_X0_addFixed dX9_writeNumber_19 (e_X0_addFixed hst hZ hn sa_3 hc4) (mem_obj sa_3 (by decide)) (sh_ltn sa_3 (by decide) hn) rfl rfl rfl (Nat.le_of_ble_eq_true rfl) (by omega) (by omega) (fun v9 S9 hq => ?_)
    obtain ⟨rfl, rfl⟩ := hq
    refine ⟨fun h => ⟨h, rfl⟩, ?_⟩
    refine mm_goto 79 dX9_writeNumber_22 (by decide) ?_
    refine mm_vret dX9_writeNumber_79 rfl ?_ (by omega) (by omega)
    obtain rfl := fin1 hx
    exact ⟨rfl, rfl⟩
  · refine mm_icmp_ne 25 dX9_writeNumber_9 (by decide) (fun _ => ?_) (fun h => absurd h h3)
    refine mm_iload dX9_writeNumber_25 rfl ?_
    refine mm_iconst (v := 5) dX9_writeNumber_27 (by decide) ?_
    refine b_if hx (fun h6 hx => ?_) (fun h6 hx => ?_)
    · refine mm_icmp_ne 43 dX9_writeNumber_28 (by decide) (fun h => absurd h6 h) (fun _ => ?_)
      refine mm_aload_n dX9_writeNumber_31 rfl rfl ?_
      refine s_getS (q := 3) (r := some a) (b := a) (ci := 9) (k := 2) in_X9 rfl (by decide) rfl kF_X9_19 dX9_writeNumber_32 rfl hs (by decide) hn (by decide) rfl rfl ?_
      refine mm_lload_n dX9_writeNumber_35 rfl ?_
      refine mm_iconst (v := 4) dX9_writeNumber_36 (by decide) ?_
      obtain ⟨σ8, hc7, hx⟩ := b1_some hx
      refine mm_callV3 (a := 3) (ci := 0) wM_X0_addFixed kM_X9_185 wI_X0_addFixed wS_X0_addFixed dX9_writeNumber_37 (e_X0_addFixed hst hZ hn sa_3 hc7) (mem_obj sa_3 (by decide)) (sh_ltn sa_3 (by decide) hn) rfl rfl rfl (Nat.le_of_ble_eq_true rfl) (by omega) (by omega) (fun v9 S9 hq => ?_)
      obtain ⟨rfl, rfl⟩ := hq
      refine ⟨fun h => ⟨h, rfl⟩, ?_⟩
      refine mm_goto 79 dX9_writeNumber_40 (by decide) ?_
      refine mm_vret dX9_writeNumber_79 rfl ?_ (by omega) (by omega)
      obtain rfl := fin1 hx
      exact ⟨rfl, rfl⟩
    · refine mm_icmp_ne 43 dX9_writeNumber_28 (by decide) (fun _ => ?_) (fun h => absurd h h6)
      refine mm_iload_n dX9_writeNumber_43 rfl ?_
      refine mm_iconst (v := 4) dX9_writeNumber_44 (by decide) ?_
      refine b_if hx (fun h9 hx => ?_) (fun h9 hx => ?_)
      · refine mm_icmp_eq 53 dX9_writeNumber_45 (by decide) (fun _ => ?_) (fun h => absurd h9 h)
        refine mm_fewer [some (.ref a), none, some (.long p1), none, none] (few_ok (bs := [true, false, true, false, false]) rfl) ?_
        exact e_X9_writeNumber_53 hst hZ hn hs hx
      · refine mm_icmp_eq 53 dX9_writeNumber_45 (by decide) (fun h => absurd h h9) (fun _ => ?_)
        refine mm_iload_n dX9_writeNumber_48 rfl ?_
        refine mm_iconst (v := 5) dX9_writeNumber_49 (by decide) ?_
        refine b_if hx (fun h12 hx => ?_) (fun h12 hx => ?_)
        · refine mm_icmp_ne 71 dX9_writeNumber_50 (by decide) (fun h => absurd h12 h) (fun _ => ?_)
          refine mm_fewer [some (.ref a), none, some (.long p1), none, none] (few_ok (bs := [true, false, true, false, false]) rfl) ?_
          exact e_X9_writeNumber_53 hst hZ hn hs hx
        · refine mm_icmp_ne 71 dX9_writeNumber_50 (by decide) (fun _ => ?_) (fun h => absurd h h12)
          refine mm_aload_n dX9_writeNumber_71 rfl rfl ?_
          refine s_getS (q := 3) (r := some a) (b := a) (ci := 9) (k := 2) in_X9 rfl (by decide) rfl kF_X9_19 dX9_writeNumber_72 rfl hs (by decide) hn (by decide) rfl rfl ?_
          refine mm_lload_n dX9_writeNumber_75 rfl ?_
          obtain ⟨σ14, hc13, hx⟩ := b1_some hx
          refine mm_callV3 (a := 3) (ci := 0) wM_X0_addVarint kM_X9_173 wI_X0_addVarint wS_X0_addVarint dX9_writeNumber_76 (e_X0_addVarint hst hZ hn sa_3 hc13) (mem_obj sa_3 (by decide)) (sh_ltn sa_3 (by decide) hn) rfl rfl rfl (Nat.le_of_ble_eq_true rfl) (by omega) (by omega) (fun v9 S9 hq => ?_)
          obtain ⟨rfl, rfl⟩ := hq
          refine ⟨fun h => ⟨h, rfl⟩, ?_⟩
          refine mm_vret dX9_writeNumber_79 rfl ?_ (by omega) (by omega)
          obtain rfl := fin1 hx
          exact ⟨rfl, rfl⟩
set_option maxHeartbeats 4000000 in
set_option maxRecDepth 100000 in
theorem e_X9_writeRow_L31 {g : mm_G} {l : Launch} (hst : l.stackTraces = false) {Z : Nat → Nat → Option Nat} (hZ : HZ Z) {n : Nat} (hn : 1186 ≤ n) {z : Bool} {d : Nat} {U : Nat} {a : Nat} (hs : sh a = 9) {k72 : Option Nat → SG → Option (Option Nat × SG)} {v2_ : Option Nat} {v3_ : Int32} {r : Option Nat} {σ' : SG} (hk72 : ∀ (v4_ : Option Nat) (σ8 : SG), k72 v4_ σ8 = some (r, σ') → mm_V g l RX9 "writeRow" cX9_writeRow 6 (some (.object "ProtoDesk$Node")) [] (d + 3) 0 0 (mm_nt (fun v S' => v = some (va_rf r) ∧ S' = (mem Z σ', n, z))) 72 [some (.ref a), none, none, some (.int v3_), some (va_rf v4_), none] [] (mem Z σ8, n, z) 0 0) : ∀ (U1 : Nat) (v4_ : Option Nat) (v5_ : Option Nat) (σ : SG), x_X9_writeRow_L31 U a k72 v2_ v3_ U1 v4_ v5_ σ = some (r, σ') → mm_V g l RX9 "writeRow" cX9_writeRow 6 (some (.object "ProtoDesk$Node")) [] (d + 3) 0 0 (mm_nt (fun v S' => v = some (va_rf r) ∧ S' = (mem Z σ', n, z))) 31 [some (.ref a), none, some (va_rf v2_), some (.int v3_), some (va_rf v4_), some (va_rf v5_)] [] (mem Z σ, n, z) 0 0 := by
  intro U1
  induction U1 with
  | zero => intro v4_ v5_ σ hx; exact absurd hx (by simp [x_X9_writeRow_L31])
  | succ U1 ih =>
    intro v4_ v5_ σ hx
    rw [x_X9_writeRow_L31] at hx
    refine mm_aload dX9_writeRow_31 rfl (isr_rf _) ?_
    refine b_if hx (fun h8 hx => ?_) (fun h8 hx => ?_)
    · refine mm_ifnull (r := v5_) 72 dX9_writeRow_33 (by decide) (fun _ => ?_) (fun h => absurd h8 h)
      refine mm_fewer [some (.ref a), none, none, some (.int v3_), some (va_rf v4_), none] (few_ok (bs := [true, false, false, true, true, false]) rfl) ?_
      exact hk72 _ _ hx
    · refine mm_ifnull (r := v5_) 72 dX9_writeRow_33 (by decide) (fun h => absurd h h8) (fun _ => ?_)
      refine mm_aload dX9_writeRow_36 rfl (isr_rf _) ?_
      obtain ⟨q9, hr10, hs11, hx⟩ := ck_some hx
      refine s_getPN (r := v5_) (b := q9) (ci := 4) (k := 0) in_X4 rfl (by decide) rfl kF_X9_150 dX9_writeRow_38 hr10 hs11 (by decide) hn (by decide) rfl ?_
      refine mm_aload_n dX9_writeRow_41 rfl (isr_rf _) ?_
      refine b_if hx (fun h12 hx => ?_) (fun h12 hx => ?_)
      · refine mm_acmp_ne (rx := sP σ q9 0) (ry := v2_) 72 dX9_writeRow_42 (by decide) (fun h => absurd h12 h) (fun _ => ?_)
        refine mm_aload_n dX9_writeRow_45 rfl rfl ?_
        refine mm_aload_n dX9_writeRow_46 rfl (isr_rf _) ?_
        obtain ⟨q13, hr14, hs15, hx⟩ := ck_some hx
        refine s_getIN (r := v2_) (b := q13) (ci := 3) (k := 8) in_X3 rfl (by decide) rfl kF_X9_74 dX9_writeRow_47 hr14 hs15 (by decide) hn (by decide) rfl ?_
        refine mm_aload dX9_writeRow_50 rfl (isr_rf _) ?_
        refine s_getLN (r := v5_) (b := q9) (ci := 4) (k := 4) in_X4 rfl (by decide) rfl kF_X9_119 dX9_writeRow_52 hr10 hs11 (by decide) hn (by decide) rfl ?_
        obtain ⟨σ17, hc16, hx⟩ := b1_some hx
        refine mm_callV3 (a := a) (ci := 9) wM_X9_writeNumber kM_X9_177 wI_X9_writeNumber wS_X9_writeNumber dX9_writeRow_55 (e_X9_writeNumber hst hZ hn hs hc16) (mem_obj hs (by decide)) (sh_ltn hs (by decide) hn) rfl rfl rfl (Nat.le_of_ble_eq_true rfl) (by omega) (by omega) (fun v9 S9 hq => ?_)
        obtain ⟨rfl, rfl⟩ := hq
        refine ⟨fun h => ⟨h, rfl⟩, ?_⟩
        refine mm_aload dX9_writeRow_58 rfl (isr_rf _) ?_
        refine mm_astore [some (.ref a), none, some (va_rf v2_), some (.int v3_), some (va_rf v5_), some (va_rf v5_)] dX9_writeRow_60 (by decide) (isr_rf _) rfl ?_
        refine mm_aload dX9_writeRow_62 rfl (isr_rf _) ?_
        refine s_getPN (r := v5_) (b := q9) (ci := 4) (k := 1) in_X4 rfl (by decide) rfl kF_X9_167 dX9_writeRow_64 hr10 hs11 (by decide) hn (by decide) rfl ?_
        refine mm_astore [some (.ref a), none, some (va_rf v2_), some (.int v3_), some (va_rf v5_), some (va_rf (sP σ17 q9 1))] dX9_writeRow_67 (by decide) (isr_rf _) ((st1_o (r := v5_) rfl).trans rfl) ?_
        refine mm_goto 31 dX9_writeRow_69 (by decide) ?_
        exact ih _ _ _ hx
      · refine mm_acmp_ne (rx := sP σ q9 0) (ry := v2_) 72 dX9_writeRow_42 (by decide) (fun _ => ?_) (fun h => absurd h h12)
        refine mm_fewer [some (.ref a), none, none, some (.int v3_), some (va_rf v4_), none] (few_ok (bs := [true, false, false, true, true, false]) rfl) ?_
        exact hk72 _ _ hx
set_option maxHeartbeats 4000000 in
set_option maxRecDepth 100000 in
theorem e_X9_writeRow_72 {g : mm_G} {l : Launch} (hst : l.stackTraces = false) {Z : Nat → Nat → Option Nat} (hZ : HZ Z) {n : Nat} (hn : 1186 ≤ n) {z : Bool} {d : Nat} {U : Nat} {a : Nat} (hs : sh a = 9) {v3_ : Int32} {v4_ : Option Nat} {σ : SG} {r : Option Nat} {σ' : SG} (hx : x_X9_writeRow_72 U a v3_ v4_ σ = some (r, σ')) : mm_V g l RX9 "writeRow" cX9_writeRow 6 (some (.object "ProtoDesk$Node")) [] (d + 3) 0 0 (mm_nt (fun v S' => v = some (va_rf r) ∧ S' = (mem Z σ', n, z))) 72 [some (.ref a), none, none, some (.int v3_), some (va_rf v4_), none] [] (mem Z σ, n, z) 0 0 := by
  unfold x_X9_writeRow_72 at hx
  refine mm_aload_n dX9_writeRow_72 rfl rfl ?_
  refine s_getS (q := 3) (r := some a) (b := a) (ci := 9) (k := 2) in_X9 rfl (by decide) rfl kF_X9_19 dX9_writeRow_73 rfl hs (by decide) hn (by decide) rfl rfl ?_
  refine mm_iload_n dX9_writeRow_76 rfl ?_
  obtain ⟨σ21, hc20, hx⟩ := b1_some hx
  refine mm_callV3 (a := 3) (ci := 0) wM_X0_insertLength kM_X9_181 wI_X0_insertLength wS_X0_insertLength dX9_writeRow_77 (e_X0_insertLength hst hZ hn sa_3 hc20) (mem_obj sa_3 (by decide)) (sh_ltn sa_3 (by decide) hn) rfl rfl rfl (Nat.le_of_ble_eq_true rfl) (by omega) (by omega) (fun v9 S9 hq => ?_)
  obtain ⟨rfl, rfl⟩ := hq
  refine ⟨fun h => ⟨h, rfl⟩, ?_⟩
  refine mm_aload dX9_writeRow_80 rfl (isr_rf _) ?_
  refine mm_aret (a := v4_) dX9_writeRow_82 rfl ?_ (by omega) (by omega)
  obtain ⟨rfl, rfl⟩ := fin2 hx
  exact ⟨rfl, rfl⟩
set_option maxHeartbeats 4000000 in
set_option maxRecDepth 100000 in
theorem e_X9_writeRow {g : mm_G} {l : Launch} (hst : l.stackTraces = false) {Z : Nat → Nat → Option Nat} (hZ : HZ Z) {n : Nat} (hn : 1186 ≤ n) {z : Bool} {d : Nat} {U : Nat} {a : Nat} (hs : sh a = 9) {p0 : Option Nat} {p1 : Option Nat} {σ : SG} {r : Option Nat} {σ' : SG} (hx : x_X9_writeRow U a p0 p1 σ = some (r, σ')) : mm_Cm g l yX9_writeRow (.code yX9_writeRow cX9_writeRow 6 (some (.object "ProtoDesk$Node"))) (d + 3) 0 0 [.ref a, va_rf p0, va_rf p1] (mem Z σ, n, z) (fun v S' => v = some (va_rf r) ∧ S' = (mem Z σ', n, z)) := by
  refine mm_Cm_of hst (by decide) (by cases p0 <;> cases p1 <;>  exact Nat.le_of_ble_eq_true rfl) ?_
  rw [show mm_ent [.ref a, va_rf p0, va_rf p1] 6 = [some (.ref a), some (va_rf p0), some (va_rf p1), none, none, none] from by cases p0 <;> cases p1 <;>  rfl]
  show mm_V g l RX9 "writeRow" cX9_writeRow 6 (some (.object "ProtoDesk$Node")) [] (d + 3) 0 0 (mm_nt (fun v S' => v = some (va_rf r) ∧ S' = (mem Z σ', n, z))) 0 [some (.ref a), some (va_rf p0), some (va_rf p1), none, none, none] [] (mem Z σ, n, z) 0 0
  unfold x_X9_writeRow at hx
  refine mm_aload_n dX9_writeRow_0 rfl rfl ?_
  refine s_getS (q := 3) (r := some a) (b := a) (ci := 9) (k := 2) in_X9 rfl (by decide) rfl kF_X9_19 dX9_writeRow_1 rfl hs (by decide) hn (by decide) rfl rfl ?_
  refine mm_aload_n dX9_writeRow_4 rfl (isr_rf _) ?_
  obtain ⟨q1, hr2, hs3, hx⟩ := ck_some hx
  refine s_getLN (r := p1) (b := q1) (ci := 3) (k := 6) in_X3 rfl (by decide) rfl kF_X9_170 dX9_writeRow_5 hr2 hs3 (by decide) hn (by decide) rfl ?_
  refine mm_iconst (v := 3) dX9_writeRow_8 (by decide) ?_
  refine mm_lshl dX9_writeRow_9 ?_
  refine mm_ldc2 kL_X9_171 dX9_writeRow_10 ?_
  refine mm_lor dX9_writeRow_13 ?_
  obtain ⟨σ5, hc4, hx⟩ := b1_some hx
  refine mm_callV3 (a := 3) (ci := 0) wM_X0_addVarint kM_X9_173 wI_X0_addVarint wS_X0_addVarint dX9_writeRow_14 (e_X0_addVarint hst hZ hn sa_3 hc4) (mem_obj sa_3 (by decide)) (sh_ltn sa_3 (by decide) hn) rfl rfl rfl (Nat.le_of_ble_eq_true rfl) (by omega) (by omega) (fun v9 S9 hq => ?_)
  obtain ⟨rfl, rfl⟩ := hq
  refine ⟨fun h => ⟨h, rfl⟩, ?_⟩
  refine mm_aload_n dX9_writeRow_17 rfl rfl ?_
  refine s_getS (q := 3) (r := some a) (b := a) (ci := 9) (k := 2) in_X9 rfl (by decide) rfl kF_X9_19 dX9_writeRow_18 rfl hs (by decide) hn (by decide) rfl rfl ?_
  obtain ⟨v7, hc6, hx⟩ := b1_some hx
  refine mm_callV3 (a := 3) (ci := 0) wM_X0_size kM_X9_39 wI_X0_size wS_X0_size dX9_writeRow_21 (e_X0_size hst hZ hn sa_3 hc6) (mem_obj sa_3 (by decide)) (sh_ltn sa_3 (by decide) hn) rfl rfl rfl (Nat.le_of_ble_eq_true rfl) (by omega) (by omega) (fun v9 S9 hq => ?_)
  obtain ⟨rfl, rfl⟩ := hq
  refine ⟨fun h => ⟨h, rfl⟩, ?_⟩
  refine mm_istore_n [some (.ref a), some (va_rf p0), some (va_rf p1), some (.int v7), none, none] dX9_writeRow_24 (by decide) ((st1_o (r := p1) rfl).trans rfl) ?_
  refine mm_aload_n dX9_writeRow_25 rfl (isr_rf _) ?_
  refine mm_astore [some (.ref a), some (va_rf p0), some (va_rf p1), some (.int v7), some (va_rf p0), none] dX9_writeRow_26 (by decide) (isr_rf _) rfl ?_
  refine mm_aload_n dX9_writeRow_28 rfl (isr_rf _) ?_
  refine mm_astore [some (.ref a), some (va_rf p0), some (va_rf p1), some (.int v7), some (va_rf p0), some (va_rf p0)] dX9_writeRow_29 (by decide) (isr_rf _) ((st1_o (r := p0) rfl).trans rfl) ?_
  refine mm_fewer [some (.ref a), none, some (va_rf p1), some (.int v7), some (va_rf p0), some (va_rf p0)] (few_ok (bs := [true, false, true, true, true, true]) rfl) ?_
  refine e_X9_writeRow_L31 hst hZ hn hs ?_ _ _ _ _ hx
  · intro w18 σ19 hx
    exact e_X9_writeRow_72 hst hZ hn hs hx
set_option maxHeartbeats 4000000 in
set_option maxRecDepth 100000 in
theorem e_X9_writeField_96 {g : mm_G} {l : Launch} (hst : l.stackTraces = false) {Z : Nat → Nat → Option Nat} (hZ : HZ Z) {n : Nat} (hn : 1186 ≤ n) {z : Bool} {d : Nat} {U : Nat} {rc : Option Nat → Int32 → SG → Option (SG)} {a : Nat} (hs : sh a = 9) (hrc : ∀ (y0 : Option Nat) (y1 : Int32) (σ : SG) (σ' : SG), rc y0 y1 σ = some σ' → mm_Cm g l yX9_writeMessage (.code yX9_writeMessage cX9_writeMessage 5 none) (d + 8) 0 0 [.ref a, va_rf y0, .int y1] (mem Z σ, n, z) (fun v S' => v = none ∧ S' = (mem Z σ', n, z))) {v5_ : Int32} {σ : SG} {σ' : SG} (hx : x_X9_writeField_96 U rc a v5_ σ = some σ') : mm_V g l RX9 "writeField" cX9_writeField 6 none [] (d + 9) 0 0 (mm_nt (fun v S' => v = none ∧ S' = (mem Z σ', n, z))) 96 [some (.ref a), none, none, none, none, some (.int v5_)] [] (mem Z σ, n, z) 0 0 := by
  unfold x_X9_writeField_96 at hx
  refine mm_aload_n dX9_writeField_96 rfl rfl ?_
  refine s_getS (q := 3) (r := some a) (b := a) (ci := 9) (k := 2) in_X9 rfl (by decide) rfl kF_X9_19 dX9_writeField_97 rfl hs (by decide) hn (by decide) rfl rfl ?_
  refine mm_iload dX9_writeField_100 rfl ?_
  obtain ⟨σ15, hc14, hx⟩ := b1_some hx
  refine mm_callV3 (a := 3) (ci := 0) wM_X0_insertLength kM_X9_181 wI_X0_insertLength wS_X0_insertLength dX9_writeField_102 (e_X0_insertLength hst hZ hn sa_3 hc14) (mem_obj sa_3 (by decide)) (sh_ltn sa_3 (by decide) hn) rfl rfl rfl (Nat.le_of_ble_eq_true rfl) (by omega) (by omega) (fun v9 S9 hq => ?_)
  obtain ⟨rfl, rfl⟩ := hq
  refine ⟨fun h => ⟨h, rfl⟩, ?_⟩
  refine mm_vret dX9_writeField_105 rfl ?_ (by omega) (by omega)
  obtain rfl := fin1 hx
  exact ⟨rfl, rfl⟩
set_option maxHeartbeats 4000000 in
set_option maxRecDepth 100000 in
theorem e_X9_writeField {g : mm_G} {l : Launch} (hst : l.stackTraces = false) {Z : Nat → Nat → Option Nat} (hZ : HZ Z) {n : Nat} (hn : 1186 ≤ n) {z : Bool} {d : Nat} {U : Nat} {rc : Option Nat → Int32 → SG → Option (SG)} {a : Nat} (hs : sh a = 9) (hrc : ∀ (y0 : Option Nat) (y1 : Int32) (σ : SG) (σ' : SG), rc y0 y1 σ = some σ' → mm_Cm g l yX9_writeMessage (.code yX9_writeMessage cX9_writeMessage 5 none) (d + 8) 0 0 [.ref a, va_rf y0, .int y1] (mem Z σ, n, z) (fun v S' => v = none ∧ S' = (mem Z σ', n, z))) {p0 : Option Nat} {p1 : Option Nat} {p2 : Int32} {σ : SG} {σ' : SG} (hx : x_X9_writeField U rc a p0 p1 p2 σ = some σ') : mm_Cm g l yX9_writeField (.code yX9_writeField cX9_writeField 6 none) (d + 9) 0 0 [.ref a, va_rf p0, va_rf p1, .int p2] (mem Z σ, n, z) (fun v S' => v = none ∧ S' = (mem Z σ', n, z)) := by
  refine mm_Cm_of hst (by decide) (by cases p0 <;> cases p1 <;>  exact Nat.le_of_ble_eq_true rfl) ?_
  rw [show mm_ent [.ref a, va_rf p0, va_rf p1, .int p2] 6 = [some (.ref a), some (va_rf p0), some (va_rf p1), some (.int p2), none, none] from by cases p0 <;> cases p1 <;>  rfl]
  show mm_V g l RX9 "writeField" cX9_writeField 6 none [] (d + 9) 0 0 (mm_nt (fun v S' => v = none ∧ S' = (mem Z σ', n, z))) 0 [some (.ref a), some (va_rf p0), some (va_rf p1), some (.int p2), none, none] [] (mem Z σ, n, z) 0 0
  unfold x_X9_writeField at hx
  refine mm_aload_n dX9_writeField_0 rfl (isr_rf _) ?_
  obtain ⟨q1, hr2, hs3, hx⟩ := ck_some hx
  refine s_getIN (r := p1) (b := q1) (ci := 3) (k := 8) in_X3 rfl (by decide) rfl kF_X9_74 dX9_writeField_1 hr2 hs3 (by decide) hn (by decide) rfl ?_
  obtain ⟨v5, hc4, hx⟩ := b1_some hx
  refine mm_callS wM_X9_kindOf kM_X9_77 wT_X9_kindOf dX9_writeField_4 (e_X9_kindOf hst hZ hn hc4) rfl rfl (Nat.le_of_ble_eq_true rfl) (by omega) (by omega) (fun v9 S9 hq => ?_)
  obtain ⟨rfl, rfl⟩ := hq
  refine ⟨fun h => ⟨h, rfl⟩, ?_⟩
  refine mm_istore [some (.ref a), some (va_rf p0), some (va_rf p1), some (.int p2), some (.int v5), none] dX9_writeField_7 (by decide) rfl ?_
  refine mm_aload_n dX9_writeField_9 rfl rfl ?_
  refine s_getS (q := 3) (r := some a) (b := a) (ci := 9) (k := 2) in_X9 rfl (by decide) rfl kF_X9_19 dX9_writeField_10 rfl hs (by decide) hn (by decide) rfl rfl ?_
  refine mm_aload_n dX9_writeField_13 rfl (isr_rf _) ?_
  refine s_getLN (r := p1) (b := q1) (ci := 3) (k := 6) in_X3 rfl (by decide) rfl kF_X9_170 dX9_writeField_14 hr2 hs3 (by decide) hn (by decide) rfl ?_
  refine mm_iconst (v := 3) dX9_writeField_17 (by decide) ?_
  refine mm_lshl dX9_writeField_18 ?_
  refine mm_iload dX9_writeField_19 rfl ?_
  refine mm_i2l dX9_writeField_21 ?_
  refine mm_lor dX9_writeField_22 ?_
  obtain ⟨σ7, hc6, hx⟩ := b1_some hx
  refine mm_callV3 (a := 3) (ci := 0) wM_X0_addVarint kM_X9_173 wI_X0_addVarint wS_X0_addVarint dX9_writeField_23 (e_X0_addVarint hst hZ hn sa_3 hc6) (mem_obj sa_3 (by decide)) (sh_ltn sa_3 (by decide) hn) rfl rfl rfl (Nat.le_of_ble_eq_true rfl) (by omega) (by omega) (fun v9 S9 hq => ?_)
  obtain ⟨rfl, rfl⟩ := hq
  refine ⟨fun h => ⟨h, rfl⟩, ?_⟩
  refine mm_iload dX9_writeField_26 rfl ?_
  refine mm_iconst (v := 2) dX9_writeField_28 (by decide) ?_
  refine b_if hx (fun h8 hx => ?_) (fun h8 hx => ?_)
  · refine mm_icmp_eq 45 dX9_writeField_29 (by decide) (fun _ => ?_) (fun h => absurd h8 h)
    refine mm_aload_n dX9_writeField_45 rfl rfl ?_
    refine s_getS (q := 3) (r := some a) (b := a) (ci := 9) (k := 2) in_X9 rfl (by decide) rfl kF_X9_19 dX9_writeField_46 rfl hs (by decide) hn (by decide) rfl rfl ?_
    obtain ⟨v10, hc9, hx⟩ := b1_some hx
    refine mm_callV3 (a := 3) (ci := 0) wM_X0_size kM_X9_39 wI_X0_size wS_X0_size dX9_writeField_49 (e_X0_size hst hZ hn sa_3 hc9) (mem_obj sa_3 (by decide)) (sh_ltn sa_3 (by decide) hn) rfl rfl rfl (Nat.le_of_ble_eq_true rfl) (by omega) (by omega) (fun v9 S9 hq => ?_)
    obtain ⟨rfl, rfl⟩ := hq
    refine ⟨fun h => ⟨h, rfl⟩, ?_⟩
    refine mm_istore [some (.ref a), some (va_rf p0), some (va_rf p1), some (.int p2), some (.int v5), some (.int v10)] dX9_writeField_52 (by decide) rfl ?_
    refine mm_aload_n dX9_writeField_54 rfl (isr_rf _) ?_
    refine s_getIN (r := p1) (b := q1) (ci := 3) (k := 8) in_X3 rfl (by decide) rfl kF_X9_74 dX9_writeField_55 hr2 hs3 (by decide) hn (by decide) rfl ?_
    refine mm_bipush (v := 13) dX9_writeField_58 (by decide) ?_
    refine b_if hx (fun h11 hx => ?_) (fun h11 hx => ?_)
    · refine mm_icmp_ne 74 dX9_writeField_60 (by decide) (fun h => absurd h11 h) (fun _ => ?_)
      refine mm_aload_n dX9_writeField_63 rfl rfl ?_
      refine mm_aload_n dX9_writeField_64 rfl (isr_rf _) ?_
      refine mm_iload_n dX9_writeField_65 rfl ?_
      refine mm_iconst (v := 1) dX9_writeField_66 (by decide) ?_
      refine mm_iadd dX9_writeField_67 ?_
      obtain ⟨σ13, hc12, hx⟩ := b1_some hx
      refine mm_callV3 (a := a) (ci := 9) wM_X9_writeMessage kM_X9_143 wI_X9_writeMessage wS_X9_writeMessage dX9_writeField_68 (hrc _ _ _ _ hc12) (mem_obj hs (by decide)) (sh_ltn hs (by decide) hn) rfl rfl rfl (Nat.le_of_ble_eq_true rfl) (by omega) (by omega) (fun v9 S9 hq => ?_)
      obtain ⟨rfl, rfl⟩ := hq
      refine ⟨fun h => ⟨h, rfl⟩, ?_⟩
      refine mm_goto 96 dX9_writeField_71 (by decide) ?_
      refine mm_fewer [some (.ref a), none, none, none, none, some (.int v10)] (few_ok (bs := [true, false, false, false, false, true]) rfl) ?_
      exact e_X9_writeField_96 hst hZ hn hs hrc hx
    · refine mm_icmp_ne 74 dX9_writeField_60 (by decide) (fun _ => ?_) (fun h => absurd h h11)
      refine mm_aload_n dX9_writeField_74 rfl rfl ?_
      refine s_getS (q := 3) (r := some a) (b := a) (ci := 9) (k := 2) in_X9 rfl (by decide) rfl kF_X9_19 dX9_writeField_75 rfl hs (by decide) hn (by decide) rfl rfl ?_
      refine mm_aload_n dX9_writeField_78 rfl rfl ?_
      refine s_getS (q := 389) (r := some a) (b := a) (ci := 9) (k := 1) in_X9 rfl (by decide) rfl kF_X9_15 dX9_writeField_79 rfl hs (by decide) hn (by decide) rfl rfl ?_
      refine s_getSN (q := 1092) (r := some 389) (b := 389) (ci := 8) (k := 2) in_X8 rfl (by decide) rfl kF_X9_122 dX9_writeField_82 rfl sa_389 (by decide) hn (by decide) rfl rfl ?_
      refine mm_aload_n dX9_writeField_85 rfl (isr_rf _) ?_
      obtain ⟨q16, hr17, hs18, hx⟩ := ck_some hx
      refine s_getIN (r := p0) (b := q16) (ci := 4) (k := 5) in_X4 rfl (by decide) rfl kF_X9_125 dX9_writeField_86 hr17 hs18 (by decide) hn (by decide) rfl ?_
      refine mm_aload_n dX9_writeField_89 rfl (isr_rf _) ?_
      refine s_getIN (r := p0) (b := q16) (ci := 4) (k := 6) in_X4 rfl (by decide) rfl kF_X9_132 dX9_writeField_90 hr17 hs18 (by decide) hn (by decide) rfl ?_
      obtain ⟨σ20, hc19, hx⟩ := b1_some hx
      refine mm_callV3 (a := 3) (ci := 0) wM_X0_addAll kM_X9_128 wI_X0_addAll wS_X0_addAll dX9_writeField_93 (e_X0_addAll hst hZ hn sa_3 hc19) (mem_obj sa_3 (by decide)) (sh_ltn sa_3 (by decide) hn) rfl rfl rfl (Nat.le_of_ble_eq_true rfl) (by omega) (by omega) (fun v9 S9 hq => ?_)
      obtain ⟨rfl, rfl⟩ := hq
      refine ⟨fun h => ⟨h, rfl⟩, ?_⟩
      refine mm_fewer [some (.ref a), none, none, none, none, some (.int v10)] (few_ok (bs := [true, false, false, false, false, true]) rfl) ?_
      exact e_X9_writeField_96 hst hZ hn hs hrc hx
  · refine mm_icmp_eq 45 dX9_writeField_29 (by decide) (fun h => absurd h h8) (fun _ => ?_)
    refine mm_aload_n dX9_writeField_32 rfl rfl ?_
    refine mm_aload_n dX9_writeField_33 rfl (isr_rf _) ?_
    refine s_getIN (r := p1) (b := q1) (ci := 3) (k := 8) in_X3 rfl (by decide) rfl kF_X9_74 dX9_writeField_34 hr2 hs3 (by decide) hn (by decide) rfl ?_
    refine mm_aload_n dX9_writeField_37 rfl (isr_rf _) ?_
    obtain ⟨q21, hr22, hs23, hx⟩ := ck_some hx
    refine s_getLN (r := p0) (b := q21) (ci := 4) (k := 4) in_X4 rfl (by decide) rfl kF_X9_119 dX9_writeField_38 hr22 hs23 (by decide) hn (by decide) rfl ?_
    obtain ⟨σ25, hc24, hx⟩ := b1_some hx
    refine mm_callV3 (a := a) (ci := 9) wM_X9_writeNumber kM_X9_177 wI_X9_writeNumber wS_X9_writeNumber dX9_writeField_41 (e_X9_writeNumber hst hZ hn hs hc24) (mem_obj hs (by decide)) (sh_ltn hs (by decide) hn) rfl rfl rfl (Nat.le_of_ble_eq_true rfl) (by omega) (by omega) (fun v9 S9 hq => ?_)
    obtain ⟨rfl, rfl⟩ := hq
    refine ⟨fun h => ⟨h, rfl⟩, ?_⟩
    refine mm_vret dX9_writeField_44 rfl ?_ (by omega) (by omega)
    obtain rfl := fin1 hx
    exact ⟨rfl, rfl⟩
set_option maxHeartbeats 4000000 in
set_option maxRecDepth 100000 in
theorem e_X9_writeMessage_91 {g : mm_G} {l : Launch} (hst : l.stackTraces = false) {Z : Nat → Nat → Option Nat} (hZ : HZ Z) {n : Nat} (hn : 1186 ≤ n) {z : Bool} {d : Nat} {U : Nat} {rc : Option Nat → Int32 → SG → Option (SG)} {a : Nat} (hs : sh a = 9) (hrc : ∀ (y0 : Option Nat) (y1 : Int32) (σ : SG) (σ' : SG), rc y0 y1 σ = some σ' → mm_Cm g l yX9_writeMessage (.code yX9_writeMessage cX9_writeMessage 5 none) (d + 8) 0 0 [.ref a, va_rf y0, .int y1] (mem Z σ, n, z) (fun v S' => v = none ∧ S' = (mem Z σ', n, z))) {k5 : Option Nat → SG → Option (SG)} {v2_ : Int32} {v4_ : Option Nat} {σ : SG} {σ' : SG} (hk5 : ∀ (v3_ : Option Nat) (σ8 : SG), k5 v3_ σ8 = some σ' → mm_V g l RX9 "writeMessage" cX9_writeMessage 5 none [] (d + 10) 0 0 (mm_nt (fun v S' => v = none ∧ S' = (mem Z σ', n, z))) 5 [some (.ref a), none, some (.int v2_), some (va_rf v3_), none] [] (mem Z σ8, n, z) 0 0) (hx : x_X9_writeMessage_91 U rc a k5 v2_ v4_ σ = some σ') : mm_V g l RX9 "writeMessage" cX9_writeMessage 5 none [] (d + 10) 0 0 (mm_nt (fun v S' => v = none ∧ S' = (mem Z σ', n, z))) 91 [some (.ref a), none, some (.int v2_), none, some (va_rf v4_)] [] (mem Z σ, n, z) 0 0 := by
  unfold x_X9_writeMessage_91 at hx
  refine mm_aload dX9_writeMessage_91 rfl (isr_rf _) ?_
  obtain ⟨q12, hr13, hs14, hx⟩ := ck_some hx
  refine s_getPN (r := v4_) (b := q12) (ci := 4) (k := 1) in_X4 rfl (by decide) rfl kF_X9_167 dX9_writeMessage_93 hr13 hs14 (by decide) hn (by decide) rfl ?_
  refine mm_astore_n [some (.ref a), none, some (.int v2_), some (va_rf (sP σ q12 1)), some (va_rf v4_)] dX9_writeMessage_96 (by decide) (isr_rf _) rfl ?_
  refine mm_goto 5 dX9_writeMessage_97 (by decide) ?_
  refine mm_fewer [some (.ref a), none, some (.int v2_), some (va_rf (sP σ q12 1)), none] (few_ok (bs := [true, false, true, true, false]) rfl) ?_
  exact hk5 _ _ hx
set_option maxHeartbeats 4000000 in
set_option maxRecDepth 100000 in
theorem e_X9_writeMessage_L5 {g : mm_G} {l : Launch} (hst : l.stackTraces = false) {Z : Nat → Nat → Option Nat} (hZ : HZ Z) {n : Nat} (hn : 1186 ≤ n) {z : Bool} {d : Nat} {U : Nat} {rc : Option Nat → Int32 → SG → Option (SG)} {a : Nat} (hs : sh a = 9) (hrc : ∀ (y0 : Option Nat) (y1 : Int32) (σ : SG) (σ' : SG), rc y0 y1 σ = some σ' → mm_Cm g l yX9_writeMessage (.code yX9_writeMessage cX9_writeMessage 5 none) (d + 8) 0 0 [.ref a, va_rf y0, .int y1] (mem Z σ, n, z) (fun v S' => v = none ∧ S' = (mem Z σ', n, z))) {v2_ : Int32} {σ' : SG} : ∀ (U1 : Nat) (v3_ : Option Nat) (σ : SG), x_X9_writeMessage_L5 U rc a v2_ U1 v3_ σ = some σ' → mm_V g l RX9 "writeMessage" cX9_writeMessage 5 none [] (d + 10) 0 0 (mm_nt (fun v S' => v = none ∧ S' = (mem Z σ', n, z))) 5 [some (.ref a), none, some (.int v2_), some (va_rf v3_), none] [] (mem Z σ, n, z) 0 0 := by
  intro U1
  induction U1 with
  | zero => intro v3_ σ hx; exact absurd hx (by simp [x_X9_writeMessage_L5])
  | succ U1 ih =>
    intro v3_ σ hx
    rw [x_X9_writeMessage_L5] at hx
    refine mm_aload_n dX9_writeMessage_5 rfl (isr_rf _) ?_
    refine b_if hx (fun h4 hx => ?_) (fun h4 hx => ?_)
    · refine mm_ifnull (r := v3_) 100 dX9_writeMessage_6 (by decide) (fun _ => ?_) (fun h => absurd h4 h)
      refine mm_vret dX9_writeMessage_100 rfl ?_ (by omega) (by omega)
      obtain rfl := fin1 hx
      exact ⟨rfl, rfl⟩
    · refine mm_ifnull (r := v3_) 100 dX9_writeMessage_6 (by decide) (fun h => absurd h h4) (fun _ => ?_)
      refine mm_iload_n dX9_writeMessage_9 rfl ?_
      refine mm_bipush (v := 20) dX9_writeMessage_10 (by decide) ?_
      refine b_if hx (fun h5 hx => ?_) (fun h5 hx => ?_)
      · refine mm_icmp_gt 100 dX9_writeMessage_12 (by decide) (fun _ => ?_) (fun h => absurd h5 h)
        refine mm_vret dX9_writeMessage_100 rfl ?_ (by omega) (by omega)
        obtain rfl := fin1 hx
        exact ⟨rfl, rfl⟩
      · refine mm_icmp_gt 100 dX9_writeMessage_12 (by decide) (fun h => absurd h h5) (fun _ => ?_)
        refine mm_aload_n dX9_writeMessage_15 rfl (isr_rf _) ?_
        refine mm_astore [some (.ref a), none, some (.int v2_), some (va_rf v3_), some (va_rf v3_)] dX9_writeMessage_16 (by decide) (isr_rf _) ((st1_o (r := v3_) rfl).trans rfl) ?_
        refine mm_aload_n dX9_writeMessage_18 rfl (isr_rf _) ?_
        obtain ⟨q6, hr7, hs8, hx⟩ := ck_some hx
        refine s_getPN (r := v3_) (b := q6) (ci := 4) (k := 0) in_X4 rfl (by decide) rfl kF_X9_150 dX9_writeMessage_19 hr7 hs8 (by decide) hn (by decide) rfl ?_
        refine b_if hx (fun h9 hx => ?_) (fun h9 hx => ?_)
        · refine mm_ifnonnull (r := sP σ q6 0) 50 dX9_writeMessage_22 (by decide) (fun h => absurd h9 h) (fun _ => ?_)
          refine mm_aload_n dX9_writeMessage_25 rfl rfl ?_
          refine s_getS (q := 3) (r := some a) (b := a) (ci := 9) (k := 2) in_X9 rfl (by decide) rfl kF_X9_19 dX9_writeMessage_26 rfl hs (by decide) hn (by decide) rfl rfl ?_
          refine mm_aload_n dX9_writeMessage_29 rfl rfl ?_
          refine s_getS (q := 389) (r := some a) (b := a) (ci := 9) (k := 1) in_X9 rfl (by decide) rfl kF_X9_15 dX9_writeMessage_30 rfl hs (by decide) hn (by decide) rfl rfl ?_
          refine s_getSN (q := 1092) (r := some 389) (b := 389) (ci := 8) (k := 2) in_X8 rfl (by decide) rfl kF_X9_122 dX9_writeMessage_33 rfl sa_389 (by decide) hn (by decide) rfl rfl ?_
          refine mm_aload_n dX9_writeMessage_36 rfl (isr_rf _) ?_
          refine s_getIN (r := v3_) (b := q6) (ci := 4) (k := 5) in_X4 rfl (by decide) rfl kF_X9_125 dX9_writeMessage_37 hr7 hs8 (by decide) hn (by decide) rfl ?_
          refine mm_aload_n dX9_writeMessage_40 rfl (isr_rf _) ?_
          refine s_getIN (r := v3_) (b := q6) (ci := 4) (k := 6) in_X4 rfl (by decide) rfl kF_X9_132 dX9_writeMessage_41 hr7 hs8 (by decide) hn (by decide) rfl ?_
          obtain ⟨σ11, hc10, hx⟩ := b1_some hx
          refine mm_callV3 (a := 3) (ci := 0) wM_X0_addAll kM_X9_128 wI_X0_addAll wS_X0_addAll dX9_writeMessage_44 (e_X0_addAll hst hZ hn sa_3 hc10) (mem_obj sa_3 (by decide)) (sh_ltn sa_3 (by decide) hn) rfl rfl rfl (Nat.le_of_ble_eq_true rfl) (by omega) (by omega) (fun v9 S9 hq => ?_)
          obtain ⟨rfl, rfl⟩ := hq
          refine ⟨fun h => ⟨h, rfl⟩, ?_⟩
          refine mm_goto 91 dX9_writeMessage_47 (by decide) ?_
          refine mm_fewer [some (.ref a), none, some (.int v2_), none, some (va_rf v3_)] (few_ok (bs := [true, false, true, false, true]) rfl) ?_
          exact e_X9_writeMessage_91 hst hZ hn hs hrc ih hx
        · refine mm_ifnonnull (r := sP σ q6 0) 50 dX9_writeMessage_22 (by decide) (fun _ => ?_) (fun h => absurd h h9)
          refine mm_aload_n dX9_writeMessage_50 rfl (isr_rf _) ?_
          refine s_getPN (r := v3_) (b := q6) (ci := 4) (k := 0) in_X4 rfl (by decide) rfl kF_X9_150 dX9_writeMessage_51 hr7 hs8 (by decide) hn (by decide) rfl ?_
          obtain ⟨q15, hr16, hs17, hx⟩ := ck_some hx
          refine s_getIN (r := sP σ q6 0) (b := q15) (ci := 3) (k := 12) in_X3 rfl (by decide) rfl kF_X9_153 dX9_writeMessage_54 hr16 hs17 (by decide) hn (by decide) rfl ?_
          refine b_if hx (fun h18 hx => ?_) (fun h18 hx => ?_)
          · refine mm_if_eq 74 dX9_writeMessage_57 (by decide) (fun _ => ?_) (fun h => absurd h18 h)
            refine mm_aload_n dX9_writeMessage_74 rfl (isr_rf _) ?_
            obtain ⟨v20, hc19, hx⟩ := b1_some hx
            refine mm_callV3 (a := q6) (ci := 4) wM_X4_isNothing kM_X9_159 wI_X4_isNothing wS_X4_isNothing dX9_writeMessage_75 (e_X4_isNothing hst hZ hn hs8 hc19) (mem_obj hs8 (by decide)) (sh_ltn hs8 (by decide) hn) rfl rfl (by rw [hr7]; rfl) (Nat.le_of_ble_eq_true rfl) (by omega) (by omega) (fun v9 S9 hq => ?_)
            obtain ⟨rfl, rfl⟩ := hq
            refine ⟨fun h => ⟨h, rfl⟩, ?_⟩
            refine b_if hx (fun h21 hx => ?_) (fun h21 hx => ?_)
            · refine mm_if_ne 91 dX9_writeMessage_78 (by decide) (fun h => absurd h21 h) (fun _ => ?_)
              refine mm_aload_n dX9_writeMessage_81 rfl rfl ?_
              refine mm_aload_n dX9_writeMessage_82 rfl (isr_rf _) ?_
              refine mm_aload_n dX9_writeMessage_83 rfl (isr_rf _) ?_
              refine s_getPN (r := v3_) (b := q6) (ci := 4) (k := 0) in_X4 rfl (by decide) rfl kF_X9_150 dX9_writeMessage_84 hr7 hs8 (by decide) hn (by decide) rfl ?_
              refine mm_iload_n dX9_writeMessage_87 rfl ?_
              obtain ⟨σ23, hc22, hx⟩ := b1_some hx
              refine mm_callV3 (a := a) (ci := 9) wM_X9_writeField kM_X9_163 wI_X9_writeField wS_X9_writeField dX9_writeMessage_88 (e_X9_writeField hst hZ hn hs hrc hc22) (mem_obj hs (by decide)) (sh_ltn hs (by decide) hn) rfl rfl rfl (Nat.le_of_ble_eq_true rfl) (by omega) (by omega) (fun v9 S9 hq => ?_)
              obtain ⟨rfl, rfl⟩ := hq
              refine ⟨fun h => ⟨h, rfl⟩, ?_⟩
              refine mm_fewer [some (.ref a), none, some (.int v2_), none, some (va_rf v3_)] (few_ok (bs := [true, false, true, false, true]) rfl) ?_
              exact e_X9_writeMessage_91 hst hZ hn hs hrc ih hx
            · refine mm_if_ne 91 dX9_writeMessage_78 (by decide) (fun _ => ?_) (fun h => absurd h h21)
              refine mm_fewer [some (.ref a), none, some (.int v2_), none, some (va_rf v3_)] (few_ok (bs := [true, false, true, false, true]) rfl) ?_
              exact e_X9_writeMessage_91 hst hZ hn hs hrc ih hx
          · refine mm_if_eq 74 dX9_writeMessage_57 (by decide) (fun h => absurd h h18) (fun _ => ?_)
            refine mm_aload_n dX9_writeMessage_60 rfl rfl ?_
            refine mm_aload_n dX9_writeMessage_61 rfl (isr_rf _) ?_
            refine mm_aload_n dX9_writeMessage_62 rfl (isr_rf _) ?_
            refine s_getPN (r := v3_) (b := q6) (ci := 4) (k := 0) in_X4 rfl (by decide) rfl kF_X9_150 dX9_writeMessage_63 hr7 hs8 (by decide) hn (by decide) rfl ?_
            obtain ⟨v25, σ26, hc24, hx⟩ := b2_some hx
            refine mm_callV3 (a := a) (ci := 9) wM_X9_writeRow kM_X9_156 wI_X9_writeRow wS_X9_writeRow dX9_writeMessage_66 (e_X9_writeRow hst hZ hn hs hc24) (mem_obj hs (by decide)) (sh_ltn hs (by decide) hn) rfl rfl rfl (Nat.le_of_ble_eq_true rfl) (by omega) (by omega) (fun v9 S9 hq => ?_)
            obtain ⟨rfl, rfl⟩ := hq
            refine ⟨fun h => ⟨h, rfl⟩, ?_⟩
            refine mm_astore [some (.ref a), none, some (.int v2_), some (va_rf v3_), some (va_rf v25)] dX9_writeMessage_69 (by decide) (isr_rf _) ((st1_o (r := v3_) rfl).trans rfl) ?_
            refine mm_goto 91 dX9_writeMessage_71 (by decide) ?_
            refine mm_fewer [some (.ref a), none, some (.int v2_), none, some (va_rf v25)] (few_ok (bs := [true, false, true, false, true]) rfl) ?_
            exact e_X9_writeMessage_91 hst hZ hn hs hrc ih hx
set_option maxHeartbeats 4000000 in
set_option maxRecDepth 100000 in
theorem e_X9_writeMessage_b {g : mm_G} {l : Launch} (hst : l.stackTraces = false) {Z : Nat → Nat → Option Nat} (hZ : HZ Z) {n : Nat} (hn : 1186 ≤ n) {z : Bool} {d : Nat} {U : Nat} {rc : Option Nat → Int32 → SG → Option (SG)} {a : Nat} (hs : sh a = 9) (hrc : ∀ (y0 : Option Nat) (y1 : Int32) (σ : SG) (σ' : SG), rc y0 y1 σ = some σ' → mm_Cm g l yX9_writeMessage (.code yX9_writeMessage cX9_writeMessage 5 none) (d + 8) 0 0 [.ref a, va_rf y0, .int y1] (mem Z σ, n, z) (fun v S' => v = none ∧ S' = (mem Z σ', n, z))) {p0 : Option Nat} {p1 : Int32} {σ : SG} {σ' : SG} (hx : x_X9_writeMessage_b U rc a p0 p1 σ = some σ') : mm_Cm g l yX9_writeMessage (.code yX9_writeMessage cX9_writeMessage 5 none) (d + 10) 0 0 [.ref a, va_rf p0, .int p1] (mem Z σ, n, z) (fun v S' => v = none ∧ S' = (mem Z σ', n, z)) := by
  refine mm_Cm_of hst (by decide) (by cases p0 <;>  exact Nat.le_of_ble_eq_true rfl) ?_
  rw [show mm_ent [.ref a, va_rf p0, .int p1] 5 = [some (.ref a), some (va_rf p0), some (.int p1), none, none] from by cases p0 <;>  rfl]
  show mm_V g l RX9 "writeMessage" cX9_writeMessage 5 none [] (d + 10) 0 0 (mm_nt (fun v S' => v = none ∧ S' = (mem Z σ', n, z))) 0 [some (.ref a), some (va_rf p0), some (.int p1), none, none] [] (mem Z σ, n, z) 0 0
  unfold x_X9_writeMessage_b at hx
  refine mm_aload_n dX9_writeMessage_0 rfl (isr_rf _) ?_
  obtain ⟨q1, hr2, hs3, hx⟩ := ck_some hx
  refine s_getPN (r := p0) (b := q1) (ci := 4) (k := 2) in_X4 rfl (by decide) rfl kF_X9_147 dX9_writeMessage_1 hr2 hs3 (by decide) hn (by decide) rfl ?_
  refine mm_astore_n [some (.ref a), some (va_rf p0), some (.int p1), some (va_rf (sP σ q1 2)), none] dX9_writeMessage_4 (by decide) (isr_rf _) rfl ?_
  refine mm_fewer [some (.ref a), none, some (.int p1), some (va_rf (sP σ q1 2)), none] (few_ok (bs := [true, false, true, true, false]) rfl) ?_
  refine e_X9_writeMessage_L5 hst hZ hn hs hrc _ _ _ hx
set_option maxHeartbeats 4000000 in
set_option maxRecDepth 100000 in
theorem e_X9_writeMessage_D {g : mm_G} {l : Launch} (hst : l.stackTraces = false) {Z : Nat → Nat → Option Nat} (hZ : HZ Z) {n : Nat} (hn : 1186 ≤ n) {z : Bool} {d : Nat} {U : Nat} {a : Nat} (hs : sh a = 9) : ∀ (D : Nat) (p0 : Option Nat) (p1 : Int32) (σ : SG) (σ' : SG), x_X9_writeMessage U a D p0 p1 σ = some σ' → mm_Cm g l yX9_writeMessage (.code yX9_writeMessage cX9_writeMessage 5 none) (d + 2 * D + 8) 0 0 [.ref a, va_rf p0, .int p1] (mem Z σ, n, z) (fun v S' => v = none ∧ S' = (mem Z σ', n, z)) := by
  intro D
  induction D with
  | zero => intro p0 p1 σ σ' hx; exact absurd hx (by simp [x_X9_writeMessage])
  | succ D ih =>
    intro p0 p1 σ σ' hx
    rw [x_X9_writeMessage] at hx
    have h := e_X9_writeMessage_b (d := d + 2 * D) hst hZ hn hs (fun y0 y1 y2 y3 hx => ih y0 y1 y2 y3 hx) hx
    rw [show d + 2 * (D + 1) + 8 = d + 2 * D + 10 by omega]
    exact h
set_option maxHeartbeats 4000000 in
set_option maxRecDepth 100000 in
theorem e_X9_writeMessage {g : mm_G} {l : Launch} (hst : l.stackTraces = false) {Z : Nat → Nat → Option Nat} (hZ : HZ Z) {n : Nat} (hn : 1186 ≤ n) {z : Bool} {d : Nat} {U : Nat} {a : Nat} (hs : sh a = 9) {p0 : Option Nat} {p1 : Int32} {σ : SG} {σ' : SG} (hx : x_X9_writeMessage U a 24 p0 p1 σ = some σ') : mm_Cm g l yX9_writeMessage (.code yX9_writeMessage cX9_writeMessage 5 none) (d + 56) 0 0 [.ref a, va_rf p0, .int p1] (mem Z σ, n, z) (fun v S' => v = none ∧ S' = (mem Z σ', n, z)) := e_X9_writeMessage_D (d := d) hst hZ hn hs 24 _ _ _ _ hx
set_option maxHeartbeats 4000000 in
set_option maxRecDepth 100000 in
theorem e_X9_write {g : mm_G} {l : Launch} (hst : l.stackTraces = false) {Z : Nat → Nat → Option Nat} (hZ : HZ Z) {n : Nat} (hn : 1186 ≤ n) {z : Bool} {d : Nat} {U : Nat} {a : Nat} (hs : sh a = 9) {σ : SG} {σ' : SG} (hx : x_X9_write U a σ = some σ') : mm_Cm g l yX9_write (.code yX9_write cX9_write 1 none) (d + 57) 0 0 [.ref a] (mem Z σ, n, z) (fun v S' => v = none ∧ S' = (mem Z σ', n, z)) := by
  refine mm_Cm_of hst (by decide) (Nat.le_of_ble_eq_true rfl) ?_
  show mm_V g l RX9 "write" cX9_write 1 none [] (d + 57) 0 0 (mm_nt (fun v S' => v = none ∧ S' = (mem Z σ', n, z))) 0 [some (.ref a)] [] (mem Z σ, n, z) 0 0
  unfold x_X9_write at hx
  refine mm_aload_n dX9_write_0 rfl rfl ?_
  refine mm_aload_n dX9_write_1 rfl rfl ?_
  refine s_getS (q := 389) (r := some a) (b := a) (ci := 9) (k := 1) in_X9 rfl (by decide) rfl kF_X9_15 dX9_write_2 rfl hs (by decide) hn (by decide) rfl rfl ?_
  refine s_getSN (q := 1091) (r := some 389) (b := 389) (ci := 8) (k := 1) in_X8 rfl (by decide) rfl kF_X9_29 dX9_write_5 rfl sa_389 (by decide) hn (by decide) rfl rfl ?_
  refine mm_iconst (v := 1) dX9_write_8 (by decide) ?_
  obtain ⟨σ2, hc1, hx⟩ := b1_some hx
  refine mm_callV3 (a := a) (ci := 9) wM_X9_writeMessage kM_X9_143 wI_X9_writeMessage wS_X9_writeMessage dX9_write_9 (e_X9_writeMessage hst hZ hn hs hc1) (mem_obj hs (by decide)) (sh_ltn hs (by decide) hn) rfl rfl rfl (Nat.le_of_ble_eq_true rfl) (by omega) (by omega) (fun v9 S9 hq => ?_)
  obtain ⟨rfl, rfl⟩ := hq
  refine ⟨fun h => ⟨h, rfl⟩, ?_⟩
  refine mm_vret dX9_write_12 rfl ?_ (by omega) (by omega)
  obtain rfl := fin1 hx
  exact ⟨rfl, rfl⟩
set_option maxHeartbeats 4000000 in
set_option maxRecDepth 100000 in
theorem e_X11_encode {g : mm_G} {l : Launch} (hst : l.stackTraces = false) {Z : Nat → Nat → Option Nat} (hZ : HZ Z) {n : Nat} (hn : 1186 ≤ n) {d : Nat} {U : Nat} {a : Nat} (hs : sh a = 11) {σ : SG} {r : mm_R} {σ' : SG} (hx : x_X11_encode U a σ = some (r, σ')) : mm_Ct g l yX11_encode (.code yX11_encode cX11_encode 1 (some .int)) (d + 58) 1 6 [.ref a] (mem Z σ, n, true) (fun r9 S' => r9 = r ∧ S' = (mem Z σ', n, true)) := by
  refine mm_Ct_of hst (by decide) (Nat.le_of_ble_eq_true rfl) ?_
  show mm_V g l RX11 "encode" cX11_encode 1 (some .int) [] (d + 58) 1 6 (fun r9 S' => r9 = r ∧ S' = (mem Z σ', n, true)) 0 [some (.ref a)] [] (mem Z σ, n, true) 0 0
  unfold x_X11_encode at hx
  refine mm_aload_n dX11_encode_0 rfl rfl ?_
  refine s_getS (q := 3) (r := some a) (b := a) (ci := 11) (k := 1) in_X11 rfl (by decide) rfl kF_X11_18 dX11_encode_1 rfl hs (by decide) hn (by decide) rfl rfl ?_
  obtain ⟨σ2, hc1, hx⟩ := b1_some hx
  refine mm_callV3 (a := 3) (ci := 0) wM_X0_clear kM_X11_99 wI_X0_clear wS_X0_clear dX11_encode_4 (e_X0_clear hst hZ hn sa_3 hc1) (mem_obj sa_3 (by decide)) (sh_ltn sa_3 (by decide) hn) rfl rfl rfl (Nat.le_of_ble_eq_true rfl) (by omega) (by omega) (fun v9 S9 hq => ?_)
  obtain ⟨rfl, rfl⟩ := hq
  refine ⟨fun h => ⟨h, rfl⟩, ?_⟩
  refine mm_aload_n dX11_encode_7 rfl rfl ?_
  refine s_getS (q := 389) (r := some a) (b := a) (ci := 11) (k := 4) in_X11 rfl (by decide) rfl kF_X11_34 dX11_encode_8 rfl hs (by decide) hn (by decide) rfl rfl ?_
  obtain ⟨v4, hc3, hx⟩ := b1_some hx
  refine mm_callV3 (a := 389) (ci := 8) wM_X8_isThere kM_X11_175 wI_X8_isThere wS_X8_isThere dX11_encode_11 (e_X8_isThere hst hZ hn sa_389 hc3) (mem_obj sa_389 (by decide)) (sh_ltn sa_389 (by decide) hn) rfl rfl rfl (Nat.le_of_ble_eq_true rfl) (by omega) (by omega) (fun v9 S9 hq => ?_)
  obtain ⟨rfl, rfl⟩ := hq
  refine ⟨fun h => ⟨h, rfl⟩, ?_⟩
  refine b_if hx (fun h5 hx => ?_) (fun h5 hx => ?_)
  · refine mm_if_ne 27 dX11_encode_14 (by decide) (fun h => absurd h5 h) (fun _ => ?_)
    refine mm_throw (k := 13) (text := "there is no value") (by decide) kC_X11_78 wj_IllegalStateException rfl at_82 rfl dX11_encode_17 dX11_encode_20 dX11_encode_21 dX11_encode_23 dX11_encode_26 (Nat.le_of_ble_eq_true rfl) (by omega) (by omega) ?_
    obtain ⟨rfl, rfl⟩ := fin2 hx
    exact ⟨rfl, rfl⟩
  · refine mm_if_ne 27 dX11_encode_14 (by decide) (fun _ => ?_) (fun h => absurd h h5)
    refine mm_aload_n dX11_encode_27 rfl rfl ?_
    refine s_getS (q := 1094) (r := some a) (b := a) (ci := 11) (k := 5) in_X11 rfl (by decide) rfl kF_X11_43 dX11_encode_28 rfl hs (by decide) hn (by decide) rfl rfl ?_
    obtain ⟨σ7, hc6, hx⟩ := b1_some hx
    refine mm_callV3 (a := 1094) (ci := 9) wM_X9_write kM_X11_181 wI_X9_write wS_X9_write dX11_encode_31 (e_X9_write hst hZ hn sa_1094 hc6) (mem_obj sa_1094 (by decide)) (sh_ltn sa_1094 (by decide) hn) rfl rfl rfl (Nat.le_of_ble_eq_true rfl) (by omega) (by omega) (fun v9 S9 hq => ?_)
    obtain ⟨rfl, rfl⟩ := hq
    refine ⟨fun h => ⟨h, rfl⟩, ?_⟩
    refine mm_aload_n dX11_encode_34 rfl rfl ?_
    refine s_getS (q := 3) (r := some a) (b := a) (ci := 11) (k := 1) in_X11 rfl (by decide) rfl kF_X11_18 dX11_encode_35 rfl hs (by decide) hn (by decide) rfl rfl ?_
    obtain ⟨v9, hc8, hx⟩ := b1_some hx
    refine mm_callV3 (a := 3) (ci := 0) wM_X0_size kM_X11_74 wI_X0_size wS_X0_size dX11_encode_38 (e_X0_size hst hZ hn sa_3 hc8) (mem_obj sa_3 (by decide)) (sh_ltn sa_3 (by decide) hn) rfl rfl rfl (Nat.le_of_ble_eq_true rfl) (by omega) (by omega) (fun v9 S9 hq => ?_)
    obtain ⟨rfl, rfl⟩ := hq
    refine ⟨fun h => ⟨h, rfl⟩, ?_⟩
    refine mm_iret dX11_encode_41 rfl rfl ?_ (by omega) (by omega)
    obtain ⟨rfl, rfl⟩ := fin2 hx
    exact ⟨rfl, rfl⟩
set_option maxHeartbeats 4000000 in
set_option maxRecDepth 100000 in
theorem e_X11_feed_11 {g : mm_G} {l : Launch} (hst : l.stackTraces = false) {Z : Nat → Nat → Option Nat} (hZ : HZ Z) {n : Nat} (hn : 1186 ≤ n) {d : Nat} {U : Nat} {a : Nat} (hs : sh a = 11) {σ : SG} {r : mm_R} {σ' : SG} (hx : x_X11_feed_11 U a σ = some (r, σ')) : mm_V g l RX11 "feed" cX11_feed 5 (some .int) [] (d + 1) 1 6 (fun r9 S' => r9 = r ∧ S' = (mem Z σ', n, true)) 11 [none, none, none, none, none] [] (mem Z σ, n, true) 0 0 := by
  unfold x_X11_feed_11 at hx
  refine mm_throw (k := 0) (text := "not 1 to 8 bytes") (by decide) kC_X11_67 wj_IllegalArgumentException rfl at_71 rfl dX11_feed_11 dX11_feed_14 dX11_feed_15 dX11_feed_17 dX11_feed_20 (Nat.le_of_ble_eq_true rfl) (by omega) (by omega) ?_
  obtain ⟨rfl, rfl⟩ := fin2 hx
  exact ⟨rfl, rfl⟩
set_option maxHeartbeats 4000000 in
set_option maxRecDepth 100000 in
theorem e_X11_feed_L51 {g : mm_G} {l : Launch} (hst : l.stackTraces = false) {Z : Nat → Nat → Option Nat} (hZ : HZ Z) {n : Nat} (hn : 1186 ≤ n) {d : Nat} {U : Nat} {a : Nat} (hs : sh a = 11) {k77 : SG → Option (mm_R × SG)} {v1_ : Int64} {r : mm_R} {σ' : SG} (hk77 : ∀ (σ8 : SG), k77 σ8 = some (r, σ') → mm_V g l RX11 "feed" cX11_feed 5 (some .int) [] (d + 1) 1 6 (fun r9 S' => r9 = r ∧ S' = (mem Z σ', n, true)) 77 [some (.ref a), none, none, none, none] [] (mem Z σ8, n, true) 0 0) : ∀ (U1 : Nat) (v4_ : Int32) (σ : SG), x_X11_feed_L51 U a k77 v1_ U1 v4_ σ = some (r, σ') → mm_V g l RX11 "feed" cX11_feed 5 (some .int) [] (d + 1) 1 6 (fun r9 S' => r9 = r ∧ S' = (mem Z σ', n, true)) 51 [some (.ref a), some (.long v1_), none, none, some (.int v4_)] [] (mem Z σ, n, true) 0 0 := by
  intro U1
  induction U1 with
  | zero => intro v4_ σ hx; exact absurd hx (by simp [x_X11_feed_L51])
  | succ U1 ih =>
    intro v4_ σ hx
    rw [x_X11_feed_L51] at hx
    refine mm_iload dX11_feed_51 rfl ?_
    refine b_if hx (fun h6 hx => ?_) (fun h6 hx => ?_)
    · refine mm_if_lt 77 dX11_feed_53 (by decide) (fun _ => ?_) (fun h => absurd h6 h)
      refine mm_fewer [some (.ref a), none, none, none, none] (few_ok (bs := [true, false, false, false, false]) rfl) ?_
      exact hk77  _ hx
    · refine mm_if_lt 77 dX11_feed_53 (by decide) (fun h => absurd h h6) (fun _ => ?_)
      refine mm_aload_n dX11_feed_56 rfl rfl ?_
      refine s_getS (q := 1) (r := some a) (b := a) (ci := 11) (k := 0) in_X11 rfl (by decide) rfl kF_X11_14 dX11_feed_57 rfl hs (by decide) hn (by decide) rfl rfl ?_
      refine mm_lload_n dX11_feed_60 rfl ?_
      refine mm_bipush (v := 8) dX11_feed_61 (by decide) ?_
      refine mm_iload dX11_feed_63 rfl ?_
      refine mm_imul dX11_feed_65 ?_
      refine mm_lushr dX11_feed_66 ?_
      refine mm_l2i dX11_feed_67 ?_
      obtain ⟨σ8, hc7, hx⟩ := b1_some hx
      refine mm_callV3 (a := 1) (ci := 0) wM_X0_add kM_X11_83 wI_X0_add wS_X0_add dX11_feed_68 (e_X0_add hst hZ hn sa_1 hc7) (mem_obj sa_1 (by decide)) (sh_ltn sa_1 (by decide) hn) rfl rfl rfl (Nat.le_of_ble_eq_true rfl) (by omega) (by omega) (fun v9 S9 hq => ?_)
      obtain ⟨rfl, rfl⟩ := hq
      refine ⟨fun h => ⟨h, rfl⟩, ?_⟩
      refine mm_iinc (v := v4_ - 1) [some (.ref a), some (.long v1_), none, none, some (.int (v4_ - 1))] dX11_feed_71 rfl (iincM1 _) (by decide) rfl ?_
      refine mm_goto 51 dX11_feed_74 (by decide) ?_
      exact ih _ _ hx
set_option maxHeartbeats 4000000 in
set_option maxRecDepth 100000 in
theorem e_X11_feed {g : mm_G} {l : Launch} (hst : l.stackTraces = false) {Z : Nat → Nat → Option Nat} (hZ : HZ Z) {n : Nat} (hn : 1186 ≤ n) {d : Nat} {U : Nat} {a : Nat} (hs : sh a = 11) {p0 : Int64} {p1 : Int32} {σ : SG} {r : mm_R} {σ' : SG} (hx : x_X11_feed U a p0 p1 σ = some (r, σ')) : mm_Ct g l yX11_feed (.code yX11_feed cX11_feed 5 (some .int)) (d + 1) 1 6 [.ref a, .long p0, .int p1] (mem Z σ, n, true) (fun r9 S' => r9 = r ∧ S' = (mem Z σ', n, true)) := by
  refine mm_Ct_of hst (by decide) (Nat.le_of_ble_eq_true rfl) ?_
  show mm_V g l RX11 "feed" cX11_feed 5 (some .int) [] (d + 1) 1 6 (fun r9 S' => r9 = r ∧ S' = (mem Z σ', n, true)) 0 [some (.ref a), some (.long p0), none, some (.int p1), none] [] (mem Z σ, n, true) 0 0
  unfold x_X11_feed at hx
  refine mm_iload_n dX11_feed_0 rfl ?_
  refine mm_iconst (v := 1) dX11_feed_1 (by decide) ?_
  refine b_if hx (fun h1 hx => ?_) (fun h1 hx => ?_)
  · refine mm_icmp_lt 11 dX11_feed_2 (by decide) (fun _ => ?_) (fun h => absurd h1 h)
    refine mm_fewer [none, none, none, none, none] (few_ok (bs := [false, false, false, false, false]) rfl) ?_
    exact e_X11_feed_11 hst hZ hn hs hx
  · refine mm_icmp_lt 11 dX11_feed_2 (by decide) (fun h => absurd h h1) (fun _ => ?_)
    refine mm_iload_n dX11_feed_5 rfl ?_
    refine mm_bipush (v := 8) dX11_feed_6 (by decide) ?_
    refine b_if hx (fun h2 hx => ?_) (fun h2 hx => ?_)
    · refine mm_icmp_le 21 dX11_feed_8 (by decide) (fun h => absurd h (Int32.not_le.mpr h2)) (fun _ => ?_)
      refine mm_fewer [none, none, none, none, none] (few_ok (bs := [false, false, false, false, false]) rfl) ?_
      exact e_X11_feed_11 hst hZ hn hs hx
    · refine mm_icmp_le 21 dX11_feed_8 (by decide) (fun _ => ?_) (fun h => absurd (Int32.not_lt.mp h2) h)
      refine mm_aload_n dX11_feed_21 rfl rfl ?_
      refine s_getS (q := 1) (r := some a) (b := a) (ci := 11) (k := 0) in_X11 rfl (by decide) rfl kF_X11_14 dX11_feed_22 rfl hs (by decide) hn (by decide) rfl rfl ?_
      obtain ⟨v4, hc3, hx⟩ := b1_some hx
      refine mm_callV3 (a := 1) (ci := 0) wM_X0_size kM_X11_74 wI_X0_size wS_X0_size dX11_feed_25 (e_X0_size hst hZ hn sa_1 hc3) (mem_obj sa_1 (by decide)) (sh_ltn sa_1 (by decide) hn) rfl rfl rfl (Nat.le_of_ble_eq_true rfl) (by omega) (by omega) (fun v9 S9 hq => ?_)
      obtain ⟨rfl, rfl⟩ := hq
      refine ⟨fun h => ⟨h, rfl⟩, ?_⟩
      refine mm_iload_n dX11_feed_28 rfl ?_
      refine mm_iadd dX11_feed_29 ?_
      refine mm_sipush (v := 700) dX11_feed_30 (by decide) ?_
      refine b_if hx (fun h5 hx => ?_) (fun h5 hx => ?_)
      · refine mm_icmp_le 46 dX11_feed_33 (by decide) (fun h => absurd h (Int32.not_le.mpr h5)) (fun _ => ?_)
        refine mm_throw (k := 1) (text := "the tape would be too long") (by decide) kC_X11_78 wj_IllegalStateException rfl at_82 rfl dX11_feed_36 dX11_feed_39 dX11_feed_40 dX11_feed_42 dX11_feed_45 (Nat.le_of_ble_eq_true rfl) (by omega) (by omega) ?_
        obtain ⟨rfl, rfl⟩ := fin2 hx
        exact ⟨rfl, rfl⟩
      · refine mm_icmp_le 46 dX11_feed_33 (by decide) (fun _ => ?_) (fun h => absurd (Int32.not_lt.mp h5) h)
        refine mm_iload_n dX11_feed_46 rfl ?_
        refine mm_iconst (v := 1) dX11_feed_47 (by decide) ?_
        refine mm_isub dX11_feed_48 ?_
        refine mm_istore [some (.ref a), some (.long p0), none, some (.int p1), some (.int (p1 - 1))] dX11_feed_49 (by decide) rfl ?_
        refine mm_fewer [some (.ref a), some (.long p0), none, none, some (.int (p1 - 1))] (few_ok (bs := [true, true, false, false, true]) rfl) ?_
        refine e_X11_feed_L51 hst hZ hn hs ?_ _ _ _ hx
        · intro  σ9 hx
          refine mm_aload_n dX11_feed_77 rfl rfl ?_
          refine s_getS (q := 1) (r := some a) (b := a) (ci := 11) (k := 0) in_X11 rfl (by decide) rfl kF_X11_14 dX11_feed_78 rfl hs (by decide) hn (by decide) rfl rfl ?_
          obtain ⟨v11, hc10, hx⟩ := b1_some hx
          refine mm_callV3 (a := 1) (ci := 0) wM_X0_size kM_X11_74 wI_X0_size wS_X0_size dX11_feed_81 (e_X0_size hst hZ hn sa_1 hc10) (mem_obj sa_1 (by decide)) (sh_ltn sa_1 (by decide) hn) rfl rfl rfl (Nat.le_of_ble_eq_true rfl) (by omega) (by omega) (fun v9 S9 hq => ?_)
          obtain ⟨rfl, rfl⟩ := hq
          refine ⟨fun h => ⟨h, rfl⟩, ?_⟩
          refine mm_iret dX11_feed_84 rfl rfl ?_ (by omega) (by omega)
          obtain ⟨rfl, rfl⟩ := fin2 hx
          exact ⟨rfl, rfl⟩
set_option maxHeartbeats 4000000 in
set_option maxRecDepth 100000 in
theorem e_X3_memberAt_L15 {g : mm_G} {l : Launch} (hst : l.stackTraces = false) {Z : Nat → Nat → Option Nat} (hZ : HZ Z) {n : Nat} (hn : 1186 ≤ n) {z : Bool} {d : Nat} {U : Nat} {a : Nat} (hs : sh a = 3) {v1_ : Int32} {σ : SG} {r : Option Nat} : ∀ (U1 : Nat) (v2_ : Option Nat) (v3_ : Int32), x_X3_memberAt_L15 U a v1_ σ U1 v2_ v3_ = some r → mm_V g l RX3 "memberAt" cX3_memberAt 4 (some (.object "ProtoDesk$Item")) [] (d) 0 0 (mm_nt (fun v S' => v = some (va_rf r) ∧ S' = (mem Z σ, n, z))) 15 [none, some (.int v1_), some (va_rf v2_), some (.int v3_)] [] (mem Z σ, n, z) 0 0 := by
  intro U1
  induction U1 with
  | zero => intro v2_ v3_ hx; exact absurd hx (by simp [x_X3_memberAt_L15])
  | succ U1 ih =>
    intro v2_ v3_ hx
    rw [x_X3_memberAt_L15] at hx
    refine mm_iload_n dX3_memberAt_15 rfl ?_
    refine mm_iload_n dX3_memberAt_16 rfl ?_
    refine b_if hx (fun h2 hx => ?_) (fun h2 hx => ?_)
    · refine mm_icmp_ge 35 dX3_memberAt_17 (by decide) (fun h => absurd h (Int32.not_le.mpr h2)) (fun _ => ?_)
      refine mm_aload_n dX3_memberAt_20 rfl (isr_rf _) ?_
      refine b_if hx (fun h3 hx => ?_) (fun h3 hx => ?_)
      · refine mm_ifnull (r := v2_) 35 dX3_memberAt_21 (by decide) (fun _ => ?_) (fun h => absurd h3 h)
        refine mm_aload_n dX3_memberAt_35 rfl (isr_rf _) ?_
        refine mm_aret (a := v2_) dX3_memberAt_36 rfl ?_ (by omega) (by omega)
        obtain rfl := fin1 hx
        exact ⟨rfl, rfl⟩
      · refine mm_ifnull (r := v2_) 35 dX3_memberAt_21 (by decide) (fun h => absurd h h3) (fun _ => ?_)
        refine mm_aload_n dX3_memberAt_24 rfl (isr_rf _) ?_
        obtain ⟨q4, hr5, hs6, hx⟩ := ck_some hx
        refine s_getP (r := v2_) (b := q4) (ci := 3) (k := 16) in_X3 rfl (by decide) rfl kF_X3_63 dX3_memberAt_25 hr5 hs6 (by decide) hn (by decide) rfl ?_
        refine mm_astore_n [none, some (.int v1_), some (va_rf (sP σ q4 16)), some (.int v3_)] dX3_memberAt_28 (by decide) (isr_rf _) rfl ?_
        refine mm_iinc (v := v3_ + 1) [none, some (.int v1_), some (va_rf (sP σ q4 16)), some (.int (v3_ + 1))] dX3_memberAt_29 rfl rfl (by decide) ((st1_o (r := (sP σ q4 16)) rfl).trans rfl) ?_
        refine mm_goto 15 dX3_memberAt_32 (by decide) ?_
        exact ih _ _ hx
    · refine mm_icmp_ge 35 dX3_memberAt_17 (by decide) (fun _ => ?_) (fun h => absurd (Int32.not_lt.mp h2) h)
      refine mm_aload_n dX3_memberAt_35 rfl (isr_rf _) ?_
      refine mm_aret (a := v2_) dX3_memberAt_36 rfl ?_ (by omega) (by omega)
      obtain rfl := fin1 hx
      exact ⟨rfl, rfl⟩
set_option maxHeartbeats 4000000 in
set_option maxRecDepth 100000 in
theorem e_X3_memberAt_12 {g : mm_G} {l : Launch} (hst : l.stackTraces = false) {Z : Nat → Nat → Option Nat} (hZ : HZ Z) {n : Nat} (hn : 1186 ≤ n) {z : Bool} {d : Nat} {U : Nat} {a : Nat} (hs : sh a = 3) {v1_ : Int32} {s0_ : Option Nat} {σ : SG} {r : Option Nat} (hx : x_X3_memberAt_12 U a v1_ s0_ σ = some r) : mm_V g l RX3 "memberAt" cX3_memberAt 4 (some (.object "ProtoDesk$Item")) [] (d) 0 0 (mm_nt (fun v S' => v = some (va_rf r) ∧ S' = (mem Z σ, n, z))) 12 [none, some (.int v1_), none, none] [va_rf s0_] (mem Z σ, n, z) 0 0 := by
  unfold x_X3_memberAt_12 at hx
  refine mm_astore_n [none, some (.int v1_), some (va_rf s0_), none] dX3_memberAt_12 (by decide) (isr_rf _) rfl ?_
  refine mm_iconst (v := 0) dX3_memberAt_13 (by decide) ?_
  refine mm_istore_n [none, some (.int v1_), some (va_rf s0_), some (.int 0)] dX3_memberAt_14 (by decide) ((st1_o (r := s0_) rfl).trans rfl) ?_
  refine e_X3_memberAt_L15 hst hZ hn hs _ _ _ hx
set_option maxHeartbeats 4000000 in
set_option maxRecDepth 100000 in
theorem e_X3_memberAt {g : mm_G} {l : Launch} (hst : l.stackTraces = false) {Z : Nat → Nat → Option Nat} (hZ : HZ Z) {n : Nat} (hn : 1186 ≤ n) {z : Bool} {d : Nat} {U : Nat} {a : Nat} (hs : sh a = 3) {p0 : Int32} {σ : SG} {r : Option Nat} (hx : x_X3_memberAt U a p0 σ = some r) : mm_Cm g l yX3_memberAt (.code yX3_memberAt cX3_memberAt 4 (some (.object "ProtoDesk$Item"))) (d) 0 0 [.ref a, .int p0] (mem Z σ, n, z) (fun v S' => v = some (va_rf r) ∧ S' = (mem Z σ, n, z)) := by
  refine mm_Cm_of hst (by decide) (Nat.le_of_ble_eq_true rfl) ?_
  show mm_V g l RX3 "memberAt" cX3_memberAt 4 (some (.object "ProtoDesk$Item")) [] (d) 0 0 (mm_nt (fun v S' => v = some (va_rf r) ∧ S' = (mem Z σ, n, z))) 0 [some (.ref a), some (.int p0), none, none] [] (mem Z σ, n, z) 0 0
  unfold x_X3_memberAt at hx
  refine mm_iload_n dX3_memberAt_0 rfl ?_
  refine b_if hx (fun h1 hx => ?_) (fun h1 hx => ?_)
  · refine mm_if_ge 8 dX3_memberAt_1 (by decide) (fun h => absurd h (Int32.not_le.mpr h1)) (fun _ => ?_)
    refine mm_null dX3_memberAt_4 ?_
    refine mm_goto 12 dX3_memberAt_5 (by decide) ?_
    refine mm_fewer [none, some (.int p0), none, none] (few_ok (bs := [false, true, false, false]) rfl) ?_
    exact e_X3_memberAt_12 hst hZ hn hs hx
  · refine mm_if_ge 8 dX3_memberAt_1 (by decide) (fun _ => ?_) (fun h => absurd (Int32.not_lt.mp h1) h)
    refine mm_aload_n dX3_memberAt_8 rfl rfl ?_
    refine s_getP (r := some a) (b := a) (ci := 3) (k := 15) in_X3 rfl (by decide) rfl kF_X3_60 dX3_memberAt_9 rfl hs (by decide) hn (by decide) rfl ?_
    refine mm_fewer [none, some (.int p0), none, none] (few_ok (bs := [false, true, false, false]) rfl) ?_
    exact e_X3_memberAt_12 hst hZ hn hs hx
set_option maxHeartbeats 4000000 in
set_option maxRecDepth 100000 in
theorem e_X11_field_41 {g : mm_G} {l : Launch} (hst : l.stackTraces = false) {Z : Nat → Nat → Option Nat} (hZ : HZ Z) {n : Nat} (hn : 1186 ≤ n) {d : Nat} {U : Nat} {a : Nat} (hs : sh a = 11) {σ : SG} {r : mm_R} {σ' : SG} (hx : x_X11_field_41 U a σ = some (r, σ')) : mm_V g l RX11 "field" cX11_field 7 (some .int) [] (d + 3) 1 6 (fun r9 S' => r9 = r ∧ S' = (mem Z σ', n, true)) 41 [none, none, none, none, none, none, none] [] (mem Z σ, n, true) 0 0 := by
  unfold x_X11_field_41 at hx
  refine mm_throw (k := 7) (text := "no such schema, message or field, or no such question") (by decide) kC_X11_67 wj_IllegalArgumentException rfl at_71 rfl dX11_field_41 dX11_field_44 dX11_field_45 dX11_field_47 dX11_field_50 (Nat.le_of_ble_eq_true rfl) (by omega) (by omega) ?_
  obtain ⟨rfl, rfl⟩ := fin2 hx
  exact ⟨rfl, rfl⟩
