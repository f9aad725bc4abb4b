set_option maxHeartbeats 4000000 in
set_option maxRecDepth 100000 in
theorem e_X0_add_43 {g : mm_G} {l : Launch} (hst : l.stackTraces = false) {Z : Nat → Nat → Option Nat} (hZ : HZ Z) {n : Nat} (hn : 1186 ≤ n) {z : Bool} {d : Nat} {a : Nat} (hs : sh a = 0) {σ : SG} {σ' : SG} (hx : x_X0_add_43 a σ = some σ') : mm_V g l RX0 "add" cX0_add 2 none [] (d) 0 0 (mm_nt (fun v S' => v = none ∧ S' = (mem Z σ', n, z))) 43 [some (.ref a), none] [] (mem Z σ, n, z) 0 0 := by
  unfold x_X0_add_43 at hx
  refine mm_aload_n dX0_add_43 rfl rfl ?_
  refine mm_iconst (v := 1) dX0_add_44 (by decide) ?_
  refine s_putI (v := 1) (r := some a) (b := a) (ci := 0) (k := 2) in_X0 rfl (by decide) rfl tyX0_ok nmX0 rfl kF_X0_23 dX0_add_45 mm_fit_z1 rfl hs (by decide) hn (by decide) rfl hx (fun σ2 hx => ?_)
  refine mm_vret dX0_add_48 rfl ?_ (by omega) (by omega)
  obtain rfl := fin1 hx
  exact ⟨rfl, rfl⟩
set_option maxHeartbeats 4000000 in
set_option maxRecDepth 100000 in
theorem e_X0_add {g : mm_G} {l : Launch} (hst : l.stackTraces = false) {Z : Nat → Nat → Option Nat} (hZ : HZ Z) {n : Nat} (hn : 1186 ≤ n) {z : Bool} {d : Nat} {a : Nat} (hs : sh a = 0) {p0 : Int32} {σ : SG} {σ' : SG} (hx : x_X0_add a p0 σ = some σ') : mm_Cm g l yX0_add (.code yX0_add cX0_add 2 none) (d) 0 0 [.ref a, .int p0] (mem Z σ, n, z) (fun v S' => v = none ∧ S' = (mem Z σ', n, z)) := by
  refine mm_Cm_of hst (by decide) (Nat.le_of_ble_eq_true rfl) ?_
  show mm_V g l RX0 "add" cX0_add 2 none [] (d) 0 0 (mm_nt (fun v S' => v = none ∧ S' = (mem Z σ', n, z))) 0 [some (.ref a), some (.int p0)] [] (mem Z σ, n, z) 0 0
  unfold x_X0_add at hx
  refine mm_aload_n dX0_add_0 rfl rfl ?_
  refine s_getI (r := some a) (b := a) (ci := 0) (k := 1) in_X0 rfl (by decide) rfl kF_X0_19 dX0_add_1 rfl hs (by decide) hn (by decide) rfl ?_
  refine b_if hx (fun h1 hx => ?_) (fun h1 hx => ?_)
  · refine mm_if_lt 43 dX0_add_4 (by decide) (fun _ => ?_) (fun h => absurd h1 h)
    refine mm_fewer [some (.ref a), none] (few_ok (bs := [true, false]) rfl) ?_
    exact e_X0_add_43 hst hZ hn hs hx
  · refine mm_if_lt 43 dX0_add_4 (by decide) (fun h => absurd h h1) (fun _ => ?_)
    refine mm_aload_n dX0_add_7 rfl rfl ?_
    refine s_getI (r := some a) (b := a) (ci := 0) (k := 1) in_X0 rfl (by decide) rfl kF_X0_19 dX0_add_8 rfl hs (by decide) hn (by decide) rfl ?_
    refine mm_aload_n dX0_add_11 rfl rfl ?_
    refine s_getS (q := a + 1) (r := some a) (b := a) (ci := 0) (k := 0) in_X0 rfl (by decide) rfl kF_X0_13 dX0_add_12 rfl hs (by decide) hn (by decide) rfl rfl ?_
    refine s_alen (a := a + 1) (t := 2) (N := ln (a + 1)) (v := nI (ln (a + 1))) (fun _ => rfl) (sv0_0 hs) (by decide) hn rfl rfl dX0_add_15 ?_
    refine b_if hx (fun h3 hx => ?_) (fun h3 hx => ?_)
    · refine mm_icmp_ge 43 dX0_add_16 (by decide) (fun h => absurd h (Int32.not_le.mpr h3)) (fun _ => ?_)
      refine mm_aload_n dX0_add_19 rfl rfl ?_
      refine s_getS (q := a + 1) (r := some a) (b := a) (ci := 0) (k := 0) in_X0 rfl (by decide) rfl kF_X0_13 dX0_add_20 rfl hs (by decide) hn (by decide) rfl rfl ?_
      refine mm_aload_n dX0_add_23 rfl rfl ?_
      refine s_getI (r := some a) (b := a) (ci := 0) (k := 1) in_X0 rfl (by decide) rfl kF_X0_19 dX0_add_24 rfl hs (by decide) hn (by decide) rfl ?_
      refine mm_iload_n dX0_add_27 rfl ?_
      refine mm_i2b dX0_add_28 ?_
      obtain ⟨j4, hj5, hb6, hl7, hx⟩ := ix_some hx
      refine s_bast (a := a + 1) (v := i2b p0) (sv0_0 hs) hn hj5 hb6 rfl dX0_add_29 hx (fun σ8 hx => ?_)
      refine mm_aload_n dX0_add_30 rfl rfl ?_
      refine mm_dup dX0_add_31 rfl ?_
      refine s_getI (r := some a) (b := a) (ci := 0) (k := 1) in_X0 rfl (by decide) rfl kF_X0_19 dX0_add_32 rfl hs (by decide) hn (by decide) rfl ?_
      refine mm_iconst (v := 1) dX0_add_35 (by decide) ?_
      refine mm_iadd dX0_add_36 ?_
      refine s_putI (v := (sI σ8 a 1) + 1) (r := some a) (b := a) (ci := 0) (k := 1) in_X0 rfl (by decide) rfl tyX0_ok nmX0 rfl kF_X0_19 dX0_add_37 (mm_fit_int _) rfl hs (by decide) hn (by decide) rfl hx (fun σ9 hx => ?_)
      refine mm_goto 48 dX0_add_40 (by decide) ?_
      refine mm_vret dX0_add_48 rfl ?_ (by omega) (by omega)
      obtain rfl := fin1 hx
      exact ⟨rfl, rfl⟩
    · refine mm_icmp_ge 43 dX0_add_16 (by decide) (fun _ => ?_) (fun h => absurd (Int32.not_lt.mp h3) h)
      refine mm_fewer [some (.ref a), none] (few_ok (bs := [true, false]) rfl) ?_
      exact e_X0_add_43 hst hZ hn hs hx
set_option maxHeartbeats 4000000 in
set_option maxRecDepth 100000 in
theorem e_X0_at {g : mm_G} {l : Launch} (hst : l.stackTraces = false) {Z : Nat → Nat → Option Nat} (hZ : HZ Z) {n : Nat} (hn : 1186 ≤ n) {z : Bool} {d : Nat} {a : Nat} (hs : sh a = 0) {p0 : Int32} {σ : SG} {r : Int32} (hx : x_X0_at a p0 σ = some r) : mm_Cm g l yX0_at (.code yX0_at cX0_at 2 (some .int)) (d) 0 0 [.ref a, .int p0] (mem Z σ, n, z) (fun v S' => v = some (.int r) ∧ S' = (mem Z σ, n, z)) := by
  refine mm_Cm_of hst (by decide) (Nat.le_of_ble_eq_true rfl) ?_
  show mm_V g l RX0 "at" cX0_at 2 (some .int) [] (d) 0 0 (mm_nt (fun v S' => v = some (.int r) ∧ S' = (mem Z σ, n, z))) 0 [some (.ref a), some (.int p0)] [] (mem Z σ, n, z) 0 0
  unfold x_X0_at at hx
  refine mm_iload_n dX0_at_0 rfl ?_
  refine b_if hx (fun h1 hx => ?_) (fun h1 hx => ?_)
  · refine mm_if_lt 34 dX0_at_1 (by decide) (fun _ => ?_) (fun h => absurd h1 h)
    refine mm_iconst (v := (-1)) dX0_at_34 (by decide) ?_
    refine mm_iret dX0_at_35 rfl rfl ?_ (by omega) (by omega)
    obtain rfl := fin1 hx
    exact ⟨rfl, rfl⟩
  · refine mm_if_lt 34 dX0_at_1 (by decide) (fun h => absurd h h1) (fun _ => ?_)
    refine mm_iload_n dX0_at_4 rfl ?_
    refine mm_aload_n dX0_at_5 rfl rfl ?_
    refine s_getI (r := some a) (b := a) (ci := 0) (k := 1) in_X0 rfl (by decide) rfl kF_X0_19 dX0_at_6 rfl hs (by decide) hn (by decide) rfl ?_
    refine b_if hx (fun h2 hx => ?_) (fun h2 hx => ?_)
    · refine mm_icmp_ge 34 dX0_at_9 (by decide) (fun h => absurd h (Int32.not_le.mpr h2)) (fun _ => ?_)
      refine mm_iload_n dX0_at_12 rfl ?_
      refine mm_aload_n dX0_at_13 rfl rfl ?_
      refine s_getS (q := a + 1) (r := some a) (b := a) (ci := 0) (k := 0) in_X0 rfl (by decide) rfl kF_X0_13 dX0_at_14 rfl hs (by decide) hn (by decide) rfl rfl ?_
      refine s_alen (a := a + 1) (t := 2) (N := ln (a + 1)) (v := nI (ln (a + 1))) (fun _ => rfl) (sv0_0 hs) (by decide) hn rfl rfl dX0_at_17 ?_
      refine b_if hx (fun h3 hx => ?_) (fun h3 hx => ?_)
      · refine mm_icmp_ge 34 dX0_at_18 (by decide) (fun h => absurd h (Int32.not_le.mpr h3)) (fun _ => ?_)
        refine mm_aload_n dX0_at_21 rfl rfl ?_
        refine s_getS (q := a + 1) (r := some a) (b := a) (ci := 0) (k := 0) in_X0 rfl (by decide) rfl kF_X0_13 dX0_at_22 rfl hs (by decide) hn (by decide) rfl rfl ?_
        refine mm_iload_n dX0_at_25 rfl ?_
        obtain ⟨j4, hj5, hb6, hl7, hx⟩ := ix_some hx
        refine s_bald (a := a + 1) (sv0_0 hs) hn hj5 hb6 rfl dX0_at_26 ?_
        refine mm_sipush (v := 255) dX0_at_27 (by decide) ?_
        refine mm_iand dX0_at_30 ?_
        refine mm_goto 35 dX0_at_31 (by decide) ?_
        refine mm_iret dX0_at_35 rfl rfl ?_ (by omega) (by omega)
        obtain rfl := fin1 hx
        exact ⟨rfl, rfl⟩
      · refine mm_icmp_ge 34 dX0_at_18 (by decide) (fun _ => ?_) (fun h => absurd (Int32.not_lt.mp h3) h)
        refine mm_iconst (v := (-1)) dX0_at_34 (by decide) ?_
        refine mm_iret dX0_at_35 rfl rfl ?_ (by omega) (by omega)
        obtain rfl := fin1 hx
        exact ⟨rfl, rfl⟩
    · refine mm_icmp_ge 34 dX0_at_9 (by decide) (fun _ => ?_) (fun h => absurd (Int32.not_lt.mp h2) h)
      refine mm_iconst (v := (-1)) dX0_at_34 (by decide) ?_
      refine mm_iret dX0_at_35 rfl rfl ?_ (by omega) (by omega)
      obtain rfl := fin1 hx
      exact ⟨rfl, rfl⟩
set_option maxHeartbeats 4000000 in
set_option maxRecDepth 100000 in
theorem e_X0_addAll_L3 {g : mm_G} {l : Launch} (hst : l.stackTraces = false) {Z : Nat → Nat → Option Nat} (hZ : HZ Z) {n : Nat} (hn : 1186 ≤ n) {z : Bool} {d : Nat} {U : Nat} {a : Nat} (hs : sh a = 0) {v1_ : Option Nat} {v3_ : Int32} {σ' : SG} : ∀ (U1 : Nat) (v4_ : Int32) (σ : SG), x_X0_addAll_L3 U a v1_ v3_ U1 v4_ σ = some σ' → mm_V g l RX0 "addAll" cX0_addAll 5 none [] (d + 1) 0 0 (mm_nt (fun v S' => v = none ∧ S' = (mem Z σ', n, z))) 3 [some (.ref a), some (va_rf v1_), none, some (.int v3_), some (.int v4_)] [] (mem Z σ, n, z) 0 0 := by
  intro U1
  induction U1 with
  | zero => intro v4_ σ hx; exact absurd hx (by simp [x_X0_addAll_L3])
  | succ U1 ih =>
    intro v4_ σ hx
    rw [x_X0_addAll_L3] at hx
    refine mm_iload dX0_addAll_3 rfl ?_
    refine mm_iload_n dX0_addAll_5 rfl ?_
    refine b_if hx (fun h1 hx => ?_) (fun h1 hx => ?_)
    · refine mm_icmp_ge 25 dX0_addAll_6 (by decide) (fun h => absurd h (Int32.not_le.mpr h1)) (fun _ => ?_)
      refine mm_aload_n dX0_addAll_9 rfl rfl ?_
      refine mm_aload_n dX0_addAll_10 rfl (isr_rf _) ?_
      refine mm_iload dX0_addAll_11 rfl ?_
      obtain ⟨q2, hr3, hs4, hx⟩ := ck_some hx
      obtain ⟨v6, hc5, hx⟩ := b1_some hx
      refine mm_callV3 (a := q2) (ci := 0) wM_X0_at kM_X0_27 wI_X0_at wS_X0_at dX0_addAll_13 (e_X0_at hst hZ hn hs4 hc5) (mem_obj hs4 (by decide)) (sh_ltn hs4 (by decide) hn) rfl rfl (by rw [hr3]; rfl) (Nat.le_of_ble_eq_true rfl) (by omega) (by omega) (fun v9 S9 hq => ?_)
      obtain ⟨rfl, rfl⟩ := hq
      refine ⟨fun h => ⟨h, rfl⟩, ?_⟩
      obtain ⟨σ8, hc7, hx⟩ := b1_some hx
      refine mm_callV3 (a := a) (ci := 0) wM_X0_add kM_X0_31 wI_X0_add wS_X0_add dX0_addAll_16 (e_X0_add hst hZ hn hs hc7) (mem_obj hs (by decide)) (sh_ltn hs (by decide) hn) rfl rfl rfl (Nat.le_of_ble_eq_true rfl) (by omega) (by omega) (fun v9 S9 hq => ?_)
      obtain ⟨rfl, rfl⟩ := hq
      refine ⟨fun h => ⟨h, rfl⟩, ?_⟩
      refine mm_iinc (v := v4_ + 1) [some (.ref a), some (va_rf v1_), none, some (.int v3_), some (.int (v4_ + 1))] dX0_addAll_19 rfl rfl (by decide) rfl ?_
      refine mm_goto 3 dX0_addAll_22 (by decide) ?_
      exact ih _ _ hx
    · refine mm_icmp_ge 25 dX0_addAll_6 (by decide) (fun _ => ?_) (fun h => absurd (Int32.not_lt.mp h1) h)
      refine mm_vret dX0_addAll_25 rfl ?_ (by omega) (by omega)
      obtain rfl := fin1 hx
      exact ⟨rfl, rfl⟩
set_option maxHeartbeats 4000000 in
set_option maxRecDepth 100000 in
theorem e_X0_addAll {g : mm_G} {l : Launch} (hst : l.stackTraces = false) {Z : Nat → Nat → Option Nat} (hZ : HZ Z) {n : Nat} (hn : 1186 ≤ n) {z : Bool} {d : Nat} {U : Nat} {a : Nat} (hs : sh a = 0) {p0 : Option Nat} {p1 : Int32} {p2 : Int32} {σ : SG} {σ' : SG} (hx : x_X0_addAll U a p0 p1 p2 σ = some σ') : mm_Cm g l yX0_addAll (.code yX0_addAll cX0_addAll 5 none) (d + 1) 0 0 [.ref a, va_rf p0, .int p1, .int p2] (mem Z σ, n, z) (fun v S' => v = none ∧ S' = (mem Z σ', n, z)) := by
  refine mm_Cm_of hst (by decide) (by cases p0 <;>  exact Nat.le_of_ble_eq_true rfl) ?_
  rw [show mm_ent [.ref a, va_rf p0, .int p1, .int p2] 5 = [some (.ref a), some (va_rf p0), some (.int p1), some (.int p2), none] from by cases p0 <;>  rfl]
  show mm_V g l RX0 "addAll" cX0_addAll 5 none [] (d + 1) 0 0 (mm_nt (fun v S' => v = none ∧ S' = (mem Z σ', n, z))) 0 [some (.ref a), some (va_rf p0), some (.int p1), some (.int p2), none] [] (mem Z σ, n, z) 0 0
  unfold x_X0_addAll at hx
  refine mm_iload_n dX0_addAll_0 rfl ?_
  refine mm_istore [some (.ref a), some (va_rf p0), some (.int p1), some (.int p2), some (.int p1)] dX0_addAll_1 (by decide) rfl ?_
  refine mm_fewer [some (.ref a), some (va_rf p0), none, some (.int p2), some (.int p1)] (few_ok (bs := [true, true, false, true, true]) rfl) ?_
  refine e_X0_addAll_L3 hst hZ hn hs _ _ _ hx
set_option maxHeartbeats 4000000 in
set_option maxRecDepth 100000 in
theorem e_X0_addFixed_L3 {g : mm_G} {l : Launch} (hst : l.stackTraces = false) {Z : Nat → Nat → Option Nat} (hZ : HZ Z) {n : Nat} (hn : 1186 ≤ n) {z : Bool} {d : Nat} {U : Nat} {a : Nat} (hs : sh a = 0) {v1_ : Int64} {v3_ : Int32} {σ' : SG} : ∀ (U1 : Nat) (v4_ : Int32) (σ : SG), x_X0_addFixed_L3 U a v1_ v3_ U1 v4_ σ = some σ' → mm_V g l RX0 "addFixed" cX0_addFixed 5 none [] (d + 1) 0 0 (mm_nt (fun v S' => v = none ∧ S' = (mem Z σ', n, z))) 3 [some (.ref a), some (.long v1_), none, some (.int v3_), some (.int v4_)] [] (mem Z σ, n, z) 0 0 := by
  intro U1
  induction U1 with
  | zero => intro v4_ σ hx; exact absurd hx (by simp [x_X0_addFixed_L3])
  | succ U1 ih =>
    intro v4_ σ hx
    rw [x_X0_addFixed_L3] at hx
    refine mm_iload dX0_addFixed_3 rfl ?_
    refine mm_iload_n dX0_addFixed_5 rfl ?_
    refine b_if hx (fun h1 hx => ?_) (fun h1 hx => ?_)
    · refine mm_icmp_ge 27 dX0_addFixed_6 (by decide) (fun h => absurd h (Int32.not_le.mpr h1)) (fun _ => ?_)
      refine mm_aload_n dX0_addFixed_9 rfl rfl ?_
      refine mm_lload_n dX0_addFixed_10 rfl ?_
      refine mm_bipush (v := 8) dX0_addFixed_11 (by decide) ?_
      refine mm_iload dX0_addFixed_13 rfl ?_
      refine mm_imul dX0_addFixed_15 ?_
      refine mm_lushr dX0_addFixed_16 ?_
      refine mm_l2i dX0_addFixed_17 ?_
      obtain ⟨σ3, hc2, hx⟩ := b1_some hx
      refine mm_callV3 (a := a) (ci := 0) wM_X0_add kM_X0_31 wI_X0_add wS_X0_add dX0_addFixed_18 (e_X0_add hst hZ hn hs hc2) (mem_obj hs (by decide)) (sh_ltn hs (by decide) hn) rfl rfl rfl (Nat.le_of_ble_eq_true rfl) (by omega) (by omega) (fun v9 S9 hq => ?_)
      obtain ⟨rfl, rfl⟩ := hq
      refine ⟨fun h => ⟨h, rfl⟩, ?_⟩
      refine mm_iinc (v := v4_ + 1) [some (.ref a), some (.long v1_), none, some (.int v3_), some (.int (v4_ + 1))] dX0_addFixed_21 rfl rfl (by decide) rfl ?_
      refine mm_goto 3 dX0_addFixed_24 (by decide) ?_
      exact ih _ _ hx
    · refine mm_icmp_ge 27 dX0_addFixed_6 (by decide) (fun _ => ?_) (fun h => absurd (Int32.not_lt.mp h1) h)
      refine mm_vret dX0_addFixed_27 rfl ?_ (by omega) (by omega)
      obtain rfl := fin1 hx
      exact ⟨rfl, rfl⟩
set_option maxHeartbeats 4000000 in
set_option maxRecDepth 100000 in
theorem e_X0_addFixed {g : mm_G} {l : Launch} (hst : l.stackTraces = false) {Z : Nat → Nat → Option Nat} (hZ : HZ Z) {n : Nat} (hn : 1186 ≤ n) {z : Bool} {d : Nat} {U : Nat} {a : Nat} (hs : sh a = 0) {p0 : Int64} {p1 : Int32} {σ : SG} {σ' : SG} (hx : x_X0_addFixed U a p0 p1 σ = some σ') : mm_Cm g l yX0_addFixed (.code yX0_addFixed cX0_addFixed 5 none) (d + 1) 0 0 [.ref a, .long p0, .int p1] (mem Z σ, n, z) (fun v S' => v = none ∧ S' = (mem Z σ', n, z)) := by
  refine mm_Cm_of hst (by decide) (Nat.le_of_ble_eq_true rfl) ?_
  show mm_V g l RX0 "addFixed" cX0_addFixed 5 none [] (d + 1) 0 0 (mm_nt (fun v S' => v = none ∧ S' = (mem Z σ', n, z))) 0 [some (.ref a), some (.long p0), none, some (.int p1), none] [] (mem Z σ, n, z) 0 0
  unfold x_X0_addFixed at hx
  refine mm_iconst (v := 0) dX0_addFixed_0 (by decide) ?_
  refine mm_istore [some (.ref a), some (.long p0), none, some (.int p1), some (.int 0)] dX0_addFixed_1 (by decide) rfl ?_
  refine e_X0_addFixed_L3 hst hZ hn hs _ _ _ hx
set_option maxHeartbeats 4000000 in
set_option maxRecDepth 100000 in
theorem e_X0_addText_L2 {g : mm_G} {l : Launch} (hst : l.stackTraces = false) {Z : Nat → Nat → Option Nat} (hZ : HZ Z) {n : Nat} (hn : 1186 ≤ n) {z : Bool} {d : Nat} {U : Nat} {a : Nat} (hs : sh a = 0) {v1_ : Nat} (hk9 : v1_ < 24) {σ' : SG} : ∀ (U1 : Nat) (v2_ : Int32) (σ : SG), x_X0_addText_L2 U a v1_ U1 v2_ σ = some σ' → mm_V g l RX0 "addText" cX0_addText 3 none [] (d + 4) 0 0 (mm_nt (fun v S' => v = none ∧ S' = (mem Z σ', n, z))) 2 [some (.ref a), some (.retAddr (v1_ + 1)), some (.int v2_)] [] (mem Z σ, n, z) 0 0 := by
  intro U1
  induction U1 with
  | zero => intro v2_ σ hx; exact absurd hx (by simp [x_X0_addText_L2])
  | succ U1 ih =>
    intro v2_ σ hx
    rw [x_X0_addText_L2] at hx
    refine mm_iload_n dX0_addText_2 rfl ?_
    refine mm_aload_n dX0_addText_3 rfl rfl ?_
    refine mm_strlen (by first | assumption | decide) kX_X0_35 (Nat.le_of_ble_eq_true rfl) (by omega) (by omega) dX0_addText_4 ?_
    refine b_if hx (fun h1 hx => ?_) (fun h1 hx => ?_)
    · refine mm_icmp_ge 25 dX0_addText_7 (by decide) (fun h => absurd h (Int32.not_le.mpr h1)) (fun _ => ?_)
      refine mm_aload_n dX0_addText_10 rfl rfl ?_
      refine mm_aload_n dX0_addText_11 rfl rfl ?_
      refine mm_iload_n dX0_addText_12 rfl ?_
      obtain ⟨j2, hj3, hb4, hl5, hx⟩ := ix_some hx
      refine mm_strchr (by first | assumption | decide) kX_X0_41 (Nat.le_of_ble_eq_true rfl) (by omega) (by omega) hj3 hb4 dX0_addText_13 ?_
      obtain ⟨σ7, hc6, hx⟩ := b1_some hx
      refine mm_callV3 (a := a) (ci := 0) wM_X0_add kM_X0_31 wI_X0_add wS_X0_add dX0_addText_16 (e_X0_add hst hZ hn hs hc6) (mem_obj hs (by decide)) (sh_ltn hs (by decide) hn) rfl rfl rfl (Nat.le_of_ble_eq_true rfl) (by omega) (by omega) (fun v9 S9 hq => ?_)
      obtain ⟨rfl, rfl⟩ := hq
      refine ⟨fun h => ⟨h, rfl⟩, ?_⟩
      refine mm_iinc (v := v2_ + 1) [some (.ref a), some (.retAddr (v1_ + 1)), some (.int (v2_ + 1))] dX0_addText_19 rfl rfl (by decide) rfl ?_
      refine mm_goto 2 dX0_addText_22 (by decide) ?_
      exact ih _ _ hx
    · refine mm_icmp_ge 25 dX0_addText_7 (by decide) (fun _ => ?_) (fun h => absurd (Int32.not_lt.mp h1) h)
      refine mm_vret dX0_addText_25 rfl ?_ (by omega) (by omega)
      obtain rfl := fin1 hx
      exact ⟨rfl, rfl⟩
set_option maxHeartbeats 4000000 in
set_option maxRecDepth 100000 in
theorem e_X0_addText {g : mm_G} {l : Launch} (hst : l.stackTraces = false) {Z : Nat → Nat → Option Nat} (hZ : HZ Z) {n : Nat} (hn : 1186 ≤ n) {z : Bool} {d : Nat} {U : Nat} {a : Nat} (hs : sh a = 0) {p0 : Nat} (hk9 : p0 < 24) {σ : SG} {σ' : SG} (hx : x_X0_addText U a p0 σ = some σ') : mm_Cm g l yX0_addText (.code yX0_addText cX0_addText 3 none) (d + 4) 0 0 [.ref a, .retAddr (p0 + 1)] (mem Z σ, n, z) (fun v S' => v = none ∧ S' = (mem Z σ', n, z)) := by
  refine mm_Cm_of hst (by decide) (Nat.le_of_ble_eq_true rfl) ?_
  show mm_V g l RX0 "addText" cX0_addText 3 none [] (d + 4) 0 0 (mm_nt (fun v S' => v = none ∧ S' = (mem Z σ', n, z))) 0 [some (.ref a), some (.retAddr (p0 + 1)), none] [] (mem Z σ, n, z) 0 0
  unfold x_X0_addText at hx
  refine mm_iconst (v := 0) dX0_addText_0 (by decide) ?_
  refine mm_istore_n [some (.ref a), some (.retAddr (p0 + 1)), some (.int 0)] dX0_addText_1 (by decide) rfl ?_
  refine e_X0_addText_L2 hst hZ hn hs (by first | assumption | decide) _ _ _ hx
set_option maxHeartbeats 4000000 in
set_option maxRecDepth 100000 in
theorem e_X0_addVarint_L5 {g : mm_G} {l : Launch} (hst : l.stackTraces = false) {Z : Nat → Nat → Option Nat} (hZ : HZ Z) {n : Nat} (hn : 1186 ≤ n) {z : Bool} {d : Nat} {U : Nat} {a : Nat} (hs : sh a = 0) {k46 : Int64 → SG → Option (SG)} {σ' : SG} (hk46 : ∀ (v3_ : Int64) (σ8 : SG), k46 v3_ σ8 = some σ' → mm_V g l RX0 "addVarint" cX0_addVarint 6 none [] (d + 1) 0 0 (mm_nt (fun v S' => v = none ∧ S' = (mem Z σ', n, z))) 46 [some (.ref a), none, none, some (.long v3_), none, none] [] (mem Z σ8, n, z) 0 0) : ∀ (U1 : Nat) (v3_ : Int64) (v5_ : Int32) (σ : SG), x_X0_addVarint_L5 U a k46 U1 v3_ v5_ σ = some σ' → mm_V g l RX0 "addVarint" cX0_addVarint 6 none [] (d + 1) 0 0 (mm_nt (fun v S' => v = none ∧ S' = (mem Z σ', n, z))) 5 [some (.ref a), none, none, some (.long v3_), none, some (.int v5_)] [] (mem Z σ, n, z) 0 0 := by
  intro U1
  induction U1 with
  | zero => intro v3_ v5_ σ hx; exact absurd hx (by simp [x_X0_addVarint_L5])
  | succ U1 ih =>
    intro v3_ v5_ σ hx
    rw [x_X0_addVarint_L5] at hx
    refine mm_iload dX0_addVarint_5 rfl ?_
    refine mm_bipush (v := 9) dX0_addVarint_7 (by decide) ?_
    refine b_if hx (fun h1 hx => ?_) (fun h1 hx => ?_)
    · refine mm_icmp_ge 46 dX0_addVarint_9 (by decide) (fun h => absurd h (Int32.not_le.mpr h1)) (fun _ => ?_)
      refine mm_lload_n dX0_addVarint_12 rfl ?_
      refine mm_bipush (v := 7) dX0_addVarint_13 (by decide) ?_
      refine mm_lushr dX0_addVarint_15 ?_
      refine mm_lconst (v := 0) dX0_addVarint_16 (by decide) ?_
      refine mm_lcmp dX0_addVarint_17 ?_
      refine b_if hx (fun h2 hx => ?_) (fun h2 hx => ?_)
      · refine mm_if_eq 46 dX0_addVarint_18 (by decide) (fun _ => ?_) (fun h => absurd (lg_eq.mpr h2) h)
        refine mm_fewer [some (.ref a), none, none, some (.long v3_), none, none] (few_ok (bs := [true, false, false, true, false, false]) rfl) ?_
        exact hk46 _ _ hx
      · refine mm_if_eq 46 dX0_addVarint_18 (by decide) (fun h => absurd (lg_eq.mp h) h2) (fun _ => ?_)
        refine mm_aload_n dX0_addVarint_21 rfl rfl ?_
        refine mm_lload_n dX0_addVarint_22 rfl ?_
        refine mm_ldc2 kL_X0_45 dX0_addVarint_23 ?_
        refine mm_land dX0_addVarint_26 ?_
        refine mm_l2i dX0_addVarint_27 ?_
        refine mm_sipush (v := 128) dX0_addVarint_28 (by decide) ?_
        refine mm_ior dX0_addVarint_31 ?_
        obtain ⟨σ4, hc3, hx⟩ := b1_some hx
        refine mm_callV3 (a := a) (ci := 0) wM_X0_add kM_X0_31 wI_X0_add wS_X0_add dX0_addVarint_32 (e_X0_add hst hZ hn hs hc3) (mem_obj hs (by decide)) (sh_ltn hs (by decide) hn) rfl rfl rfl (Nat.le_of_ble_eq_true rfl) (by omega) (by omega) (fun v9 S9 hq => ?_)
        obtain ⟨rfl, rfl⟩ := hq
        refine ⟨fun h => ⟨h, rfl⟩, ?_⟩
        refine mm_lload_n dX0_addVarint_35 rfl ?_
        refine mm_bipush (v := 7) dX0_addVarint_36 (by decide) ?_
        refine mm_lushr dX0_addVarint_38 ?_
        refine mm_lstore_n [some (.ref a), none, none, some (.long (lush v3_ 7)), none, some (.int v5_)] dX0_addVarint_39 (by decide) rfl ?_
        refine mm_iinc (v := v5_ + 1) [some (.ref a), none, none, some (.long (lush v3_ 7)), none, some (.int (v5_ + 1))] dX0_addVarint_40 rfl rfl (by decide) rfl ?_
        refine mm_goto 5 dX0_addVarint_43 (by decide) ?_
        exact ih _ _ _ hx
    · refine mm_icmp_ge 46 dX0_addVarint_9 (by decide) (fun _ => ?_) (fun h => absurd (Int32.not_lt.mp h1) h)
      refine mm_fewer [some (.ref a), none, none, some (.long v3_), none, none] (few_ok (bs := [true, false, false, true, false, false]) rfl) ?_
      exact hk46 _ _ hx
set_option maxHeartbeats 4000000 in
set_option maxRecDepth 100000 in
theorem e_X0_addVarint_46 {g : mm_G} {l : Launch} (hst : l.stackTraces = false) {Z : Nat → Nat → Option Nat} (hZ : HZ Z) {n : Nat} (hn : 1186 ≤ n) {z : Bool} {d : Nat} {U : Nat} {a : Nat} (hs : sh a = 0) {v3_ : Int64} {σ : SG} {σ' : SG} (hx : x_X0_addVarint_46 U a v3_ σ = some σ') : mm_V g l RX0 "addVarint" cX0_addVarint 6 none [] (d + 1) 0 0 (mm_nt (fun v S' => v = none ∧ S' = (mem Z σ', n, z))) 46 [some (.ref a), none, none, some (.long v3_), none, none] [] (mem Z σ, n, z) 0 0 := by
  unfold x_X0_addVarint_46 at hx
  refine mm_aload_n dX0_addVarint_46 rfl rfl ?_
  refine mm_lload_n dX0_addVarint_47 rfl ?_
  refine mm_l2i dX0_addVarint_48 ?_
  obtain ⟨σ8, hc7, hx⟩ := b1_some hx
  refine mm_callV3 (a := a) (ci := 0) wM_X0_add kM_X0_31 wI_X0_add wS_X0_add dX0_addVarint_49 (e_X0_add hst hZ hn hs hc7) (mem_obj hs (by decide)) (sh_ltn hs (by decide) hn) rfl rfl rfl (Nat.le_of_ble_eq_true rfl) (by omega) (by omega) (fun v9 S9 hq => ?_)
  obtain ⟨rfl, rfl⟩ := hq
  refine ⟨fun h => ⟨h, rfl⟩, ?_⟩
  refine mm_vret dX0_addVarint_52 rfl ?_ (by omega) (by omega)
  obtain rfl := fin1 hx
  exact ⟨rfl, rfl⟩
set_option maxHeartbeats 4000000 in
set_option maxRecDepth 100000 in
theorem e_X0_addVarint {g : mm_G} {l : Launch} (hst : l.stackTraces = false) {Z : Nat → Nat → Option Nat} (hZ : HZ Z) {n : Nat} (hn : 1186 ≤ n) {z : Bool} {d : Nat} {U : Nat} {a : Nat} (hs : sh a = 0) {p0 : Int64} {σ : SG} {σ' : SG} (hx : x_X0_addVarint U a p0 σ = some σ') : mm_Cm g l yX0_addVarint (.code yX0_addVarint cX0_addVarint 6 none) (d + 1) 0 0 [.ref a, .long p0] (mem Z σ, n, z) (fun v S' => v = none ∧ S' = (mem Z σ', n, z)) := by
  refine mm_Cm_of hst (by decide) (Nat.le_of_ble_eq_true rfl) ?_
  show mm_V g l RX0 "addVarint" cX0_addVarint 6 none [] (d + 1) 0 0 (mm_nt (fun v S' => v = none ∧ S' = (mem Z σ', n, z))) 0 [some (.ref a), some (.long p0), none, none, none, none] [] (mem Z σ, n, z) 0 0
  unfold x_X0_addVarint at hx
  refine mm_lload_n dX0_addVarint_0 rfl ?_
  refine mm_lstore_n [some (.ref a), some (.long p0), none, some (.long p0), none, none] dX0_addVarint_1 (by decide) rfl ?_
  refine mm_iconst (v := 0) dX0_addVarint_2 (by decide) ?_
  refine mm_istore [some (.ref a), some (.long p0), none, some (.long p0), none, some (.int 0)] dX0_addVarint_3 (by decide) rfl ?_
  refine mm_fewer [some (.ref a), none, none, some (.long p0), none, some (.int 0)] (few_ok (bs := [true, false, false, true, false, true]) rfl) ?_
  refine e_X0_addVarint_L5 hst hZ hn hs ?_ _ _ _ _ hx
  · intro w5 σ6 hx
    exact e_X0_addVarint_46 hst hZ hn hs hx
set_option maxHeartbeats 4000000 in
set_option maxRecDepth 100000 in
theorem e_X0_clear {g : mm_G} {l : Launch} (hst : l.stackTraces = false) {Z : Nat → Nat → Option Nat} (hZ : HZ Z) {n : Nat} (hn : 1186 ≤ n) {z : Bool} {d : Nat} {a : Nat} (hs : sh a = 0) {σ : SG} {σ' : SG} (hx : x_X0_clear a σ = some σ') : mm_Cm g l yX0_clear (.code yX0_clear cX0_clear 1 none) (d) 0 0 [.ref a] (mem Z σ, n, z) (fun v S' => v = none ∧ S' = (mem Z σ', n, z)) := by
  refine mm_Cm_of hst (by decide) (Nat.le_of_ble_eq_true rfl) ?_
  show mm_V g l RX0 "clear" cX0_clear 1 none [] (d) 0 0 (mm_nt (fun v S' => v = none ∧ S' = (mem Z σ', n, z))) 0 [some (.ref a)] [] (mem Z σ, n, z) 0 0
  unfold x_X0_clear at hx
  refine mm_aload_n dX0_clear_0 rfl rfl ?_
  refine mm_iconst (v := 0) dX0_clear_1 (by decide) ?_
  refine s_putI (v := 0) (r := some a) (b := a) (ci := 0) (k := 1) in_X0 rfl (by decide) rfl tyX0_ok nmX0 rfl kF_X0_19 dX0_clear_2 (mm_fit_int _) rfl hs (by decide) hn (by decide) rfl hx (fun σ1 hx => ?_)
  refine mm_aload_n dX0_clear_5 rfl rfl ?_
  refine mm_iconst (v := 0) dX0_clear_6 (by decide) ?_
  refine s_putI (v := 0) (r := some a) (b := a) (ci := 0) (k := 2) in_X0 rfl (by decide) rfl tyX0_ok nmX0 rfl kF_X0_23 dX0_clear_7 mm_fit_z0 rfl hs (by decide) hn (by decide) rfl hx (fun σ2 hx => ?_)
  refine mm_vret dX0_clear_10 rfl ?_ (by omega) (by omega)
  obtain rfl := fin1 hx
  exact ⟨rfl, rfl⟩
set_option maxHeartbeats 4000000 in
set_option maxRecDepth 100000 in
theorem e_X0_insertLength_49 {g : mm_G} {l : Launch} (hst : l.stackTraces = false) {Z : Nat → Nat → Option Nat} (hZ : HZ Z) {n : Nat} (hn : 1186 ≤ n) {z : Bool} {d : Nat} {U : Nat} {a : Nat} (hs : sh a = 0) {σ : SG} {σ' : SG} (hx : x_X0_insertLength_49 U a σ = some σ') : mm_V g l RX0 "insertLength" cX0_insertLength 4 none [] (d + 2) 0 0 (mm_nt (fun v S' => v = none ∧ S' = (mem Z σ', n, z))) 49 [some (.ref a), none, none, none] [] (mem Z σ, n, z) 0 0 := by
  unfold x_X0_insertLength_49 at hx
  refine mm_aload_n dX0_insertLength_49 rfl rfl ?_
  refine mm_iconst (v := 1) dX0_insertLength_50 (by decide) ?_
  refine s_putI (v := 1) (r := some a) (b := a) (ci := 0) (k := 2) in_X0 rfl (by decide) rfl tyX0_ok nmX0 rfl kF_X0_23 dX0_insertLength_51 mm_fit_z1 rfl hs (by decide) hn (by decide) rfl hx (fun σ3 hx => ?_)
  refine mm_vret dX0_insertLength_54 rfl ?_ (by omega) (by omega)
  obtain rfl := fin1 hx
  exact ⟨rfl, rfl⟩
set_option maxHeartbeats 4000000 in
set_option maxRecDepth 100000 in
theorem e_X0_insertLength_19 {g : mm_G} {l : Launch} (hst : l.stackTraces = false) {Z : Nat → Nat → Option Nat} (hZ : HZ Z) {n : Nat} (hn : 1186 ≤ n) {z : Bool} {d : Nat} {U : Nat} {a : Nat} (hs : sh a = 0) {v1_ : Int32} {v2_ : Int32} {s0_ : Int32} {σ : SG} {σ' : SG} (hx : x_X0_insertLength_19 U a v1_ v2_ s0_ σ = some σ') : mm_V g l RX0 "insertLength" cX0_insertLength 4 none [] (d + 2) 0 0 (mm_nt (fun v S' => v = none ∧ S' = (mem Z σ', n, z))) 19 [some (.ref a), some (.int v1_), some (.int v2_), none] [.int s0_] (mem Z σ, n, z) 0 0 := by
  unfold x_X0_insertLength_19 at hx
  refine mm_istore_n [some (.ref a), some (.int v1_), some (.int v2_), some (.int s0_)] dX0_insertLength_19 (by decide) rfl ?_
  refine mm_iload_n dX0_insertLength_20 rfl ?_
  refine b_if hx (fun h2 hx => ?_) (fun h2 hx => ?_)
  · refine mm_if_lt 49 dX0_insertLength_21 (by decide) (fun _ => ?_) (fun h => absurd h2 h)
    refine mm_fewer [some (.ref a), none, none, none] (few_ok (bs := [true, false, false, false]) rfl) ?_
    exact e_X0_insertLength_49 hst hZ hn hs hx
  · refine mm_if_lt 49 dX0_insertLength_21 (by decide) (fun h => absurd h h2) (fun _ => ?_)
    refine mm_iload_n dX0_insertLength_24 rfl ?_
    refine b_if hx (fun h4 hx => ?_) (fun h4 hx => ?_)
    · refine mm_if_lt 49 dX0_insertLength_25 (by decide) (fun _ => ?_) (fun h => absurd h4 h)
      refine mm_fewer [some (.ref a), none, none, none] (few_ok (bs := [true, false, false, false]) rfl) ?_
      exact e_X0_insertLength_49 hst hZ hn hs hx
    · refine mm_if_lt 49 dX0_insertLength_25 (by decide) (fun h => absurd h h4) (fun _ => ?_)
      refine mm_iload_n dX0_insertLength_28 rfl ?_
      refine mm_sipush (v := 16384) dX0_insertLength_29 (by decide) ?_
      refine b_if hx (fun h5 hx => ?_) (fun h5 hx => ?_)
      · refine mm_icmp_ge 49 dX0_insertLength_32 (by decide) (fun h => absurd h (Int32.not_le.mpr h5)) (fun _ => ?_)
        refine mm_aload_n dX0_insertLength_35 rfl rfl ?_
        refine s_getI (r := some a) (b := a) (ci := 0) (k := 1) in_X0 rfl (by decide) rfl kF_X0_19 dX0_insertLength_36 rfl hs (by decide) hn (by decide) rfl ?_
        refine mm_iload_n dX0_insertLength_39 rfl ?_
        refine mm_iadd dX0_insertLength_40 ?_
        refine mm_aload_n dX0_insertLength_41 rfl rfl ?_
        refine s_getS (q := a + 1) (r := some a) (b := a) (ci := 0) (k := 0) in_X0 rfl (by decide) rfl kF_X0_13 dX0_insertLength_42 rfl hs (by decide) hn (by decide) rfl rfl ?_
        refine s_alen (a := a + 1) (t := 2) (N := ln (a + 1)) (v := nI (ln (a + 1))) (fun _ => rfl) (sv0_0 hs) (by decide) hn rfl rfl dX0_insertLength_45 ?_
        refine b_if hx (fun h6 hx => ?_) (fun h6 hx => ?_)
        · refine mm_icmp_le 55 dX0_insertLength_46 (by decide) (fun h => absurd h (Int32.not_le.mpr h6)) (fun _ => ?_)
          refine mm_fewer [some (.ref a), none, none, none] (few_ok (bs := [true, false, false, false]) rfl) ?_
          exact e_X0_insertLength_49 hst hZ hn hs hx
        · refine mm_icmp_le 55 dX0_insertLength_46 (by decide) (fun _ => ?_) (fun h => absurd (Int32.not_lt.mp h6) h)
          refine mm_aload_n dX0_insertLength_55 rfl rfl ?_
          refine s_getS (q := a + 1) (r := some a) (b := a) (ci := 0) (k := 0) in_X0 rfl (by decide) rfl kF_X0_13 dX0_insertLength_56 rfl hs (by decide) hn (by decide) rfl rfl ?_
          refine mm_iload_n dX0_insertLength_59 rfl ?_
          refine mm_aload_n dX0_insertLength_60 rfl rfl ?_
          refine s_getS (q := a + 1) (r := some a) (b := a) (ci := 0) (k := 0) in_X0 rfl (by decide) rfl kF_X0_13 dX0_insertLength_61 rfl hs (by decide) hn (by decide) rfl rfl ?_
          refine mm_iload_n dX0_insertLength_64 rfl ?_
          refine mm_iload_n dX0_insertLength_65 rfl ?_
          refine mm_iadd dX0_insertLength_66 ?_
          refine mm_iload_n dX0_insertLength_67 rfl ?_
          refine s_acopy kX_X0_47 (sv0_0 hs) (Nat.le_of_ble_eq_true rfl) hn (by omega) (by omega) dX0_insertLength_68 hx (fun σ7 hx => ?_)
          refine mm_aload_n dX0_insertLength_71 rfl rfl ?_
          refine mm_iload_n dX0_insertLength_72 rfl ?_
          refine s_putI (v := v1_) (r := some a) (b := a) (ci := 0) (k := 1) in_X0 rfl (by decide) rfl tyX0_ok nmX0 rfl kF_X0_19 dX0_insertLength_73 (mm_fit_int _) rfl hs (by decide) hn (by decide) rfl hx (fun σ8 hx => ?_)
          refine mm_aload_n dX0_insertLength_76 rfl rfl ?_
          refine mm_iload_n dX0_insertLength_77 rfl ?_
          refine mm_i2l dX0_insertLength_78 ?_
          obtain ⟨σ10, hc9, hx⟩ := b1_some hx
          refine mm_callV3 (a := a) (ci := 0) wM_X0_addVarint kM_X0_53 wI_X0_addVarint wS_X0_addVarint dX0_insertLength_79 (e_X0_addVarint hst hZ hn hs hc9) (mem_obj hs (by decide)) (sh_ltn hs (by decide) hn) rfl rfl rfl (Nat.le_of_ble_eq_true rfl) (by omega) (by omega) (fun v9 S9 hq => ?_)
          obtain ⟨rfl, rfl⟩ := hq
          refine ⟨fun h => ⟨h, rfl⟩, ?_⟩
          refine mm_aload_n dX0_insertLength_82 rfl rfl ?_
          refine mm_iload_n dX0_insertLength_83 rfl ?_
          refine mm_iload_n dX0_insertLength_84 rfl ?_
          refine mm_iadd dX0_insertLength_85 ?_
          refine mm_iload_n dX0_insertLength_86 rfl ?_
          refine mm_iadd dX0_insertLength_87 ?_
          refine s_putI (v := (v1_ + s0_) + v2_) (r := some a) (b := a) (ci := 0) (k := 1) in_X0 rfl (by decide) rfl tyX0_ok nmX0 rfl kF_X0_19 dX0_insertLength_88 (mm_fit_int _) rfl hs (by decide) hn (by decide) rfl hx (fun σ11 hx => ?_)
          refine mm_vret dX0_insertLength_91 rfl ?_ (by omega) (by omega)
          obtain rfl := fin1 hx
          exact ⟨rfl, rfl⟩
      · refine mm_icmp_ge 49 dX0_insertLength_32 (by decide) (fun _ => ?_) (fun h => absurd (Int32.not_lt.mp h5) h)
        refine mm_fewer [some (.ref a), none, none, none] (few_ok (bs := [true, false, false, false]) rfl) ?_
        exact e_X0_insertLength_49 hst hZ hn hs hx
set_option maxHeartbeats 4000000 in
set_option maxRecDepth 100000 in
theorem e_X0_insertLength {g : mm_G} {l : Launch} (hst : l.stackTraces = false) {Z : Nat → Nat → Option Nat} (hZ : HZ Z) {n : Nat} (hn : 1186 ≤ n) {z : Bool} {d : Nat} {U : Nat} {a : Nat} (hs : sh a = 0) {p0 : Int32} {σ : SG} {σ' : SG} (hx : x_X0_insertLength U a p0 σ = some σ') : mm_Cm g l yX0_insertLength (.code yX0_insertLength cX0_insertLength 4 none) (d + 2) 0 0 [.ref a, .int p0] (mem Z σ, n, z) (fun v S' => v = none ∧ S' = (mem Z σ', n, z)) := by
  refine mm_Cm_of hst (by decide) (Nat.le_of_ble_eq_true rfl) ?_
  show mm_V g l RX0 "insertLength" cX0_insertLength 4 none [] (d + 2) 0 0 (mm_nt (fun v S' => v = none ∧ S' = (mem Z σ', n, z))) 0 [some (.ref a), some (.int p0), none, none] [] (mem Z σ, n, z) 0 0
  unfold x_X0_insertLength at hx
  refine mm_aload_n dX0_insertLength_0 rfl rfl ?_
  refine s_getI (r := some a) (b := a) (ci := 0) (k := 1) in_X0 rfl (by decide) rfl kF_X0_19 dX0_insertLength_1 rfl hs (by decide) hn (by decide) rfl ?_
  refine mm_iload_n dX0_insertLength_4 rfl ?_
  refine mm_isub dX0_insertLength_5 ?_
  refine mm_istore_n [some (.ref a), some (.int p0), some (.int ((sI σ a 1) - p0)), none] dX0_insertLength_6 (by decide) rfl ?_
  refine mm_iload_n dX0_insertLength_7 rfl ?_
  refine mm_sipush (v := 128) dX0_insertLength_8 (by decide) ?_
  refine b_if hx (fun h1 hx => ?_) (fun h1 hx => ?_)
  · refine mm_icmp_ge 18 dX0_insertLength_11 (by decide) (fun h => absurd h (Int32.not_le.mpr h1)) (fun _ => ?_)
    refine mm_iconst (v := 1) dX0_insertLength_14 (by decide) ?_
    refine mm_goto 19 dX0_insertLength_15 (by decide) ?_
    exact e_X0_insertLength_19 hst hZ hn hs hx
  · refine mm_icmp_ge 18 dX0_insertLength_11 (by decide) (fun _ => ?_) (fun h => absurd (Int32.not_lt.mp h1) h)
    refine mm_iconst (v := 2) dX0_insertLength_18 (by decide) ?_
    exact e_X0_insertLength_19 hst hZ hn hs hx
set_option maxHeartbeats 4000000 in
set_option maxRecDepth 100000 in
theorem e_X0_isSame_L32 {g : mm_G} {l : Launch} (hst : l.stackTraces = false) {Z : Nat → Nat → Option Nat} (hZ : HZ Z) {n : Nat} (hn : 1186 ≤ n) {z : Bool} {d : Nat} {U : Nat} {a : Nat} (hs : sh a = 0) {v1_ : Int32} {v2_ : Option Nat} {v3_ : Int32} {v4_ : Int32} {σ : SG} {r : Int32} : ∀ (U1 : Nat) (v5_ : Int32), x_X0_isSame_L32 U a v1_ v2_ v3_ v4_ σ U1 v5_ = some r → mm_V g l RX0 "isSame" cX0_isSame 7 (some .boolean) [] (d) 0 0 (mm_nt (fun v S' => v = some (.int r) ∧ S' = (mem Z σ, n, z))) 32 [some (.ref a), some (.int v1_), some (va_rf v2_), some (.int v3_), some (.int v4_), some (.int v5_), none] [] (mem Z σ, n, z) 0 0 := by
  intro U1
  induction U1 with
  | zero => intro v5_ hx; exact absurd hx (by simp [x_X0_isSame_L32])
  | succ U1 ih =>
    intro v5_ hx
    rw [x_X0_isSame_L32] at hx
    refine mm_iload dX0_isSame_32 rfl ?_
    refine mm_iload dX0_isSame_34 rfl ?_
    refine b_if hx (fun h8 hx => ?_) (fun h8 hx => ?_)
    · refine mm_icmp_ge 91 dX0_isSame_36 (by decide) (fun h => absurd h (Int32.not_le.mpr h8)) (fun _ => ?_)
      refine mm_iload_n dX0_isSame_39 rfl ?_
      refine mm_iload dX0_isSame_40 rfl ?_
      refine mm_iadd dX0_isSame_42 ?_
      refine mm_iload_n dX0_isSame_43 rfl ?_
      refine mm_isub dX0_isSame_44 ?_
      refine mm_istore [some (.ref a), some (.int v1_), some (va_rf v2_), some (.int v3_), some (.int v4_), some (.int v5_), some (.int ((v1_ + v5_) - v3_))] dX0_isSame_45 (by decide) rfl ?_
      refine mm_iload dX0_isSame_47 rfl ?_
      refine mm_aload_n dX0_isSame_49 rfl rfl ?_
      refine s_getI (r := some a) (b := a) (ci := 0) (k := 1) in_X0 rfl (by decide) rfl kF_X0_19 dX0_isSame_50 rfl hs (by decide) hn (by decide) rfl ?_
      refine b_if hx (fun h9 hx => ?_) (fun h9 hx => ?_)
      · refine mm_icmp_ge 83 dX0_isSame_53 (by decide) (fun h => absurd h (Int32.not_le.mpr h9)) (fun _ => ?_)
        refine mm_iload dX0_isSame_56 rfl ?_
        refine mm_aload_n dX0_isSame_58 rfl rfl ?_
        refine s_getS (q := a + 1) (r := some a) (b := a) (ci := 0) (k := 0) in_X0 rfl (by decide) rfl kF_X0_13 dX0_isSame_59 rfl hs (by decide) hn (by decide) rfl rfl ?_
        refine s_alen (a := a + 1) (t := 2) (N := ln (a + 1)) (v := nI (ln (a + 1))) (fun _ => rfl) (sv0_0 hs) (by decide) hn rfl rfl dX0_isSame_62 ?_
        refine b_if hx (fun h10 hx => ?_) (fun h10 hx => ?_)
        · refine mm_icmp_ge 83 dX0_isSame_63 (by decide) (fun h => absurd h (Int32.not_le.mpr h10)) (fun _ => ?_)
          refine mm_aload_n dX0_isSame_66 rfl rfl ?_
          refine s_getS (q := a + 1) (r := some a) (b := a) (ci := 0) (k := 0) in_X0 rfl (by decide) rfl kF_X0_13 dX0_isSame_67 rfl hs (by decide) hn (by decide) rfl rfl ?_
          refine mm_iload dX0_isSame_70 rfl ?_
          obtain ⟨j11, hj12, hb13, hl14, hx⟩ := ix_some hx
          refine s_bald (a := a + 1) (sv0_0 hs) hn hj12 hb13 rfl dX0_isSame_72 ?_
          refine mm_aload_n dX0_isSame_73 rfl (isr_rf _) ?_
          obtain ⟨q15, hr16, hs17, hx⟩ := ck_some hx
          refine s_getS (q := q15 + 1) (r := v2_) (b := q15) (ci := 0) (k := 0) in_X0 rfl (by decide) rfl kF_X0_13 dX0_isSame_74 hr16 hs17 (by decide) hn (by decide) rfl rfl ?_
          refine mm_iload dX0_isSame_77 rfl ?_
          obtain ⟨j18, hj19, hb20, hl21, hx⟩ := ix_some hx
          refine s_bald (a := q15 + 1) (sv0_0 hs17) hn hj19 hb20 rfl dX0_isSame_79 ?_
          refine b_if hx (fun h22 hx => ?_) (fun h22 hx => ?_)
          · refine mm_icmp_eq 85 dX0_isSame_80 (by decide) (fun _ => ?_) (fun h => absurd h22 h)
            refine mm_iinc (v := v5_ + 1) [some (.ref a), some (.int v1_), some (va_rf v2_), some (.int v3_), some (.int v4_), some (.int (v5_ + 1)), some (.int ((v1_ + v5_) - v3_))] dX0_isSame_85 rfl rfl (by decide) rfl ?_
            refine mm_goto 32 dX0_isSame_88 (by decide) ?_
            refine mm_fewer [some (.ref a), some (.int v1_), some (va_rf v2_), some (.int v3_), some (.int v4_), some (.int (v5_ + 1)), none] (few_ok (bs := [true, true, true, true, true, true, false]) rfl) ?_
            exact ih _ hx
          · refine mm_icmp_eq 85 dX0_isSame_80 (by decide) (fun h => absurd h h22) (fun _ => ?_)
            refine mm_iconst (v := 0) dX0_isSame_83 (by decide) ?_
            refine mm_iret dX0_isSame_84 rfl rfl ?_ (by omega) (by omega)
            obtain rfl := fin1 hx
            exact ⟨rfl, rfl⟩
        · refine mm_icmp_ge 83 dX0_isSame_63 (by decide) (fun _ => ?_) (fun h => absurd (Int32.not_lt.mp h10) h)
          refine mm_iconst (v := 0) dX0_isSame_83 (by decide) ?_
          refine mm_iret dX0_isSame_84 rfl rfl ?_ (by omega) (by omega)
          obtain rfl := fin1 hx
          exact ⟨rfl, rfl⟩
      · refine mm_icmp_ge 83 dX0_isSame_53 (by decide) (fun _ => ?_) (fun h => absurd (Int32.not_lt.mp h9) h)
        refine mm_iconst (v := 0) dX0_isSame_83 (by decide) ?_
        refine mm_iret dX0_isSame_84 rfl rfl ?_ (by omega) (by omega)
        obtain rfl := fin1 hx
        exact ⟨rfl, rfl⟩
    · refine mm_icmp_ge 91 dX0_isSame_36 (by decide) (fun _ => ?_) (fun h => absurd (Int32.not_lt.mp h8) h)
      refine mm_iconst (v := 1) dX0_isSame_91 (by decide) ?_
      refine mm_iret dX0_isSame_92 rfl rfl ?_ (by omega) (by omega)
      obtain rfl := fin1 hx
      exact ⟨rfl, rfl⟩
set_option maxHeartbeats 4000000 in
set_option maxRecDepth 100000 in
theorem e_X0_isSame {g : mm_G} {l : Launch} (hst : l.stackTraces = false) {Z : Nat → Nat → Option Nat} (hZ : HZ Z) {n : Nat} (hn : 1186 ≤ n) {z : Bool} {d : Nat} {U : Nat} {a : Nat} (hs : sh a = 0) {p0 : Int32} {p1 : Option Nat} {p2 : Int32} {p3 : Int32} {σ : SG} {r : Int32} (hx : x_X0_isSame U a p0 p1 p2 p3 σ = some r) : mm_Cm g l yX0_isSame (.code yX0_isSame cX0_isSame 7 (some .boolean)) (d) 0 0 [.ref a, .int p0, va_rf p1, .int p2, .int p3] (mem Z σ, n, z) (fun v S' => v = some (.int r) ∧ S' = (mem Z σ, n, z)) := by
  refine mm_Cm_of hst (by decide) (by cases p1 <;>  exact Nat.le_of_ble_eq_true rfl) ?_
  rw [show mm_ent [.ref a, .int p0, va_rf p1, .int p2, .int p3] 7 = [some (.ref a), some (.int p0), some (va_rf p1), some (.int p2), some (.int p3), none, none] from by cases p1 <;>  rfl]
  show mm_V g l RX0 "isSame" cX0_isSame 7 (some .boolean) [] (d) 0 0 (mm_nt (fun v S' => v = some (.int r) ∧ S' = (mem Z σ, n, z))) 0 [some (.ref a), some (.int p0), some (va_rf p1), some (.int p2), some (.int p3), none, none] [] (mem Z σ, n, z) 0 0
  unfold x_X0_isSame at hx
  refine mm_iload_n dX0_isSame_0 rfl ?_
  refine b_if hx (fun h1 hx => ?_) (fun h1 hx => ?_)
  · refine mm_if_lt 27 dX0_isSame_1 (by decide) (fun _ => ?_) (fun h => absurd h1 h)
    refine mm_iconst (v := 0) dX0_isSame_27 (by decide) ?_
    refine mm_iret dX0_isSame_28 rfl rfl ?_ (by omega) (by omega)
    obtain rfl := fin1 hx
    exact ⟨rfl, rfl⟩
  · refine mm_if_lt 27 dX0_isSame_1 (by decide) (fun h => absurd h h1) (fun _ => ?_)
    refine mm_iload_n dX0_isSame_4 rfl ?_
    refine b_if hx (fun h2 hx => ?_) (fun h2 hx => ?_)
    · refine mm_if_lt 27 dX0_isSame_5 (by decide) (fun _ => ?_) (fun h => absurd h2 h)
      refine mm_iconst (v := 0) dX0_isSame_27 (by decide) ?_
      refine mm_iret dX0_isSame_28 rfl rfl ?_ (by omega) (by omega)
      obtain rfl := fin1 hx
      exact ⟨rfl, rfl⟩
    · refine mm_if_lt 27 dX0_isSame_5 (by decide) (fun h => absurd h h2) (fun _ => ?_)
      refine mm_iload dX0_isSame_8 rfl ?_
      refine mm_aload_n dX0_isSame_10 rfl (isr_rf _) ?_
      obtain ⟨q3, hr4, hs5, hx⟩ := ck_some hx
      refine s_getI (r := p1) (b := q3) (ci := 0) (k := 1) in_X0 rfl (by decide) rfl kF_X0_19 dX0_isSame_11 hr4 hs5 (by decide) hn (by decide) rfl ?_
      refine b_if hx (fun h6 hx => ?_) (fun h6 hx => ?_)
      · refine mm_icmp_gt 27 dX0_isSame_14 (by decide) (fun _ => ?_) (fun h => absurd h6 h)
        refine mm_iconst (v := 0) dX0_isSame_27 (by decide) ?_
        refine mm_iret dX0_isSame_28 rfl rfl ?_ (by omega) (by omega)
        obtain rfl := fin1 hx
        exact ⟨rfl, rfl⟩
      · refine mm_icmp_gt 27 dX0_isSame_14 (by decide) (fun h => absurd h h6) (fun _ => ?_)
        refine mm_iload dX0_isSame_17 rfl ?_
        refine mm_aload_n dX0_isSame_19 rfl (isr_rf _) ?_
        refine s_getS (q := q3 + 1) (r := p1) (b := q3) (ci := 0) (k := 0) in_X0 rfl (by decide) rfl kF_X0_13 dX0_isSame_20 hr4 hs5 (by decide) hn (by decide) rfl rfl ?_
        refine s_alen (a := q3 + 1) (t := 2) (N := ln (q3 + 1)) (v := nI (ln (q3 + 1))) (fun _ => rfl) (sv0_0 hs5) (by decide) hn rfl rfl dX0_isSame_23 ?_
        refine b_if hx (fun h7 hx => ?_) (fun h7 hx => ?_)
        · refine mm_icmp_le 29 dX0_isSame_24 (by decide) (fun h => absurd h (Int32.not_le.mpr h7)) (fun _ => ?_)
          refine mm_iconst (v := 0) dX0_isSame_27 (by decide) ?_
          refine mm_iret dX0_isSame_28 rfl rfl ?_ (by omega) (by omega)
          obtain rfl := fin1 hx
          exact ⟨rfl, rfl⟩
        · refine mm_icmp_le 29 dX0_isSame_24 (by decide) (fun _ => ?_) (fun h => absurd (Int32.not_lt.mp h7) h)
          refine mm_iload_n dX0_isSame_29 rfl ?_
          refine mm_istore [some (.ref a), some (.int p0), some (va_rf p1), some (.int p2), some (.int p3), some (.int p2), none] dX0_isSame_30 (by decide) rfl ?_
          refine e_X0_isSame_L32 hst hZ hn hs _ _ hx
set_option maxHeartbeats 4000000 in
set_option maxRecDepth 100000 in
theorem e_X0_isSpilt {g : mm_G} {l : Launch} (hst : l.stackTraces = false) {Z : Nat → Nat → Option Nat} (hZ : HZ Z) {n : Nat} (hn : 1186 ≤ n) {z : Bool} {d : Nat} {a : Nat} (hs : sh a = 0) {σ : SG} {r : Int32} (hx : x_X0_isSpilt a σ = some r) : mm_Cm g l yX0_isSpilt (.code yX0_isSpilt cX0_isSpilt 1 (some .boolean)) (d) 0 0 [.ref a] (mem Z σ, n, z) (fun v S' => v = some (.int r) ∧ S' = (mem Z σ, n, z)) := by
  refine mm_Cm_of hst (by decide) (Nat.le_of_ble_eq_true rfl) ?_
  show mm_V g l RX0 "isSpilt" cX0_isSpilt 1 (some .boolean) [] (d) 0 0 (mm_nt (fun v S' => v = some (.int r) ∧ S' = (mem Z σ, n, z))) 0 [some (.ref a)] [] (mem Z σ, n, z) 0 0
  unfold x_X0_isSpilt at hx
  refine mm_aload_n dX0_isSpilt_0 rfl rfl ?_
  refine s_getI (r := some a) (b := a) (ci := 0) (k := 2) in_X0 rfl (by decide) rfl kF_X0_23 dX0_isSpilt_1 rfl hs (by decide) hn (by decide) rfl ?_
  obtain ⟨hz1, hx⟩ := zb_some hx
  refine mm_iret dX0_isSpilt_4 rfl (zb_nar hz1) ?_ (by omega) (by omega)
  obtain rfl := fin1 hx
  exact ⟨rfl, rfl⟩
set_option maxHeartbeats 4000000 in
set_option maxRecDepth 100000 in
theorem e_X0_isUtf8_L201 {g : mm_G} {l : Launch} (hst : l.stackTraces = false) {Z : Nat → Nat → Option Nat} (hZ : HZ Z) {n : Nat} (hn : 1186 ≤ n) {z : Bool} {d : Nat} {U : Nat} {a : Nat} (hs : sh a = 0) {k234 : Option (Int32)} {v2_ : Int32} {v3_ : Int32} {v5_ : Int32} {σ : SG} {r : Int32} (hk234 : k234 = some r → mm_V g l RX0 "isUtf8" cX0_isUtf8 9 (some .boolean) [] (d + 1) 0 0 (mm_nt (fun v S' => v = some (.int r) ∧ S' = (mem Z σ, n, z))) 234 [some (.ref a), none, some (.int v2_), some (.int v3_), none, some (.int v5_), none, none, none] [] (mem Z σ, n, z) 0 0) : ∀ (U1 : Nat) (v8_ : Int32), x_X0_isUtf8_L201 U a k234 v2_ v3_ v5_ σ U1 v8_ = some r → mm_V g l RX0 "isUtf8" cX0_isUtf8 9 (some .boolean) [] (d + 1) 0 0 (mm_nt (fun v S' => v = some (.int r) ∧ S' = (mem Z σ, n, z))) 201 [some (.ref a), none, some (.int v2_), some (.int v3_), none, some (.int v5_), none, none, some (.int v8_)] [] (mem Z σ, n, z) 0 0 := by
  intro U1
  induction U1 with
  | zero => intro v8_ hx; exact absurd hx (by simp [x_X0_isUtf8_L201])
  | succ U1 ih =>
    intro v8_ hx
    rw [x_X0_isUtf8_L201] at hx
    refine mm_iload dX0_isUtf8_201 rfl ?_
    refine mm_iload dX0_isUtf8_203 rfl ?_
    refine b_if hx (fun h18 hx => ?_) (fun h18 hx => ?_)
    · refine mm_icmp_gt 234 dX0_isUtf8_205 (by decide) (fun _ => ?_) (fun h => absurd h18 h)
      refine mm_fewer [some (.ref a), none, some (.int v2_), some (.int v3_), none, some (.int v5_), none, none, none] (few_ok (bs := [true, false, true, true, false, true, false, false, false]) rfl) ?_
      exact hk234  hx
    · refine mm_icmp_gt 234 dX0_isUtf8_205 (by decide) (fun h => absurd h h18) (fun _ => ?_)
      refine mm_aload_n dX0_isUtf8_208 rfl rfl ?_
      refine mm_iload_n dX0_isUtf8_209 rfl ?_
      refine mm_iload dX0_isUtf8_210 rfl ?_
      refine mm_iadd dX0_isUtf8_212 ?_
      obtain ⟨v20, hc19, hx⟩ := b1_some hx
      refine mm_callV3 (a := a) (ci := 0) wM_X0_at kM_X0_27 wI_X0_at wS_X0_at dX0_isUtf8_213 (e_X0_at hst hZ hn hs hc19) (mem_obj hs (by decide)) (sh_ltn hs (by decide) hn) rfl rfl rfl (Nat.le_of_ble_eq_true rfl) (by omega) (by omega) (fun v9 S9 hq => ?_)
      obtain ⟨rfl, rfl⟩ := hq
      refine ⟨fun h => ⟨h, rfl⟩, ?_⟩
      refine mm_sipush (v := 192) dX0_isUtf8_216 (by decide) ?_
      refine mm_iand dX0_isUtf8_219 ?_
      refine mm_sipush (v := 128) dX0_isUtf8_220 (by decide) ?_
      refine b_if hx (fun h21 hx => ?_) (fun h21 hx => ?_)
      · refine mm_icmp_eq 228 dX0_isUtf8_223 (by decide) (fun _ => ?_) (fun h => absurd h21 h)
        refine mm_iinc (v := v8_ + 1) [some (.ref a), none, some (.int v2_), some (.int v3_), none, some (.int v5_), none, none, some (.int (v8_ + 1))] dX0_isUtf8_228 rfl rfl (by decide) rfl ?_
        refine mm_goto 201 dX0_isUtf8_231 (by decide) ?_
        exact ih _ hx
      · refine mm_icmp_eq 228 dX0_isUtf8_223 (by decide) (fun h => absurd h h21) (fun _ => ?_)
        refine mm_iconst (v := 0) dX0_isUtf8_226 (by decide) ?_
        refine mm_iret dX0_isUtf8_227 rfl rfl ?_ (by omega) (by omega)
        obtain rfl := fin1 hx
        exact ⟨rfl, rfl⟩
set_option maxHeartbeats 4000000 in
set_option maxRecDepth 100000 in
theorem e_X0_isUtf8_239 {g : mm_G} {l : Launch} (hst : l.stackTraces = false) {Z : Nat → Nat → Option Nat} (hZ : HZ Z) {n : Nat} (hn : 1186 ≤ n) {z : Bool} {d : Nat} {U : Nat} {a : Nat} (hs : sh a = 0) {k2 : Int32 → Option (Int32)} {v2_ : Int32} {v3_ : Int32} {σ : SG} {r : Int32} (hk2 : ∀ (v3_ : Int32), k2 v3_ = some r → mm_V g l RX0 "isUtf8" cX0_isUtf8 9 (some .boolean) [] (d + 1) 0 0 (mm_nt (fun v S' => v = some (.int r) ∧ S' = (mem Z σ, n, z))) 2 [some (.ref a), none, some (.int v2_), some (.int v3_), none, none, none, none, none] [] (mem Z σ, n, z) 0 0) (hx : x_X0_isUtf8_239 U a k2 v2_ v3_ σ = some r) : mm_V g l RX0 "isUtf8" cX0_isUtf8 9 (some .boolean) [] (d + 1) 0 0 (mm_nt (fun v S' => v = some (.int r) ∧ S' = (mem Z σ, n, z))) 239 [some (.ref a), none, some (.int v2_), some (.int v3_), none, none, none, none, none] [] (mem Z σ, n, z) 0 0 := by
  unfold x_X0_isUtf8_239 at hx
  refine mm_iinc (v := v3_ + 1) [some (.ref a), none, some (.int v2_), some (.int (v3_ + 1)), none, none, none, none, none] dX0_isUtf8_239 rfl rfl (by decide) rfl ?_
  refine mm_goto 2 dX0_isUtf8_242 (by decide) ?_
  exact hk2 _ hx
set_option maxHeartbeats 4000000 in
set_option maxRecDepth 100000 in
theorem e_X0_isUtf8_157 {g : mm_G} {l : Launch} (hst : l.stackTraces = false) {Z : Nat → Nat → Option Nat} (hZ : HZ Z) {n : Nat} (hn : 1186 ≤ n) {z : Bool} {d : Nat} {U : Nat} {a : Nat} (hs : sh a = 0) {k2 : Int32 → Option (Int32)} {v2_ : Int32} {v3_ : Int32} {v5_ : Int32} {v6_ : Int32} {s0_ : Int32} {σ : SG} {r : Int32} (hk2 : ∀ (v3_ : Int32), k2 v3_ = some r → mm_V g l RX0 "isUtf8" cX0_isUtf8 9 (some .boolean) [] (d + 1) 0 0 (mm_nt (fun v S' => v = some (.int r) ∧ S' = (mem Z σ, n, z))) 2 [some (.ref a), none, some (.int v2_), some (.int v3_), none, none, none, none, none] [] (mem Z σ, n, z) 0 0) (hx : x_X0_isUtf8_157 U a k2 v2_ v3_ v5_ v6_ s0_ σ = some r) : mm_V g l RX0 "isUtf8" cX0_isUtf8 9 (some .boolean) [] (d + 1) 0 0 (mm_nt (fun v S' => v = some (.int r) ∧ S' = (mem Z σ, n, z))) 157 [some (.ref a), none, some (.int v2_), some (.int v3_), none, some (.int v5_), some (.int v6_), none, none] [.int s0_] (mem Z σ, n, z) 0 0 := by
  unfold x_X0_isUtf8_157 at hx
  refine mm_istore [some (.ref a), none, some (.int v2_), some (.int v3_), none, some (.int v5_), some (.int v6_), some (.int s0_), none] dX0_isUtf8_157 (by decide) rfl ?_
  refine mm_iload dX0_isUtf8_159 rfl ?_
  refine b_if hx (fun h10 hx => ?_) (fun h10 hx => ?_)
  · refine mm_if_eq 196 dX0_isUtf8_161 (by decide) (fun _ => ?_) (fun h => absurd h10 h)
    refine mm_iconst (v := 0) dX0_isUtf8_196 (by decide) ?_
    refine mm_iret dX0_isUtf8_197 rfl rfl ?_ (by omega) (by omega)
    obtain rfl := fin1 hx
    exact ⟨rfl, rfl⟩
  · refine mm_if_eq 196 dX0_isUtf8_161 (by decide) (fun h => absurd h h10) (fun _ => ?_)
    refine mm_iload_n dX0_isUtf8_164 rfl ?_
    refine mm_iload dX0_isUtf8_165 rfl ?_
    refine mm_iadd dX0_isUtf8_167 ?_
    refine mm_iload_n dX0_isUtf8_168 rfl ?_
    refine b_if hx (fun h11 hx => ?_) (fun h11 hx => ?_)
    · refine mm_icmp_ge 196 dX0_isUtf8_169 (by decide) (fun h => absurd h (Int32.not_le.mpr h11)) (fun _ => ?_)
      refine mm_aload_n dX0_isUtf8_172 rfl rfl ?_
      refine mm_iload_n dX0_isUtf8_173 rfl ?_
      refine mm_iconst (v := 1) dX0_isUtf8_174 (by decide) ?_
      refine mm_iadd dX0_isUtf8_175 ?_
      obtain ⟨v13, hc12, hx⟩ := b1_some hx
      refine mm_callV3 (a := a) (ci := 0) wM_X0_at kM_X0_27 wI_X0_at wS_X0_at dX0_isUtf8_176 (e_X0_at hst hZ hn hs hc12) (mem_obj hs (by decide)) (sh_ltn hs (by decide) hn) rfl rfl rfl (Nat.le_of_ble_eq_true rfl) (by omega) (by omega) (fun v9 S9 hq => ?_)
      obtain ⟨rfl, rfl⟩ := hq
      refine ⟨fun h => ⟨h, rfl⟩, ?_⟩
      refine mm_iload dX0_isUtf8_179 rfl ?_
      refine b_if hx (fun h14 hx => ?_) (fun h14 hx => ?_)
      · refine mm_icmp_lt 196 dX0_isUtf8_181 (by decide) (fun _ => ?_) (fun h => absurd h14 h)
        refine mm_iconst (v := 0) dX0_isUtf8_196 (by decide) ?_
        refine mm_iret dX0_isUtf8_197 rfl rfl ?_ (by omega) (by omega)
        obtain rfl := fin1 hx
        exact ⟨rfl, rfl⟩
      · refine mm_icmp_lt 196 dX0_isUtf8_181 (by decide) (fun h => absurd h h14) (fun _ => ?_)
        refine mm_aload_n dX0_isUtf8_184 rfl rfl ?_
        refine mm_iload_n dX0_isUtf8_185 rfl ?_
        refine mm_iconst (v := 1) dX0_isUtf8_186 (by decide) ?_
        refine mm_iadd dX0_isUtf8_187 ?_
        obtain ⟨v16, hc15, hx⟩ := b1_some hx
        refine mm_callV3 (a := a) (ci := 0) wM_X0_at kM_X0_27 wI_X0_at wS_X0_at dX0_isUtf8_188 (e_X0_at hst hZ hn hs hc15) (mem_obj hs (by decide)) (sh_ltn hs (by decide) hn) rfl rfl rfl (Nat.le_of_ble_eq_true rfl) (by omega) (by omega) (fun v9 S9 hq => ?_)
        obtain ⟨rfl, rfl⟩ := hq
        refine ⟨fun h => ⟨h, rfl⟩, ?_⟩
        refine mm_iload dX0_isUtf8_191 rfl ?_
        refine b_if hx (fun h17 hx => ?_) (fun h17 hx => ?_)
        · refine mm_icmp_le 198 dX0_isUtf8_193 (by decide) (fun h => absurd h (Int32.not_le.mpr h17)) (fun _ => ?_)
          refine mm_iconst (v := 0) dX0_isUtf8_196 (by decide) ?_
          refine mm_iret dX0_isUtf8_197 rfl rfl ?_ (by omega) (by omega)
          obtain rfl := fin1 hx
          exact ⟨rfl, rfl⟩
        · refine mm_icmp_le 198 dX0_isUtf8_193 (by decide) (fun _ => ?_) (fun h => absurd (Int32.not_lt.mp h17) h)
          refine mm_iconst (v := 2) dX0_isUtf8_198 (by decide) ?_
          refine mm_istore [some (.ref a), none, some (.int v2_), some (.int v3_), none, some (.int v5_), some (.int v6_), some (.int s0_), some (.int 2)] dX0_isUtf8_199 (by decide) rfl ?_
          refine mm_fewer [some (.ref a), none, some (.int v2_), some (.int v3_), none, some (.int v5_), none, none, some (.int 2)] (few_ok (bs := [true, false, true, true, false, true, false, false, true]) rfl) ?_
          refine e_X0_isUtf8_L201 hst hZ hn hs ?_ _ _ hx
          · intro  hx
            refine mm_iload_n dX0_isUtf8_234 rfl ?_
            refine mm_iload dX0_isUtf8_235 rfl ?_
            refine mm_iadd dX0_isUtf8_237 ?_
            refine mm_istore_n [some (.ref a), none, some (.int v2_), some (.int (v3_ + v5_)), none, some (.int v5_), none, none, none] dX0_isUtf8_238 (by decide) rfl ?_
            refine mm_fewer [some (.ref a), none, some (.int v2_), some (.int (v3_ + v5_)), none, none, none, none, none] (few_ok (bs := [true, false, true, true, false, false, false, false, false]) rfl) ?_
            exact e_X0_isUtf8_239 hst hZ hn hs hk2 hx
    · refine mm_icmp_ge 196 dX0_isUtf8_169 (by decide) (fun _ => ?_) (fun h => absurd (Int32.not_lt.mp h11) h)
      refine mm_iconst (v := 0) dX0_isUtf8_196 (by decide) ?_
      refine mm_iret dX0_isUtf8_197 rfl rfl ?_ (by omega) (by omega)
      obtain rfl := fin1 hx
      exact ⟨rfl, rfl⟩
set_option maxHeartbeats 4000000 in
set_option maxRecDepth 100000 in
theorem e_X0_isUtf8_124 {g : mm_G} {l : Launch} (hst : l.stackTraces = false) {Z : Nat → Nat → Option Nat} (hZ : HZ Z) {n : Nat} (hn : 1186 ≤ n) {z : Bool} {d : Nat} {U : Nat} {a : Nat} (hs : sh a = 0) {k2 : Int32 → Option (Int32)} {v2_ : Int32} {v3_ : Int32} {v4_ : Int32} {v5_ : Int32} {s0_ : Int32} {σ : SG} {r : Int32} (hk2 : ∀ (v3_ : Int32), k2 v3_ = some r → mm_V g l RX0 "isUtf8" cX0_isUtf8 9 (some .boolean) [] (d + 1) 0 0 (mm_nt (fun v S' => v = some (.int r) ∧ S' = (mem Z σ, n, z))) 2 [some (.ref a), none, some (.int v2_), some (.int v3_), none, none, none, none, none] [] (mem Z σ, n, z) 0 0) (hx : x_X0_isUtf8_124 U a k2 v2_ v3_ v4_ v5_ s0_ σ = some r) : mm_V g l RX0 "isUtf8" cX0_isUtf8 9 (some .boolean) [] (d + 1) 0 0 (mm_nt (fun v S' => v = some (.int r) ∧ S' = (mem Z σ, n, z))) 124 [some (.ref a), none, some (.int v2_), some (.int v3_), some (.int v4_), some (.int v5_), none, none, none] [.int s0_] (mem Z σ, n, z) 0 0 := by
  unfold x_X0_isUtf8_124 at hx
  refine mm_istore [some (.ref a), none, some (.int v2_), some (.int v3_), some (.int v4_), some (.int v5_), some (.int s0_), none, none] dX0_isUtf8_124 (by decide) rfl ?_
  refine mm_iload dX0_isUtf8_126 rfl ?_
  refine mm_sipush (v := 237) dX0_isUtf8_128 (by decide) ?_
  refine b_if hx (fun h9 hx => ?_) (fun h9 hx => ?_)
  · refine mm_icmp_ne 140 dX0_isUtf8_131 (by decide) (fun h => absurd h9 h) (fun _ => ?_)
    refine mm_sipush (v := 159) dX0_isUtf8_134 (by decide) ?_
    refine mm_goto 157 dX0_isUtf8_137 (by decide) ?_
    refine mm_fewer [some (.ref a), none, some (.int v2_), some (.int v3_), none, some (.int v5_), some (.int s0_), none, none] (few_ok (bs := [true, false, true, true, false, true, true, false, false]) rfl) ?_
    exact e_X0_isUtf8_157 hst hZ hn hs hk2 hx
  · refine mm_icmp_ne 140 dX0_isUtf8_131 (by decide) (fun _ => ?_) (fun h => absurd h h9)
    refine mm_iload dX0_isUtf8_140 rfl ?_
    refine mm_sipush (v := 244) dX0_isUtf8_142 (by decide) ?_
    refine b_if hx (fun h22 hx => ?_) (fun h22 hx => ?_)
    · refine mm_icmp_ne 154 dX0_isUtf8_145 (by decide) (fun h => absurd h22 h) (fun _ => ?_)
      refine mm_sipush (v := 143) dX0_isUtf8_148 (by decide) ?_
      refine mm_goto 157 dX0_isUtf8_151 (by decide) ?_
      refine mm_fewer [some (.ref a), none, some (.int v2_), some (.int v3_), none, some (.int v5_), some (.int s0_), none, none] (few_ok (bs := [true, false, true, true, false, true, true, false, false]) rfl) ?_
      exact e_X0_isUtf8_157 hst hZ hn hs hk2 hx
    · refine mm_icmp_ne 154 dX0_isUtf8_145 (by decide) (fun _ => ?_) (fun h => absurd h h22)
      refine mm_sipush (v := 191) dX0_isUtf8_154 (by decide) ?_
      refine mm_fewer [some (.ref a), none, some (.int v2_), some (.int v3_), none, some (.int v5_), some (.int s0_), none, none] (few_ok (bs := [true, false, true, true, false, true, true, false, false]) rfl) ?_
      exact e_X0_isUtf8_157 hst hZ hn hs hk2 hx
set_option maxHeartbeats 4000000 in
set_option maxRecDepth 100000 in
theorem e_X0_isUtf8_91 {g : mm_G} {l : Launch} (hst : l.stackTraces = false) {Z : Nat → Nat → Option Nat} (hZ : HZ Z) {n : Nat} (hn : 1186 ≤ n) {z : Bool} {d : Nat} {U : Nat} {a : Nat} (hs : sh a = 0) {k2 : Int32 → Option (Int32)} {v2_ : Int32} {v3_ : Int32} {v4_ : Int32} {s0_ : Int32} {σ : SG} {r : Int32} (hk2 : ∀ (v3_ : Int32), k2 v3_ = some r → mm_V g l RX0 "isUtf8" cX0_isUtf8 9 (some .boolean) [] (d + 1) 0 0 (mm_nt (fun v S' => v = some (.int r) ∧ S' = (mem Z σ, n, z))) 2 [some (.ref a), none, some (.int v2_), some (.int v3_), none, none, none, none, none] [] (mem Z σ, n, z) 0 0) (hx : x_X0_isUtf8_91 U a k2 v2_ v3_ v4_ s0_ σ = some r) : mm_V g l RX0 "isUtf8" cX0_isUtf8 9 (some .boolean) [] (d + 1) 0 0 (mm_nt (fun v S' => v = some (.int r) ∧ S' = (mem Z σ, n, z))) 91 [some (.ref a), none, some (.int v2_), some (.int v3_), some (.int v4_), none, none, none, none] [.int s0_] (mem Z σ, n, z) 0 0 := by
  unfold x_X0_isUtf8_91 at hx
  refine mm_istore [some (.ref a), none, some (.int v2_), some (.int v3_), some (.int v4_), some (.int s0_), none, none, none] dX0_isUtf8_91 (by decide) rfl ?_
  refine mm_iload dX0_isUtf8_93 rfl ?_
  refine mm_sipush (v := 224) dX0_isUtf8_95 (by decide) ?_
  refine b_if hx (fun h8 hx => ?_) (fun h8 hx => ?_)
  · refine mm_icmp_ne 107 dX0_isUtf8_98 (by decide) (fun h => absurd h8 h) (fun _ => ?_)
    refine mm_sipush (v := 160) dX0_isUtf8_101 (by decide) ?_
    refine mm_goto 124 dX0_isUtf8_104 (by decide) ?_
    exact e_X0_isUtf8_124 hst hZ hn hs hk2 hx
  · refine mm_icmp_ne 107 dX0_isUtf8_98 (by decide) (fun _ => ?_) (fun h => absurd h h8)
    refine mm_iload dX0_isUtf8_107 rfl ?_
    refine mm_sipush (v := 240) dX0_isUtf8_109 (by decide) ?_
    refine b_if hx (fun h23 hx => ?_) (fun h23 hx => ?_)
    · refine mm_icmp_ne 121 dX0_isUtf8_112 (by decide) (fun h => absurd h23 h) (fun _ => ?_)
      refine mm_sipush (v := 144) dX0_isUtf8_115 (by decide) ?_
      refine mm_goto 124 dX0_isUtf8_118 (by decide) ?_
      exact e_X0_isUtf8_124 hst hZ hn hs hk2 hx
    · refine mm_icmp_ne 121 dX0_isUtf8_112 (by decide) (fun _ => ?_) (fun h => absurd h h23)
      refine mm_sipush (v := 128) dX0_isUtf8_121 (by decide) ?_
      exact e_X0_isUtf8_124 hst hZ hn hs hk2 hx
set_option maxHeartbeats 4000000 in
set_option maxRecDepth 100000 in
theorem e_X0_isUtf8_90 {g : mm_G} {l : Launch} (hst : l.stackTraces = false) {Z : Nat → Nat → Option Nat} (hZ : HZ Z) {n : Nat} (hn : 1186 ≤ n) {z : Bool} {d : Nat} {U : Nat} {a : Nat} (hs : sh a = 0) {k2 : Int32 → Option (Int32)} {v2_ : Int32} {v3_ : Int32} {v4_ : Int32} {σ : SG} {r : Int32} (hk2 : ∀ (v3_ : Int32), k2 v3_ = some r → mm_V g l RX0 "isUtf8" cX0_isUtf8 9 (some .boolean) [] (d + 1) 0 0 (mm_nt (fun v S' => v = some (.int r) ∧ S' = (mem Z σ, n, z))) 2 [some (.ref a), none, some (.int v2_), some (.int v3_), none, none, none, none, none] [] (mem Z σ, n, z) 0 0) (hx : x_X0_isUtf8_90 U a k2 v2_ v3_ v4_ σ = some r) : mm_V g l RX0 "isUtf8" cX0_isUtf8 9 (some .boolean) [] (d + 1) 0 0 (mm_nt (fun v S' => v = some (.int r) ∧ S' = (mem Z σ, n, z))) 90 [some (.ref a), none, some (.int v2_), some (.int v3_), some (.int v4_), none, none, none, none] [] (mem Z σ, n, z) 0 0 := by
  unfold x_X0_isUtf8_90 at hx
  refine mm_iconst (v := 0) dX0_isUtf8_90 (by decide) ?_
  exact e_X0_isUtf8_91 hst hZ hn hs hk2 hx
set_option maxHeartbeats 4000000 in
set_option maxRecDepth 100000 in
theorem e_X0_isUtf8_70 {g : mm_G} {l : Launch} (hst : l.stackTraces = false) {Z : Nat → Nat → Option Nat} (hZ : HZ Z) {n : Nat} (hn : 1186 ≤ n) {z : Bool} {d : Nat} {U : Nat} {a : Nat} (hs : sh a = 0) {k2 : Int32 → Option (Int32)} {v2_ : Int32} {v3_ : Int32} {v4_ : Int32} {σ : SG} {r : Int32} (hk2 : ∀ (v3_ : Int32), k2 v3_ = some r → mm_V g l RX0 "isUtf8" cX0_isUtf8 9 (some .boolean) [] (d + 1) 0 0 (mm_nt (fun v S' => v = some (.int r) ∧ S' = (mem Z σ, n, z))) 2 [some (.ref a), none, some (.int v2_), some (.int v3_), none, none, none, none, none] [] (mem Z σ, n, z) 0 0) (hx : x_X0_isUtf8_70 U a k2 v2_ v3_ v4_ σ = some r) : mm_V g l RX0 "isUtf8" cX0_isUtf8 9 (some .boolean) [] (d + 1) 0 0 (mm_nt (fun v S' => v = some (.int r) ∧ S' = (mem Z σ, n, z))) 70 [some (.ref a), none, some (.int v2_), some (.int v3_), some (.int v4_), none, none, none, none] [] (mem Z σ, n, z) 0 0 := by
  unfold x_X0_isUtf8_70 at hx
  refine mm_iload dX0_isUtf8_70 rfl ?_
  refine mm_sipush (v := 240) dX0_isUtf8_72 (by decide) ?_
  refine b_if hx (fun h7 hx => ?_) (fun h7 hx => ?_)
  · refine mm_icmp_lt 90 dX0_isUtf8_75 (by decide) (fun _ => ?_) (fun h => absurd h7 h)
    exact e_X0_isUtf8_90 hst hZ hn hs hk2 hx
  · refine mm_icmp_lt 90 dX0_isUtf8_75 (by decide) (fun h => absurd h h7) (fun _ => ?_)
    refine mm_iload dX0_isUtf8_78 rfl ?_
    refine mm_sipush (v := 244) dX0_isUtf8_80 (by decide) ?_
    refine b_if hx (fun h24 hx => ?_) (fun h24 hx => ?_)
    · refine mm_icmp_gt 90 dX0_isUtf8_83 (by decide) (fun _ => ?_) (fun h => absurd h24 h)
      exact e_X0_isUtf8_90 hst hZ hn hs hk2 hx
    · refine mm_icmp_gt 90 dX0_isUtf8_83 (by decide) (fun h => absurd h h24) (fun _ => ?_)
      refine mm_iconst (v := 3) dX0_isUtf8_86 (by decide) ?_
      refine mm_goto 91 dX0_isUtf8_87 (by decide) ?_
      exact e_X0_isUtf8_91 hst hZ hn hs hk2 hx
set_option maxHeartbeats 4000000 in
set_option maxRecDepth 100000 in
theorem e_X0_isUtf8_50 {g : mm_G} {l : Launch} (hst : l.stackTraces = false) {Z : Nat → Nat → Option Nat} (hZ : HZ Z) {n : Nat} (hn : 1186 ≤ n) {z : Bool} {d : Nat} {U : Nat} {a : Nat} (hs : sh a = 0) {k2 : Int32 → Option (Int32)} {v2_ : Int32} {v3_ : Int32} {v4_ : Int32} {σ : SG} {r : Int32} (hk2 : ∀ (v3_ : Int32), k2 v3_ = some r → mm_V g l RX0 "isUtf8" cX0_isUtf8 9 (some .boolean) [] (d + 1) 0 0 (mm_nt (fun v S' => v = some (.int r) ∧ S' = (mem Z σ, n, z))) 2 [some (.ref a), none, some (.int v2_), some (.int v3_), none, none, none, none, none] [] (mem Z σ, n, z) 0 0) (hx : x_X0_isUtf8_50 U a k2 v2_ v3_ v4_ σ = some r) : mm_V g l RX0 "isUtf8" cX0_isUtf8 9 (some .boolean) [] (d + 1) 0 0 (mm_nt (fun v S' => v = some (.int r) ∧ S' = (mem Z σ, n, z))) 50 [some (.ref a), none, some (.int v2_), some (.int v3_), some (.int v4_), none, none, none, none] [] (mem Z σ, n, z) 0 0 := by
  unfold x_X0_isUtf8_50 at hx
  refine mm_iload dX0_isUtf8_50 rfl ?_
  refine mm_sipush (v := 224) dX0_isUtf8_52 (by decide) ?_
  refine b_if hx (fun h6 hx => ?_) (fun h6 hx => ?_)
  · refine mm_icmp_lt 70 dX0_isUtf8_55 (by decide) (fun _ => ?_) (fun h => absurd h6 h)
    exact e_X0_isUtf8_70 hst hZ hn hs hk2 hx
  · refine mm_icmp_lt 70 dX0_isUtf8_55 (by decide) (fun h => absurd h h6) (fun _ => ?_)
    refine mm_iload dX0_isUtf8_58 rfl ?_
    refine mm_sipush (v := 239) dX0_isUtf8_60 (by decide) ?_
    refine b_if hx (fun h25 hx => ?_) (fun h25 hx => ?_)
    · refine mm_icmp_gt 70 dX0_isUtf8_63 (by decide) (fun _ => ?_) (fun h => absurd h25 h)
      exact e_X0_isUtf8_70 hst hZ hn hs hk2 hx
    · refine mm_icmp_gt 70 dX0_isUtf8_63 (by decide) (fun h => absurd h h25) (fun _ => ?_)
      refine mm_iconst (v := 2) dX0_isUtf8_66 (by decide) ?_
      refine mm_goto 91 dX0_isUtf8_67 (by decide) ?_
      exact e_X0_isUtf8_91 hst hZ hn hs hk2 hx
set_option maxHeartbeats 4000000 in
set_option maxRecDepth 100000 in
theorem e_X0_isUtf8_30 {g : mm_G} {l : Launch} (hst : l.stackTraces = false) {Z : Nat → Nat → Option Nat} (hZ : HZ Z) {n : Nat} (hn : 1186 ≤ n) {z : Bool} {d : Nat} {U : Nat} {a : Nat} (hs : sh a = 0) {k2 : Int32 → Option (Int32)} {v2_ : Int32} {v3_ : Int32} {v4_ : Int32} {σ : SG} {r : Int32} (hk2 : ∀ (v3_ : Int32), k2 v3_ = some r → mm_V g l RX0 "isUtf8" cX0_isUtf8 9 (some .boolean) [] (d + 1) 0 0 (mm_nt (fun v S' => v = some (.int r) ∧ S' = (mem Z σ, n, z))) 2 [some (.ref a), none, some (.int v2_), some (.int v3_), none, none, none, none, none] [] (mem Z σ, n, z) 0 0) (hx : x_X0_isUtf8_30 U a k2 v2_ v3_ v4_ σ = some r) : mm_V g l RX0 "isUtf8" cX0_isUtf8 9 (some .boolean) [] (d + 1) 0 0 (mm_nt (fun v S' => v = some (.int r) ∧ S' = (mem Z σ, n, z))) 30 [some (.ref a), none, some (.int v2_), some (.int v3_), some (.int v4_), none, none, none, none] [] (mem Z σ, n, z) 0 0 := by
  unfold x_X0_isUtf8_30 at hx
  refine mm_iload dX0_isUtf8_30 rfl ?_
  refine mm_sipush (v := 194) dX0_isUtf8_32 (by decide) ?_
  refine b_if hx (fun h5 hx => ?_) (fun h5 hx => ?_)
  · refine mm_icmp_lt 50 dX0_isUtf8_35 (by decide) (fun _ => ?_) (fun h => absurd h5 h)
    exact e_X0_isUtf8_50 hst hZ hn hs hk2 hx
  · refine mm_icmp_lt 50 dX0_isUtf8_35 (by decide) (fun h => absurd h h5) (fun _ => ?_)
    refine mm_iload dX0_isUtf8_38 rfl ?_
    refine mm_sipush (v := 223) dX0_isUtf8_40 (by decide) ?_
    refine b_if hx (fun h26 hx => ?_) (fun h26 hx => ?_)
    · refine mm_icmp_gt 50 dX0_isUtf8_43 (by decide) (fun _ => ?_) (fun h => absurd h26 h)
      exact e_X0_isUtf8_50 hst hZ hn hs hk2 hx
    · refine mm_icmp_gt 50 dX0_isUtf8_43 (by decide) (fun h => absurd h h26) (fun _ => ?_)
      refine mm_iconst (v := 1) dX0_isUtf8_46 (by decide) ?_
      refine mm_goto 91 dX0_isUtf8_47 (by decide) ?_
      exact e_X0_isUtf8_91 hst hZ hn hs hk2 hx
set_option maxHeartbeats 4000000 in
set_option maxRecDepth 100000 in
theorem e_X0_isUtf8_L2 {g : mm_G} {l : Launch} (hst : l.stackTraces = false) {Z : Nat → Nat → Option Nat} (hZ : HZ Z) {n : Nat} (hn : 1186 ≤ n) {z : Bool} {d : Nat} {U : Nat} {a : Nat} (hs : sh a = 0) {v2_ : Int32} {σ : SG} {r : Int32} : ∀ (U1 : Nat) (v3_ : Int32), x_X0_isUtf8_L2 U a v2_ σ U1 v3_ = some r → mm_V g l RX0 "isUtf8" cX0_isUtf8 9 (some .boolean) [] (d + 1) 0 0 (mm_nt (fun v S' => v = some (.int r) ∧ S' = (mem Z σ, n, z))) 2 [some (.ref a), none, some (.int v2_), some (.int v3_), none, none, none, none, none] [] (mem Z σ, n, z) 0 0 := by
  intro U1
  induction U1 with
  | zero => intro v3_ hx; exact absurd hx (by simp [x_X0_isUtf8_L2])
  | succ U1 ih =>
    intro v3_ hx
    rw [x_X0_isUtf8_L2] at hx
    refine mm_iload_n dX0_isUtf8_2 rfl ?_
    refine mm_iload_n dX0_isUtf8_3 rfl ?_
    refine b_if hx (fun h1 hx => ?_) (fun h1 hx => ?_)
    · refine mm_icmp_ge 245 dX0_isUtf8_4 (by decide) (fun h => absurd h (Int32.not_le.mpr h1)) (fun _ => ?_)
      refine mm_aload_n dX0_isUtf8_7 rfl rfl ?_
      refine mm_iload_n dX0_isUtf8_8 rfl ?_
      obtain ⟨v3, hc2, hx⟩ := b1_some hx
      refine mm_callV3 (a := a) (ci := 0) wM_X0_at kM_X0_27 wI_X0_at wS_X0_at dX0_isUtf8_9 (e_X0_at hst hZ hn hs hc2) (mem_obj hs (by decide)) (sh_ltn hs (by decide) hn) rfl rfl rfl (Nat.le_of_ble_eq_true rfl) (by omega) (by omega) (fun v9 S9 hq => ?_)
      obtain ⟨rfl, rfl⟩ := hq
      refine ⟨fun h => ⟨h, rfl⟩, ?_⟩
      refine mm_istore [some (.ref a), none, some (.int v2_), some (.int v3_), some (.int v3), none, none, none, none] dX0_isUtf8_12 (by decide) rfl ?_
      refine mm_iload dX0_isUtf8_14 rfl ?_
      refine b_if hx (fun h4 hx => ?_) (fun h4 hx => ?_)
      · refine mm_if_lt 30 dX0_isUtf8_16 (by decide) (fun _ => ?_) (fun h => absurd h4 h)
        exact e_X0_isUtf8_30 hst hZ hn hs ih hx
      · refine mm_if_lt 30 dX0_isUtf8_16 (by decide) (fun h => absurd h h4) (fun _ => ?_)
        refine mm_iload dX0_isUtf8_19 rfl ?_
        refine mm_sipush (v := 128) dX0_isUtf8_21 (by decide) ?_
        refine b_if hx (fun h27 hx => ?_) (fun h27 hx => ?_)
        · refine mm_icmp_ge 30 dX0_isUtf8_24 (by decide) (fun h => absurd h (Int32.not_le.mpr h27)) (fun _ => ?_)
          refine mm_goto 239 dX0_isUtf8_27 (by decide) ?_
          refine mm_fewer [some (.ref a), none, some (.int v2_), some (.int v3_), none, none, none, none, none] (few_ok (bs := [true, false, true, true, false, false, false, false, false]) rfl) ?_
          exact e_X0_isUtf8_239 hst hZ hn hs ih hx
        · refine mm_icmp_ge 30 dX0_isUtf8_24 (by decide) (fun _ => ?_) (fun h => absurd (Int32.not_lt.mp h27) h)
          exact e_X0_isUtf8_30 hst hZ hn hs ih hx
    · refine mm_icmp_ge 245 dX0_isUtf8_4 (by decide) (fun _ => ?_) (fun h => absurd (Int32.not_lt.mp h1) h)
      refine mm_iconst (v := 1) dX0_isUtf8_245 (by decide) ?_
      refine mm_iret dX0_isUtf8_246 rfl rfl ?_ (by omega) (by omega)
      obtain rfl := fin1 hx
      exact ⟨rfl, rfl⟩
set_option maxHeartbeats 4000000 in
set_option maxRecDepth 100000 in
theorem e_X0_isUtf8 {g : mm_G} {l : Launch} (hst : l.stackTraces = false) {Z : Nat → Nat → Option Nat} (hZ : HZ Z) {n : Nat} (hn : 1186 ≤ n) {z : Bool} {d : Nat} {U : Nat} {a : Nat} (hs : sh a = 0) {p0 : Int32} {p1 : Int32} {σ : SG} {r : Int32} (hx : x_X0_isUtf8 U a p0 p1 σ = some r) : mm_Cm g l yX0_isUtf8 (.code yX0_isUtf8 cX0_isUtf8 9 (some .boolean)) (d + 1) 0 0 [.ref a, .int p0, .int p1] (mem Z σ, n, z) (fun v S' => v = some (.int r) ∧ S' = (mem Z σ, n, z)) := by
  refine mm_Cm_of hst (by decide) (Nat.le_of_ble_eq_true rfl) ?_
  show mm_V g l RX0 "isUtf8" cX0_isUtf8 9 (some .boolean) [] (d + 1) 0 0 (mm_nt (fun v S' => v = some (.int r) ∧ S' = (mem Z σ, n, z))) 0 [some (.ref a), some (.int p0), some (.int p1), none, none, none, none, none, none] [] (mem Z σ, n, z) 0 0
  unfold x_X0_isUtf8 at hx
  refine mm_iload_n dX0_isUtf8_0 rfl ?_
  refine mm_istore_n [some (.ref a), some (.int p0), some (.int p1), some (.int p0), none, none, none, none, none] dX0_isUtf8_1 (by decide) rfl ?_
  refine mm_fewer [some (.ref a), none, some (.int p1), some (.int p0), none, none, none, none, none] (few_ok (bs := [true, false, true, true, false, false, false, false, false]) rfl) ?_
  refine e_X0_isUtf8_L2 hst hZ hn hs _ _ hx
set_option maxHeartbeats 4000000 in
set_option maxRecDepth 100000 in
theorem e_X0_size {g : mm_G} {l : Launch} (hst : l.stackTraces = false) {Z : Nat → Nat → Option Nat} (hZ : HZ Z) {n : Nat} (hn : 1186 ≤ n) {z : Bool} {d : Nat} {a : Nat} (hs : sh a = 0) {σ : SG} {r : Int32} (hx : x_X0_size a σ = some r) : mm_Cm g l yX0_size (.code yX0_size cX0_size 1 (some .int)) (d) 0 0 [.ref a] (mem Z σ, n, z) (fun v S' => v = some (.int r) ∧ S' = (mem Z σ, n, z)) := by
  refine mm_Cm_of hst (by decide) (Nat.le_of_ble_eq_true rfl) ?_
  show mm_V g l RX0 "size" cX0_size 1 (some .int) [] (d) 0 0 (mm_nt (fun v S' => v = some (.int r) ∧ S' = (mem Z σ, n, z))) 0 [some (.ref a)] [] (mem Z σ, n, z) 0 0
  unfold x_X0_size at hx
  refine mm_aload_n dX0_size_0 rfl rfl ?_
  refine s_getI (r := some a) (b := a) (ci := 0) (k := 1) in_X0 rfl (by decide) rfl kF_X0_19 dX0_size_1 rfl hs (by decide) hn (by decide) rfl ?_
  refine mm_iret dX0_size_4 rfl rfl ?_ (by omega) (by omega)
  obtain rfl := fin1 hx
  exact ⟨rfl, rfl⟩
set_option maxHeartbeats 4000000 in
set_option maxRecDepth 100000 in
theorem e_X0_wordIn_108 {g : mm_G} {l : Launch} (hst : l.stackTraces = false) {Z : Nat → Nat → Option Nat} (hZ : HZ Z) {n : Nat} (hn : 1186 ≤ n) {z : Bool} {d : Nat} {U : Nat} {a : Nat} (hs : sh a = 0) {k12 : Int32 → Int32 → Int32 → Int32 → Option (Int32)} {v1_ : Nat} {v2_ : Int32} {v3_ : Int32} {v4_ : Int32} {v5_ : Int32} {v6_ : Int32} {v7_ : Int32} {σ : SG} {r : Int32} (hk12 : ∀ (v4_ : Int32) (v5_ : Int32) (v6_ : Int32) (v7_ : Int32), k12 v4_ v5_ v6_ v7_ = some r → mm_V g l RX0 "wordIn" cX0_wordIn 9 (some .int) [] (d + 4) 0 0 (mm_nt (fun v S' => v = some (.int r) ∧ S' = (mem Z σ, n, z))) 12 [some (.ref a), some (.retAddr (v1_ + 1)), some (.int v2_), some (.int v3_), some (.int v4_), some (.int v5_), some (.int v6_), some (.int v7_), none] [] (mem Z σ, n, z) 0 0) (hx : x_X0_wordIn_108 U a k12 v1_ v2_ v3_ v4_ v5_ v6_ v7_ σ = some r) : mm_V g l RX0 "wordIn" cX0_wordIn 9 (some .int) [] (d + 4) 0 0 (mm_nt (fun v S' => v = some (.int r) ∧ S' = (mem Z σ, n, z))) 108 [some (.ref a), some (.retAddr (v1_ + 1)), some (.int v2_), some (.int v3_), some (.int v4_), some (.int v5_), some (.int v6_), some (.int v7_), none] [] (mem Z σ, n, z) 0 0 := by
  unfold x_X0_wordIn_108 at hx
  refine mm_iinc (v := v7_ + 1) [some (.ref a), some (.retAddr (v1_ + 1)), some (.int v2_), some (.int v3_), some (.int v4_), some (.int v5_), some (.int v6_), some (.int (v7_ + 1)), none] dX0_wordIn_108 rfl rfl (by decide) rfl ?_
  refine mm_goto 12 dX0_wordIn_111 (by decide) ?_
  exact hk12 _ _ _ _ hx
set_option maxHeartbeats 4000000 in
set_option maxRecDepth 100000 in
theorem e_X0_wordIn_99 {g : mm_G} {l : Launch} (hst : l.stackTraces = false) {Z : Nat → Nat → Option Nat} (hZ : HZ Z) {n : Nat} (hn : 1186 ≤ n) {z : Bool} {d : Nat} {U : Nat} {a : Nat} (hs : sh a = 0) {k12 : Int32 → Int32 → Int32 → Int32 → Option (Int32)} {v1_ : Nat} {v2_ : Int32} {v3_ : Int32} {v4_ : Int32} {v7_ : Int32} {σ : SG} {r : Int32} (hk12 : ∀ (v4_ : Int32) (v5_ : Int32) (v6_ : Int32) (v7_ : Int32), k12 v4_ v5_ v6_ v7_ = some r → mm_V g l RX0 "wordIn" cX0_wordIn 9 (some .int) [] (d + 4) 0 0 (mm_nt (fun v S' => v = some (.int r) ∧ S' = (mem Z σ, n, z))) 12 [some (.ref a), some (.retAddr (v1_ + 1)), some (.int v2_), some (.int v3_), some (.int v4_), some (.int v5_), some (.int v6_), some (.int v7_), none] [] (mem Z σ, n, z) 0 0) (hx : x_X0_wordIn_99 U a k12 v1_ v2_ v3_ v4_ v7_ σ = some r) : mm_V g l RX0 "wordIn" cX0_wordIn 9 (some .int) [] (d + 4) 0 0 (mm_nt (fun v S' => v = some (.int r) ∧ S' = (mem Z σ, n, z))) 99 [some (.ref a), some (.retAddr (v1_ + 1)), some (.int v2_), some (.int v3_), some (.int v4_), none, none, some (.int v7_), none] [] (mem Z σ, n, z) 0 0 := by
  unfold x_X0_wordIn_99 at hx
  refine mm_iinc (v := v4_ + 1) [some (.ref a), some (.retAddr (v1_ + 1)), some (.int v2_), some (.int v3_), some (.int (v4_ + 1)), none, none, some (.int v7_), none] dX0_wordIn_99 rfl rfl (by decide) rfl ?_
  refine mm_iload_n dX0_wordIn_102 rfl ?_
  refine mm_istore [some (.ref a), some (.retAddr (v1_ + 1)), some (.int v2_), some (.int v3_), some (.int (v4_ + 1)), some (.int v2_), none, some (.int v7_), none] dX0_wordIn_103 (by decide) rfl ?_
  refine mm_iconst (v := 1) dX0_wordIn_105 (by decide) ?_
  refine mm_istore [some (.ref a), some (.retAddr (v1_ + 1)), some (.int v2_), some (.int v3_), some (.int (v4_ + 1)), some (.int v2_), some (.int 1), some (.int v7_), none] dX0_wordIn_106 (by decide) rfl ?_
  exact e_X0_wordIn_108 hst hZ hn hs hk12 hx
set_option maxHeartbeats 4000000 in
set_option maxRecDepth 100000 in
theorem e_X0_wordIn_77 {g : mm_G} {l : Launch} (hst : l.stackTraces = false) {Z : Nat → Nat → Option Nat} (hZ : HZ Z) {n : Nat} (hn : 1186 ≤ n) {z : Bool} {d : Nat} {U : Nat} {a : Nat} (hs : sh a = 0) {k12 : Int32 → Int32 → Int32 → Int32 → Option (Int32)} {v1_ : Nat} {v2_ : Int32} {v3_ : Int32} {v4_ : Int32} {v5_ : Int32} {v7_ : Int32} {s0_ : Int32} {σ : SG} {r : Int32} (hk12 : ∀ (v4_ : Int32) (v5_ : Int32) (v6_ : Int32) (v7_ : Int32), k12 v4_ v5_ v6_ v7_ = some r → mm_V g l RX0 "wordIn" cX0_wordIn 9 (some .int) [] (d + 4) 0 0 (mm_nt (fun v S' => v = some (.int r) ∧ S' = (mem Z σ, n, z))) 12 [some (.ref a), some (.retAddr (v1_ + 1)), some (.int v2_), some (.int v3_), some (.int v4_), some (.int v5_), some (.int v6_), some (.int v7_), none] [] (mem Z σ, n, z) 0 0) (hx : x_X0_wordIn_77 U a k12 v1_ v2_ v3_ v4_ v5_ v7_ s0_ σ = some r) : mm_V g l RX0 "wordIn" cX0_wordIn 9 (some .int) [] (d + 4) 0 0 (mm_nt (fun v S' => v = some (.int r) ∧ S' = (mem Z σ, n, z))) 77 [some (.ref a), some (.retAddr (v1_ + 1)), some (.int v2_), some (.int v3_), some (.int v4_), some (.int v5_), none, some (.int v7_), none] [.int s0_] (mem Z σ, n, z) 0 0 := by
  unfold x_X0_wordIn_77 at hx
  refine mm_istore [some (.ref a), some (.retAddr (v1_ + 1)), some (.int v2_), some (.int v3_), some (.int v4_), some (.int v5_), some (.int s0_), some (.int v7_), none] dX0_wordIn_77 (by decide) rfl ?_
  refine mm_iinc (v := v5_ + 1) [some (.ref a), some (.retAddr (v1_ + 1)), some (.int v2_), some (.int v3_), some (.int v4_), some (.int (v5_ + 1)), some (.int s0_), some (.int v7_), none] dX0_wordIn_79 rfl rfl (by decide) rfl ?_
  refine mm_goto 108 dX0_wordIn_82 (by decide) ?_
  exact e_X0_wordIn_108 hst hZ hn hs hk12 hx
set_option maxHeartbeats 4000000 in
set_option maxRecDepth 100000 in
theorem e_X0_wordIn_76 {g : mm_G} {l : Launch} (hst : l.stackTraces = false) {Z : Nat → Nat → Option Nat} (hZ : HZ Z) {n : Nat} (hn : 1186 ≤ n) {z : Bool} {d : Nat} {U : Nat} {a : Nat} (hs : sh a = 0) {k12 : Int32 → Int32 → Int32 → Int32 → Option (Int32)} {v1_ : Nat} {v2_ : Int32} {v3_ : Int32} {v4_ : Int32} {v5_ : Int32} {v7_ : Int32} {σ : SG} {r : Int32} (hk12 : ∀ (v4_ : Int32) (v5_ : Int32) (v6_ : Int32) (v7_ : Int32), k12 v4_ v5_ v6_ v7_ = some r → mm_V g l RX0 "wordIn" cX0_wordIn 9 (some .int) [] (d + 4) 0 0 (mm_nt (fun v S' => v = some (.int r) ∧ S' = (mem Z σ, n, z))) 12 [some (.ref a), some (.retAddr (v1_ + 1)), some (.int v2_), some (.int v3_), some (.int v4_), some (.int v5_), some (.int v6_), some (.int v7_), none] [] (mem Z σ, n, z) 0 0) (hx : x_X0_wordIn_76 U a k12 v1_ v2_ v3_ v4_ v5_ v7_ σ = some r) : mm_V g l RX0 "wordIn" cX0_wordIn 9 (some .int) [] (d + 4) 0 0 (mm_nt (fun v S' => v = some (.int r) ∧ S' = (mem Z σ, n, z))) 76 [some (.ref a), some (.retAddr (v1_ + 1)), some (.int v2_), some (.int v3_), some (.int v4_), some (.int v5_), none, some (.int v7_), none] [] (mem Z σ, n, z) 0 0 := by
  unfold x_X0_wordIn_76 at hx
  refine mm_iconst (v := 0) dX0_wordIn_76 (by decide) ?_
  exact e_X0_wordIn_77 hst hZ hn hs hk12 hx
set_option maxHeartbeats 4000000 in
set_option maxRecDepth 100000 in
theorem e_X0_wordIn_41 {g : mm_G} {l : Launch} (hst : l.stackTraces = false) {Z : Nat → Nat → Option Nat} (hZ : HZ Z) {n : Nat} (hn : 1186 ≤ n) {z : Bool} {d : Nat} {U : Nat} {a : Nat} (hs : sh a = 0) {k12 : Int32 → Int32 → Int32 → Int32 → Option (Int32)} {v1_ : Nat} {v2_ : Int32} {v3_ : Int32} {v4_ : Int32} {v5_ : Int32} {v6_ : Int32} {v7_ : Int32} {s0_ : Int32} {σ : SG} {r : Int32} (hk12 : ∀ (v4_ : Int32) (v5_ : Int32) (v6_ : Int32) (v7_ : Int32), k12 v4_ v5_ v6_ v7_ = some r → mm_V g l RX0 "wordIn" cX0_wordIn 9 (some .int) [] (d + 4) 0 0 (mm_nt (fun v S' => v = some (.int r) ∧ S' = (mem Z σ, n, z))) 12 [some (.ref a), some (.retAddr (v1_ + 1)), some (.int v2_), some (.int v3_), some (.int v4_), some (.int v5_), some (.int v6_), some (.int v7_), none] [] (mem Z σ, n, z) 0 0) (hx : x_X0_wordIn_41 U a k12 v1_ v2_ v3_ v4_ v5_ v6_ v7_ s0_ σ = some r) : mm_V g l RX0 "wordIn" cX0_wordIn 9 (some .int) [] (d + 4) 0 0 (mm_nt (fun v S' => v = some (.int r) ∧ S' = (mem Z σ, n, z))) 41 [some (.ref a), some (.retAddr (v1_ + 1)), some (.int v2_), some (.int v3_), some (.int v4_), some (.int v5_), some (.int v6_), some (.int v7_), none] [.int s0_] (mem Z σ, n, z) 0 0 := by
  unfold x_X0_wordIn_41 at hx
  refine mm_istore [some (.ref a), some (.retAddr (v1_ + 1)), some (.int v2_), some (.int v3_), some (.int v4_), some (.int v5_), some (.int v6_), some (.int v7_), some (.int s0_)] dX0_wordIn_41 (by decide) rfl ?_
  refine mm_iload dX0_wordIn_43 rfl ?_
  refine mm_bipush (v := 32) dX0_wordIn_45 (by decide) ?_
  refine b_if hx (fun h7 hx => ?_) (fun h7 hx => ?_)
  · refine mm_icmp_eq 85 dX0_wordIn_47 (by decide) (fun _ => ?_) (fun h => absurd h7 h)
    refine mm_iload dX0_wordIn_85 rfl ?_
    refine b_if hx (fun h8 hx => ?_) (fun h8 hx => ?_)
    · refine mm_if_eq 99 dX0_wordIn_87 (by decide) (fun _ => ?_) (fun h => absurd h8 h)
      refine mm_fewer [some (.ref a), some (.retAddr (v1_ + 1)), some (.int v2_), some (.int v3_), some (.int v4_), none, none, some (.int v7_), none] (few_ok (bs := [true, true, true, true, true, false, false, true, false]) rfl) ?_
      exact e_X0_wordIn_99 hst hZ hn hs hk12 hx
    · refine mm_if_eq 99 dX0_wordIn_87 (by decide) (fun h => absurd h h8) (fun _ => ?_)
      refine mm_iload dX0_wordIn_90 rfl ?_
      refine mm_iload_n dX0_wordIn_92 rfl ?_
      refine b_if hx (fun h9 hx => ?_) (fun h9 hx => ?_)
      · refine mm_icmp_ne 99 dX0_wordIn_93 (by decide) (fun h => absurd h9 h) (fun _ => ?_)
        refine mm_iload dX0_wordIn_96 rfl ?_
        refine mm_iret dX0_wordIn_98 rfl rfl ?_ (by omega) (by omega)
        obtain rfl := fin1 hx
        exact ⟨rfl, rfl⟩
      · refine mm_icmp_ne 99 dX0_wordIn_93 (by decide) (fun _ => ?_) (fun h => absurd h h9)
        refine mm_fewer [some (.ref a), some (.retAddr (v1_ + 1)), some (.int v2_), some (.int v3_), some (.int v4_), none, none, some (.int v7_), none] (few_ok (bs := [true, true, true, true, true, false, false, true, false]) rfl) ?_
        exact e_X0_wordIn_99 hst hZ hn hs hk12 hx
  · refine mm_icmp_eq 85 dX0_wordIn_47 (by decide) (fun h => absurd h h7) (fun _ => ?_)
    refine mm_iload dX0_wordIn_50 rfl ?_
    refine b_if hx (fun h10 hx => ?_) (fun h10 hx => ?_)
    · refine mm_if_eq 76 dX0_wordIn_52 (by decide) (fun _ => ?_) (fun h => absurd h10 h)
      refine mm_fewer [some (.ref a), some (.retAddr (v1_ + 1)), some (.int v2_), some (.int v3_), some (.int v4_), some (.int v5_), none, some (.int v7_), none] (few_ok (bs := [true, true, true, true, true, true, false, true, false]) rfl) ?_
      exact e_X0_wordIn_76 hst hZ hn hs hk12 hx
    · refine mm_if_eq 76 dX0_wordIn_52 (by decide) (fun h => absurd h h10) (fun _ => ?_)
      refine mm_iload dX0_wordIn_55 rfl ?_
      refine mm_iload_n dX0_wordIn_57 rfl ?_
      refine b_if hx (fun h11 hx => ?_) (fun h11 hx => ?_)
      · refine mm_icmp_ge 76 dX0_wordIn_58 (by decide) (fun h => absurd h (Int32.not_le.mpr h11)) (fun _ => ?_)
        refine mm_aload_n dX0_wordIn_61 rfl rfl ?_
        refine mm_iload dX0_wordIn_62 rfl ?_
        obtain ⟨v13, hc12, hx⟩ := b1_some hx
        refine mm_callV3 (a := a) (ci := 0) wM_X0_at kM_X0_27 wI_X0_at wS_X0_at dX0_wordIn_64 (e_X0_at hst hZ hn hs hc12) (mem_obj hs (by decide)) (sh_ltn hs (by decide) hn) rfl rfl rfl (Nat.le_of_ble_eq_true rfl) (by omega) (by omega) (fun v9 S9 hq => ?_)
        obtain ⟨rfl, rfl⟩ := hq
        refine ⟨fun h => ⟨h, rfl⟩, ?_⟩
        refine mm_iload dX0_wordIn_67 rfl ?_
        refine b_if hx (fun h14 hx => ?_) (fun h14 hx => ?_)
        · refine mm_icmp_ne 76 dX0_wordIn_69 (by decide) (fun h => absurd h14 h) (fun _ => ?_)
          refine mm_iconst (v := 1) dX0_wordIn_72 (by decide) ?_
          refine mm_goto 77 dX0_wordIn_73 (by decide) ?_
          refine mm_fewer [some (.ref a), some (.retAddr (v1_ + 1)), some (.int v2_), some (.int v3_), some (.int v4_), some (.int v5_), none, some (.int v7_), none] (few_ok (bs := [true, true, true, true, true, true, false, true, false]) rfl) ?_
          exact e_X0_wordIn_77 hst hZ hn hs hk12 hx
        · refine mm_icmp_ne 76 dX0_wordIn_69 (by decide) (fun _ => ?_) (fun h => absurd h h14)
          refine mm_fewer [some (.ref a), some (.retAddr (v1_ + 1)), some (.int v2_), some (.int v3_), some (.int v4_), some (.int v5_), none, some (.int v7_), none] (few_ok (bs := [true, true, true, true, true, true, false, true, false]) rfl) ?_
          exact e_X0_wordIn_76 hst hZ hn hs hk12 hx
      · refine mm_icmp_ge 76 dX0_wordIn_58 (by decide) (fun _ => ?_) (fun h => absurd (Int32.not_lt.mp h11) h)
        refine mm_fewer [some (.ref a), some (.retAddr (v1_ + 1)), some (.int v2_), some (.int v3_), some (.int v4_), some (.int v5_), none, some (.int v7_), none] (few_ok (bs := [true, true, true, true, true, true, false, true, false]) rfl) ?_
        exact e_X0_wordIn_76 hst hZ hn hs hk12 hx
set_option maxHeartbeats 4000000 in
set_option maxRecDepth 100000 in
theorem e_X0_wordIn_L12 {g : mm_G} {l : Launch} (hst : l.stackTraces = false) {Z : Nat → Nat → Option Nat} (hZ : HZ Z) {n : Nat} (hn : 1186 ≤ n) {z : Bool} {d : Nat} {U : Nat} {a : Nat} (hs : sh a = 0) {v1_ : Nat} (hk9 : v1_ < 24) {v2_ : Int32} {v3_ : Int32} {σ : SG} {r : Int32} : ∀ (U1 : Nat) (v4_ : Int32) (v5_ : Int32) (v6_ : Int32) (v7_ : Int32), x_X0_wordIn_L12 U a v1_ v2_ v3_ σ U1 v4_ v5_ v6_ v7_ = some r → mm_V g l RX0 "wordIn" cX0_wordIn 9 (some .int) [] (d + 4) 0 0 (mm_nt (fun v S' => v = some (.int r) ∧ S' = (mem Z σ, n, z))) 12 [some (.ref a), some (.retAddr (v1_ + 1)), some (.int v2_), some (.int v3_), some (.int v4_), some (.int v5_), some (.int v6_), some (.int v7_), none] [] (mem Z σ, n, z) 0 0 := by
  intro U1
  induction U1 with
  | zero => intro v4_ v5_ v6_ v7_ hx; exact absurd hx (by simp [x_X0_wordIn_L12])
  | succ U1 ih =>
    intro v4_ v5_ v6_ v7_ hx
    rw [x_X0_wordIn_L12] at hx
    refine mm_iload dX0_wordIn_12 rfl ?_
    refine mm_aload_n dX0_wordIn_14 rfl rfl ?_
    refine mm_strlen (by first | assumption | decide) kX_X0_35 (Nat.le_of_ble_eq_true rfl) (by omega) (by omega) dX0_wordIn_15 ?_
    refine b_if hx (fun h1 hx => ?_) (fun h1 hx => ?_)
    · refine mm_icmp_gt 114 dX0_wordIn_18 (by decide) (fun _ => ?_) (fun h => absurd h1 h)
      refine mm_iconst (v := (-1)) dX0_wordIn_114 (by decide) ?_
      refine mm_iret dX0_wordIn_115 rfl rfl ?_ (by omega) (by omega)
      obtain rfl := fin1 hx
      exact ⟨rfl, rfl⟩
    · refine mm_icmp_gt 114 dX0_wordIn_18 (by decide) (fun h => absurd h h1) (fun _ => ?_)
      refine mm_iload dX0_wordIn_21 rfl ?_
      refine mm_aload_n dX0_wordIn_23 rfl rfl ?_
      refine mm_strlen (by first | assumption | decide) kX_X0_35 (Nat.le_of_ble_eq_true rfl) (by omega) (by omega) dX0_wordIn_24 ?_
      refine b_if hx (fun h2 hx => ?_) (fun h2 hx => ?_)
      · refine mm_icmp_ge 39 dX0_wordIn_27 (by decide) (fun h => absurd h (Int32.not_le.mpr h2)) (fun _ => ?_)
        refine mm_aload_n dX0_wordIn_30 rfl rfl ?_
        refine mm_iload dX0_wordIn_31 rfl ?_
        obtain ⟨j3, hj4, hb5, hl6, hx⟩ := ix_some hx
        refine mm_strchr (by first | assumption | decide) kX_X0_41 (Nat.le_of_ble_eq_true rfl) (by omega) (by omega) hj4 hb5 dX0_wordIn_33 ?_
        refine mm_goto 41 dX0_wordIn_36 (by decide) ?_
        exact e_X0_wordIn_41 hst hZ hn hs ih hx
      · refine mm_icmp_ge 39 dX0_wordIn_27 (by decide) (fun _ => ?_) (fun h => absurd (Int32.not_lt.mp h2) h)
        refine mm_bipush (v := 32) dX0_wordIn_39 (by decide) ?_
        exact e_X0_wordIn_41 hst hZ hn hs ih hx
set_option maxHeartbeats 4000000 in
set_option maxRecDepth 100000 in
theorem e_X0_wordIn {g : mm_G} {l : Launch} (hst : l.stackTraces = false) {Z : Nat → Nat → Option Nat} (hZ : HZ Z) {n : Nat} (hn : 1186 ≤ n) {z : Bool} {d : Nat} {U : Nat} {a : Nat} (hs : sh a = 0) {p0 : Nat} (hk9 : p0 < 24) {p1 : Int32} {p2 : Int32} {σ : SG} {r : Int32} (hx : x_X0_wordIn U a p0 p1 p2 σ = some r) : mm_Cm g l yX0_wordIn (.code yX0_wordIn cX0_wordIn 9 (some .int)) (d + 4) 0 0 [.ref a, .retAddr (p0 + 1), .int p1, .int p2] (mem Z σ, n, z) (fun v S' => v = some (.int r) ∧ S' = (mem Z σ, n, z)) := by
  refine mm_Cm_of hst (by decide) (Nat.le_of_ble_eq_true rfl) ?_
  show mm_V g l RX0 "wordIn" cX0_wordIn 9 (some .int) [] (d + 4) 0 0 (mm_nt (fun v S' => v = some (.int r) ∧ S' = (mem Z σ, n, z))) 0 [some (.ref a), some (.retAddr (p0 + 1)), some (.int p1), some (.int p2), none, none, none, none, none] [] (mem Z σ, n, z) 0 0
  unfold x_X0_wordIn at hx
  refine mm_iconst (v := 0) dX0_wordIn_0 (by decide) ?_
  refine mm_istore [some (.ref a), some (.retAddr (p0 + 1)), some (.int p1), some (.int p2), some (.int 0), none, none, none, none] dX0_wordIn_1 (by decide) rfl ?_
  refine mm_iload_n dX0_wordIn_3 rfl ?_
  refine mm_istore [some (.ref a), some (.retAddr (p0 + 1)), some (.int p1), some (.int p2), some (.int 0), some (.int p1), none, none, none] dX0_wordIn_4 (by decide) rfl ?_
  refine mm_iconst (v := 1) dX0_wordIn_6 (by decide) ?_
  refine mm_istore [some (.ref a), some (.retAddr (p0 + 1)), some (.int p1), some (.int p2), some (.int 0), some (.int p1), some (.int 1), none, none] dX0_wordIn_7 (by decide) rfl ?_
  refine mm_iconst (v := 0) dX0_wordIn_9 (by decide) ?_
  refine mm_istore [some (.ref a), some (.retAddr (p0 + 1)), some (.int p1), some (.int p2), some (.int 0), some (.int p1), some (.int 1), some (.int 0), none] dX0_wordIn_10 (by decide) rfl ?_
  refine e_X0_wordIn_L12 hst hZ hn hs (by first | assumption | decide) _ _ _ _ _ hx
set_option maxHeartbeats 4000000 in
set_option maxRecDepth 100000 in
theorem e_X10_digit_52 {g : mm_G} {l : Launch} (hst : l.stackTraces = false) {Z : Nat → Nat → Option Nat} (hZ : HZ Z) {n : Nat} (hn : 1186 ≤ n) {z : Bool} {d : Nat} {a : Nat} (hs : sh a = 10) {v2_ : Int32} {v3_ : Int32} {σ : SG} {r : Int32} (hx : x_X10_digit_52 a v2_ v3_ σ = some r) : mm_V g l RX10 "digit" cX10_digit 4 (some .int) [] (d + 1) 0 0 (mm_nt (fun v S' => v = some (.int r) ∧ S' = (mem Z σ, n, z))) 52 [none, none, some (.int v2_), some (.int v3_)] [] (mem Z σ, n, z) 0 0 := by
  unfold x_X10_digit_52 at hx
  refine mm_iload_n dX10_digit_52 rfl ?_
  refine mm_bipush (v := 16) dX10_digit_53 (by decide) ?_
  refine b_if hx (fun h6 hx => ?_) (fun h6 hx => ?_)
  · refine mm_icmp_ne 80 dX10_digit_55 (by decide) (fun h => absurd h6 h) (fun _ => ?_)
    refine mm_iload_n dX10_digit_58 rfl ?_
    refine mm_bipush (v := 65) dX10_digit_59 (by decide) ?_
    refine b_if hx (fun h7 hx => ?_) (fun h7 hx => ?_)
    · refine mm_icmp_lt 80 dX10_digit_61 (by decide) (fun _ => ?_) (fun h => absurd h7 h)
      refine mm_iconst (v := (-1)) dX10_digit_80 (by decide) ?_
      refine mm_iret dX10_digit_81 rfl rfl ?_ (by omega) (by omega)
      obtain rfl := fin1 hx
      exact ⟨rfl, rfl⟩
    · refine mm_icmp_lt 80 dX10_digit_61 (by decide) (fun h => absurd h h7) (fun _ => ?_)
      refine mm_iload_n dX10_digit_64 rfl ?_
      refine mm_bipush (v := 70) dX10_digit_65 (by decide) ?_
      refine b_if hx (fun h8 hx => ?_) (fun h8 hx => ?_)
      · refine mm_icmp_gt 80 dX10_digit_67 (by decide) (fun _ => ?_) (fun h => absurd h8 h)
        refine mm_iconst (v := (-1)) dX10_digit_80 (by decide) ?_
        refine mm_iret dX10_digit_81 rfl rfl ?_ (by omega) (by omega)
        obtain rfl := fin1 hx
        exact ⟨rfl, rfl⟩
      · refine mm_icmp_gt 80 dX10_digit_67 (by decide) (fun h => absurd h h8) (fun _ => ?_)
        refine mm_iload_n dX10_digit_70 rfl ?_
        refine mm_bipush (v := 65) dX10_digit_71 (by decide) ?_
        refine mm_isub dX10_digit_73 ?_
        refine mm_bipush (v := 10) dX10_digit_74 (by decide) ?_
        refine mm_iadd dX10_digit_76 ?_
        refine mm_goto 81 dX10_digit_77 (by decide) ?_
        refine mm_iret dX10_digit_81 rfl rfl ?_ (by omega) (by omega)
        obtain rfl := fin1 hx
        exact ⟨rfl, rfl⟩
  · refine mm_icmp_ne 80 dX10_digit_55 (by decide) (fun _ => ?_) (fun h => absurd h h6)
    refine mm_iconst (v := (-1)) dX10_digit_80 (by decide) ?_
    refine mm_iret dX10_digit_81 rfl rfl ?_ (by omega) (by omega)
    obtain rfl := fin1 hx
    exact ⟨rfl, rfl⟩
set_option maxHeartbeats 4000000 in
set_option maxRecDepth 100000 in
theorem e_X10_digit_26 {g : mm_G} {l : Launch} (hst : l.stackTraces = false) {Z : Nat → Nat → Option Nat} (hZ : HZ Z) {n : Nat} (hn : 1186 ≤ n) {z : Bool} {d : Nat} {a : Nat} (hs : sh a = 10) {v2_ : Int32} {v3_ : Int32} {σ : SG} {r : Int32} (hx : x_X10_digit_26 a v2_ v3_ σ = some r) : mm_V g l RX10 "digit" cX10_digit 4 (some .int) [] (d + 1) 0 0 (mm_nt (fun v S' => v = some (.int r) ∧ S' = (mem Z σ, n, z))) 26 [none, none, some (.int v2_), some (.int v3_)] [] (mem Z σ, n, z) 0 0 := by
  unfold x_X10_digit_26 at hx
  refine mm_iload_n dX10_digit_26 rfl ?_
  refine mm_bipush (v := 16) dX10_digit_27 (by decide) ?_
  refine b_if hx (fun h4 hx => ?_) (fun h4 hx => ?_)
  · refine mm_icmp_ne 52 dX10_digit_29 (by decide) (fun h => absurd h4 h) (fun _ => ?_)
    refine mm_iload_n dX10_digit_32 rfl ?_
    refine mm_bipush (v := 97) dX10_digit_33 (by decide) ?_
    refine b_if hx (fun h5 hx => ?_) (fun h5 hx => ?_)
    · refine mm_icmp_lt 52 dX10_digit_35 (by decide) (fun _ => ?_) (fun h => absurd h5 h)
      exact e_X10_digit_52 hst hZ hn hs hx
    · refine mm_icmp_lt 52 dX10_digit_35 (by decide) (fun h => absurd h h5) (fun _ => ?_)
      refine mm_iload_n dX10_digit_38 rfl ?_
      refine mm_bipush (v := 102) dX10_digit_39 (by decide) ?_
      refine b_if hx (fun h9 hx => ?_) (fun h9 hx => ?_)
      · refine mm_icmp_gt 52 dX10_digit_41 (by decide) (fun _ => ?_) (fun h => absurd h9 h)
        exact e_X10_digit_52 hst hZ hn hs hx
      · refine mm_icmp_gt 52 dX10_digit_41 (by decide) (fun h => absurd h h9) (fun _ => ?_)
        refine mm_iload_n dX10_digit_44 rfl ?_
        refine mm_bipush (v := 97) dX10_digit_45 (by decide) ?_
        refine mm_isub dX10_digit_47 ?_
        refine mm_bipush (v := 10) dX10_digit_48 (by decide) ?_
        refine mm_iadd dX10_digit_50 ?_
        refine mm_iret dX10_digit_51 rfl rfl ?_ (by omega) (by omega)
        obtain rfl := fin1 hx
        exact ⟨rfl, rfl⟩
  · refine mm_icmp_ne 52 dX10_digit_29 (by decide) (fun _ => ?_) (fun h => absurd h h4)
    exact e_X10_digit_52 hst hZ hn hs hx
set_option maxHeartbeats 4000000 in
set_option maxRecDepth 100000 in
theorem e_X10_digit {g : mm_G} {l : Launch} (hst : l.stackTraces = false) {Z : Nat → Nat → Option Nat} (hZ : HZ Z) {n : Nat} (hn : 1186 ≤ n) {z : Bool} {d : Nat} {a : Nat} (hs : sh a = 10) {p0 : Int32} {p1 : Int32} {σ : SG} {r : Int32} (hx : x_X10_digit a p0 p1 σ = some r) : mm_Cm g l yX10_digit (.code yX10_digit cX10_digit 4 (some .int)) (d + 1) 0 0 [.ref a, .int p0, .int p1] (mem Z σ, n, z) (fun v S' => v = some (.int r) ∧ S' = (mem Z σ, n, z)) := by
  refine mm_Cm_of hst (by decide) (Nat.le_of_ble_eq_true rfl) ?_
  show mm_V g l RX10 "digit" cX10_digit 4 (some .int) [] (d + 1) 0 0 (mm_nt (fun v S' => v = some (.int r) ∧ S' = (mem Z σ, n, z))) 0 [some (.ref a), some (.int p0), some (.int p1), none] [] (mem Z σ, n, z) 0 0
  unfold x_X10_digit at hx
  refine mm_aload_n dX10_digit_0 rfl rfl ?_
  refine s_getS (q := a - 184) (r := some a) (b := a) (ci := 10) (k := 0) in_X10 rfl (by decide) rfl kF_X10_9 dX10_digit_1 rfl hs (by decide) hn (by decide) rfl rfl ?_
  refine mm_iload_n dX10_digit_4 rfl ?_
  obtain ⟨v2, hc1, hx⟩ := b1_some hx
  refine mm_callV3 (a := a - 184) (ci := 0) wM_X0_at kM_X10_55 wI_X0_at wS_X0_at dX10_digit_5 (e_X0_at hst hZ hn (sv10_0 hs) hc1) (mem_obj (sv10_0 hs) (by decide)) (sh_ltn (sv10_0 hs) (by decide) hn) rfl rfl rfl (Nat.le_of_ble_eq_true rfl) (by omega) (by omega) (fun v9 S9 hq => ?_)
  obtain ⟨rfl, rfl⟩ := hq
  refine ⟨fun h => ⟨h, rfl⟩, ?_⟩
  refine mm_istore_n [some (.ref a), some (.int p0), some (.int p1), some (.int v2)] dX10_digit_8 (by decide) rfl ?_
  refine mm_iload_n dX10_digit_9 rfl ?_
  refine mm_bipush (v := 48) dX10_digit_10 (by decide) ?_
  refine b_if hx (fun h3 hx => ?_) (fun h3 hx => ?_)
  · refine mm_icmp_lt 26 dX10_digit_12 (by decide) (fun _ => ?_) (fun h => absurd h3 h)
    refine mm_fewer [none, none, some (.int p1), some (.int v2)] (few_ok (bs := [false, false, true, true]) rfl) ?_
    exact e_X10_digit_26 hst hZ hn hs hx
  · refine mm_icmp_lt 26 dX10_digit_12 (by decide) (fun h => absurd h h3) (fun _ => ?_)
    refine mm_iload_n dX10_digit_15 rfl ?_
    refine mm_bipush (v := 57) dX10_digit_16 (by decide) ?_
    refine b_if hx (fun h10 hx => ?_) (fun h10 hx => ?_)
    · refine mm_icmp_gt 26 dX10_digit_18 (by decide) (fun _ => ?_) (fun h => absurd h10 h)
      refine mm_fewer [none, none, some (.int p1), some (.int v2)] (few_ok (bs := [false, false, true, true]) rfl) ?_
      exact e_X10_digit_26 hst hZ hn hs hx
    · refine mm_icmp_gt 26 dX10_digit_18 (by decide) (fun h => absurd h h10) (fun _ => ?_)
      refine mm_iload_n dX10_digit_21 rfl ?_
      refine mm_bipush (v := 48) dX10_digit_22 (by decide) ?_
      refine mm_isub dX10_digit_24 ?_
      refine mm_iret dX10_digit_25 rfl rfl ?_ (by omega) (by omega)
      obtain rfl := fin1 hx
      exact ⟨rfl, rfl⟩
set_option maxHeartbeats 4000000 in
set_option maxRecDepth 100000 in
theorem e_X11_isWordByte_36 {g : mm_G} {l : Launch} (hst : l.stackTraces = false) {Z : Nat → Nat → Option Nat} (hZ : HZ Z) {n : Nat} (hn : 1186 ≤ n) {z : Bool} {d : Nat} {v0_ : Int32} {σ : SG} {r : Int32} (hx : x_X11_isWordByte_36 v0_ σ = some r) : mm_V g l RX11 "isWordByte" cX11_isWordByte 1 (some .boolean) [] (d) 0 0 (mm_nt (fun v S' => v = some (.int r) ∧ S' = (mem Z σ, n, z))) 36 [some (.int v0_)] [] (mem Z σ, n, z) 0 0 := by
  unfold x_X11_isWordByte_36 at hx
  refine mm_iload_n dX11_isWordByte_36 rfl ?_
  refine mm_bipush (v := 95) dX11_isWordByte_37 (by decide) ?_
  refine b_if hx (fun h4 hx => ?_) (fun h4 hx => ?_)
  · refine mm_icmp_ne 46 dX11_isWordByte_39 (by decide) (fun h => absurd h4 h) (fun _ => ?_)
    refine mm_iconst (v := 1) dX11_isWordByte_42 (by decide) ?_
    refine mm_goto 47 dX11_isWordByte_43 (by decide) ?_
    refine mm_iret dX11_isWordByte_47 rfl rfl ?_ (by omega) (by omega)
    obtain rfl := fin1 hx
    exact ⟨rfl, rfl⟩
  · refine mm_icmp_ne 46 dX11_isWordByte_39 (by decide) (fun _ => ?_) (fun h => absurd h h4)
    refine mm_iconst (v := 0) dX11_isWordByte_46 (by decide) ?_
    refine mm_iret dX11_isWordByte_47 rfl rfl ?_ (by omega) (by omega)
    obtain rfl := fin1 hx
    exact ⟨rfl, rfl⟩
set_option maxHeartbeats 4000000 in
set_option maxRecDepth 100000 in
theorem e_X11_isWordByte_24 {g : mm_G} {l : Launch} (hst : l.stackTraces = false) {Z : Nat → Nat → Option Nat} (hZ : HZ Z) {n : Nat} (hn : 1186 ≤ n) {z : Bool} {d : Nat} {v0_ : Int32} {σ : SG} {r : Int32} (hx : x_X11_isWordByte_24 v0_ σ = some r) : mm_V g l RX11 "isWordByte" cX11_isWordByte 1 (some .boolean) [] (d) 0 0 (mm_nt (fun v S' => v = some (.int r) ∧ S' = (mem Z σ, n, z))) 24 [some (.int v0_)] [] (mem Z σ, n, z) 0 0 := by
  unfold x_X11_isWordByte_24 at hx
  refine mm_iload_n dX11_isWordByte_24 rfl ?_
  refine mm_bipush (v := 48) dX11_isWordByte_25 (by decide) ?_
  refine b_if hx (fun h3 hx => ?_) (fun h3 hx => ?_)
  · refine mm_icmp_lt 36 dX11_isWordByte_27 (by decide) (fun _ => ?_) (fun h => absurd h3 h)
    exact e_X11_isWordByte_36 hst hZ hn hx
  · refine mm_icmp_lt 36 dX11_isWordByte_27 (by decide) (fun h => absurd h h3) (fun _ => ?_)
    refine mm_iload_n dX11_isWordByte_30 rfl ?_
    refine mm_bipush (v := 57) dX11_isWordByte_31 (by decide) ?_
    refine b_if hx (fun h5 hx => ?_) (fun h5 hx => ?_)
    · refine mm_icmp_le 42 dX11_isWordByte_33 (by decide) (fun h => absurd h (Int32.not_le.mpr h5)) (fun _ => ?_)
      exact e_X11_isWordByte_36 hst hZ hn hx
    · refine mm_icmp_le 42 dX11_isWordByte_33 (by decide) (fun _ => ?_) (fun h => absurd (Int32.not_lt.mp h5) h)
      refine mm_iconst (v := 1) dX11_isWordByte_42 (by decide) ?_
      refine mm_goto 47 dX11_isWordByte_43 (by decide) ?_
      refine mm_iret dX11_isWordByte_47 rfl rfl ?_ (by omega) (by omega)
      obtain rfl := fin1 hx
      exact ⟨rfl, rfl⟩
set_option maxHeartbeats 4000000 in
set_option maxRecDepth 100000 in
theorem e_X11_isWordByte_12 {g : mm_G} {l : Launch} (hst : l.stackTraces = false) {Z : Nat → Nat → Option Nat} (hZ : HZ Z) {n : Nat} (hn : 1186 ≤ n) {z : Bool} {d : Nat} {v0_ : Int32} {σ : SG} {r : Int32} (hx : x_X11_isWordByte_12 v0_ σ = some r) : mm_V g l RX11 "isWordByte" cX11_isWordByte 1 (some .boolean) [] (d) 0 0 (mm_nt (fun v S' => v = some (.int r) ∧ S' = (mem Z σ, n, z))) 12 [some (.int v0_)] [] (mem Z σ, n, z) 0 0 := by
  unfold x_X11_isWordByte_12 at hx
  refine mm_iload_n dX11_isWordByte_12 rfl ?_
  refine mm_bipush (v := 65) dX11_isWordByte_13 (by decide) ?_
  refine b_if hx (fun h2 hx => ?_) (fun h2 hx => ?_)
  · refine mm_icmp_lt 24 dX11_isWordByte_15 (by decide) (fun _ => ?_) (fun h => absurd h2 h)
    exact e_X11_isWordByte_24 hst hZ hn hx
  · refine mm_icmp_lt 24 dX11_isWordByte_15 (by decide) (fun h => absurd h h2) (fun _ => ?_)
    refine mm_iload_n dX11_isWordByte_18 rfl ?_
    refine mm_bipush (v := 90) dX11_isWordByte_19 (by decide) ?_
    refine b_if hx (fun h6 hx => ?_) (fun h6 hx => ?_)
    · refine mm_icmp_le 42 dX11_isWordByte_21 (by decide) (fun h => absurd h (Int32.not_le.mpr h6)) (fun _ => ?_)
      exact e_X11_isWordByte_24 hst hZ hn hx
    · refine mm_icmp_le 42 dX11_isWordByte_21 (by decide) (fun _ => ?_) (fun h => absurd (Int32.not_lt.mp h6) h)
      refine mm_iconst (v := 1) dX11_isWordByte_42 (by decide) ?_
      refine mm_goto 47 dX11_isWordByte_43 (by decide) ?_
      refine mm_iret dX11_isWordByte_47 rfl rfl ?_ (by omega) (by omega)
      obtain rfl := fin1 hx
      exact ⟨rfl, rfl⟩
set_option maxHeartbeats 4000000 in
set_option maxRecDepth 100000 in
theorem e_X11_isWordByte {g : mm_G} {l : Launch} (hst : l.stackTraces = false) {Z : Nat → Nat → Option Nat} (hZ : HZ Z) {n : Nat} (hn : 1186 ≤ n) {z : Bool} {d : Nat} {p0 : Int32} {σ : SG} {r : Int32} (hx : x_X11_isWordByte p0 σ = some r) : mm_Cm g l yX11_isWordByte (.code yX11_isWordByte cX11_isWordByte 1 (some .boolean)) (d) 0 0 [.int p0] (mem Z σ, n, z) (fun v S' => v = some (.int r) ∧ S' = (mem Z σ, n, z)) := by
  refine mm_Cm_of hst (by decide) (Nat.le_of_ble_eq_true rfl) ?_
  show mm_V g l RX11 "isWordByte" cX11_isWordByte 1 (some .boolean) [] (d) 0 0 (mm_nt (fun v S' => v = some (.int r) ∧ S' = (mem Z σ, n, z))) 0 [some (.int p0)] [] (mem Z σ, n, z) 0 0
  unfold x_X11_isWordByte at hx
  refine mm_iload_n dX11_isWordByte_0 rfl ?_
  refine mm_bipush (v := 97) dX11_isWordByte_1 (by decide) ?_
  refine b_if hx (fun h1 hx => ?_) (fun h1 hx => ?_)
  · refine mm_icmp_lt 12 dX11_isWordByte_3 (by decide) (fun _ => ?_) (fun h => absurd h1 h)
    exact e_X11_isWordByte_12 hst hZ hn hx
  · refine mm_icmp_lt 12 dX11_isWordByte_3 (by decide) (fun h => absurd h h1) (fun _ => ?_)
    refine mm_iload_n dX11_isWordByte_6 rfl ?_
    refine mm_bipush (v := 122) dX11_isWordByte_7 (by decide) ?_
    refine b_if hx (fun h7 hx => ?_) (fun h7 hx => ?_)
    · refine mm_icmp_le 42 dX11_isWordByte_9 (by decide) (fun h => absurd h (Int32.not_le.mpr h7)) (fun _ => ?_)
      exact e_X11_isWordByte_12 hst hZ hn hx
    · refine mm_icmp_le 42 dX11_isWordByte_9 (by decide) (fun _ => ?_) (fun h => absurd (Int32.not_lt.mp h7) h)
      refine mm_iconst (v := 1) dX11_isWordByte_42 (by decide) ?_
      refine mm_goto 47 dX11_isWordByte_43 (by decide) ?_
      refine mm_iret dX11_isWordByte_47 rfl rfl ?_ (by omega) (by omega)
      obtain rfl := fin1 hx
      exact ⟨rfl, rfl⟩
set_option maxHeartbeats 4000000 in
set_option maxRecDepth 100000 in
theorem e_X10_push {g : mm_G} {l : Launch} (hst : l.stackTraces = false) {Z : Nat → Nat → Option Nat} (hZ : HZ Z) {n : Nat} (hn : 1186 ≤ n) {z : Bool} {d : Nat} {a : Nat} (hs : sh a = 10) {p0 : Int32} {p1 : Int32} {p2 : Int32} {p3 : Int64} {σ : SG} {r : Int32} {σ' : SG} (hx : x_X10_push a p0 p1 p2 p3 σ = some (r, σ')) : mm_Cm g l yX10_push (.code yX10_push cX10_push 6 (some .int)) (d) 0 0 [.ref a, .int p0, .int p1, .int p2, .long p3] (mem Z σ, n, z) (fun v S' => v = some (.int r) ∧ S' = (mem Z σ', n, z)) := by
  refine mm_Cm_of hst (by decide) (Nat.le_of_ble_eq_true rfl) ?_
  show mm_V g l RX10 "push" cX10_push 6 (some .int) [] (d) 0 0 (mm_nt (fun v S' => v = some (.int r) ∧ S' = (mem Z σ', n, z))) 0 [some (.ref a), some (.int p0), some (.int p1), some (.int p2), some (.long p3), none] [] (mem Z σ, n, z) 0 0
  unfold x_X10_push at hx
  refine mm_aload_n dX10_push_0 rfl rfl ?_
  refine s_getI (r := some a) (b := a) (ci := 10) (k := 5) in_X10 rfl (by decide) rfl kF_X10_29 dX10_push_1 rfl hs (by decide) hn (by decide) rfl ?_
  refine b_if hx (fun h1 hx => ?_) (fun h1 hx => ?_)
  · refine mm_if_lt 55 dX10_push_4 (by decide) (fun _ => ?_) (fun h => absurd h1 h)
    refine mm_iload_n dX10_push_55 rfl ?_
    refine mm_iret dX10_push_56 rfl rfl ?_ (by omega) (by omega)
    obtain ⟨rfl, rfl⟩ := fin2 hx
    exact ⟨rfl, rfl⟩
  · refine mm_if_lt 55 dX10_push_4 (by decide) (fun h => absurd h h1) (fun _ => ?_)
    refine mm_aload_n dX10_push_7 rfl rfl ?_
    refine s_getI (r := some a) (b := a) (ci := 10) (k := 5) in_X10 rfl (by decide) rfl kF_X10_29 dX10_push_8 rfl hs (by decide) hn (by decide) rfl ?_
    refine mm_aload_n dX10_push_11 rfl rfl ?_
    refine s_getS (q := a + 1) (r := some a) (b := a) (ci := 10) (k := 1) in_X10 rfl (by decide) rfl kF_X10_15 dX10_push_12 rfl hs (by decide) hn (by decide) rfl rfl ?_
    refine s_alen (a := a + 1) (t := 0) (N := 701) (v := 701) (fun _ => rfl) (sv10_1 hs) (by decide) hn (sn10_1 hs) rfl dX10_push_15 ?_
    refine b_if hx (fun h2 hx => ?_) (fun h2 hx => ?_)
    · refine mm_icmp_ge 55 dX10_push_16 (by decide) (fun h => absurd h (Int32.not_le.mpr h2)) (fun _ => ?_)
      refine mm_aload_n dX10_push_19 rfl rfl ?_
      refine s_getI (r := some a) (b := a) (ci := 10) (k := 5) in_X10 rfl (by decide) rfl kF_X10_29 dX10_push_20 rfl hs (by decide) hn (by decide) rfl ?_
      refine mm_aload_n dX10_push_23 rfl rfl ?_
      refine s_getS (q := a + 2) (r := some a) (b := a) (ci := 10) (k := 2) in_X10 rfl (by decide) rfl kF_X10_19 dX10_push_24 rfl hs (by decide) hn (by decide) rfl rfl ?_
      refine s_alen (a := a + 2) (t := 0) (N := 701) (v := 701) (fun _ => rfl) (sv10_2 hs) (by decide) hn (sn10_2 hs) rfl dX10_push_27 ?_
      refine b_if hx (fun h3 hx => ?_) (fun h3 hx => ?_)
      · refine mm_icmp_ge 55 dX10_push_28 (by decide) (fun h => absurd h (Int32.not_le.mpr h3)) (fun _ => ?_)
        refine mm_aload_n dX10_push_31 rfl rfl ?_
        refine s_getI (r := some a) (b := a) (ci := 10) (k := 5) in_X10 rfl (by decide) rfl kF_X10_29 dX10_push_32 rfl hs (by decide) hn (by decide) rfl ?_
        refine mm_aload_n dX10_push_35 rfl rfl ?_
        refine s_getS (q := a + 3) (r := some a) (b := a) (ci := 10) (k := 3) in_X10 rfl (by decide) rfl kF_X10_22 dX10_push_36 rfl hs (by decide) hn (by decide) rfl rfl ?_
        refine s_alen (a := a + 3) (t := 0) (N := 701) (v := 701) (fun _ => rfl) (sv10_3 hs) (by decide) hn (sn10_3 hs) rfl dX10_push_39 ?_
        refine b_if hx (fun h4 hx => ?_) (fun h4 hx => ?_)
        · refine mm_icmp_ge 55 dX10_push_40 (by decide) (fun h => absurd h (Int32.not_le.mpr h4)) (fun _ => ?_)
          refine mm_aload_n dX10_push_43 rfl rfl ?_
          refine s_getI (r := some a) (b := a) (ci := 10) (k := 5) in_X10 rfl (by decide) rfl kF_X10_29 dX10_push_44 rfl hs (by decide) hn (by decide) rfl ?_
          refine mm_aload_n dX10_push_47 rfl rfl ?_
          refine s_getS (q := a + 4) (r := some a) (b := a) (ci := 10) (k := 4) in_X10 rfl (by decide) rfl kF_X10_25 dX10_push_48 rfl hs (by decide) hn (by decide) rfl rfl ?_
          refine s_alen (a := a + 4) (t := 1) (N := 701) (v := 701) (fun _ => rfl) (sv10_4 hs) (by decide) hn (sn10_4 hs) rfl dX10_push_51 ?_
          refine b_if hx (fun h5 hx => ?_) (fun h5 hx => ?_)
          · refine mm_icmp_lt 57 dX10_push_52 (by decide) (fun _ => ?_) (fun h => absurd h5 h)
            refine mm_aload_n dX10_push_57 rfl rfl ?_
            refine s_getS (q := a + 1) (r := some a) (b := a) (ci := 10) (k := 1) in_X10 rfl (by decide) rfl kF_X10_15 dX10_push_58 rfl hs (by decide) hn (by decide) rfl rfl ?_
            refine mm_aload_n dX10_push_61 rfl rfl ?_
            refine s_getI (r := some a) (b := a) (ci := 10) (k := 5) in_X10 rfl (by decide) rfl kF_X10_29 dX10_push_62 rfl hs (by decide) hn (by decide) rfl ?_
            refine mm_iload_n dX10_push_65 rfl ?_
            obtain ⟨j6, hj7, hb8, hl9, hx⟩ := ix_some hx
            refine s_iast (a := a + 1) (v := p0) (sv10_1 hs) hn hj7 hb8 (sn10_1 hs) dX10_push_66 hx (fun σ10 hx => ?_)
            refine mm_aload_n dX10_push_67 rfl rfl ?_
            refine s_getS (q := a + 2) (r := some a) (b := a) (ci := 10) (k := 2) in_X10 rfl (by decide) rfl kF_X10_19 dX10_push_68 rfl hs (by decide) hn (by decide) rfl rfl ?_
            refine mm_aload_n dX10_push_71 rfl rfl ?_
            refine s_getI (r := some a) (b := a) (ci := 10) (k := 5) in_X10 rfl (by decide) rfl kF_X10_29 dX10_push_72 rfl hs (by decide) hn (by decide) rfl ?_
            refine mm_iload_n dX10_push_75 rfl ?_
            obtain ⟨j11, hj12, hb13, hl14, hx⟩ := ix_some hx
            refine s_iast (a := a + 2) (v := p1) (sv10_2 hs) hn hj12 hb13 (sn10_2 hs) dX10_push_76 hx (fun σ15 hx => ?_)
            refine mm_aload_n dX10_push_77 rfl rfl ?_
            refine s_getS (q := a + 3) (r := some a) (b := a) (ci := 10) (k := 3) in_X10 rfl (by decide) rfl kF_X10_22 dX10_push_78 rfl hs (by decide) hn (by decide) rfl rfl ?_
            refine mm_aload_n dX10_push_81 rfl rfl ?_
            refine s_getI (r := some a) (b := a) (ci := 10) (k := 5) in_X10 rfl (by decide) rfl kF_X10_29 dX10_push_82 rfl hs (by decide) hn (by decide) rfl ?_
            refine mm_iload_n dX10_push_85 rfl ?_
            obtain ⟨j16, hj17, hb18, hl19, hx⟩ := ix_some hx
            refine s_iast (a := a + 3) (v := p2) (sv10_3 hs) hn hj17 hb18 (sn10_3 hs) dX10_push_86 hx (fun σ20 hx => ?_)
            refine mm_aload_n dX10_push_87 rfl rfl ?_
            refine s_getS (q := a + 4) (r := some a) (b := a) (ci := 10) (k := 4) in_X10 rfl (by decide) rfl kF_X10_25 dX10_push_88 rfl hs (by decide) hn (by decide) rfl rfl ?_
            refine mm_aload_n dX10_push_91 rfl rfl ?_
            refine s_getI (r := some a) (b := a) (ci := 10) (k := 5) in_X10 rfl (by decide) rfl kF_X10_29 dX10_push_92 rfl hs (by decide) hn (by decide) rfl ?_
            refine mm_lload dX10_push_95 rfl ?_
            obtain ⟨j21, hj22, hb23, hl24, hx⟩ := ix_some hx
            refine s_last (a := a + 4) (v := p3) (sv10_4 hs) hn hj22 hb23 (sn10_4 hs) dX10_push_97 hx (fun σ25 hx => ?_)
            refine mm_aload_n dX10_push_98 rfl rfl ?_
            refine mm_dup dX10_push_99 rfl ?_
            refine s_getI (r := some a) (b := a) (ci := 10) (k := 5) in_X10 rfl (by decide) rfl kF_X10_29 dX10_push_100 rfl hs (by decide) hn (by decide) rfl ?_
            refine mm_iconst (v := 1) dX10_push_103 (by decide) ?_
            refine mm_iadd dX10_push_104 ?_
            refine s_putI (v := (sI σ25 a 5) + 1) (r := some a) (b := a) (ci := 10) (k := 5) in_X10 rfl (by decide) rfl tyX10_ok nmX10 rfl kF_X10_29 dX10_push_105 (mm_fit_int _) rfl hs (by decide) hn (by decide) rfl hx (fun σ26 hx => ?_)
            refine mm_iload_n dX10_push_108 rfl ?_
            refine mm_iconst (v := 5) dX10_push_109 (by decide) ?_
            refine b_if hx (fun h27 hx => ?_) (fun h27 hx => ?_)
            · refine mm_icmp_ne 117 dX10_push_110 (by decide) (fun h => absurd h27 h) (fun _ => ?_)
              refine mm_iload_n dX10_push_113 rfl ?_
              refine mm_goto 118 dX10_push_114 (by decide) ?_
              refine mm_iret dX10_push_118 rfl rfl ?_ (by omega) (by omega)
              obtain ⟨rfl, rfl⟩ := fin2 hx
              exact ⟨rfl, rfl⟩
            · refine mm_icmp_ne 117 dX10_push_110 (by decide) (fun _ => ?_) (fun h => absurd h h27)
              refine mm_iload_n dX10_push_117 rfl ?_
              refine mm_iret dX10_push_118 rfl rfl ?_ (by omega) (by omega)
              obtain ⟨rfl, rfl⟩ := fin2 hx
              exact ⟨rfl, rfl⟩
          · refine mm_icmp_lt 57 dX10_push_52 (by decide) (fun h => absurd h h5) (fun _ => ?_)
            refine mm_iload_n dX10_push_55 rfl ?_
            refine mm_iret dX10_push_56 rfl rfl ?_ (by omega) (by omega)
            obtain ⟨rfl, rfl⟩ := fin2 hx
            exact ⟨rfl, rfl⟩
        · refine mm_icmp_ge 55 dX10_push_40 (by decide) (fun _ => ?_) (fun h => absurd (Int32.not_lt.mp h4) h)
          refine mm_iload_n dX10_push_55 rfl ?_
          refine mm_iret dX10_push_56 rfl rfl ?_ (by omega) (by omega)
          obtain ⟨rfl, rfl⟩ := fin2 hx
          exact ⟨rfl, rfl⟩
      · refine mm_icmp_ge 55 dX10_push_28 (by decide) (fun _ => ?_) (fun h => absurd (Int32.not_lt.mp h3) h)
        refine mm_iload_n dX10_push_55 rfl ?_
        refine mm_iret dX10_push_56 rfl rfl ?_ (by omega) (by omega)
        obtain ⟨rfl, rfl⟩ := fin2 hx
        exact ⟨rfl, rfl⟩
    · refine mm_icmp_ge 55 dX10_push_16 (by decide) (fun _ => ?_) (fun h => absurd (Int32.not_lt.mp h2) h)
      refine mm_iload_n dX10_push_55 rfl ?_
      refine mm_iret dX10_push_56 rfl rfl ?_ (by omega) (by omega)
      obtain ⟨rfl, rfl⟩ := fin2 hx
      exact ⟨rfl, rfl⟩
set_option maxHeartbeats 4000000 in
set_option maxRecDepth 100000 in
theorem e_X10_addNumber_L65 {g : mm_G} {l : Launch} (hst : l.stackTraces = false) {Z : Nat → Nat → Option Nat} (hZ : HZ Z) {n : Nat} (hn : 1186 ≤ n) {z : Bool} {d : Nat} {U : Nat} {a : Nat} (hs : sh a = 10) {k115 : Int64 → Int32 → Option (Int32 × SG)} {v1_ : Int32} {v2_ : Int32} {v3_ : Int32} {v4_ : Int32} {σ : SG} {r : Int32} {σ' : SG} (hk115 : ∀ (v5_ : Int64) (v7_ : Int32), k115 v5_ v7_ = some (r, σ') → mm_V g l RX10 "addNumber" cX10_addNumber 10 (some .int) [] (d + 2) 0 0 (mm_nt (fun v S' => v = some (.int r) ∧ S' = (mem Z σ', n, z))) 115 [some (.ref a), some (.int v1_), some (.int v2_), some (.int v3_), none, some (.long v5_), none, some (.int v7_), none, none] [] (mem Z σ, n, z) 0 0) : ∀ (U1 : Nat) (v5_ : Int64) (v7_ : Int32), x_X10_addNumber_L65 U a k115 v1_ v2_ v3_ v4_ σ U1 v5_ v7_ = some (r, σ') → mm_V g l RX10 "addNumber" cX10_addNumber 10 (some .int) [] (d + 2) 0 0 (mm_nt (fun v S' => v = some (.int r) ∧ S' = (mem Z σ', n, z))) 65 [some (.ref a), some (.int v1_), some (.int v2_), some (.int v3_), some (.int v4_), some (.long v5_), none, some (.int v7_), none, none] [] (mem Z σ, n, z) 0 0 := by
  intro U1
  induction U1 with
  | zero => intro v5_ v7_ hx; exact absurd hx (by simp [x_X10_addNumber_L65])
  | succ U1 ih =>
    intro v5_ v7_ hx
    rw [x_X10_addNumber_L65] at hx
    refine mm_iload dX10_addNumber_65 rfl ?_
    refine mm_aload_n dX10_addNumber_67 rfl rfl ?_
    refine s_getI (r := some a) (b := a) (ci := 10) (k := 6) in_X10 rfl (by decide) rfl kF_X10_33 dX10_addNumber_68 rfl hs (by decide) hn (by decide) rfl ?_
    refine b_if hx (fun h9 hx => ?_) (fun h9 hx => ?_)
    · refine mm_icmp_ge 115 dX10_addNumber_71 (by decide) (fun h => absurd h (Int32.not_le.mpr h9)) (fun _ => ?_)
      refine mm_aload_n dX10_addNumber_74 rfl rfl ?_
      refine mm_iload dX10_addNumber_75 rfl ?_
      refine mm_iload dX10_addNumber_77 rfl ?_
      obtain ⟨v11, hc10, hx⟩ := b1_some hx
      refine mm_callV3 (a := a) (ci := 10) wM_X10_digit kM_X10_79 wI_X10_digit wS_X10_digit dX10_addNumber_79 (e_X10_digit hst hZ hn hs hc10) (mem_obj hs (by decide)) (sh_ltn hs (by decide) hn) rfl rfl rfl (Nat.le_of_ble_eq_true rfl) (by omega) (by omega) (fun v9 S9 hq => ?_)
      obtain ⟨rfl, rfl⟩ := hq
      refine ⟨fun h => ⟨h, rfl⟩, ?_⟩
      refine b_if hx (fun h12 hx => ?_) (fun h12 hx => ?_)
      · refine mm_if_lt 115 dX10_addNumber_82 (by decide) (fun _ => ?_) (fun h => absurd h12 h)
        refine mm_fewer [some (.ref a), some (.int v1_), some (.int v2_), some (.int v3_), none, some (.long v5_), none, some (.int v7_), none, none] (few_ok (bs := [true, true, true, true, false, true, false, true, false, false]) rfl) ?_
        exact hk115 _ _ hx
      · refine mm_if_lt 115 dX10_addNumber_82 (by decide) (fun h => absurd h h12) (fun _ => ?_)
        refine mm_lload dX10_addNumber_85 rfl ?_
        refine mm_iload dX10_addNumber_87 rfl ?_
        refine mm_i2l dX10_addNumber_89 ?_
        refine mm_lmul dX10_addNumber_90 ?_
        refine mm_aload_n dX10_addNumber_91 rfl rfl ?_
        refine mm_iload dX10_addNumber_92 rfl ?_
        refine mm_iload dX10_addNumber_94 rfl ?_
        obtain ⟨v14, hc13, hx⟩ := b1_some hx
        refine mm_callV3 (a := a) (ci := 10) wM_X10_digit kM_X10_79 wI_X10_digit wS_X10_digit dX10_addNumber_96 (e_X10_digit hst hZ hn hs hc13) (mem_obj hs (by decide)) (sh_ltn hs (by decide) hn) rfl rfl rfl (Nat.le_of_ble_eq_true rfl) (by omega) (by omega) (fun v9 S9 hq => ?_)
        obtain ⟨rfl, rfl⟩ := hq
        refine ⟨fun h => ⟨h, rfl⟩, ?_⟩
        refine mm_i2l dX10_addNumber_99 ?_
        refine mm_ladd dX10_addNumber_100 ?_
        refine mm_ldc2 kL_X10_82 dX10_addNumber_101 ?_
        refine mm_mminL kX_X10_84 (Nat.le_of_ble_eq_true rfl) (by omega) (by omega) dX10_addNumber_104 ?_
        refine mm_lstore [some (.ref a), some (.int v1_), some (.int v2_), some (.int v3_), some (.int v4_), some (.long (lmin ((v5_ * (Int32.toInt64 v4_)) + (Int32.toInt64 v14)) 1099511627776)), none, some (.int v7_), none, none] dX10_addNumber_107 (by decide) rfl ?_
        refine mm_iinc (v := v7_ + 1) [some (.ref a), some (.int v1_), some (.int v2_), some (.int v3_), some (.int v4_), some (.long (lmin ((v5_ * (Int32.toInt64 v4_)) + (Int32.toInt64 v14)) 1099511627776)), none, some (.int (v7_ + 1)), none, none] dX10_addNumber_109 rfl rfl (by decide) rfl ?_
        refine mm_goto 65 dX10_addNumber_112 (by decide) ?_
        exact ih _ _ hx
    · refine mm_icmp_ge 115 dX10_addNumber_71 (by decide) (fun _ => ?_) (fun h => absurd (Int32.not_lt.mp h9) h)
      refine mm_fewer [some (.ref a), some (.int v1_), some (.int v2_), some (.int v3_), none, some (.long v5_), none, some (.int v7_), none, none] (few_ok (bs := [true, true, true, true, false, true, false, true, false, false]) rfl) ?_
      exact hk115 _ _ hx
set_option maxHeartbeats 4000000 in
set_option maxRecDepth 100000 in
theorem e_X10_addNumber_191 {g : mm_G} {l : Launch} (hst : l.stackTraces = false) {Z : Nat → Nat → Option Nat} (hZ : HZ Z) {n : Nat} (hn : 1186 ≤ n) {z : Bool} {d : Nat} {U : Nat} {a : Nat} (hs : sh a = 10) {v1_ : Int32} {v5_ : Int64} {v7_ : Int32} {s0_ : Int32} {σ : SG} {r : Int32} {σ' : SG} (hx : x_X10_addNumber_191 U a v1_ v5_ v7_ s0_ σ = some (r, σ')) : mm_V g l RX10 "addNumber" cX10_addNumber 10 (some .int) [] (d + 2) 0 0 (mm_nt (fun v S' => v = some (.int r) ∧ S' = (mem Z σ', n, z))) 191 [none, some (.int v1_), none, none, none, some (.long v5_), none, some (.int v7_), none, none] [.int s0_, .ref a] (mem Z σ, n, z) 0 0 := by
  unfold x_X10_addNumber_191 at hx
  refine mm_iload_n dX10_addNumber_191 rfl ?_
  refine mm_iload dX10_addNumber_192 rfl ?_
  refine mm_lload dX10_addNumber_194 rfl ?_
  obtain ⟨v31, σ32, hc30, hx⟩ := b2_some hx
  refine mm_callV3 (a := a) (ci := 10) wM_X10_push kM_X10_58 wI_X10_push wS_X10_push dX10_addNumber_196 (e_X10_push hst hZ hn hs hc30) (mem_obj hs (by decide)) (sh_ltn hs (by decide) hn) rfl rfl rfl (Nat.le_of_ble_eq_true rfl) (by omega) (by omega) (fun v9 S9 hq => ?_)
  obtain ⟨rfl, rfl⟩ := hq
  refine ⟨fun h => ⟨h, rfl⟩, ?_⟩
  refine mm_iret dX10_addNumber_199 rfl rfl ?_ (by omega) (by omega)
  obtain ⟨rfl, rfl⟩ := fin2 hx
  exact ⟨rfl, rfl⟩
set_option maxHeartbeats 4000000 in
set_option maxRecDepth 100000 in
theorem e_X10_addNumber_178 {g : mm_G} {l : Launch} (hst : l.stackTraces = false) {Z : Nat → Nat → Option Nat} (hZ : HZ Z) {n : Nat} (hn : 1186 ≤ n) {z : Bool} {d : Nat} {U : Nat} {a : Nat} (hs : sh a = 10) {v1_ : Int32} {v5_ : Int64} {v7_ : Int32} {s0_ : Int32} {σ : SG} {r : Int32} {σ' : SG} (hx : x_X10_addNumber_178 U a v1_ v5_ v7_ s0_ σ = some (r, σ')) : mm_V g l RX10 "addNumber" cX10_addNumber 10 (some .int) [] (d + 2) 0 0 (mm_nt (fun v S' => v = some (.int r) ∧ S' = (mem Z σ', n, z))) 178 [some (.ref a), some (.int v1_), none, none, none, some (.long v5_), none, some (.int v7_), none, none] [.int s0_] (mem Z σ, n, z) 0 0 := by
  unfold x_X10_addNumber_178 at hx
  refine mm_istore [some (.ref a), some (.int v1_), none, none, none, some (.long v5_), none, some (.int v7_), none, some (.int s0_)] dX10_addNumber_178 (by decide) rfl ?_
  refine mm_aload_n dX10_addNumber_180 rfl rfl ?_
  refine mm_iload dX10_addNumber_181 rfl ?_
  refine b_if hx (fun h29 hx => ?_) (fun h29 hx => ?_)
  · refine mm_if_eq 190 dX10_addNumber_183 (by decide) (fun _ => ?_) (fun h => absurd h29 h)
    refine mm_iconst (v := 5) dX10_addNumber_190 (by decide) ?_
    refine mm_fewer [none, some (.int v1_), none, none, none, some (.long v5_), none, some (.int v7_), none, none] (few_ok (bs := [false, true, false, false, false, true, false, true, false, false]) rfl) ?_
    exact e_X10_addNumber_191 hst hZ hn hs hx
  · refine mm_if_eq 190 dX10_addNumber_183 (by decide) (fun h => absurd h h29) (fun _ => ?_)
    refine mm_iconst (v := 2) dX10_addNumber_186 (by decide) ?_
    refine mm_goto 191 dX10_addNumber_187 (by decide) ?_
    refine mm_fewer [none, some (.int v1_), none, none, none, some (.long v5_), none, some (.int v7_), none, none] (few_ok (bs := [false, true, false, false, false, true, false, true, false, false]) rfl) ?_
    exact e_X10_addNumber_191 hst hZ hn hs hx
set_option maxHeartbeats 4000000 in
set_option maxRecDepth 100000 in
theorem e_X10_addNumber_177 {g : mm_G} {l : Launch} (hst : l.stackTraces = false) {Z : Nat → Nat → Option Nat} (hZ : HZ Z) {n : Nat} (hn : 1186 ≤ n) {z : Bool} {d : Nat} {U : Nat} {a : Nat} (hs : sh a = 10) {v1_ : Int32} {v5_ : Int64} {v7_ : Int32} {σ : SG} {r : Int32} {σ' : SG} (hx : x_X10_addNumber_177 U a v1_ v5_ v7_ σ = some (r, σ')) : mm_V g l RX10 "addNumber" cX10_addNumber 10 (some .int) [] (d + 2) 0 0 (mm_nt (fun v S' => v = some (.int r) ∧ S' = (mem Z σ', n, z))) 177 [some (.ref a), some (.int v1_), none, none, none, some (.long v5_), none, some (.int v7_), none, none] [] (mem Z σ, n, z) 0 0 := by
  unfold x_X10_addNumber_177 at hx
  refine mm_iconst (v := 0) dX10_addNumber_177 (by decide) ?_
  exact e_X10_addNumber_178 hst hZ hn hs hx
set_option maxHeartbeats 4000000 in
set_option maxRecDepth 100000 in
theorem e_X10_addNumber_145 {g : mm_G} {l : Launch} (hst : l.stackTraces = false) {Z : Nat → Nat → Option Nat} (hZ : HZ Z) {n : Nat} (hn : 1186 ≤ n) {z : Bool} {d : Nat} {U : Nat} {a : Nat} (hs : sh a = 10) {v1_ : Int32} {v3_ : Int32} {v5_ : Int64} {v7_ : Int32} {s0_ : Int32} {σ : SG} {r : Int32} {σ' : SG} (hx : x_X10_addNumber_145 U a v1_ v3_ v5_ v7_ s0_ σ = some (r, σ')) : mm_V g l RX10 "addNumber" cX10_addNumber 10 (some .int) [] (d + 2) 0 0 (mm_nt (fun v S' => v = some (.int r) ∧ S' = (mem Z σ', n, z))) 145 [some (.ref a), some (.int v1_), none, some (.int v3_), none, some (.long v5_), none, some (.int v7_), none, none] [.int s0_] (mem Z σ, n, z) 0 0 := by
  unfold x_X10_addNumber_145 at hx
  refine mm_istore [some (.ref a), some (.int v1_), none, some (.int v3_), none, some (.long v5_), none, some (.int v7_), some (.int s0_), none] dX10_addNumber_145 (by decide) rfl ?_
  refine mm_iload dX10_addNumber_147 rfl ?_
  refine mm_iload_n dX10_addNumber_149 rfl ?_
  refine b_if hx (fun h22 hx => ?_) (fun h22 hx => ?_)
  · refine mm_icmp_le 177 dX10_addNumber_150 (by decide) (fun h => absurd h (Int32.not_le.mpr h22)) (fun _ => ?_)
    refine mm_iload dX10_addNumber_153 rfl ?_
    refine b_if hx (fun h23 hx => ?_) (fun h23 hx => ?_)
    · refine mm_if_ne 177 dX10_addNumber_155 (by decide) (fun h => absurd h23 h) (fun _ => ?_)
      refine mm_aload_n dX10_addNumber_158 rfl rfl ?_
      refine s_getS (q := a - 184) (r := some a) (b := a) (ci := 10) (k := 0) in_X10 rfl (by decide) rfl kF_X10_9 dX10_addNumber_159 rfl hs (by decide) hn (by decide) rfl rfl ?_
      refine mm_iload dX10_addNumber_162 rfl ?_
      obtain ⟨v25, hc24, hx⟩ := b1_some hx
      refine mm_callV3 (a := a - 184) (ci := 0) wM_X0_at kM_X10_55 wI_X0_at wS_X0_at dX10_addNumber_164 (e_X0_at hst hZ hn (sv10_0 hs) hc24) (mem_obj (sv10_0 hs) (by decide)) (sh_ltn (sv10_0 hs) (by decide) hn) rfl rfl rfl (Nat.le_of_ble_eq_true rfl) (by omega) (by omega) (fun v9 S9 hq => ?_)
      obtain ⟨rfl, rfl⟩ := hq
      refine ⟨fun h => ⟨h, rfl⟩, ?_⟩
      obtain ⟨v27, hc26, hx⟩ := b1_some hx
      refine mm_callSN wM_X11_isWordByte kM_X10_90 wT_X11_isWordByte dX10_addNumber_167 (e_X11_isWordByte hst hZ hn hc26) rfl rfl (Nat.le_of_ble_eq_true rfl) (by omega) (by omega) (fun v9 S9 hq => ?_)
      obtain ⟨rfl, rfl⟩ := hq
      refine ⟨fun h => ⟨h, rfl⟩, ?_⟩
      refine b_if hx (fun h28 hx => ?_) (fun h28 hx => ?_)
      · refine mm_if_ne 177 dX10_addNumber_170 (by decide) (fun h => absurd h28 h) (fun _ => ?_)
        refine mm_iconst (v := 1) dX10_addNumber_173 (by decide) ?_
        refine mm_goto 178 dX10_addNumber_174 (by decide) ?_
        refine mm_fewer [some (.ref a), some (.int v1_), none, none, none, some (.long v5_), none, some (.int v7_), none, none] (few_ok (bs := [true, true, false, false, false, true, false, true, false, false]) rfl) ?_
        exact e_X10_addNumber_178 hst hZ hn hs hx
      · refine mm_if_ne 177 dX10_addNumber_170 (by decide) (fun _ => ?_) (fun h => absurd h h28)
        refine mm_fewer [some (.ref a), some (.int v1_), none, none, none, some (.long v5_), none, some (.int v7_), none, none] (few_ok (bs := [true, true, false, false, false, true, false, true, false, false]) rfl) ?_
        exact e_X10_addNumber_177 hst hZ hn hs hx
    · refine mm_if_ne 177 dX10_addNumber_155 (by decide) (fun _ => ?_) (fun h => absurd h h23)
      refine mm_fewer [some (.ref a), some (.int v1_), none, none, none, some (.long v5_), none, some (.int v7_), none, none] (few_ok (bs := [true, true, false, false, false, true, false, true, false, false]) rfl) ?_
      exact e_X10_addNumber_177 hst hZ hn hs hx
  · refine mm_icmp_le 177 dX10_addNumber_150 (by decide) (fun _ => ?_) (fun h => absurd (Int32.not_lt.mp h22) h)
    refine mm_fewer [some (.ref a), some (.int v1_), none, none, none, some (.long v5_), none, some (.int v7_), none, none] (few_ok (bs := [true, true, false, false, false, true, false, true, false, false]) rfl) ?_
    exact e_X10_addNumber_177 hst hZ hn hs hx
set_option maxHeartbeats 4000000 in
set_option maxRecDepth 100000 in
theorem e_X10_addNumber_144 {g : mm_G} {l : Launch} (hst : l.stackTraces = false) {Z : Nat → Nat → Option Nat} (hZ : HZ Z) {n : Nat} (hn : 1186 ≤ n) {z : Bool} {d : Nat} {U : Nat} {a : Nat} (hs : sh a = 10) {v1_ : Int32} {v3_ : Int32} {v5_ : Int64} {v7_ : Int32} {σ : SG} {r : Int32} {σ' : SG} (hx : x_X10_addNumber_144 U a v1_ v3_ v5_ v7_ σ = some (r, σ')) : mm_V g l RX10 "addNumber" cX10_addNumber 10 (some .int) [] (d + 2) 0 0 (mm_nt (fun v S' => v = some (.int r) ∧ S' = (mem Z σ', n, z))) 144 [some (.ref a), some (.int v1_), none, some (.int v3_), none, some (.long v5_), none, some (.int v7_), none, none] [] (mem Z σ, n, z) 0 0 := by
  unfold x_X10_addNumber_144 at hx
  refine mm_iconst (v := 0) dX10_addNumber_144 (by decide) ?_
  exact e_X10_addNumber_145 hst hZ hn hs hx
set_option maxHeartbeats 4000000 in
set_option maxRecDepth 100000 in
theorem e_X10_addNumber_115 {g : mm_G} {l : Launch} (hst : l.stackTraces = false) {Z : Nat → Nat → Option Nat} (hZ : HZ Z) {n : Nat} (hn : 1186 ≤ n) {z : Bool} {d : Nat} {U : Nat} {a : Nat} (hs : sh a = 10) {v1_ : Int32} {v2_ : Int32} {v3_ : Int32} {v5_ : Int64} {v7_ : Int32} {σ : SG} {r : Int32} {σ' : SG} (hx : x_X10_addNumber_115 U a v1_ v2_ v3_ v5_ v7_ σ = some (r, σ')) : mm_V g l RX10 "addNumber" cX10_addNumber 10 (some .int) [] (d + 2) 0 0 (mm_nt (fun v S' => v = some (.int r) ∧ S' = (mem Z σ', n, z))) 115 [some (.ref a), some (.int v1_), some (.int v2_), some (.int v3_), none, some (.long v5_), none, some (.int v7_), none, none] [] (mem Z σ, n, z) 0 0 := by
  unfold x_X10_addNumber_115 at hx
  refine mm_iload_n dX10_addNumber_115 rfl ?_
  refine b_if hx (fun h17 hx => ?_) (fun h17 hx => ?_)
  · refine mm_if_ne 144 dX10_addNumber_116 (by decide) (fun h => absurd h17 h) (fun _ => ?_)
    refine mm_aload_n dX10_addNumber_119 rfl rfl ?_
    refine s_getS (q := a - 184) (r := some a) (b := a) (ci := 10) (k := 0) in_X10 rfl (by decide) rfl kF_X10_9 dX10_addNumber_120 rfl hs (by decide) hn (by decide) rfl rfl ?_
    refine mm_iload_n dX10_addNumber_123 rfl ?_
    obtain ⟨v19, hc18, hx⟩ := b1_some hx
    refine mm_callV3 (a := a - 184) (ci := 0) wM_X0_at kM_X10_55 wI_X0_at wS_X0_at dX10_addNumber_124 (e_X0_at hst hZ hn (sv10_0 hs) hc18) (mem_obj (sv10_0 hs) (by decide)) (sh_ltn (sv10_0 hs) (by decide) hn) rfl rfl rfl (Nat.le_of_ble_eq_true rfl) (by omega) (by omega) (fun v9 S9 hq => ?_)
    obtain ⟨rfl, rfl⟩ := hq
    refine ⟨fun h => ⟨h, rfl⟩, ?_⟩
    refine mm_bipush (v := 48) dX10_addNumber_127 (by decide) ?_
    refine b_if hx (fun h20 hx => ?_) (fun h20 hx => ?_)
    · refine mm_icmp_ne 144 dX10_addNumber_129 (by decide) (fun h => absurd h20 h) (fun _ => ?_)
      refine mm_iload dX10_addNumber_132 rfl ?_
      refine mm_iload_n dX10_addNumber_134 rfl ?_
      refine mm_iconst (v := 1) dX10_addNumber_135 (by decide) ?_
      refine mm_iadd dX10_addNumber_136 ?_
      refine b_if hx (fun h21 hx => ?_) (fun h21 hx => ?_)
      · refine mm_icmp_le 144 dX10_addNumber_137 (by decide) (fun h => absurd h (Int32.not_le.mpr h21)) (fun _ => ?_)
        refine mm_iconst (v := 1) dX10_addNumber_140 (by decide) ?_
        refine mm_goto 145 dX10_addNumber_141 (by decide) ?_
        refine mm_fewer [some (.ref a), some (.int v1_), none, some (.int v3_), none, some (.long v5_), none, some (.int v7_), none, none] (few_ok (bs := [true, true, false, true, false, true, false, true, false, false]) rfl) ?_
        exact e_X10_addNumber_145 hst hZ hn hs hx
      · refine mm_icmp_le 144 dX10_addNumber_137 (by decide) (fun _ => ?_) (fun h => absurd (Int32.not_lt.mp h21) h)
        refine mm_fewer [some (.ref a), some (.int v1_), none, some (.int v3_), none, some (.long v5_), none, some (.int v7_), none, none] (few_ok (bs := [true, true, false, true, false, true, false, true, false, false]) rfl) ?_
        exact e_X10_addNumber_144 hst hZ hn hs hx
    · refine mm_icmp_ne 144 dX10_addNumber_129 (by decide) (fun _ => ?_) (fun h => absurd h h20)
      refine mm_fewer [some (.ref a), some (.int v1_), none, some (.int v3_), none, some (.long v5_), none, some (.int v7_), none, none] (few_ok (bs := [true, true, false, true, false, true, false, true, false, false]) rfl) ?_
      exact e_X10_addNumber_144 hst hZ hn hs hx
  · refine mm_if_ne 144 dX10_addNumber_116 (by decide) (fun _ => ?_) (fun h => absurd h h17)
    refine mm_fewer [some (.ref a), some (.int v1_), none, some (.int v3_), none, some (.long v5_), none, some (.int v7_), none, none] (few_ok (bs := [true, true, false, true, false, true, false, true, false, false]) rfl) ?_
    exact e_X10_addNumber_144 hst hZ hn hs hx
set_option maxHeartbeats 4000000 in
set_option maxRecDepth 100000 in
theorem e_X10_addNumber_57 {g : mm_G} {l : Launch} (hst : l.stackTraces = false) {Z : Nat → Nat → Option Nat} (hZ : HZ Z) {n : Nat} (hn : 1186 ≤ n) {z : Bool} {d : Nat} {U : Nat} {a : Nat} (hs : sh a = 10) {v1_ : Int32} {v2_ : Int32} {v3_ : Int32} {s0_ : Int32} {σ : SG} {r : Int32} {σ' : SG} (hx : x_X10_addNumber_57 U a v1_ v2_ v3_ s0_ σ = some (r, σ')) : mm_V g l RX10 "addNumber" cX10_addNumber 10 (some .int) [] (d + 2) 0 0 (mm_nt (fun v S' => v = some (.int r) ∧ S' = (mem Z σ', n, z))) 57 [some (.ref a), some (.int v1_), some (.int v2_), some (.int v3_), none, none, none, none, none, none] [.int s0_] (mem Z σ, n, z) 0 0 := by
  unfold x_X10_addNumber_57 at hx
  refine mm_istore [some (.ref a), some (.int v1_), some (.int v2_), some (.int v3_), some (.int s0_), none, none, none, none, none] dX10_addNumber_57 (by decide) rfl ?_
  refine mm_lconst (v := 0) dX10_addNumber_59 (by decide) ?_
  refine mm_lstore [some (.ref a), some (.int v1_), some (.int v2_), some (.int v3_), some (.int s0_), some (.long 0), none, none, none, none] dX10_addNumber_60 (by decide) rfl ?_
  refine mm_iload_n dX10_addNumber_62 rfl ?_
  refine mm_istore [some (.ref a), some (.int v1_), some (.int v2_), some (.int v3_), some (.int s0_), some (.long 0), none, some (.int v3_), none, none] dX10_addNumber_63 (by decide) rfl ?_
  refine e_X10_addNumber_L65 hst hZ hn hs ?_ _ _ _ hx
  · intro w15 w16 hx
    exact e_X10_addNumber_115 hst hZ hn hs hx
set_option maxHeartbeats 4000000 in
set_option maxRecDepth 100000 in
theorem e_X10_addNumber_45 {g : mm_G} {l : Launch} (hst : l.stackTraces = false) {Z : Nat → Nat → Option Nat} (hZ : HZ Z) {n : Nat} (hn : 1186 ≤ n) {z : Bool} {d : Nat} {U : Nat} {a : Nat} (hs : sh a = 10) {v1_ : Int32} {v2_ : Int32} {s0_ : Int32} {σ : SG} {r : Int32} {σ' : SG} (hx : x_X10_addNumber_45 U a v1_ v2_ s0_ σ = some (r, σ')) : mm_V g l RX10 "addNumber" cX10_addNumber 10 (some .int) [] (d + 2) 0 0 (mm_nt (fun v S' => v = some (.int r) ∧ S' = (mem Z σ', n, z))) 45 [some (.ref a), some (.int v1_), some (.int v2_), none, none, none, none, none, none, none] [.int s0_] (mem Z σ, n, z) 0 0 := by
  unfold x_X10_addNumber_45 at hx
  refine mm_istore_n [some (.ref a), some (.int v1_), some (.int v2_), some (.int s0_), none, none, none, none, none, none] dX10_addNumber_45 (by decide) rfl ?_
  refine mm_iload_n dX10_addNumber_46 rfl ?_
  refine b_if hx (fun h8 hx => ?_) (fun h8 hx => ?_)
  · refine mm_if_eq 55 dX10_addNumber_47 (by decide) (fun _ => ?_) (fun h => absurd h8 h)
    refine mm_bipush (v := 10) dX10_addNumber_55 (by decide) ?_
    exact e_X10_addNumber_57 hst hZ hn hs hx
  · refine mm_if_eq 55 dX10_addNumber_47 (by decide) (fun h => absurd h h8) (fun _ => ?_)
    refine mm_bipush (v := 16) dX10_addNumber_50 (by decide) ?_
    refine mm_goto 57 dX10_addNumber_52 (by decide) ?_
    exact e_X10_addNumber_57 hst hZ hn hs hx
set_option maxHeartbeats 4000000 in
set_option maxRecDepth 100000 in
theorem e_X10_addNumber_33 {g : mm_G} {l : Launch} (hst : l.stackTraces = false) {Z : Nat → Nat → Option Nat} (hZ : HZ Z) {n : Nat} (hn : 1186 ≤ n) {z : Bool} {d : Nat} {U : Nat} {a : Nat} (hs : sh a = 10) {v1_ : Int32} {s0_ : Int32} {σ : SG} {r : Int32} {σ' : SG} (hx : x_X10_addNumber_33 U a v1_ s0_ σ = some (r, σ')) : mm_V g l RX10 "addNumber" cX10_addNumber 10 (some .int) [] (d + 2) 0 0 (mm_nt (fun v S' => v = some (.int r) ∧ S' = (mem Z σ', n, z))) 33 [some (.ref a), some (.int v1_), none, none, none, none, none, none, none, none] [.int s0_] (mem Z σ, n, z) 0 0 := by
  unfold x_X10_addNumber_33 at hx
  refine mm_istore_n [some (.ref a), some (.int v1_), some (.int s0_), none, none, none, none, none, none, none] dX10_addNumber_33 (by decide) rfl ?_
  refine mm_iload_n dX10_addNumber_34 rfl ?_
  refine b_if hx (fun h7 hx => ?_) (fun h7 hx => ?_)
  · refine mm_if_eq 44 dX10_addNumber_35 (by decide) (fun _ => ?_) (fun h => absurd h7 h)
    refine mm_iload_n dX10_addNumber_44 rfl ?_
    exact e_X10_addNumber_45 hst hZ hn hs hx
  · refine mm_if_eq 44 dX10_addNumber_35 (by decide) (fun h => absurd h h7) (fun _ => ?_)
    refine mm_iload_n dX10_addNumber_38 rfl ?_
    refine mm_iconst (v := 2) dX10_addNumber_39 (by decide) ?_
    refine mm_iadd dX10_addNumber_40 ?_
    refine mm_goto 45 dX10_addNumber_41 (by decide) ?_
    exact e_X10_addNumber_45 hst hZ hn hs hx
set_option maxHeartbeats 4000000 in
set_option maxRecDepth 100000 in
theorem e_X10_addNumber_32 {g : mm_G} {l : Launch} (hst : l.stackTraces = false) {Z : Nat → Nat → Option Nat} (hZ : HZ Z) {n : Nat} (hn : 1186 ≤ n) {z : Bool} {d : Nat} {U : Nat} {a : Nat} (hs : sh a = 10) {v1_ : Int32} {σ : SG} {r : Int32} {σ' : SG} (hx : x_X10_addNumber_32 U a v1_ σ = some (r, σ')) : mm_V g l RX10 "addNumber" cX10_addNumber 10 (some .int) [] (d + 2) 0 0 (mm_nt (fun v S' => v = some (.int r) ∧ S' = (mem Z σ', n, z))) 32 [some (.ref a), some (.int v1_), none, none, none, none, none, none, none, none] [] (mem Z σ, n, z) 0 0 := by
  unfold x_X10_addNumber_32 at hx
  refine mm_iconst (v := 0) dX10_addNumber_32 (by decide) ?_
  exact e_X10_addNumber_33 hst hZ hn hs hx
set_option maxHeartbeats 4000000 in
set_option maxRecDepth 100000 in
theorem e_X10_addNumber {g : mm_G} {l : Launch} (hst : l.stackTraces = false) {Z : Nat → Nat → Option Nat} (hZ : HZ Z) {n : Nat} (hn : 1186 ≤ n) {z : Bool} {d : Nat} {U : Nat} {a : Nat} (hs : sh a = 10) {p0 : Int32} {σ : SG} {r : Int32} {σ' : SG} (hx : x_X10_addNumber U a p0 σ = some (r, σ')) : mm_Cm g l yX10_addNumber (.code yX10_addNumber cX10_addNumber 10 (some .int)) (d + 2) 0 0 [.ref a, .int p0] (mem Z σ, n, z) (fun v S' => v = some (.int r) ∧ S' = (mem Z σ', n, z)) := by
  refine mm_Cm_of hst (by decide) (Nat.le_of_ble_eq_true rfl) ?_
  show mm_V g l RX10 "addNumber" cX10_addNumber 10 (some .int) [] (d + 2) 0 0 (mm_nt (fun v S' => v = some (.int r) ∧ S' = (mem Z σ', n, z))) 0 [some (.ref a), some (.int p0), none, none, none, none, none, none, none, none] [] (mem Z σ, n, z) 0 0
  unfold x_X10_addNumber at hx
  refine mm_aload_n dX10_addNumber_0 rfl rfl ?_
  refine s_getS (q := a - 184) (r := some a) (b := a) (ci := 10) (k := 0) in_X10 rfl (by decide) rfl kF_X10_9 dX10_addNumber_1 rfl hs (by decide) hn (by decide) rfl rfl ?_
  refine mm_iload_n dX10_addNumber_4 rfl ?_
  obtain ⟨v2, hc1, hx⟩ := b1_some hx
  refine mm_callV3 (a := a - 184) (ci := 0) wM_X0_at kM_X10_55 wI_X0_at wS_X0_at dX10_addNumber_5 (e_X0_at hst hZ hn (sv10_0 hs) hc1) (mem_obj (sv10_0 hs) (by decide)) (sh_ltn (sv10_0 hs) (by decide) hn) rfl rfl rfl (Nat.le_of_ble_eq_true rfl) (by omega) (by omega) (fun v9 S9 hq => ?_)
  obtain ⟨rfl, rfl⟩ := hq
  refine ⟨fun h => ⟨h, rfl⟩, ?_⟩
  refine mm_bipush (v := 48) dX10_addNumber_8 (by decide) ?_
  refine b_if hx (fun h3 hx => ?_) (fun h3 hx => ?_)
  · refine mm_icmp_ne 32 dX10_addNumber_10 (by decide) (fun h => absurd h3 h) (fun _ => ?_)
    refine mm_aload_n dX10_addNumber_13 rfl rfl ?_
    refine s_getS (q := a - 184) (r := some a) (b := a) (ci := 10) (k := 0) in_X10 rfl (by decide) rfl kF_X10_9 dX10_addNumber_14 rfl hs (by decide) hn (by decide) rfl rfl ?_
    refine mm_iload_n dX10_addNumber_17 rfl ?_
    refine mm_iconst (v := 1) dX10_addNumber_18 (by decide) ?_
    refine mm_iadd dX10_addNumber_19 ?_
    obtain ⟨v5, hc4, hx⟩ := b1_some hx
    refine mm_callV3 (a := a - 184) (ci := 0) wM_X0_at kM_X10_55 wI_X0_at wS_X0_at dX10_addNumber_20 (e_X0_at hst hZ hn (sv10_0 hs) hc4) (mem_obj (sv10_0 hs) (by decide)) (sh_ltn (sv10_0 hs) (by decide) hn) rfl rfl rfl (Nat.le_of_ble_eq_true rfl) (by omega) (by omega) (fun v9 S9 hq => ?_)
    obtain ⟨rfl, rfl⟩ := hq
    refine ⟨fun h => ⟨h, rfl⟩, ?_⟩
    refine mm_bipush (v := 120) dX10_addNumber_23 (by decide) ?_
    refine b_if hx (fun h6 hx => ?_) (fun h6 hx => ?_)
    · refine mm_icmp_ne 32 dX10_addNumber_25 (by decide) (fun h => absurd h6 h) (fun _ => ?_)
      refine mm_iconst (v := 1) dX10_addNumber_28 (by decide) ?_
      refine mm_goto 33 dX10_addNumber_29 (by decide) ?_
      exact e_X10_addNumber_33 hst hZ hn hs hx
    · refine mm_icmp_ne 32 dX10_addNumber_25 (by decide) (fun _ => ?_) (fun h => absurd h h6)
      exact e_X10_addNumber_32 hst hZ hn hs hx
  · refine mm_icmp_ne 32 dX10_addNumber_10 (by decide) (fun _ => ?_) (fun h => absurd h h3)
    exact e_X10_addNumber_32 hst hZ hn hs hx
set_option maxHeartbeats 4000000 in
set_option maxRecDepth 100000 in
theorem e_X10_codeBetween {g : mm_G} {l : Launch} (hst : l.stackTraces = false) {Z : Nat → Nat → Option Nat} (hZ : HZ Z) {n : Nat} (hn : 1186 ≤ n) {z : Bool} {d : Nat} {U : Nat} {a : Nat} (hs : sh a = 10) {p0 : Int32} {p1 : Int32} {σ : SG} {r : Int32} (hx : x_X10_codeBetween U a p0 p1 σ = some r) : mm_Cm g l yX10_codeBetween (.code yX10_codeBetween cX10_codeBetween 5 (some .int)) (d + 5) 0 0 [.ref a, .int p0, .int p1] (mem Z σ, n, z) (fun v S' => v = some (.int r) ∧ S' = (mem Z σ, n, z)) := by
  refine mm_Cm_of hst (by decide) (Nat.le_of_ble_eq_true rfl) ?_
  show mm_V g l RX10 "codeBetween" cX10_codeBetween 5 (some .int) [] (d + 5) 0 0 (mm_nt (fun v S' => v = some (.int r) ∧ S' = (mem Z σ, n, z))) 0 [some (.ref a), some (.int p0), some (.int p1), none, none] [] (mem Z σ, n, z) 0 0
  unfold x_X10_codeBetween at hx
  refine mm_aload_n dX10_codeBetween_0 rfl rfl ?_
  refine s_getS (q := a - 184) (r := some a) (b := a) (ci := 10) (k := 0) in_X10 rfl (by decide) rfl kF_X10_9 dX10_codeBetween_1 rfl hs (by decide) hn (by decide) rfl rfl ?_
  refine mm_ldcS (k := 3) rfl dX10_codeBetween_4 ?_
  refine mm_iload_n dX10_codeBetween_6 rfl ?_
  refine mm_iload_n dX10_codeBetween_7 rfl ?_
  obtain ⟨v2, hc1, hx⟩ := b1_some hx
  refine mm_callV3 (a := a - 184) (ci := 0) wM_X0_wordIn kM_X10_95 wI_X0_wordIn wS_X0_wordIn dX10_codeBetween_8 (e_X0_wordIn hst hZ hn (sv10_0 hs) (by first | assumption | decide) hc1) (mem_obj (sv10_0 hs) (by decide)) (sh_ltn (sv10_0 hs) (by decide) hn) rfl rfl rfl (Nat.le_of_ble_eq_true rfl) (by omega) (by omega) (fun v9 S9 hq => ?_)
  obtain ⟨rfl, rfl⟩ := hq
  refine ⟨fun h => ⟨h, rfl⟩, ?_⟩
  refine mm_istore_n [some (.ref a), some (.int p0), some (.int p1), some (.int v2), none] dX10_codeBetween_11 (by decide) rfl ?_
  refine mm_iload_n dX10_codeBetween_12 rfl ?_
  refine b_if hx (fun h3 hx => ?_) (fun h3 hx => ?_)
  · refine mm_if_lt 18 dX10_codeBetween_13 (by decide) (fun _ => ?_) (fun h => absurd h3 h)
    refine mm_aload_n dX10_codeBetween_18 rfl rfl ?_
    refine s_getS (q := a - 184) (r := some a) (b := a) (ci := 10) (k := 0) in_X10 rfl (by decide) rfl kF_X10_9 dX10_codeBetween_19 rfl hs (by decide) hn (by decide) rfl rfl ?_
    refine mm_ldcS (k := 4) rfl dX10_codeBetween_22 ?_
    refine mm_iload_n dX10_codeBetween_24 rfl ?_
    refine mm_iload_n dX10_codeBetween_25 rfl ?_
    obtain ⟨v5, hc4, hx⟩ := b1_some hx
    refine mm_callV3 (a := a - 184) (ci := 0) wM_X0_wordIn kM_X10_95 wI_X0_wordIn wS_X0_wordIn dX10_codeBetween_26 (e_X0_wordIn hst hZ hn (sv10_0 hs) (by first | assumption | decide) hc4) (mem_obj (sv10_0 hs) (by decide)) (sh_ltn (sv10_0 hs) (by decide) hn) rfl rfl rfl (Nat.le_of_ble_eq_true rfl) (by omega) (by omega) (fun v9 S9 hq => ?_)
    obtain ⟨rfl, rfl⟩ := hq
    refine ⟨fun h => ⟨h, rfl⟩, ?_⟩
    refine mm_istore [some (.ref a), some (.int p0), some (.int p1), some (.int v2), some (.int v5)] dX10_codeBetween_29 (by decide) rfl ?_
    refine mm_iload dX10_codeBetween_31 rfl ?_
    refine b_if hx (fun h6 hx => ?_) (fun h6 hx => ?_)
    · refine mm_if_lt 42 dX10_codeBetween_33 (by decide) (fun _ => ?_) (fun h => absurd h6 h)
      refine mm_aload_n dX10_codeBetween_42 rfl rfl ?_
      refine s_getS (q := a - 184) (r := some a) (b := a) (ci := 10) (k := 0) in_X10 rfl (by decide) rfl kF_X10_9 dX10_codeBetween_43 rfl hs (by decide) hn (by decide) rfl rfl ?_
      refine mm_ldcS (k := 5) rfl dX10_codeBetween_46 ?_
      refine mm_iload_n dX10_codeBetween_48 rfl ?_
      refine mm_iload_n dX10_codeBetween_49 rfl ?_
      obtain ⟨v8, hc7, hx⟩ := b1_some hx
      refine mm_callV3 (a := a - 184) (ci := 0) wM_X0_wordIn kM_X10_95 wI_X0_wordIn wS_X0_wordIn dX10_codeBetween_50 (e_X0_wordIn hst hZ hn (sv10_0 hs) (by first | assumption | decide) hc7) (mem_obj (sv10_0 hs) (by decide)) (sh_ltn (sv10_0 hs) (by decide) hn) rfl rfl rfl (Nat.le_of_ble_eq_true rfl) (by omega) (by omega) (fun v9 S9 hq => ?_)
      obtain ⟨rfl, rfl⟩ := hq
      refine ⟨fun h => ⟨h, rfl⟩, ?_⟩
      refine b_if hx (fun h9 hx => ?_) (fun h9 hx => ?_)
      · refine mm_if_lt 61 dX10_codeBetween_53 (by decide) (fun _ => ?_) (fun h => absurd h9 h)
        refine mm_iconst (v := (-1)) dX10_codeBetween_61 (by decide) ?_
        refine mm_iret dX10_codeBetween_62 rfl rfl ?_ (by omega) (by omega)
        obtain rfl := fin1 hx
        exact ⟨rfl, rfl⟩
      · refine mm_if_lt 61 dX10_codeBetween_53 (by decide) (fun h => absurd h h9) (fun _ => ?_)
        refine mm_bipush (v := 40) dX10_codeBetween_56 (by decide) ?_
        refine mm_goto 62 dX10_codeBetween_58 (by decide) ?_
        refine mm_iret dX10_codeBetween_62 rfl rfl ?_ (by omega) (by omega)
        obtain rfl := fin1 hx
        exact ⟨rfl, rfl⟩
    · refine mm_if_lt 42 dX10_codeBetween_33 (by decide) (fun h => absurd h h6) (fun _ => ?_)
      refine mm_bipush (v := 20) dX10_codeBetween_36 (by decide) ?_
      refine mm_iload dX10_codeBetween_38 rfl ?_
      refine mm_iadd dX10_codeBetween_40 ?_
      refine mm_iret dX10_codeBetween_41 rfl rfl ?_ (by omega) (by omega)
      obtain rfl := fin1 hx
      exact ⟨rfl, rfl⟩
  · refine mm_if_lt 18 dX10_codeBetween_13 (by decide) (fun h => absurd h h3) (fun _ => ?_)
    refine mm_iload_n dX10_codeBetween_16 rfl ?_
    refine mm_iret dX10_codeBetween_17 rfl rfl ?_ (by omega) (by omega)
    obtain rfl := fin1 hx
    exact ⟨rfl, rfl⟩
set_option maxHeartbeats 4000000 in
set_option maxRecDepth 100000 in
theorem e_X10_addText_L4 {g : mm_G} {l : Launch} (hst : l.stackTraces = false) {Z : Nat → Nat → Option Nat} (hZ : HZ Z) {n : Nat} (hn : 1186 ≤ n) {z : Bool} {d : Nat} {U : Nat} {a : Nat} (hs : sh a = 10) {k27 : Int32 → Option (Int32 × SG)} {k64 : Option (Int32 × SG)} {k73 : Option (Int32 × SG)} {v1_ : Int32} {σ : SG} {r : Int32} {σ' : SG} (hk27 : ∀ (v2_ : Int32), k27 v2_ = some (r, σ') → mm_V g l RX10 "addText" cX10_addText 4 (some .int) [] (d + 6) 0 0 (mm_nt (fun v S' => v = some (.int r) ∧ S' = (mem Z σ', n, z))) 27 [some (.ref a), some (.int v1_), some (.int v2_), none] [] (mem Z σ, n, z) 0 0) (hk64 : k64 = some (r, σ') → mm_V g l RX10 "addText" cX10_addText 4 (some .int) [] (d + 6) 0 0 (mm_nt (fun v S' => v = some (.int r) ∧ S' = (mem Z σ', n, z))) 64 [some (.ref a), some (.int v1_), none, none] [] (mem Z σ, n, z) 0 0) (hk73 : k73 = some (r, σ') → mm_V g l RX10 "addText" cX10_addText 4 (some .int) [] (d + 6) 0 0 (mm_nt (fun v S' => v = some (.int r) ∧ S' = (mem Z σ', n, z))) 73 [some (.ref a), some (.int v1_), none, none] [] (mem Z σ, n, z) 0 0) : ∀ (U1 : Nat) (v2_ : Int32), x_X10_addText_L4 U a k27 k64 k73 v1_ σ U1 v2_ = some (r, σ') → mm_V g l RX10 "addText" cX10_addText 4 (some .int) [] (d + 6) 0 0 (mm_nt (fun v S' => v = some (.int r) ∧ S' = (mem Z σ', n, z))) 4 [some (.ref a), some (.int v1_), some (.int v2_), none] [] (mem Z σ, n, z) 0 0 := by
  intro U1
  induction U1 with
  | zero => intro v2_ hx; exact absurd hx (by simp [x_X10_addText_L4])
  | succ U1 ih =>
    intro v2_ hx
    rw [x_X10_addText_L4] at hx
    refine mm_iload_n dX10_addText_4 rfl ?_
    refine mm_aload_n dX10_addText_5 rfl rfl ?_
    refine s_getI (r := some a) (b := a) (ci := 10) (k := 6) in_X10 rfl (by decide) rfl kF_X10_33 dX10_addText_6 rfl hs (by decide) hn (by decide) rfl ?_
    refine b_if hx (fun h1 hx => ?_) (fun h1 hx => ?_)
    · refine mm_icmp_ge 73 dX10_addText_9 (by decide) (fun h => absurd h (Int32.not_le.mpr h1)) (fun _ => ?_)
      refine mm_aload_n dX10_addText_12 rfl rfl ?_
      refine s_getS (q := a - 184) (r := some a) (b := a) (ci := 10) (k := 0) in_X10 rfl (by decide) rfl kF_X10_9 dX10_addText_13 rfl hs (by decide) hn (by decide) rfl rfl ?_
      refine mm_iload_n dX10_addText_16 rfl ?_
      obtain ⟨v3, hc2, hx⟩ := b1_some hx
      refine mm_callV3 (a := a - 184) (ci := 0) wM_X0_at kM_X10_55 wI_X0_at wS_X0_at dX10_addText_17 (e_X0_at hst hZ hn (sv10_0 hs) hc2) (mem_obj (sv10_0 hs) (by decide)) (sh_ltn (sv10_0 hs) (by decide) hn) rfl rfl rfl (Nat.le_of_ble_eq_true rfl) (by omega) (by omega) (fun v9 S9 hq => ?_)
      obtain ⟨rfl, rfl⟩ := hq
      refine ⟨fun h => ⟨h, rfl⟩, ?_⟩
      refine mm_istore_n [some (.ref a), some (.int v1_), some (.int v2_), some (.int v3)] dX10_addText_20 (by decide) rfl ?_
      refine mm_iload_n dX10_addText_21 rfl ?_
      refine mm_bipush (v := 34) dX10_addText_22 (by decide) ?_
      refine b_if hx (fun h4 hx => ?_) (fun h4 hx => ?_)
      · refine mm_icmp_ne 46 dX10_addText_24 (by decide) (fun h => absurd h4 h) (fun _ => ?_)
        refine mm_fewer [some (.ref a), some (.int v1_), some (.int v2_), none] (few_ok (bs := [true, true, true, false]) rfl) ?_
        exact hk27 _ hx
      · refine mm_icmp_ne 46 dX10_addText_24 (by decide) (fun _ => ?_) (fun h => absurd h h4)
        refine mm_iload_n dX10_addText_46 rfl ?_
        refine mm_bipush (v := 32) dX10_addText_47 (by decide) ?_
        refine b_if hx (fun h5 hx => ?_) (fun h5 hx => ?_)
        · refine mm_icmp_lt 73 dX10_addText_49 (by decide) (fun _ => ?_) (fun h => absurd h5 h)
          refine mm_fewer [some (.ref a), some (.int v1_), none, none] (few_ok (bs := [true, true, false, false]) rfl) ?_
          exact hk73  hx
        · refine mm_icmp_lt 73 dX10_addText_49 (by decide) (fun h => absurd h h5) (fun _ => ?_)
          refine mm_iload_n dX10_addText_52 rfl ?_
          refine mm_bipush (v := 126) dX10_addText_53 (by decide) ?_
          refine b_if hx (fun h6 hx => ?_) (fun h6 hx => ?_)
          · refine mm_icmp_gt 73 dX10_addText_55 (by decide) (fun _ => ?_) (fun h => absurd h6 h)
            refine mm_fewer [some (.ref a), some (.int v1_), none, none] (few_ok (bs := [true, true, false, false]) rfl) ?_
            exact hk73  hx
          · refine mm_icmp_gt 73 dX10_addText_55 (by decide) (fun h => absurd h h6) (fun _ => ?_)
            refine mm_iload_n dX10_addText_58 rfl ?_
            refine mm_bipush (v := 92) dX10_addText_59 (by decide) ?_
            refine b_if hx (fun h7 hx => ?_) (fun h7 hx => ?_)
            · refine mm_icmp_ne 67 dX10_addText_61 (by decide) (fun h => absurd h7 h) (fun _ => ?_)
              refine mm_fewer [some (.ref a), some (.int v1_), none, none] (few_ok (bs := [true, true, false, false]) rfl) ?_
              exact hk64  hx
            · refine mm_icmp_ne 67 dX10_addText_61 (by decide) (fun _ => ?_) (fun h => absurd h h7)
              refine mm_iinc (v := v2_ + 1) [some (.ref a), some (.int v1_), some (.int (v2_ + 1)), some (.int v3)] dX10_addText_67 rfl rfl (by decide) rfl ?_
              refine mm_goto 4 dX10_addText_70 (by decide) ?_
              refine mm_fewer [some (.ref a), some (.int v1_), some (.int (v2_ + 1)), none] (few_ok (bs := [true, true, true, false]) rfl) ?_
              exact ih _ hx
    · refine mm_icmp_ge 73 dX10_addText_9 (by decide) (fun _ => ?_) (fun h => absurd (Int32.not_lt.mp h1) h)
      refine mm_fewer [some (.ref a), some (.int v1_), none, none] (few_ok (bs := [true, true, false, false]) rfl) ?_
      exact hk73  hx
set_option maxHeartbeats 4000000 in
set_option maxRecDepth 100000 in
theorem e_X10_addText_73 {g : mm_G} {l : Launch} (hst : l.stackTraces = false) {Z : Nat → Nat → Option Nat} (hZ : HZ Z) {n : Nat} (hn : 1186 ≤ n) {z : Bool} {d : Nat} {U : Nat} {a : Nat} (hs : sh a = 10) {v1_ : Int32} {σ : SG} {r : Int32} {σ' : SG} (hx : x_X10_addText_73 U a v1_ σ = some (r, σ')) : mm_V g l RX10 "addText" cX10_addText 4 (some .int) [] (d + 6) 0 0 (mm_nt (fun v S' => v = some (.int r) ∧ S' = (mem Z σ', n, z))) 73 [some (.ref a), some (.int v1_), none, none] [] (mem Z σ, n, z) 0 0 := by
  unfold x_X10_addText_73 at hx
  refine mm_aload_n dX10_addText_73 rfl rfl ?_
  refine mm_iconst (v := 5) dX10_addText_74 (by decide) ?_
  refine mm_iload_n dX10_addText_75 rfl ?_
  refine mm_iload_n dX10_addText_76 rfl ?_
  refine mm_ldc2 kL_X10_36 dX10_addText_77 ?_
  obtain ⟨v15, σ16, hc14, hx⟩ := b2_some hx
  refine mm_callV3 (a := a) (ci := 10) wM_X10_push kM_X10_58 wI_X10_push wS_X10_push dX10_addText_80 (e_X10_push hst hZ hn hs hc14) (mem_obj hs (by decide)) (sh_ltn hs (by decide) hn) rfl rfl rfl (Nat.le_of_ble_eq_true rfl) (by omega) (by omega) (fun v9 S9 hq => ?_)
  obtain ⟨rfl, rfl⟩ := hq
  refine ⟨fun h => ⟨h, rfl⟩, ?_⟩
  refine mm_iret dX10_addText_83 rfl rfl ?_ (by omega) (by omega)
  obtain ⟨rfl, rfl⟩ := fin2 hx
  exact ⟨rfl, rfl⟩
set_option maxHeartbeats 4000000 in
set_option maxRecDepth 100000 in
theorem e_X10_addText {g : mm_G} {l : Launch} (hst : l.stackTraces = false) {Z : Nat → Nat → Option Nat} (hZ : HZ Z) {n : Nat} (hn : 1186 ≤ n) {z : Bool} {d : Nat} {U : Nat} {a : Nat} (hs : sh a = 10) {p0 : Int32} {σ : SG} {r : Int32} {σ' : SG} (hx : x_X10_addText U a p0 σ = some (r, σ')) : mm_Cm g l yX10_addText (.code yX10_addText cX10_addText 4 (some .int)) (d + 6) 0 0 [.ref a, .int p0] (mem Z σ, n, z) (fun v S' => v = some (.int r) ∧ S' = (mem Z σ', n, z)) := by
  refine mm_Cm_of hst (by decide) (Nat.le_of_ble_eq_true rfl) ?_
  show mm_V g l RX10 "addText" cX10_addText 4 (some .int) [] (d + 6) 0 0 (mm_nt (fun v S' => v = some (.int r) ∧ S' = (mem Z σ', n, z))) 0 [some (.ref a), some (.int p0), none, none] [] (mem Z σ, n, z) 0 0
  unfold x_X10_addText at hx
  refine mm_iload_n dX10_addText_0 rfl ?_
  refine mm_iconst (v := 1) dX10_addText_1 (by decide) ?_
  refine mm_iadd dX10_addText_2 ?_
  refine mm_istore_n [some (.ref a), some (.int p0), some (.int (p0 + 1)), none] dX10_addText_3 (by decide) rfl ?_
  refine e_X10_addText_L4 hst hZ hn hs ?_ ?_ ?_ _ _ hx
  · intro w8 hx
    refine mm_aload_n dX10_addText_27 rfl rfl ?_
    refine mm_iconst (v := 3) dX10_addText_28 (by decide) ?_
    refine mm_iload_n dX10_addText_29 rfl ?_
    refine mm_iload_n dX10_addText_30 rfl ?_
    refine mm_iconst (v := 1) dX10_addText_31 (by decide) ?_
    refine mm_iadd dX10_addText_32 ?_
    refine mm_aload_n dX10_addText_33 rfl rfl ?_
    refine mm_iload_n dX10_addText_34 rfl ?_
    refine mm_iconst (v := 1) dX10_addText_35 (by decide) ?_
    refine mm_iadd dX10_addText_36 ?_
    refine mm_iload_n dX10_addText_37 rfl ?_
    obtain ⟨v10, hc9, hx⟩ := b1_some hx
    refine mm_callV3 (a := a) (ci := 10) wM_X10_codeBetween kM_X10_69 wI_X10_codeBetween wS_X10_codeBetween dX10_addText_38 (e_X10_codeBetween hst hZ hn hs hc9) (mem_obj hs (by decide)) (sh_ltn hs (by decide) hn) rfl rfl rfl (Nat.le_of_ble_eq_true rfl) (by omega) (by omega) (fun v9 S9 hq => ?_)
    obtain ⟨rfl, rfl⟩ := hq
    refine ⟨fun h => ⟨h, rfl⟩, ?_⟩
    refine mm_i2l dX10_addText_41 ?_
    obtain ⟨v12, σ13, hc11, hx⟩ := b2_some hx
    refine mm_callV3 (a := a) (ci := 10) wM_X10_push kM_X10_58 wI_X10_push wS_X10_push dX10_addText_42 (e_X10_push hst hZ hn hs hc11) (mem_obj hs (by decide)) (sh_ltn hs (by decide) hn) rfl rfl rfl (Nat.le_of_ble_eq_true rfl) (by omega) (by omega) (fun v9 S9 hq => ?_)
    obtain ⟨rfl, rfl⟩ := hq
    refine ⟨fun h => ⟨h, rfl⟩, ?_⟩
    refine mm_iret dX10_addText_45 rfl rfl ?_ (by omega) (by omega)
    obtain ⟨rfl, rfl⟩ := fin2 hx
    exact ⟨rfl, rfl⟩
  · intro  hx
    refine mm_goto 73 dX10_addText_64 (by decide) ?_
    exact e_X10_addText_73 hst hZ hn hs hx
  · intro  hx
    exact e_X10_addText_73 hst hZ hn hs hx
set_option maxHeartbeats 4000000 in
set_option maxRecDepth 100000 in
theorem e_X11_isLetter_12 {g : mm_G} {l : Launch} (hst : l.stackTraces = false) {Z : Nat → Nat → Option Nat} (hZ : HZ Z) {n : Nat} (hn : 1186 ≤ n) {z : Bool} {d : Nat} {v0_ : Int32} {σ : SG} {r : Int32} (hx : x_X11_isLetter_12 v0_ σ = some r) : mm_V g l RX11 "isLetter" cX11_isLetter 1 (some .boolean) [] (d) 0 0 (mm_nt (fun v S' => v = some (.int r) ∧ S' = (mem Z σ, n, z))) 12 [some (.int v0_)] [] (mem Z σ, n, z) 0 0 := by
  unfold x_X11_isLetter_12 at hx
  refine mm_iload_n dX11_isLetter_12 rfl ?_
  refine mm_bipush (v := 65) dX11_isLetter_13 (by decide) ?_
  refine b_if hx (fun h2 hx => ?_) (fun h2 hx => ?_)
  · refine mm_icmp_lt 28 dX11_isLetter_15 (by decide) (fun _ => ?_) (fun h => absurd h2 h)
    refine mm_iconst (v := 0) dX11_isLetter_28 (by decide) ?_
    refine mm_iret dX11_isLetter_29 rfl rfl ?_ (by omega) (by omega)
    obtain rfl := fin1 hx
    exact ⟨rfl, rfl⟩
  · refine mm_icmp_lt 28 dX11_isLetter_15 (by decide) (fun h => absurd h h2) (fun _ => ?_)
    refine mm_iload_n dX11_isLetter_18 rfl ?_
    refine mm_bipush (v := 90) dX11_isLetter_19 (by decide) ?_
    refine b_if hx (fun h3 hx => ?_) (fun h3 hx => ?_)
    · refine mm_icmp_gt 28 dX11_isLetter_21 (by decide) (fun _ => ?_) (fun h => absurd h3 h)
      refine mm_iconst (v := 0) dX11_isLetter_28 (by decide) ?_
      refine mm_iret dX11_isLetter_29 rfl rfl ?_ (by omega) (by omega)
      obtain rfl := fin1 hx
      exact ⟨rfl, rfl⟩
    · refine mm_icmp_gt 28 dX11_isLetter_21 (by decide) (fun h => absurd h h3) (fun _ => ?_)
      refine mm_iconst (v := 1) dX11_isLetter_24 (by decide) ?_
      refine mm_goto 29 dX11_isLetter_25 (by decide) ?_
      refine mm_iret dX11_isLetter_29 rfl rfl ?_ (by omega) (by omega)
      obtain rfl := fin1 hx
      exact ⟨rfl, rfl⟩
set_option maxHeartbeats 4000000 in
set_option maxRecDepth 100000 in
theorem e_X11_isLetter {g : mm_G} {l : Launch} (hst : l.stackTraces = false) {Z : Nat → Nat → Option Nat} (hZ : HZ Z) {n : Nat} (hn : 1186 ≤ n) {z : Bool} {d : Nat} {p0 : Int32} {σ : SG} {r : Int32} (hx : x_X11_isLetter p0 σ = some r) : mm_Cm g l yX11_isLetter (.code yX11_isLetter cX11_isLetter 1 (some .boolean)) (d) 0 0 [.int p0] (mem Z σ, n, z) (fun v S' => v = some (.int r) ∧ S' = (mem Z σ, n, z)) := by
  refine mm_Cm_of hst (by decide) (Nat.le_of_ble_eq_true rfl) ?_
  show mm_V g l RX11 "isLetter" cX11_isLetter 1 (some .boolean) [] (d) 0 0 (mm_nt (fun v S' => v = some (.int r) ∧ S' = (mem Z σ, n, z))) 0 [some (.int p0)] [] (mem Z σ, n, z) 0 0
  unfold x_X11_isLetter at hx
  refine mm_iload_n dX11_isLetter_0 rfl ?_
  refine mm_bipush (v := 97) dX11_isLetter_1 (by decide) ?_
  refine b_if hx (fun h1 hx => ?_) (fun h1 hx => ?_)
  · refine mm_icmp_lt 12 dX11_isLetter_3 (by decide) (fun _ => ?_) (fun h => absurd h1 h)
    exact e_X11_isLetter_12 hst hZ hn hx
  · refine mm_icmp_lt 12 dX11_isLetter_3 (by decide) (fun h => absurd h h1) (fun _ => ?_)
    refine mm_iload_n dX11_isLetter_6 rfl ?_
    refine mm_bipush (v := 122) dX11_isLetter_7 (by decide) ?_
    refine b_if hx (fun h4 hx => ?_) (fun h4 hx => ?_)
    · refine mm_icmp_le 24 dX11_isLetter_9 (by decide) (fun h => absurd h (Int32.not_le.mpr h4)) (fun _ => ?_)
      exact e_X11_isLetter_12 hst hZ hn hx
    · refine mm_icmp_le 24 dX11_isLetter_9 (by decide) (fun _ => ?_) (fun h => absurd (Int32.not_lt.mp h4) h)
      refine mm_iconst (v := 1) dX11_isLetter_24 (by decide) ?_
      refine mm_goto 29 dX11_isLetter_25 (by decide) ?_
      refine mm_iret dX11_isLetter_29 rfl rfl ?_ (by omega) (by omega)
      obtain rfl := fin1 hx
      exact ⟨rfl, rfl⟩
set_option maxHeartbeats 4000000 in
set_option maxRecDepth 100000 in
theorem e_X10_nameEnd_L2 {g : mm_G} {l : Launch} (hst : l.stackTraces = false) {Z : Nat → Nat → Option Nat} (hZ : HZ Z) {n : Nat} (hn : 1186 ≤ n) {z : Bool} {d : Nat} {U : Nat} {a : Nat} (hs : sh a = 10) {σ : SG} {r : Int32} : ∀ (U1 : Nat) (v2_ : Int32), x_X10_nameEnd_L2 U a σ U1 v2_ = some r → mm_V g l RX10 "nameEnd" cX10_nameEnd 3 (some .int) [] (d + 1) 0 0 (mm_nt (fun v S' => v = some (.int r) ∧ S' = (mem Z σ, n, z))) 2 [some (.ref a), none, some (.int v2_)] [] (mem Z σ, n, z) 0 0 := by
  intro U1
  induction U1 with
  | zero => intro v2_ hx; exact absurd hx (by simp [x_X10_nameEnd_L2])
  | succ U1 ih =>
    intro v2_ hx
    rw [x_X10_nameEnd_L2] at hx
    refine mm_iload_n dX10_nameEnd_2 rfl ?_
    refine mm_aload_n dX10_nameEnd_3 rfl rfl ?_
    refine s_getI (r := some a) (b := a) (ci := 10) (k := 6) in_X10 rfl (by decide) rfl kF_X10_33 dX10_nameEnd_4 rfl hs (by decide) hn (by decide) rfl ?_
    refine b_if hx (fun h1 hx => ?_) (fun h1 hx => ?_)
    · refine mm_icmp_ge 30 dX10_nameEnd_7 (by decide) (fun h => absurd h (Int32.not_le.mpr h1)) (fun _ => ?_)
      refine mm_aload_n dX10_nameEnd_10 rfl rfl ?_
      refine s_getS (q := a - 184) (r := some a) (b := a) (ci := 10) (k := 0) in_X10 rfl (by decide) rfl kF_X10_9 dX10_nameEnd_11 rfl hs (by decide) hn (by decide) rfl rfl ?_
      refine mm_iload_n dX10_nameEnd_14 rfl ?_
      obtain ⟨v3, hc2, hx⟩ := b1_some hx
      refine mm_callV3 (a := a - 184) (ci := 0) wM_X0_at kM_X10_55 wI_X0_at wS_X0_at dX10_nameEnd_15 (e_X0_at hst hZ hn (sv10_0 hs) hc2) (mem_obj (sv10_0 hs) (by decide)) (sh_ltn (sv10_0 hs) (by decide) hn) rfl rfl rfl (Nat.le_of_ble_eq_true rfl) (by omega) (by omega) (fun v9 S9 hq => ?_)
      obtain ⟨rfl, rfl⟩ := hq
      refine ⟨fun h => ⟨h, rfl⟩, ?_⟩
      obtain ⟨v5, hc4, hx⟩ := b1_some hx
      refine mm_callSN wM_X11_isWordByte kM_X10_90 wT_X11_isWordByte dX10_nameEnd_18 (e_X11_isWordByte hst hZ hn hc4) rfl rfl (Nat.le_of_ble_eq_true rfl) (by omega) (by omega) (fun v9 S9 hq => ?_)
      obtain ⟨rfl, rfl⟩ := hq
      refine ⟨fun h => ⟨h, rfl⟩, ?_⟩
      refine b_if hx (fun h6 hx => ?_) (fun h6 hx => ?_)
      · refine mm_if_eq 30 dX10_nameEnd_21 (by decide) (fun _ => ?_) (fun h => absurd h6 h)
        refine mm_iload_n dX10_nameEnd_30 rfl ?_
        refine mm_iret dX10_nameEnd_31 rfl rfl ?_ (by omega) (by omega)
        obtain rfl := fin1 hx
        exact ⟨rfl, rfl⟩
      · refine mm_if_eq 30 dX10_nameEnd_21 (by decide) (fun h => absurd h h6) (fun _ => ?_)
        refine mm_iinc (v := v2_ + 1) [some (.ref a), none, some (.int (v2_ + 1))] dX10_nameEnd_24 rfl rfl (by decide) rfl ?_
        refine mm_goto 2 dX10_nameEnd_27 (by decide) ?_
        exact ih _ hx
    · refine mm_icmp_ge 30 dX10_nameEnd_7 (by decide) (fun _ => ?_) (fun h => absurd (Int32.not_lt.mp h1) h)
      refine mm_iload_n dX10_nameEnd_30 rfl ?_
      refine mm_iret dX10_nameEnd_31 rfl rfl ?_ (by omega) (by omega)
      obtain rfl := fin1 hx
      exact ⟨rfl, rfl⟩
set_option maxHeartbeats 4000000 in
set_option maxRecDepth 100000 in
theorem e_X10_nameEnd {g : mm_G} {l : Launch} (hst : l.stackTraces = false) {Z : Nat → Nat → Option Nat} (hZ : HZ Z) {n : Nat} (hn : 1186 ≤ n) {z : Bool} {d : Nat} {U : Nat} {a : Nat} (hs : sh a = 10) {p0 : Int32} {σ : SG} {r : Int32} (hx : x_X10_nameEnd U a p0 σ = some r) : mm_Cm g l yX10_nameEnd (.code yX10_nameEnd cX10_nameEnd 3 (some .int)) (d + 1) 0 0 [.ref a, .int p0] (mem Z σ, n, z) (fun v S' => v = some (.int r) ∧ S' = (mem Z σ, n, z)) := by
  refine mm_Cm_of hst (by decide) (Nat.le_of_ble_eq_true rfl) ?_
  show mm_V g l RX10 "nameEnd" cX10_nameEnd 3 (some .int) [] (d + 1) 0 0 (mm_nt (fun v S' => v = some (.int r) ∧ S' = (mem Z σ, n, z))) 0 [some (.ref a), some (.int p0), none] [] (mem Z σ, n, z) 0 0
  unfold x_X10_nameEnd at hx
  refine mm_iload_n dX10_nameEnd_0 rfl ?_
  refine mm_istore_n [some (.ref a), some (.int p0), some (.int p0)] dX10_nameEnd_1 (by decide) rfl ?_
  refine mm_fewer [some (.ref a), none, some (.int p0)] (few_ok (bs := [true, false, true]) rfl) ?_
  refine e_X10_nameEnd_L2 hst hZ hn hs _ _ hx
set_option maxHeartbeats 4000000 in
set_option maxRecDepth 100000 in
theorem e_X10_addWord_26 {g : mm_G} {l : Launch} (hst : l.stackTraces = false) {Z : Nat → Nat → Option Nat} (hZ : HZ Z) {n : Nat} (hn : 1186 ≤ n) {z : Bool} {d : Nat} {U : Nat} {a : Nat} (hs : sh a = 10) {v1_ : Int32} {s0_ : Int32} {σ : SG} {r : Int32} {σ' : SG} (hx : x_X10_addWord_26 U a v1_ s0_ σ = some (r, σ')) : mm_V g l RX10 "addWord" cX10_addWord 4 (some .int) [] (d + 7) 0 0 (mm_nt (fun v S' => v = some (.int r) ∧ S' = (mem Z σ', n, z))) 26 [none, some (.int v1_), none, none] [.int s0_, .ref a] (mem Z σ, n, z) 0 0 := by
  unfold x_X10_addWord_26 at hx
  refine mm_iload_n dX10_addWord_26 rfl ?_
  refine mm_iload_n dX10_addWord_27 rfl ?_
  refine mm_ldc2 kL_X10_36 dX10_addWord_28 ?_
  obtain ⟨v6, σ7, hc5, hx⟩ := b2_some hx
  refine mm_callV3 (a := a) (ci := 10) wM_X10_push kM_X10_58 wI_X10_push wS_X10_push dX10_addWord_31 (e_X10_push hst hZ hn hs hc5) (mem_obj hs (by decide)) (sh_ltn hs (by decide) hn) rfl rfl rfl (Nat.le_of_ble_eq_true rfl) (by omega) (by omega) (fun v9 S9 hq => ?_)
  obtain ⟨rfl, rfl⟩ := hq
  refine ⟨fun h => ⟨h, rfl⟩, ?_⟩
  refine mm_iret dX10_addWord_34 rfl rfl ?_ (by omega) (by omega)
  obtain ⟨rfl, rfl⟩ := fin2 hx
  exact ⟨rfl, rfl⟩
set_option maxHeartbeats 4000000 in
set_option maxRecDepth 100000 in
theorem e_X10_addWord_81 {g : mm_G} {l : Launch} (hst : l.stackTraces = false) {Z : Nat → Nat → Option Nat} (hZ : HZ Z) {n : Nat} (hn : 1186 ≤ n) {z : Bool} {d : Nat} {U : Nat} {a : Nat} (hs : sh a = 10) {v1_ : Int32} {v2_ : Int32} {σ : SG} {r : Int32} {σ' : SG} (hx : x_X10_addWord_81 U a v1_ v2_ σ = some (r, σ')) : mm_V g l RX10 "addWord" cX10_addWord 4 (some .int) [] (d + 7) 0 0 (mm_nt (fun v S' => v = some (.int r) ∧ S' = (mem Z σ', n, z))) 81 [some (.ref a), some (.int v1_), some (.int v2_), none] [] (mem Z σ, n, z) 0 0 := by
  unfold x_X10_addWord_81 at hx
  refine mm_iload_n dX10_addWord_81 rfl ?_
  refine mm_bipush (v := 34) dX10_addWord_82 (by decide) ?_
  refine b_if hx (fun h12 hx => ?_) (fun h12 hx => ?_)
  · refine mm_icmp_ne 93 dX10_addWord_84 (by decide) (fun h => absurd h12 h) (fun _ => ?_)
    refine mm_aload_n dX10_addWord_87 rfl rfl ?_
    refine mm_iload_n dX10_addWord_88 rfl ?_
    obtain ⟨v14, σ15, hc13, hx⟩ := b2_some hx
    refine mm_callV3 (a := a) (ci := 10) wM_X10_addText kM_X10_76 wI_X10_addText wS_X10_addText dX10_addWord_89 (e_X10_addText hst hZ hn hs hc13) (mem_obj hs (by decide)) (sh_ltn hs (by decide) hn) rfl rfl rfl (Nat.le_of_ble_eq_true rfl) (by omega) (by omega) (fun v9 S9 hq => ?_)
    obtain ⟨rfl, rfl⟩ := hq
    refine ⟨fun h => ⟨h, rfl⟩, ?_⟩
    refine mm_iret dX10_addWord_92 rfl rfl ?_ (by omega) (by omega)
    obtain ⟨rfl, rfl⟩ := fin2 hx
    exact ⟨rfl, rfl⟩
  · refine mm_icmp_ne 93 dX10_addWord_84 (by decide) (fun _ => ?_) (fun h => absurd h h12)
    refine mm_aload_n dX10_addWord_93 rfl rfl ?_
    refine mm_iconst (v := 4) dX10_addWord_94 (by decide) ?_
    refine mm_iload_n dX10_addWord_95 rfl ?_
    refine mm_iload_n dX10_addWord_96 rfl ?_
    refine mm_iconst (v := 1) dX10_addWord_97 (by decide) ?_
    refine mm_iadd dX10_addWord_98 ?_
    refine mm_iload_n dX10_addWord_99 rfl ?_
    refine mm_i2l dX10_addWord_100 ?_
    obtain ⟨v17, σ18, hc16, hx⟩ := b2_some hx
    refine mm_callV3 (a := a) (ci := 10) wM_X10_push kM_X10_58 wI_X10_push wS_X10_push dX10_addWord_101 (e_X10_push hst hZ hn hs hc16) (mem_obj hs (by decide)) (sh_ltn hs (by decide) hn) rfl rfl rfl (Nat.le_of_ble_eq_true rfl) (by omega) (by omega) (fun v9 S9 hq => ?_)
    obtain ⟨rfl, rfl⟩ := hq
    refine ⟨fun h => ⟨h, rfl⟩, ?_⟩
    refine mm_iret dX10_addWord_104 rfl rfl ?_ (by omega) (by omega)
    obtain ⟨rfl, rfl⟩ := fin2 hx
    exact ⟨rfl, rfl⟩
set_option maxHeartbeats 4000000 in
set_option maxRecDepth 100000 in
theorem e_X10_addWord {g : mm_G} {l : Launch} (hst : l.stackTraces = false) {Z : Nat → Nat → Option Nat} (hZ : HZ Z) {n : Nat} (hn : 1186 ≤ n) {z : Bool} {d : Nat} {U : Nat} {a : Nat} (hs : sh a = 10) {p0 : Int32} {σ : SG} {r : Int32} {σ' : SG} (hx : x_X10_addWord U a p0 σ = some (r, σ')) : mm_Cm g l yX10_addWord (.code yX10_addWord cX10_addWord 4 (some .int)) (d + 7) 0 0 [.ref a, .int p0] (mem Z σ, n, z) (fun v S' => v = some (.int r) ∧ S' = (mem Z σ', n, z)) := by
  refine mm_Cm_of hst (by decide) (Nat.le_of_ble_eq_true rfl) ?_
  show mm_V g l RX10 "addWord" cX10_addWord 4 (some .int) [] (d + 7) 0 0 (mm_nt (fun v S' => v = some (.int r) ∧ S' = (mem Z σ', n, z))) 0 [some (.ref a), some (.int p0), none, none] [] (mem Z σ, n, z) 0 0
  unfold x_X10_addWord at hx
  refine mm_aload_n dX10_addWord_0 rfl rfl ?_
  refine s_getS (q := a - 184) (r := some a) (b := a) (ci := 10) (k := 0) in_X10 rfl (by decide) rfl kF_X10_9 dX10_addWord_1 rfl hs (by decide) hn (by decide) rfl rfl ?_
  refine mm_iload_n dX10_addWord_4 rfl ?_
  obtain ⟨v2, hc1, hx⟩ := b1_some hx
  refine mm_callV3 (a := a - 184) (ci := 0) wM_X0_at kM_X10_55 wI_X0_at wS_X0_at dX10_addWord_5 (e_X0_at hst hZ hn (sv10_0 hs) hc1) (mem_obj (sv10_0 hs) (by decide)) (sh_ltn (sv10_0 hs) (by decide) hn) rfl rfl rfl (Nat.le_of_ble_eq_true rfl) (by omega) (by omega) (fun v9 S9 hq => ?_)
  obtain ⟨rfl, rfl⟩ := hq
  refine ⟨fun h => ⟨h, rfl⟩, ?_⟩
  refine mm_istore_n [some (.ref a), some (.int p0), some (.int v2), none] dX10_addWord_8 (by decide) rfl ?_
  refine mm_iload_n dX10_addWord_9 rfl ?_
  refine b_if hx (fun h3 hx => ?_) (fun h3 hx => ?_)
  · refine mm_if_ge 35 dX10_addWord_10 (by decide) (fun h => absurd h (Int32.not_le.mpr h3)) (fun _ => ?_)
    refine mm_aload_n dX10_addWord_13 rfl rfl ?_
    refine mm_aload_n dX10_addWord_14 rfl rfl ?_
    refine s_getI (r := some a) (b := a) (ci := 10) (k := 7) in_X10 rfl (by decide) rfl kF_X10_44 dX10_addWord_15 rfl hs (by decide) hn (by decide) rfl ?_
    refine b_if hx (fun h4 hx => ?_) (fun h4 hx => ?_)
    · refine mm_if_eq 25 dX10_addWord_18 (by decide) (fun _ => ?_) (fun h => absurd h4 h)
      refine mm_iconst (v := 0) dX10_addWord_25 (by decide) ?_
      refine mm_fewer [none, some (.int p0), none, none] (few_ok (bs := [false, true, false, false]) rfl) ?_
      exact e_X10_addWord_26 hst hZ hn hs hx
    · refine mm_if_eq 25 dX10_addWord_18 (by decide) (fun h => absurd h h4) (fun _ => ?_)
      refine mm_iconst (v := 5) dX10_addWord_21 (by decide) ?_
      refine mm_goto 26 dX10_addWord_22 (by decide) ?_
      refine mm_fewer [none, some (.int p0), none, none] (few_ok (bs := [false, true, false, false]) rfl) ?_
      exact e_X10_addWord_26 hst hZ hn hs hx
  · refine mm_if_ge 35 dX10_addWord_10 (by decide) (fun _ => ?_) (fun h => absurd (Int32.not_lt.mp h3) h)
    refine mm_iload_n dX10_addWord_35 rfl ?_
    obtain ⟨v9, hc8, hx⟩ := b1_some hx
    refine mm_callSN wM_X11_isLetter kM_X10_62 wT_X11_isLetter dX10_addWord_36 (e_X11_isLetter hst hZ hn hc8) rfl rfl (Nat.le_of_ble_eq_true rfl) (by omega) (by omega) (fun v9 S9 hq => ?_)
    obtain ⟨rfl, rfl⟩ := hq
    refine ⟨fun h => ⟨h, rfl⟩, ?_⟩
    refine b_if hx (fun h10 hx => ?_) (fun h10 hx => ?_)
    · refine mm_if_eq 63 dX10_addWord_39 (by decide) (fun _ => ?_) (fun h => absurd h10 h)
      refine mm_iload_n dX10_addWord_63 rfl ?_
      refine mm_bipush (v := 48) dX10_addWord_64 (by decide) ?_
      refine b_if hx (fun h11 hx => ?_) (fun h11 hx => ?_)
      · refine mm_icmp_lt 81 dX10_addWord_66 (by decide) (fun _ => ?_) (fun h => absurd h11 h)
        exact e_X10_addWord_81 hst hZ hn hs hx
      · refine mm_icmp_lt 81 dX10_addWord_66 (by decide) (fun h => absurd h h11) (fun _ => ?_)
        refine mm_iload_n dX10_addWord_69 rfl ?_
        refine mm_bipush (v := 57) dX10_addWord_70 (by decide) ?_
        refine b_if hx (fun h19 hx => ?_) (fun h19 hx => ?_)
        · refine mm_icmp_gt 81 dX10_addWord_72 (by decide) (fun _ => ?_) (fun h => absurd h19 h)
          exact e_X10_addWord_81 hst hZ hn hs hx
        · refine mm_icmp_gt 81 dX10_addWord_72 (by decide) (fun h => absurd h h19) (fun _ => ?_)
          refine mm_aload_n dX10_addWord_75 rfl rfl ?_
          refine mm_iload_n dX10_addWord_76 rfl ?_
          obtain ⟨v21, σ22, hc20, hx⟩ := b2_some hx
          refine mm_callV3 (a := a) (ci := 10) wM_X10_addNumber kM_X10_73 wI_X10_addNumber wS_X10_addNumber dX10_addWord_77 (e_X10_addNumber hst hZ hn hs hc20) (mem_obj hs (by decide)) (sh_ltn hs (by decide) hn) rfl rfl rfl (Nat.le_of_ble_eq_true rfl) (by omega) (by omega) (fun v9 S9 hq => ?_)
          obtain ⟨rfl, rfl⟩ := hq
          refine ⟨fun h => ⟨h, rfl⟩, ?_⟩
          refine mm_iret dX10_addWord_80 rfl rfl ?_ (by omega) (by omega)
          obtain ⟨rfl, rfl⟩ := fin2 hx
          exact ⟨rfl, rfl⟩
    · refine mm_if_eq 63 dX10_addWord_39 (by decide) (fun h => absurd h h10) (fun _ => ?_)
      refine mm_aload_n dX10_addWord_42 rfl rfl ?_
      refine mm_iload_n dX10_addWord_43 rfl ?_
      obtain ⟨v24, hc23, hx⟩ := b1_some hx
      refine mm_callV3 (a := a) (ci := 10) wM_X10_nameEnd kM_X10_66 wI_X10_nameEnd wS_X10_nameEnd dX10_addWord_44 (e_X10_nameEnd hst hZ hn hs hc23) (mem_obj hs (by decide)) (sh_ltn hs (by decide) hn) rfl rfl rfl (Nat.le_of_ble_eq_true rfl) (by omega) (by omega) (fun v9 S9 hq => ?_)
      obtain ⟨rfl, rfl⟩ := hq
      refine ⟨fun h => ⟨h, rfl⟩, ?_⟩
      refine mm_istore_n [some (.ref a), some (.int p0), some (.int v2), some (.int v24)] dX10_addWord_47 (by decide) rfl ?_
      refine mm_aload_n dX10_addWord_48 rfl rfl ?_
      refine mm_iconst (v := 1) dX10_addWord_49 (by decide) ?_
      refine mm_iload_n dX10_addWord_50 rfl ?_
      refine mm_iload_n dX10_addWord_51 rfl ?_
      refine mm_aload_n dX10_addWord_52 rfl rfl ?_
      refine mm_iload_n dX10_addWord_53 rfl ?_
      refine mm_iload_n dX10_addWord_54 rfl ?_
      obtain ⟨v26, hc25, hx⟩ := b1_some hx
      refine mm_callV3 (a := a) (ci := 10) wM_X10_codeBetween kM_X10_69 wI_X10_codeBetween wS_X10_codeBetween dX10_addWord_55 (e_X10_codeBetween hst hZ hn hs hc25) (mem_obj hs (by decide)) (sh_ltn hs (by decide) hn) rfl rfl rfl (Nat.le_of_ble_eq_true rfl) (by omega) (by omega) (fun v9 S9 hq => ?_)
      obtain ⟨rfl, rfl⟩ := hq
      refine ⟨fun h => ⟨h, rfl⟩, ?_⟩
      refine mm_i2l dX10_addWord_58 ?_
      obtain ⟨v28, σ29, hc27, hx⟩ := b2_some hx
      refine mm_callV3 (a := a) (ci := 10) wM_X10_push kM_X10_58 wI_X10_push wS_X10_push dX10_addWord_59 (e_X10_push hst hZ hn hs hc27) (mem_obj hs (by decide)) (sh_ltn hs (by decide) hn) rfl rfl rfl (Nat.le_of_ble_eq_true rfl) (by omega) (by omega) (fun v9 S9 hq => ?_)
      obtain ⟨rfl, rfl⟩ := hq
      refine ⟨fun h => ⟨h, rfl⟩, ?_⟩
      refine mm_iret dX10_addWord_62 rfl rfl ?_ (by omega) (by omega)
      obtain ⟨rfl, rfl⟩ := fin2 hx
      exact ⟨rfl, rfl⟩
set_option maxHeartbeats 4000000 in
set_option maxRecDepth 100000 in
theorem e_X10_lineEnd_L2 {g : mm_G} {l : Launch} (hst : l.stackTraces = false) {Z : Nat → Nat → Option Nat} (hZ : HZ Z) {n : Nat} (hn : 1186 ≤ n) {z : Bool} {d : Nat} {U : Nat} {a : Nat} (hs : sh a = 10) {σ : SG} {r : Int32} : ∀ (U1 : Nat) (v2_ : Int32), x_X10_lineEnd_L2 U a σ U1 v2_ = some r → mm_V g l RX10 "lineEnd" cX10_lineEnd 3 (some .int) [] (d + 1) 0 0 (mm_nt (fun v S' => v = some (.int r) ∧ S' = (mem Z σ, n, z))) 2 [some (.ref a), none, some (.int v2_)] [] (mem Z σ, n, z) 0 0 := by
  intro U1
  induction U1 with
  | zero => intro v2_ hx; exact absurd hx (by simp [x_X10_lineEnd_L2])
  | succ U1 ih =>
    intro v2_ hx
    rw [x_X10_lineEnd_L2] at hx
    refine mm_iload_n dX10_lineEnd_2 rfl ?_
    refine mm_aload_n dX10_lineEnd_3 rfl rfl ?_
    refine s_getI (r := some a) (b := a) (ci := 10) (k := 6) in_X10 rfl (by decide) rfl kF_X10_33 dX10_lineEnd_4 rfl hs (by decide) hn (by decide) rfl ?_
    refine b_if hx (fun h1 hx => ?_) (fun h1 hx => ?_)
    · refine mm_icmp_ge 29 dX10_lineEnd_7 (by decide) (fun h => absurd h (Int32.not_le.mpr h1)) (fun _ => ?_)
      refine mm_aload_n dX10_lineEnd_10 rfl rfl ?_
      refine s_getS (q := a - 184) (r := some a) (b := a) (ci := 10) (k := 0) in_X10 rfl (by decide) rfl kF_X10_9 dX10_lineEnd_11 rfl hs (by decide) hn (by decide) rfl rfl ?_
      refine mm_iload_n dX10_lineEnd_14 rfl ?_
      obtain ⟨v3, hc2, hx⟩ := b1_some hx
      refine mm_callV3 (a := a - 184) (ci := 0) wM_X0_at kM_X10_55 wI_X0_at wS_X0_at dX10_lineEnd_15 (e_X0_at hst hZ hn (sv10_0 hs) hc2) (mem_obj (sv10_0 hs) (by decide)) (sh_ltn (sv10_0 hs) (by decide) hn) rfl rfl rfl (Nat.le_of_ble_eq_true rfl) (by omega) (by omega) (fun v9 S9 hq => ?_)
      obtain ⟨rfl, rfl⟩ := hq
      refine ⟨fun h => ⟨h, rfl⟩, ?_⟩
      refine mm_bipush (v := 10) dX10_lineEnd_18 (by decide) ?_
      refine b_if hx (fun h4 hx => ?_) (fun h4 hx => ?_)
      · refine mm_icmp_eq 29 dX10_lineEnd_20 (by decide) (fun _ => ?_) (fun h => absurd h4 h)
        refine mm_iload_n dX10_lineEnd_29 rfl ?_
        refine mm_iret dX10_lineEnd_30 rfl rfl ?_ (by omega) (by omega)
        obtain rfl := fin1 hx
        exact ⟨rfl, rfl⟩
      · refine mm_icmp_eq 29 dX10_lineEnd_20 (by decide) (fun h => absurd h h4) (fun _ => ?_)
        refine mm_iinc (v := v2_ + 1) [some (.ref a), none, some (.int (v2_ + 1))] dX10_lineEnd_23 rfl rfl (by decide) rfl ?_
        refine mm_goto 2 dX10_lineEnd_26 (by decide) ?_
        exact ih _ hx
    · refine mm_icmp_ge 29 dX10_lineEnd_7 (by decide) (fun _ => ?_) (fun h => absurd (Int32.not_lt.mp h1) h)
      refine mm_iload_n dX10_lineEnd_29 rfl ?_
      refine mm_iret dX10_lineEnd_30 rfl rfl ?_ (by omega) (by omega)
      obtain rfl := fin1 hx
      exact ⟨rfl, rfl⟩
set_option maxHeartbeats 4000000 in
set_option maxRecDepth 100000 in
theorem e_X10_lineEnd {g : mm_G} {l : Launch} (hst : l.stackTraces = false) {Z : Nat → Nat → Option Nat} (hZ : HZ Z) {n : Nat} (hn : 1186 ≤ n) {z : Bool} {d : Nat} {U : Nat} {a : Nat} (hs : sh a = 10) {p0 : Int32} {σ : SG} {r : Int32} (hx : x_X10_lineEnd U a p0 σ = some r) : mm_Cm g l yX10_lineEnd (.code yX10_lineEnd cX10_lineEnd 3 (some .int)) (d + 1) 0 0 [.ref a, .int p0] (mem Z σ, n, z) (fun v S' => v = some (.int r) ∧ S' = (mem Z σ, n, z)) := by
  refine mm_Cm_of hst (by decide) (Nat.le_of_ble_eq_true rfl) ?_
  show mm_V g l RX10 "lineEnd" cX10_lineEnd 3 (some .int) [] (d + 1) 0 0 (mm_nt (fun v S' => v = some (.int r) ∧ S' = (mem Z σ, n, z))) 0 [some (.ref a), some (.int p0), none] [] (mem Z σ, n, z) 0 0
  unfold x_X10_lineEnd at hx
  refine mm_iload_n dX10_lineEnd_0 rfl ?_
  refine mm_istore_n [some (.ref a), some (.int p0), some (.int p0)] dX10_lineEnd_1 (by decide) rfl ?_
  refine mm_fewer [some (.ref a), none, some (.int p0)] (few_ok (bs := [true, false, true]) rfl) ?_
  refine e_X10_lineEnd_L2 hst hZ hn hs _ _ hx
set_option maxHeartbeats 4000000 in
set_option maxRecDepth 100000 in
theorem e_X10_commentEnd_42 {g : mm_G} {l : Launch} (hst : l.stackTraces = false) {Z : Nat → Nat → Option Nat} (hZ : HZ Z) {n : Nat} (hn : 1186 ≤ n) {z : Bool} {d : Nat} {U : Nat} {a : Nat} (hs : sh a = 10) {k2 : Int32 → Option (Int32 × SG)} {k48 : Option (Int32 × SG)} {v2_ : Int32} {σ : SG} {r : Int32} {σ' : SG} (hk2 : ∀ (v2_ : Int32), k2 v2_ = some (r, σ') → mm_V g l RX10 "commentEnd" cX10_commentEnd 3 (some .int) [] (d + 1) 0 0 (mm_nt (fun v S' => v = some (.int r) ∧ S' = (mem Z σ', n, z))) 2 [some (.ref a), none, some (.int v2_)] [] (mem Z σ, n, z) 0 0) (hk48 :  k48 = some (r, σ') → mm_V g l RX10 "commentEnd" cX10_commentEnd 3 (some .int) [] (d + 1) 0 0 (mm_nt (fun v S' => v = some (.int r) ∧ S' = (mem Z σ', n, z))) 48 [some (.ref a), none, none] [] (mem Z σ, n, z) 0 0) (hx : x_X10_commentEnd_42 U a k2 k48 v2_ σ = some (r, σ')) : mm_V g l RX10 "commentEnd" cX10_commentEnd 3 (some .int) [] (d + 1) 0 0 (mm_nt (fun v S' => v = some (.int r) ∧ S' = (mem Z σ', n, z))) 42 [some (.ref a), none, some (.int v2_)] [] (mem Z σ, n, z) 0 0 := by
  unfold x_X10_commentEnd_42 at hx
  refine mm_iinc (v := v2_ + 1) [some (.ref a), none, some (.int (v2_ + 1))] dX10_commentEnd_42 rfl rfl (by decide) rfl ?_
  refine mm_goto 2 dX10_commentEnd_45 (by decide) ?_
  exact hk2 _ hx
set_option maxHeartbeats 4000000 in
set_option maxRecDepth 100000 in
theorem e_X10_commentEnd_L2 {g : mm_G} {l : Launch} (hst : l.stackTraces = false) {Z : Nat → Nat → Option Nat} (hZ : HZ Z) {n : Nat} (hn : 1186 ≤ n) {z : Bool} {d : Nat} {U : Nat} {a : Nat} (hs : sh a = 10) {k48 : Option (Int32 × SG)} {σ : SG} {r : Int32} {σ' : SG} (hk48 : k48 = some (r, σ') → mm_V g l RX10 "commentEnd" cX10_commentEnd 3 (some .int) [] (d + 1) 0 0 (mm_nt (fun v S' => v = some (.int r) ∧ S' = (mem Z σ', n, z))) 48 [some (.ref a), none, none] [] (mem Z σ, n, z) 0 0) : ∀ (U1 : Nat) (v2_ : Int32), x_X10_commentEnd_L2 U a k48 σ U1 v2_ = some (r, σ') → mm_V g l RX10 "commentEnd" cX10_commentEnd 3 (some .int) [] (d + 1) 0 0 (mm_nt (fun v S' => v = some (.int r) ∧ S' = (mem Z σ', n, z))) 2 [some (.ref a), none, some (.int v2_)] [] (mem Z σ, n, z) 0 0 := by
  intro U1
  induction U1 with
  | zero => intro v2_ hx; exact absurd hx (by simp [x_X10_commentEnd_L2])
  | succ U1 ih =>
    intro v2_ hx
    rw [x_X10_commentEnd_L2] at hx
    refine mm_iload_n dX10_commentEnd_2 rfl ?_
    refine mm_aload_n dX10_commentEnd_3 rfl rfl ?_
    refine s_getI (r := some a) (b := a) (ci := 10) (k := 6) in_X10 rfl (by decide) rfl kF_X10_33 dX10_commentEnd_4 rfl hs (by decide) hn (by decide) rfl ?_
    refine b_if hx (fun h1 hx => ?_) (fun h1 hx => ?_)
    · refine mm_icmp_ge 48 dX10_commentEnd_7 (by decide) (fun h => absurd h (Int32.not_le.mpr h1)) (fun _ => ?_)
      refine mm_aload_n dX10_commentEnd_10 rfl rfl ?_
      refine s_getS (q := a - 184) (r := some a) (b := a) (ci := 10) (k := 0) in_X10 rfl (by decide) rfl kF_X10_9 dX10_commentEnd_11 rfl hs (by decide) hn (by decide) rfl rfl ?_
      refine mm_iload_n dX10_commentEnd_14 rfl ?_
      obtain ⟨v3, hc2, hx⟩ := b1_some hx
      refine mm_callV3 (a := a - 184) (ci := 0) wM_X0_at kM_X10_55 wI_X0_at wS_X0_at dX10_commentEnd_15 (e_X0_at hst hZ hn (sv10_0 hs) hc2) (mem_obj (sv10_0 hs) (by decide)) (sh_ltn (sv10_0 hs) (by decide) hn) rfl rfl rfl (Nat.le_of_ble_eq_true rfl) (by omega) (by omega) (fun v9 S9 hq => ?_)
      obtain ⟨rfl, rfl⟩ := hq
      refine ⟨fun h => ⟨h, rfl⟩, ?_⟩
      refine mm_bipush (v := 42) dX10_commentEnd_18 (by decide) ?_
      refine b_if hx (fun h4 hx => ?_) (fun h4 hx => ?_)
      · refine mm_icmp_ne 42 dX10_commentEnd_20 (by decide) (fun h => absurd h4 h) (fun _ => ?_)
        refine mm_aload_n dX10_commentEnd_23 rfl rfl ?_
        refine s_getS (q := a - 184) (r := some a) (b := a) (ci := 10) (k := 0) in_X10 rfl (by decide) rfl kF_X10_9 dX10_commentEnd_24 rfl hs (by decide) hn (by decide) rfl rfl ?_
        refine mm_iload_n dX10_commentEnd_27 rfl ?_
        refine mm_iconst (v := 1) dX10_commentEnd_28 (by decide) ?_
        refine mm_iadd dX10_commentEnd_29 ?_
        obtain ⟨v6, hc5, hx⟩ := b1_some hx
        refine mm_callV3 (a := a - 184) (ci := 0) wM_X0_at kM_X10_55 wI_X0_at wS_X0_at dX10_commentEnd_30 (e_X0_at hst hZ hn (sv10_0 hs) hc5) (mem_obj (sv10_0 hs) (by decide)) (sh_ltn (sv10_0 hs) (by decide) hn) rfl rfl rfl (Nat.le_of_ble_eq_true rfl) (by omega) (by omega) (fun v9 S9 hq => ?_)
        obtain ⟨rfl, rfl⟩ := hq
        refine ⟨fun h => ⟨h, rfl⟩, ?_⟩
        refine mm_bipush (v := 47) dX10_commentEnd_33 (by decide) ?_
        refine b_if hx (fun h7 hx => ?_) (fun h7 hx => ?_)
        · refine mm_icmp_ne 42 dX10_commentEnd_35 (by decide) (fun h => absurd h7 h) (fun _ => ?_)
          refine mm_iload_n dX10_commentEnd_38 rfl ?_
          refine mm_iconst (v := 1) dX10_commentEnd_39 (by decide) ?_
          refine mm_iadd dX10_commentEnd_40 ?_
          refine mm_iret dX10_commentEnd_41 rfl rfl ?_ (by omega) (by omega)
          obtain ⟨rfl, rfl⟩ := fin2 hx
          exact ⟨rfl, rfl⟩
        · refine mm_icmp_ne 42 dX10_commentEnd_35 (by decide) (fun _ => ?_) (fun h => absurd h h7)
          exact e_X10_commentEnd_42 hst hZ hn hs ih hk48 hx
      · refine mm_icmp_ne 42 dX10_commentEnd_20 (by decide) (fun _ => ?_) (fun h => absurd h h4)
        exact e_X10_commentEnd_42 hst hZ hn hs ih hk48 hx
    · refine mm_icmp_ge 48 dX10_commentEnd_7 (by decide) (fun _ => ?_) (fun h => absurd (Int32.not_lt.mp h1) h)
      refine mm_fewer [some (.ref a), none, none] (few_ok (bs := [true, false, false]) rfl) ?_
      exact hk48  hx
set_option maxHeartbeats 4000000 in
set_option maxRecDepth 100000 in
theorem e_X10_commentEnd {g : mm_G} {l : Launch} (hst : l.stackTraces = false) {Z : Nat → Nat → Option Nat} (hZ : HZ Z) {n : Nat} (hn : 1186 ≤ n) {z : Bool} {d : Nat} {U : Nat} {a : Nat} (hs : sh a = 10) {p0 : Int32} {σ : SG} {r : Int32} {σ' : SG} (hx : x_X10_commentEnd U a p0 σ = some (r, σ')) : mm_Cm g l yX10_commentEnd (.code yX10_commentEnd cX10_commentEnd 3 (some .int)) (d + 1) 0 0 [.ref a, .int p0] (mem Z σ, n, z) (fun v S' => v = some (.int r) ∧ S' = (mem Z σ', n, z)) := by
  refine mm_Cm_of hst (by decide) (Nat.le_of_ble_eq_true rfl) ?_
  show mm_V g l RX10 "commentEnd" cX10_commentEnd 3 (some .int) [] (d + 1) 0 0 (mm_nt (fun v S' => v = some (.int r) ∧ S' = (mem Z σ', n, z))) 0 [some (.ref a), some (.int p0), none] [] (mem Z σ, n, z) 0 0
  unfold x_X10_commentEnd at hx
  refine mm_iload_n dX10_commentEnd_0 rfl ?_
  refine mm_istore_n [some (.ref a), some (.int p0), some (.int p0)] dX10_commentEnd_1 (by decide) rfl ?_
  refine mm_fewer [some (.ref a), none, some (.int p0)] (few_ok (bs := [true, false, true]) rfl) ?_
  refine e_X10_commentEnd_L2 hst hZ hn hs ?_ _ _ hx
  · intro  hx
    refine mm_aload_n dX10_commentEnd_48 rfl rfl ?_
    refine mm_iconst (v := 1) dX10_commentEnd_49 (by decide) ?_
    refine s_putI (v := 1) (r := some a) (b := a) (ci := 10) (k := 7) in_X10 rfl (by decide) rfl tyX10_ok nmX10 rfl kF_X10_44 dX10_commentEnd_50 mm_fit_z1 rfl hs (by decide) hn (by decide) rfl hx (fun σ8 hx => ?_)
    refine mm_aload_n dX10_commentEnd_53 rfl rfl ?_
    refine s_getI (r := some a) (b := a) (ci := 10) (k := 6) in_X10 rfl (by decide) rfl kF_X10_33 dX10_commentEnd_54 rfl hs (by decide) hn (by decide) rfl ?_
    refine mm_iret dX10_commentEnd_57 rfl rfl ?_ (by omega) (by omega)
    obtain ⟨rfl, rfl⟩ := fin2 hx
    exact ⟨rfl, rfl⟩
set_option maxHeartbeats 4000000 in
set_option maxRecDepth 100000 in
theorem e_X11_isBlank {g : mm_G} {l : Launch} (hst : l.stackTraces = false) {Z : Nat → Nat → Option Nat} (hZ : HZ Z) {n : Nat} (hn : 1186 ≤ n) {z : Bool} {d : Nat} {p0 : Int32} {σ : SG} {r : Int32} (hx : x_X11_isBlank p0 = some r) : mm_Cm g l yX11_isBlank (.code yX11_isBlank cX11_isBlank 1 (some .boolean)) (d) 0 0 [.int p0] (mem Z σ, n, z) (fun v S' => v = some (.int r) ∧ S' = (mem Z σ, n, z)) := by
  refine mm_Cm_of hst (by decide) (Nat.le_of_ble_eq_true rfl) ?_
  show mm_V g l RX11 "isBlank" cX11_isBlank 1 (some .boolean) [] (d) 0 0 (mm_nt (fun v S' => v = some (.int r) ∧ S' = (mem Z σ, n, z))) 0 [some (.int p0)] [] (mem Z σ, n, z) 0 0
  unfold x_X11_isBlank at hx
  refine mm_iload_n dX11_isBlank_0 rfl ?_
  refine mm_bipush (v := 32) dX11_isBlank_1 (by decide) ?_
  refine b_if hx (fun h1 hx => ?_) (fun h1 hx => ?_)
  · refine mm_icmp_eq 24 dX11_isBlank_3 (by decide) (fun _ => ?_) (fun h => absurd h1 h)
    refine mm_iconst (v := 1) dX11_isBlank_24 (by decide) ?_
    refine mm_goto 29 dX11_isBlank_25 (by decide) ?_
    refine mm_iret dX11_isBlank_29 rfl rfl ?_ (by omega) (by omega)
    obtain rfl := fin1 hx
    exact ⟨rfl, rfl⟩
  · refine mm_icmp_eq 24 dX11_isBlank_3 (by decide) (fun h => absurd h h1) (fun _ => ?_)
    refine mm_iload_n dX11_isBlank_6 rfl ?_
    refine mm_bipush (v := 9) dX11_isBlank_7 (by decide) ?_
    refine b_if hx (fun h2 hx => ?_) (fun h2 hx => ?_)
    · refine mm_icmp_eq 24 dX11_isBlank_9 (by decide) (fun _ => ?_) (fun h => absurd h2 h)
      refine mm_iconst (v := 1) dX11_isBlank_24 (by decide) ?_
      refine mm_goto 29 dX11_isBlank_25 (by decide) ?_
      refine mm_iret dX11_isBlank_29 rfl rfl ?_ (by omega) (by omega)
      obtain rfl := fin1 hx
      exact ⟨rfl, rfl⟩
    · refine mm_icmp_eq 24 dX11_isBlank_9 (by decide) (fun h => absurd h h2) (fun _ => ?_)
      refine mm_iload_n dX11_isBlank_12 rfl ?_
      refine mm_bipush (v := 10) dX11_isBlank_13 (by decide) ?_
      refine b_if hx (fun h3 hx => ?_) (fun h3 hx => ?_)
      · refine mm_icmp_eq 24 dX11_isBlank_15 (by decide) (fun _ => ?_) (fun h => absurd h3 h)
        refine mm_iconst (v := 1) dX11_isBlank_24 (by decide) ?_
        refine mm_goto 29 dX11_isBlank_25 (by decide) ?_
        refine mm_iret dX11_isBlank_29 rfl rfl ?_ (by omega) (by omega)
        obtain rfl := fin1 hx
        exact ⟨rfl, rfl⟩
      · refine mm_icmp_eq 24 dX11_isBlank_15 (by decide) (fun h => absurd h h3) (fun _ => ?_)
        refine mm_iload_n dX11_isBlank_18 rfl ?_
        refine mm_bipush (v := 13) dX11_isBlank_19 (by decide) ?_
        refine b_if hx (fun h4 hx => ?_) (fun h4 hx => ?_)
        · refine mm_icmp_ne 28 dX11_isBlank_21 (by decide) (fun h => absurd h4 h) (fun _ => ?_)
          refine mm_iconst (v := 1) dX11_isBlank_24 (by decide) ?_
          refine mm_goto 29 dX11_isBlank_25 (by decide) ?_
          refine mm_iret dX11_isBlank_29 rfl rfl ?_ (by omega) (by omega)
          obtain rfl := fin1 hx
          exact ⟨rfl, rfl⟩
        · refine mm_icmp_ne 28 dX11_isBlank_21 (by decide) (fun _ => ?_) (fun h => absurd h h4)
          refine mm_iconst (v := 0) dX11_isBlank_28 (by decide) ?_
          refine mm_iret dX11_isBlank_29 rfl rfl ?_ (by omega) (by omega)
          obtain rfl := fin1 hx
          exact ⟨rfl, rfl⟩
set_option maxHeartbeats 4000000 in
set_option maxRecDepth 100000 in
theorem e_X10_behindBlanks_86 {g : mm_G} {l : Launch} (hst : l.stackTraces = false) {Z : Nat → Nat → Option Nat} (hZ : HZ Z) {n : Nat} (hn : 1186 ≤ n) {z : Bool} {d : Nat} {U : Nat} {a : Nat} (hs : sh a = 10) {k2 : Int32 → SG → Option (Int32 × SG)} {v2_ : Int32} {σ : SG} {r : Int32} {σ' : SG} (hk2 : ∀ (v2_ : Int32) (σ8 : SG), k2 v2_ σ8 = some (r, σ') → mm_V g l RX10 "behindBlanks" cX10_behindBlanks 5 (some .int) [] (d + 2) 0 0 (mm_nt (fun v S' => v = some (.int r) ∧ S' = (mem Z σ', n, z))) 2 [some (.ref a), none, some (.int v2_), none, none] [] (mem Z σ8, n, z) 0 0) (hx : x_X10_behindBlanks_86 U a k2 v2_ σ = some (r, σ')) : mm_V g l RX10 "behindBlanks" cX10_behindBlanks 5 (some .int) [] (d + 2) 0 0 (mm_nt (fun v S' => v = some (.int r) ∧ S' = (mem Z σ', n, z))) 86 [some (.ref a), none, some (.int v2_), none, none] [] (mem Z σ, n, z) 0 0 := by
  unfold x_X10_behindBlanks_86 at hx
  refine mm_iinc (v := v2_ + 1) [some (.ref a), none, some (.int (v2_ + 1)), none, none] dX10_behindBlanks_86 rfl rfl (by decide) rfl ?_
  refine mm_goto 2 dX10_behindBlanks_89 (by decide) ?_
  exact hk2 _ _ hx
set_option maxHeartbeats 4000000 in
set_option maxRecDepth 100000 in
theorem e_X10_behindBlanks_39 {g : mm_G} {l : Launch} (hst : l.stackTraces = false) {Z : Nat → Nat → Option Nat} (hZ : HZ Z) {n : Nat} (hn : 1186 ≤ n) {z : Bool} {d : Nat} {U : Nat} {a : Nat} (hs : sh a = 10) {k2 : Int32 → SG → Option (Int32 × SG)} {v2_ : Int32} {v3_ : Int32} {s0_ : Int32} {σ : SG} {r : Int32} {σ' : SG} (hk2 : ∀ (v2_ : Int32) (σ8 : SG), k2 v2_ σ8 = some (r, σ') → mm_V g l RX10 "behindBlanks" cX10_behindBlanks 5 (some .int) [] (d + 2) 0 0 (mm_nt (fun v S' => v = some (.int r) ∧ S' = (mem Z σ', n, z))) 2 [some (.ref a), none, some (.int v2_), none, none] [] (mem Z σ8, n, z) 0 0) (hx : x_X10_behindBlanks_39 U a k2 v2_ v3_ s0_ σ = some (r, σ')) : mm_V g l RX10 "behindBlanks" cX10_behindBlanks 5 (some .int) [] (d + 2) 0 0 (mm_nt (fun v S' => v = some (.int r) ∧ S' = (mem Z σ', n, z))) 39 [some (.ref a), none, some (.int v2_), some (.int v3_), none] [.int s0_] (mem Z σ, n, z) 0 0 := by
  unfold x_X10_behindBlanks_39 at hx
  refine mm_istore [some (.ref a), none, some (.int v2_), some (.int v3_), some (.int s0_)] dX10_behindBlanks_39 (by decide) rfl ?_
  refine mm_iload dX10_behindBlanks_41 rfl ?_
  refine mm_bipush (v := 47) dX10_behindBlanks_43 (by decide) ?_
  refine b_if hx (fun h7 hx => ?_) (fun h7 hx => ?_)
  · refine mm_icmp_ne 59 dX10_behindBlanks_45 (by decide) (fun h => absurd h7 h) (fun _ => ?_)
    refine mm_aload_n dX10_behindBlanks_48 rfl rfl ?_
    refine mm_iload_n dX10_behindBlanks_49 rfl ?_
    refine mm_iconst (v := 2) dX10_behindBlanks_50 (by decide) ?_
    refine mm_iadd dX10_behindBlanks_51 ?_
    obtain ⟨v9, hc8, hx⟩ := b1_some hx
    refine mm_callV3 (a := a) (ci := 10) wM_X10_lineEnd kM_X10_103 wI_X10_lineEnd wS_X10_lineEnd dX10_behindBlanks_52 (e_X10_lineEnd hst hZ hn hs hc8) (mem_obj hs (by decide)) (sh_ltn hs (by decide) hn) rfl rfl rfl (Nat.le_of_ble_eq_true rfl) (by omega) (by omega) (fun v9 S9 hq => ?_)
    obtain ⟨rfl, rfl⟩ := hq
    refine ⟨fun h => ⟨h, rfl⟩, ?_⟩
    refine mm_istore_n [some (.ref a), none, some (.int v9), some (.int v3_), some (.int s0_)] dX10_behindBlanks_55 (by decide) rfl ?_
    refine mm_goto 86 dX10_behindBlanks_56 (by decide) ?_
    refine mm_fewer [some (.ref a), none, some (.int v9), none, none] (few_ok (bs := [true, false, true, false, false]) rfl) ?_
    exact e_X10_behindBlanks_86 hst hZ hn hs hk2 hx
  · refine mm_icmp_ne 59 dX10_behindBlanks_45 (by decide) (fun _ => ?_) (fun h => absurd h h7)
    refine mm_iload dX10_behindBlanks_59 rfl ?_
    refine mm_bipush (v := 42) dX10_behindBlanks_61 (by decide) ?_
    refine b_if hx (fun h10 hx => ?_) (fun h10 hx => ?_)
    · refine mm_icmp_ne 77 dX10_behindBlanks_63 (by decide) (fun h => absurd h10 h) (fun _ => ?_)
      refine mm_aload_n dX10_behindBlanks_66 rfl rfl ?_
      refine mm_iload_n dX10_behindBlanks_67 rfl ?_
      refine mm_iconst (v := 2) dX10_behindBlanks_68 (by decide) ?_
      refine mm_iadd dX10_behindBlanks_69 ?_
      obtain ⟨v12, σ13, hc11, hx⟩ := b2_some hx
      refine mm_callV3 (a := a) (ci := 10) wM_X10_commentEnd kM_X10_106 wI_X10_commentEnd wS_X10_commentEnd dX10_behindBlanks_70 (e_X10_commentEnd hst hZ hn hs hc11) (mem_obj hs (by decide)) (sh_ltn hs (by decide) hn) rfl rfl rfl (Nat.le_of_ble_eq_true rfl) (by omega) (by omega) (fun v9 S9 hq => ?_)
      obtain ⟨rfl, rfl⟩ := hq
      refine ⟨fun h => ⟨h, rfl⟩, ?_⟩
      refine mm_istore_n [some (.ref a), none, some (.int v12), some (.int v3_), some (.int s0_)] dX10_behindBlanks_73 (by decide) rfl ?_
      refine mm_goto 86 dX10_behindBlanks_74 (by decide) ?_
      refine mm_fewer [some (.ref a), none, some (.int v12), none, none] (few_ok (bs := [true, false, true, false, false]) rfl) ?_
      exact e_X10_behindBlanks_86 hst hZ hn hs hk2 hx
    · refine mm_icmp_ne 77 dX10_behindBlanks_63 (by decide) (fun _ => ?_) (fun h => absurd h h10)
      refine mm_iload_n dX10_behindBlanks_77 rfl ?_
      obtain ⟨v15, hc14, hx⟩ := b1_some hx
      refine mm_callSN wM_X11_isBlank kM_X10_109 wT_X11_isBlank dX10_behindBlanks_78 (e_X11_isBlank hst hZ hn hc14) rfl rfl (Nat.le_of_ble_eq_true rfl) (by omega) (by omega) (fun v9 S9 hq => ?_)
      obtain ⟨rfl, rfl⟩ := hq
      refine ⟨fun h => ⟨h, rfl⟩, ?_⟩
      refine b_if hx (fun h16 hx => ?_) (fun h16 hx => ?_)
      · refine mm_if_ne 86 dX10_behindBlanks_81 (by decide) (fun h => absurd h16 h) (fun _ => ?_)
        refine mm_iload_n dX10_behindBlanks_84 rfl ?_
        refine mm_iret dX10_behindBlanks_85 rfl rfl ?_ (by omega) (by omega)
        obtain ⟨rfl, rfl⟩ := fin2 hx
        exact ⟨rfl, rfl⟩
      · refine mm_if_ne 86 dX10_behindBlanks_81 (by decide) (fun _ => ?_) (fun h => absurd h h16)
        refine mm_fewer [some (.ref a), none, some (.int v2_), none, none] (few_ok (bs := [true, false, true, false, false]) rfl) ?_
        exact e_X10_behindBlanks_86 hst hZ hn hs hk2 hx
set_option maxHeartbeats 4000000 in
set_option maxRecDepth 100000 in
theorem e_X10_behindBlanks_L2 {g : mm_G} {l : Launch} (hst : l.stackTraces = false) {Z : Nat → Nat → Option Nat} (hZ : HZ Z) {n : Nat} (hn : 1186 ≤ n) {z : Bool} {d : Nat} {U : Nat} {a : Nat} (hs : sh a = 10) {r : Int32} {σ' : SG} : ∀ (U1 : Nat) (v2_ : Int32) (σ : SG), x_X10_behindBlanks_L2 U a U1 v2_ σ = some (r, σ') → mm_V g l RX10 "behindBlanks" cX10_behindBlanks 5 (some .int) [] (d + 2) 0 0 (mm_nt (fun v S' => v = some (.int r) ∧ S' = (mem Z σ', n, z))) 2 [some (.ref a), none, some (.int v2_), none, none] [] (mem Z σ, n, z) 0 0 := by
  intro U1
  induction U1 with
  | zero => intro v2_ σ hx; exact absurd hx (by simp [x_X10_behindBlanks_L2])
  | succ U1 ih =>
    intro v2_ σ hx
    rw [x_X10_behindBlanks_L2] at hx
    refine mm_iload_n dX10_behindBlanks_2 rfl ?_
    refine mm_aload_n dX10_behindBlanks_3 rfl rfl ?_
    refine s_getI (r := some a) (b := a) (ci := 10) (k := 6) in_X10 rfl (by decide) rfl kF_X10_33 dX10_behindBlanks_4 rfl hs (by decide) hn (by decide) rfl ?_
    refine b_if hx (fun h1 hx => ?_) (fun h1 hx => ?_)
    · refine mm_icmp_ge 92 dX10_behindBlanks_7 (by decide) (fun h => absurd h (Int32.not_le.mpr h1)) (fun _ => ?_)
      refine mm_aload_n dX10_behindBlanks_10 rfl rfl ?_
      refine s_getS (q := a - 184) (r := some a) (b := a) (ci := 10) (k := 0) in_X10 rfl (by decide) rfl kF_X10_9 dX10_behindBlanks_11 rfl hs (by decide) hn (by decide) rfl rfl ?_
      refine mm_iload_n dX10_behindBlanks_14 rfl ?_
      obtain ⟨v3, hc2, hx⟩ := b1_some hx
      refine mm_callV3 (a := a - 184) (ci := 0) wM_X0_at kM_X10_55 wI_X0_at wS_X0_at dX10_behindBlanks_15 (e_X0_at hst hZ hn (sv10_0 hs) hc2) (mem_obj (sv10_0 hs) (by decide)) (sh_ltn (sv10_0 hs) (by decide) hn) rfl rfl rfl (Nat.le_of_ble_eq_true rfl) (by omega) (by omega) (fun v9 S9 hq => ?_)
      obtain ⟨rfl, rfl⟩ := hq
      refine ⟨fun h => ⟨h, rfl⟩, ?_⟩
      refine mm_istore_n [some (.ref a), none, some (.int v2_), some (.int v3), none] dX10_behindBlanks_18 (by decide) rfl ?_
      refine mm_iload_n dX10_behindBlanks_19 rfl ?_
      refine mm_bipush (v := 47) dX10_behindBlanks_20 (by decide) ?_
      refine b_if hx (fun h4 hx => ?_) (fun h4 hx => ?_)
      · refine mm_icmp_ne 38 dX10_behindBlanks_22 (by decide) (fun h => absurd h4 h) (fun _ => ?_)
        refine mm_aload_n dX10_behindBlanks_25 rfl rfl ?_
        refine s_getS (q := a - 184) (r := some a) (b := a) (ci := 10) (k := 0) in_X10 rfl (by decide) rfl kF_X10_9 dX10_behindBlanks_26 rfl hs (by decide) hn (by decide) rfl rfl ?_
        refine mm_iload_n dX10_behindBlanks_29 rfl ?_
        refine mm_iconst (v := 1) dX10_behindBlanks_30 (by decide) ?_
        refine mm_iadd dX10_behindBlanks_31 ?_
        obtain ⟨v6, hc5, hx⟩ := b1_some hx
        refine mm_callV3 (a := a - 184) (ci := 0) wM_X0_at kM_X10_55 wI_X0_at wS_X0_at dX10_behindBlanks_32 (e_X0_at hst hZ hn (sv10_0 hs) hc5) (mem_obj (sv10_0 hs) (by decide)) (sh_ltn (sv10_0 hs) (by decide) hn) rfl rfl rfl (Nat.le_of_ble_eq_true rfl) (by omega) (by omega) (fun v9 S9 hq => ?_)
        obtain ⟨rfl, rfl⟩ := hq
        refine ⟨fun h => ⟨h, rfl⟩, ?_⟩
        refine mm_goto 39 dX10_behindBlanks_35 (by decide) ?_
        exact e_X10_behindBlanks_39 hst hZ hn hs ih hx
      · refine mm_icmp_ne 38 dX10_behindBlanks_22 (by decide) (fun _ => ?_) (fun h => absurd h h4)
        refine mm_iconst (v := (-1)) dX10_behindBlanks_38 (by decide) ?_
        exact e_X10_behindBlanks_39 hst hZ hn hs ih hx
    · refine mm_icmp_ge 92 dX10_behindBlanks_7 (by decide) (fun _ => ?_) (fun h => absurd (Int32.not_lt.mp h1) h)
      refine mm_aload_n dX10_behindBlanks_92 rfl rfl ?_
      refine s_getI (r := some a) (b := a) (ci := 10) (k := 6) in_X10 rfl (by decide) rfl kF_X10_33 dX10_behindBlanks_93 rfl hs (by decide) hn (by decide) rfl ?_
      refine mm_iret dX10_behindBlanks_96 rfl rfl ?_ (by omega) (by omega)
      obtain ⟨rfl, rfl⟩ := fin2 hx
      exact ⟨rfl, rfl⟩
set_option maxHeartbeats 4000000 in
set_option maxRecDepth 100000 in
theorem e_X10_behindBlanks {g : mm_G} {l : Launch} (hst : l.stackTraces = false) {Z : Nat → Nat → Option Nat} (hZ : HZ Z) {n : Nat} (hn : 1186 ≤ n) {z : Bool} {d : Nat} {U : Nat} {a : Nat} (hs : sh a = 10) {p0 : Int32} {σ : SG} {r : Int32} {σ' : SG} (hx : x_X10_behindBlanks U a p0 σ = some (r, σ')) : mm_Cm g l yX10_behindBlanks (.code yX10_behindBlanks cX10_behindBlanks 5 (some .int)) (d + 2) 0 0 [.ref a, .int p0] (mem Z σ, n, z) (fun v S' => v = some (.int r) ∧ S' = (mem Z σ', n, z)) := by
  refine mm_Cm_of hst (by decide) (Nat.le_of_ble_eq_true rfl) ?_
  show mm_V g l RX10 "behindBlanks" cX10_behindBlanks 5 (some .int) [] (d + 2) 0 0 (mm_nt (fun v S' => v = some (.int r) ∧ S' = (mem Z σ', n, z))) 0 [some (.ref a), some (.int p0), none, none, none] [] (mem Z σ, n, z) 0 0
  unfold x_X10_behindBlanks at hx
  refine mm_iload_n dX10_behindBlanks_0 rfl ?_
  refine mm_istore_n [some (.ref a), some (.int p0), some (.int p0), none, none] dX10_behindBlanks_1 (by decide) rfl ?_
  refine mm_fewer [some (.ref a), none, some (.int p0), none, none] (few_ok (bs := [true, false, true, false, false]) rfl) ?_
  refine e_X10_behindBlanks_L2 hst hZ hn hs _ _ _ hx
set_option maxHeartbeats 4000000 in
set_option maxRecDepth 100000 in
theorem e_X10_codeOf_45 {g : mm_G} {l : Launch} (hst : l.stackTraces = false) {Z : Nat → Nat → Option Nat} (hZ : HZ Z) {n : Nat} (hn : 1186 ≤ n) {z : Bool} {d : Nat} {a : Nat} (hs : sh a = 10) {v1_ : Int32} {s0_ : Int32} {σ : SG} {r : Int32} (hx : x_X10_codeOf_45 a v1_ s0_ σ = some r) : mm_V g l RX10 "codeOf" cX10_codeOf 3 (some .int) [] (d) 0 0 (mm_nt (fun v S' => v = some (.int r) ∧ S' = (mem Z σ, n, z))) 45 [some (.ref a), some (.int v1_), none] [.int s0_] (mem Z σ, n, z) 0 0 := by
  unfold x_X10_codeOf_45 at hx
  refine mm_istore_n [some (.ref a), some (.int v1_), some (.int s0_)] dX10_codeOf_45 (by decide) rfl ?_
  refine mm_iload_n dX10_codeOf_46 rfl ?_
  refine b_if hx (fun h2 hx => ?_) (fun h2 hx => ?_)
  · refine mm_if_eq 60 dX10_codeOf_47 (by decide) (fun _ => ?_) (fun h => absurd h2 h)
    refine mm_iconst (v := (-1)) dX10_codeOf_60 (by decide) ?_
    refine mm_iret dX10_codeOf_61 rfl rfl ?_ (by omega) (by omega)
    obtain rfl := fin1 hx
    exact ⟨rfl, rfl⟩
  · refine mm_if_eq 60 dX10_codeOf_47 (by decide) (fun h => absurd h h2) (fun _ => ?_)
    refine mm_aload_n dX10_codeOf_50 rfl rfl ?_
    refine s_getS (q := a + 4) (r := some a) (b := a) (ci := 10) (k := 4) in_X10 rfl (by decide) rfl kF_X10_25 dX10_codeOf_51 rfl hs (by decide) hn (by decide) rfl rfl ?_
    refine mm_iload_n dX10_codeOf_54 rfl ?_
    obtain ⟨j3, hj4, hb5, hl6, hx⟩ := ix_some hx
    refine s_lald (a := a + 4) (sv10_4 hs) hn hj4 hb5 (sn10_4 hs) dX10_codeOf_55 ?_
    refine mm_l2i dX10_codeOf_56 ?_
    refine mm_goto 61 dX10_codeOf_57 (by decide) ?_
    refine mm_iret dX10_codeOf_61 rfl rfl ?_ (by omega) (by omega)
    obtain rfl := fin1 hx
    exact ⟨rfl, rfl⟩
set_option maxHeartbeats 4000000 in
set_option maxRecDepth 100000 in
theorem e_X10_codeOf_44 {g : mm_G} {l : Launch} (hst : l.stackTraces = false) {Z : Nat → Nat → Option Nat} (hZ : HZ Z) {n : Nat} (hn : 1186 ≤ n) {z : Bool} {d : Nat} {a : Nat} (hs : sh a = 10) {v1_ : Int32} {σ : SG} {r : Int32} (hx : x_X10_codeOf_44 a v1_ σ = some r) : mm_V g l RX10 "codeOf" cX10_codeOf 3 (some .int) [] (d) 0 0 (mm_nt (fun v S' => v = some (.int r) ∧ S' = (mem Z σ, n, z))) 44 [some (.ref a), some (.int v1_), none] [] (mem Z σ, n, z) 0 0 := by
  unfold x_X10_codeOf_44 at hx
  refine mm_iconst (v := 0) dX10_codeOf_44 (by decide) ?_
  exact e_X10_codeOf_45 hst hZ hn hs hx
set_option maxHeartbeats 4000000 in
set_option maxRecDepth 100000 in
theorem e_X10_codeOf {g : mm_G} {l : Launch} (hst : l.stackTraces = false) {Z : Nat → Nat → Option Nat} (hZ : HZ Z) {n : Nat} (hn : 1186 ≤ n) {z : Bool} {d : Nat} {a : Nat} (hs : sh a = 10) {p0 : Int32} {σ : SG} {r : Int32} (hx : x_X10_codeOf a p0 σ = some r) : mm_Cm g l yX10_codeOf (.code yX10_codeOf cX10_codeOf 3 (some .int)) (d) 0 0 [.ref a, .int p0] (mem Z σ, n, z) (fun v S' => v = some (.int r) ∧ S' = (mem Z σ, n, z)) := by
  refine mm_Cm_of hst (by decide) (Nat.le_of_ble_eq_true rfl) ?_
  show mm_V g l RX10 "codeOf" cX10_codeOf 3 (some .int) [] (d) 0 0 (mm_nt (fun v S' => v = some (.int r) ∧ S' = (mem Z σ, n, z))) 0 [some (.ref a), some (.int p0), none] [] (mem Z σ, n, z) 0 0
  unfold x_X10_codeOf at hx
  refine mm_iload_n dX10_codeOf_0 rfl ?_
  refine b_if hx (fun h1 hx => ?_) (fun h1 hx => ?_)
  · refine mm_if_lt 44 dX10_codeOf_1 (by decide) (fun _ => ?_) (fun h => absurd h1 h)
    exact e_X10_codeOf_44 hst hZ hn hs hx
  · refine mm_if_lt 44 dX10_codeOf_1 (by decide) (fun h => absurd h h1) (fun _ => ?_)
    refine mm_iload_n dX10_codeOf_4 rfl ?_
    refine mm_aload_n dX10_codeOf_5 rfl rfl ?_
    refine s_getI (r := some a) (b := a) (ci := 10) (k := 5) in_X10 rfl (by decide) rfl kF_X10_29 dX10_codeOf_6 rfl hs (by decide) hn (by decide) rfl ?_
    refine b_if hx (fun h7 hx => ?_) (fun h7 hx => ?_)
    · refine mm_icmp_ge 44 dX10_codeOf_9 (by decide) (fun h => absurd h (Int32.not_le.mpr h7)) (fun _ => ?_)
      refine mm_iload_n dX10_codeOf_12 rfl ?_
      refine mm_aload_n dX10_codeOf_13 rfl rfl ?_
      refine s_getS (q := a + 1) (r := some a) (b := a) (ci := 10) (k := 1) in_X10 rfl (by decide) rfl kF_X10_15 dX10_codeOf_14 rfl hs (by decide) hn (by decide) rfl rfl ?_
      refine s_alen (a := a + 1) (t := 0) (N := 701) (v := 701) (fun _ => rfl) (sv10_1 hs) (by decide) hn (sn10_1 hs) rfl dX10_codeOf_17 ?_
      refine b_if hx (fun h8 hx => ?_) (fun h8 hx => ?_)
      · refine mm_icmp_ge 44 dX10_codeOf_18 (by decide) (fun h => absurd h (Int32.not_le.mpr h8)) (fun _ => ?_)
        refine mm_iload_n dX10_codeOf_21 rfl ?_
        refine mm_aload_n dX10_codeOf_22 rfl rfl ?_
        refine s_getS (q := a + 4) (r := some a) (b := a) (ci := 10) (k := 4) in_X10 rfl (by decide) rfl kF_X10_25 dX10_codeOf_23 rfl hs (by decide) hn (by decide) rfl rfl ?_
        refine s_alen (a := a + 4) (t := 1) (N := 701) (v := 701) (fun _ => rfl) (sv10_4 hs) (by decide) hn (sn10_4 hs) rfl dX10_codeOf_26 ?_
        refine b_if hx (fun h9 hx => ?_) (fun h9 hx => ?_)
        · refine mm_icmp_ge 44 dX10_codeOf_27 (by decide) (fun h => absurd h (Int32.not_le.mpr h9)) (fun _ => ?_)
          refine mm_aload_n dX10_codeOf_30 rfl rfl ?_
          refine s_getS (q := a + 1) (r := some a) (b := a) (ci := 10) (k := 1) in_X10 rfl (by decide) rfl kF_X10_15 dX10_codeOf_31 rfl hs (by decide) hn (by decide) rfl rfl ?_
          refine mm_iload_n dX10_codeOf_34 rfl ?_
          obtain ⟨j10, hj11, hb12, hl13, hx⟩ := ix_some hx
          refine s_iald (a := a + 1) (sv10_1 hs) hn hj11 hb12 (sn10_1 hs) dX10_codeOf_35 ?_
          refine mm_iconst (v := 1) dX10_codeOf_36 (by decide) ?_
          refine b_if hx (fun h14 hx => ?_) (fun h14 hx => ?_)
          · refine mm_icmp_ne 44 dX10_codeOf_37 (by decide) (fun h => absurd h14 h) (fun _ => ?_)
            refine mm_iconst (v := 1) dX10_codeOf_40 (by decide) ?_
            refine mm_goto 45 dX10_codeOf_41 (by decide) ?_
            exact e_X10_codeOf_45 hst hZ hn hs hx
          · refine mm_icmp_ne 44 dX10_codeOf_37 (by decide) (fun _ => ?_) (fun h => absurd h h14)
            exact e_X10_codeOf_44 hst hZ hn hs hx
        · refine mm_icmp_ge 44 dX10_codeOf_27 (by decide) (fun _ => ?_) (fun h => absurd (Int32.not_lt.mp h9) h)
          exact e_X10_codeOf_44 hst hZ hn hs hx
      · refine mm_icmp_ge 44 dX10_codeOf_18 (by decide) (fun _ => ?_) (fun h => absurd (Int32.not_lt.mp h8) h)
        exact e_X10_codeOf_44 hst hZ hn hs hx
    · refine mm_icmp_ge 44 dX10_codeOf_9 (by decide) (fun _ => ?_) (fun h => absurd (Int32.not_lt.mp h7) h)
      exact e_X10_codeOf_44 hst hZ hn hs hx
set_option maxHeartbeats 4000000 in
set_option maxRecDepth 100000 in
theorem e_X10_count {g : mm_G} {l : Launch} (hst : l.stackTraces = false) {Z : Nat → Nat → Option Nat} (hZ : HZ Z) {n : Nat} (hn : 1186 ≤ n) {z : Bool} {d : Nat} {a : Nat} (hs : sh a = 10) {σ : SG} {r : Int32} (hx : x_X10_count a σ = some r) : mm_Cm g l yX10_count (.code yX10_count cX10_count 1 (some .int)) (d) 0 0 [.ref a] (mem Z σ, n, z) (fun v S' => v = some (.int r) ∧ S' = (mem Z σ, n, z)) := by
  refine mm_Cm_of hst (by decide) (Nat.le_of_ble_eq_true rfl) ?_
  show mm_V g l RX10 "count" cX10_count 1 (some .int) [] (d) 0 0 (mm_nt (fun v S' => v = some (.int r) ∧ S' = (mem Z σ, n, z))) 0 [some (.ref a)] [] (mem Z σ, n, z) 0 0
  unfold x_X10_count at hx
  refine mm_aload_n dX10_count_0 rfl rfl ?_
  refine s_getI (r := some a) (b := a) (ci := 10) (k := 5) in_X10 rfl (by decide) rfl kF_X10_29 dX10_count_1 rfl hs (by decide) hn (by decide) rfl ?_
  refine mm_iret dX10_count_4 rfl rfl ?_ (by omega) (by omega)
  obtain rfl := fin1 hx
  exact ⟨rfl, rfl⟩
set_option maxHeartbeats 4000000 in
set_option maxRecDepth 100000 in
theorem e_X10_endOf {g : mm_G} {l : Launch} (hst : l.stackTraces = false) {Z : Nat → Nat → Option Nat} (hZ : HZ Z) {n : Nat} (hn : 1186 ≤ n) {z : Bool} {d : Nat} {a : Nat} (hs : sh a = 10) {p0 : Int32} {σ : SG} {r : Int32} (hx : x_X10_endOf a p0 σ = some r) : mm_Cm g l yX10_endOf (.code yX10_endOf cX10_endOf 2 (some .int)) (d) 0 0 [.ref a, .int p0] (mem Z σ, n, z) (fun v S' => v = some (.int r) ∧ S' = (mem Z σ, n, z)) := by
  refine mm_Cm_of hst (by decide) (Nat.le_of_ble_eq_true rfl) ?_
  show mm_V g l RX10 "endOf" cX10_endOf 2 (some .int) [] (d) 0 0 (mm_nt (fun v S' => v = some (.int r) ∧ S' = (mem Z σ, n, z))) 0 [some (.ref a), some (.int p0)] [] (mem Z σ, n, z) 0 0
  unfold x_X10_endOf at hx
  refine mm_iload_n dX10_endOf_0 rfl ?_
  refine b_if hx (fun h1 hx => ?_) (fun h1 hx => ?_)
  · refine mm_if_lt 30 dX10_endOf_1 (by decide) (fun _ => ?_) (fun h => absurd h1 h)
    refine mm_aload_n dX10_endOf_30 rfl rfl ?_
    refine s_getI (r := some a) (b := a) (ci := 10) (k := 6) in_X10 rfl (by decide) rfl kF_X10_33 dX10_endOf_31 rfl hs (by decide) hn (by decide) rfl ?_
    refine mm_iret dX10_endOf_34 rfl rfl ?_ (by omega) (by omega)
    obtain rfl := fin1 hx
    exact ⟨rfl, rfl⟩
  · refine mm_if_lt 30 dX10_endOf_1 (by decide) (fun h => absurd h h1) (fun _ => ?_)
    refine mm_iload_n dX10_endOf_4 rfl ?_
    refine mm_aload_n dX10_endOf_5 rfl rfl ?_
    refine s_getI (r := some a) (b := a) (ci := 10) (k := 5) in_X10 rfl (by decide) rfl kF_X10_29 dX10_endOf_6 rfl hs (by decide) hn (by decide) rfl ?_
    refine b_if hx (fun h2 hx => ?_) (fun h2 hx => ?_)
    · refine mm_icmp_ge 30 dX10_endOf_9 (by decide) (fun h => absurd h (Int32.not_le.mpr h2)) (fun _ => ?_)
      refine mm_iload_n dX10_endOf_12 rfl ?_
      refine mm_aload_n dX10_endOf_13 rfl rfl ?_
      refine s_getS (q := a + 3) (r := some a) (b := a) (ci := 10) (k := 3) in_X10 rfl (by decide) rfl kF_X10_22 dX10_endOf_14 rfl hs (by decide) hn (by decide) rfl rfl ?_
      refine s_alen (a := a + 3) (t := 0) (N := 701) (v := 701) (fun _ => rfl) (sv10_3 hs) (by decide) hn (sn10_3 hs) rfl dX10_endOf_17 ?_
      refine b_if hx (fun h3 hx => ?_) (fun h3 hx => ?_)
      · refine mm_icmp_ge 30 dX10_endOf_18 (by decide) (fun h => absurd h (Int32.not_le.mpr h3)) (fun _ => ?_)
        refine mm_aload_n dX10_endOf_21 rfl rfl ?_
        refine s_getS (q := a + 3) (r := some a) (b := a) (ci := 10) (k := 3) in_X10 rfl (by decide) rfl kF_X10_22 dX10_endOf_22 rfl hs (by decide) hn (by decide) rfl rfl ?_
        refine mm_iload_n dX10_endOf_25 rfl ?_
        obtain ⟨j4, hj5, hb6, hl7, hx⟩ := ix_some hx
        refine s_iald (a := a + 3) (sv10_3 hs) hn hj5 hb6 (sn10_3 hs) dX10_endOf_26 ?_
        refine mm_goto 34 dX10_endOf_27 (by decide) ?_
        refine mm_iret dX10_endOf_34 rfl rfl ?_ (by omega) (by omega)
        obtain rfl := fin1 hx
        exact ⟨rfl, rfl⟩
      · refine mm_icmp_ge 30 dX10_endOf_18 (by decide) (fun _ => ?_) (fun h => absurd (Int32.not_lt.mp h3) h)
        refine mm_aload_n dX10_endOf_30 rfl rfl ?_
        refine s_getI (r := some a) (b := a) (ci := 10) (k := 6) in_X10 rfl (by decide) rfl kF_X10_33 dX10_endOf_31 rfl hs (by decide) hn (by decide) rfl ?_
        refine mm_iret dX10_endOf_34 rfl rfl ?_ (by omega) (by omega)
        obtain rfl := fin1 hx
        exact ⟨rfl, rfl⟩
    · refine mm_icmp_ge 30 dX10_endOf_9 (by decide) (fun _ => ?_) (fun h => absurd (Int32.not_lt.mp h2) h)
      refine mm_aload_n dX10_endOf_30 rfl rfl ?_
      refine s_getI (r := some a) (b := a) (ci := 10) (k := 6) in_X10 rfl (by decide) rfl kF_X10_33 dX10_endOf_31 rfl hs (by decide) hn (by decide) rfl ?_
      refine mm_iret dX10_endOf_34 rfl rfl ?_ (by omega) (by omega)
      obtain rfl := fin1 hx
      exact ⟨rfl, rfl⟩
set_option maxHeartbeats 4000000 in
set_option maxRecDepth 100000 in
theorem e_X10_isSign {g : mm_G} {l : Launch} (hst : l.stackTraces = false) {Z : Nat → Nat → Option Nat} (hZ : HZ Z) {n : Nat} (hn : 1186 ≤ n) {z : Bool} {d : Nat} {a : Nat} (hs : sh a = 10) {p0 : Int32} {p1 : Int32} {σ : SG} {r : Int32} (hx : x_X10_isSign a p0 p1 σ = some r) : mm_Cm g l yX10_isSign (.code yX10_isSign cX10_isSign 3 (some .boolean)) (d) 0 0 [.ref a, .int p0, .int p1] (mem Z σ, n, z) (fun v S' => v = some (.int r) ∧ S' = (mem Z σ, n, z)) := by
  refine mm_Cm_of hst (by decide) (Nat.le_of_ble_eq_true rfl) ?_
  show mm_V g l RX10 "isSign" cX10_isSign 3 (some .boolean) [] (d) 0 0 (mm_nt (fun v S' => v = some (.int r) ∧ S' = (mem Z σ, n, z))) 0 [some (.ref a), some (.int p0), some (.int p1)] [] (mem Z σ, n, z) 0 0
  unfold x_X10_isSign at hx
  refine mm_iload_n dX10_isSign_0 rfl ?_
  refine b_if hx (fun h1 hx => ?_) (fun h1 hx => ?_)
  · refine mm_if_lt 56 dX10_isSign_1 (by decide) (fun _ => ?_) (fun h => absurd h1 h)
    refine mm_iconst (v := 0) dX10_isSign_56 (by decide) ?_
    refine mm_iret dX10_isSign_57 rfl rfl ?_ (by omega) (by omega)
    obtain rfl := fin1 hx
    exact ⟨rfl, rfl⟩
  · refine mm_if_lt 56 dX10_isSign_1 (by decide) (fun h => absurd h h1) (fun _ => ?_)
    refine mm_iload_n dX10_isSign_4 rfl ?_
    refine mm_aload_n dX10_isSign_5 rfl rfl ?_
    refine s_getI (r := some a) (b := a) (ci := 10) (k := 5) in_X10 rfl (by decide) rfl kF_X10_29 dX10_isSign_6 rfl hs (by decide) hn (by decide) rfl ?_
    refine b_if hx (fun h2 hx => ?_) (fun h2 hx => ?_)
    · refine mm_icmp_ge 56 dX10_isSign_9 (by decide) (fun h => absurd h (Int32.not_le.mpr h2)) (fun _ => ?_)
      refine mm_iload_n dX10_isSign_12 rfl ?_
      refine mm_aload_n dX10_isSign_13 rfl rfl ?_
      refine s_getS (q := a + 1) (r := some a) (b := a) (ci := 10) (k := 1) in_X10 rfl (by decide) rfl kF_X10_15 dX10_isSign_14 rfl hs (by decide) hn (by decide) rfl rfl ?_
      refine s_alen (a := a + 1) (t := 0) (N := 701) (v := 701) (fun _ => rfl) (sv10_1 hs) (by decide) hn (sn10_1 hs) rfl dX10_isSign_17 ?_
      refine b_if hx (fun h3 hx => ?_) (fun h3 hx => ?_)
      · refine mm_icmp_ge 56 dX10_isSign_18 (by decide) (fun h => absurd h (Int32.not_le.mpr h3)) (fun _ => ?_)
        refine mm_iload_n dX10_isSign_21 rfl ?_
        refine mm_aload_n dX10_isSign_22 rfl rfl ?_
        refine s_getS (q := a + 4) (r := some a) (b := a) (ci := 10) (k := 4) in_X10 rfl (by decide) rfl kF_X10_25 dX10_isSign_23 rfl hs (by decide) hn (by decide) rfl rfl ?_
        refine s_alen (a := a + 4) (t := 1) (N := 701) (v := 701) (fun _ => rfl) (sv10_4 hs) (by decide) hn (sn10_4 hs) rfl dX10_isSign_26 ?_
        refine b_if hx (fun h4 hx => ?_) (fun h4 hx => ?_)
        · refine mm_icmp_ge 56 dX10_isSign_27 (by decide) (fun h => absurd h (Int32.not_le.mpr h4)) (fun _ => ?_)
          refine mm_aload_n dX10_isSign_30 rfl rfl ?_
          refine s_getS (q := a + 1) (r := some a) (b := a) (ci := 10) (k := 1) in_X10 rfl (by decide) rfl kF_X10_15 dX10_isSign_31 rfl hs (by decide) hn (by decide) rfl rfl ?_
          refine mm_iload_n dX10_isSign_34 rfl ?_
          obtain ⟨j5, hj6, hb7, hl8, hx⟩ := ix_some hx
          refine s_iald (a := a + 1) (sv10_1 hs) hn hj6 hb7 (sn10_1 hs) dX10_isSign_35 ?_
          refine mm_iconst (v := 4) dX10_isSign_36 (by decide) ?_
          refine b_if hx (fun h9 hx => ?_) (fun h9 hx => ?_)
          · refine mm_icmp_ne 56 dX10_isSign_37 (by decide) (fun h => absurd h9 h) (fun _ => ?_)
            refine mm_aload_n dX10_isSign_40 rfl rfl ?_
            refine s_getS (q := a + 4) (r := some a) (b := a) (ci := 10) (k := 4) in_X10 rfl (by decide) rfl kF_X10_25 dX10_isSign_41 rfl hs (by decide) hn (by decide) rfl rfl ?_
            refine mm_iload_n dX10_isSign_44 rfl ?_
            obtain ⟨j10, hj11, hb12, hl13, hx⟩ := ix_some hx
            refine s_lald (a := a + 4) (sv10_4 hs) hn hj11 hb12 (sn10_4 hs) dX10_isSign_45 ?_
            refine mm_iload_n dX10_isSign_46 rfl ?_
            refine mm_i2l dX10_isSign_47 ?_
            refine mm_lcmp dX10_isSign_48 ?_
            refine b_if hx (fun h14 hx => ?_) (fun h14 hx => ?_)
            · refine mm_if_ne 56 dX10_isSign_49 (by decide) (fun h => absurd (lg_eq.mpr h14) h) (fun _ => ?_)
              refine mm_iconst (v := 1) dX10_isSign_52 (by decide) ?_
              refine mm_goto 57 dX10_isSign_53 (by decide) ?_
              refine mm_iret dX10_isSign_57 rfl rfl ?_ (by omega) (by omega)
              obtain rfl := fin1 hx
              exact ⟨rfl, rfl⟩
            · refine mm_if_ne 56 dX10_isSign_49 (by decide) (fun _ => ?_) (fun h => absurd (lg_eq.mp h) h14)
              refine mm_iconst (v := 0) dX10_isSign_56 (by decide) ?_
              refine mm_iret dX10_isSign_57 rfl rfl ?_ (by omega) (by omega)
              obtain rfl := fin1 hx
              exact ⟨rfl, rfl⟩
          · refine mm_icmp_ne 56 dX10_isSign_37 (by decide) (fun _ => ?_) (fun h => absurd h h9)
            refine mm_iconst (v := 0) dX10_isSign_56 (by decide) ?_
            refine mm_iret dX10_isSign_57 rfl rfl ?_ (by omega) (by omega)
            obtain rfl := fin1 hx
            exact ⟨rfl, rfl⟩
        · refine mm_icmp_ge 56 dX10_isSign_27 (by decide) (fun _ => ?_) (fun h => absurd (Int32.not_lt.mp h4) h)
          refine mm_iconst (v := 0) dX10_isSign_56 (by decide) ?_
          refine mm_iret dX10_isSign_57 rfl rfl ?_ (by omega) (by omega)
          obtain rfl := fin1 hx
          exact ⟨rfl, rfl⟩
      · refine mm_icmp_ge 56 dX10_isSign_18 (by decide) (fun _ => ?_) (fun h => absurd (Int32.not_lt.mp h3) h)
        refine mm_iconst (v := 0) dX10_isSign_56 (by decide) ?_
        refine mm_iret dX10_isSign_57 rfl rfl ?_ (by omega) (by omega)
        obtain rfl := fin1 hx
        exact ⟨rfl, rfl⟩
    · refine mm_icmp_ge 56 dX10_isSign_9 (by decide) (fun _ => ?_) (fun h => absurd (Int32.not_lt.mp h2) h)
      refine mm_iconst (v := 0) dX10_isSign_56 (by decide) ?_
      refine mm_iret dX10_isSign_57 rfl rfl ?_ (by omega) (by omega)
      obtain rfl := fin1 hx
      exact ⟨rfl, rfl⟩
set_option maxHeartbeats 4000000 in
set_option maxRecDepth 100000 in
theorem e_X10_kindOf {g : mm_G} {l : Launch} (hst : l.stackTraces = false) {Z : Nat → Nat → Option Nat} (hZ : HZ Z) {n : Nat} (hn : 1186 ≤ n) {z : Bool} {d : Nat} {a : Nat} (hs : sh a = 10) {p0 : Int32} {σ : SG} {r : Int32} (hx : x_X10_kindOf a p0 σ = some r) : mm_Cm g l yX10_kindOf (.code yX10_kindOf cX10_kindOf 2 (some .int)) (d) 0 0 [.ref a, .int p0] (mem Z σ, n, z) (fun v S' => v = some (.int r) ∧ S' = (mem Z σ, n, z)) := by
  refine mm_Cm_of hst (by decide) (Nat.le_of_ble_eq_true rfl) ?_
  show mm_V g l RX10 "kindOf" cX10_kindOf 2 (some .int) [] (d) 0 0 (mm_nt (fun v S' => v = some (.int r) ∧ S' = (mem Z σ, n, z))) 0 [some (.ref a), some (.int p0)] [] (mem Z σ, n, z) 0 0
  unfold x_X10_kindOf at hx
  refine mm_iload_n dX10_kindOf_0 rfl ?_
  refine b_if hx (fun h1 hx => ?_) (fun h1 hx => ?_)
  · refine mm_if_lt 30 dX10_kindOf_1 (by decide) (fun _ => ?_) (fun h => absurd h1 h)
    refine mm_iconst (v := 0) dX10_kindOf_30 (by decide) ?_
    refine mm_iret dX10_kindOf_31 rfl rfl ?_ (by omega) (by omega)
    obtain rfl := fin1 hx
    exact ⟨rfl, rfl⟩
  · refine mm_if_lt 30 dX10_kindOf_1 (by decide) (fun h => absurd h h1) (fun _ => ?_)
    refine mm_iload_n dX10_kindOf_4 rfl ?_
    refine mm_aload_n dX10_kindOf_5 rfl rfl ?_
    refine s_getI (r := some a) (b := a) (ci := 10) (k := 5) in_X10 rfl (by decide) rfl kF_X10_29 dX10_kindOf_6 rfl hs (by decide) hn (by decide) rfl ?_
    refine b_if hx (fun h2 hx => ?_) (fun h2 hx => ?_)
    · refine mm_icmp_ge 30 dX10_kindOf_9 (by decide) (fun h => absurd h (Int32.not_le.mpr h2)) (fun _ => ?_)
      refine mm_iload_n dX10_kindOf_12 rfl ?_
      refine mm_aload_n dX10_kindOf_13 rfl rfl ?_
      refine s_getS (q := a + 1) (r := some a) (b := a) (ci := 10) (k := 1) in_X10 rfl (by decide) rfl kF_X10_15 dX10_kindOf_14 rfl hs (by decide) hn (by decide) rfl rfl ?_
      refine s_alen (a := a + 1) (t := 0) (N := 701) (v := 701) (fun _ => rfl) (sv10_1 hs) (by decide) hn (sn10_1 hs) rfl dX10_kindOf_17 ?_
      refine b_if hx (fun h3 hx => ?_) (fun h3 hx => ?_)
      · refine mm_icmp_ge 30 dX10_kindOf_18 (by decide) (fun h => absurd h (Int32.not_le.mpr h3)) (fun _ => ?_)
        refine mm_aload_n dX10_kindOf_21 rfl rfl ?_
        refine s_getS (q := a + 1) (r := some a) (b := a) (ci := 10) (k := 1) in_X10 rfl (by decide) rfl kF_X10_15 dX10_kindOf_22 rfl hs (by decide) hn (by decide) rfl rfl ?_
        refine mm_iload_n dX10_kindOf_25 rfl ?_
        obtain ⟨j4, hj5, hb6, hl7, hx⟩ := ix_some hx
        refine s_iald (a := a + 1) (sv10_1 hs) hn hj5 hb6 (sn10_1 hs) dX10_kindOf_26 ?_
        refine mm_goto 31 dX10_kindOf_27 (by decide) ?_
        refine mm_iret dX10_kindOf_31 rfl rfl ?_ (by omega) (by omega)
        obtain rfl := fin1 hx
        exact ⟨rfl, rfl⟩
      · refine mm_icmp_ge 30 dX10_kindOf_18 (by decide) (fun _ => ?_) (fun h => absurd (Int32.not_lt.mp h3) h)
        refine mm_iconst (v := 0) dX10_kindOf_30 (by decide) ?_
        refine mm_iret dX10_kindOf_31 rfl rfl ?_ (by omega) (by omega)
        obtain rfl := fin1 hx
        exact ⟨rfl, rfl⟩
    · refine mm_icmp_ge 30 dX10_kindOf_9 (by decide) (fun _ => ?_) (fun h => absurd (Int32.not_lt.mp h2) h)
      refine mm_iconst (v := 0) dX10_kindOf_30 (by decide) ?_
      refine mm_iret dX10_kindOf_31 rfl rfl ?_ (by omega) (by omega)
      obtain rfl := fin1 hx
      exact ⟨rfl, rfl⟩
set_option maxHeartbeats 4000000 in
set_option maxRecDepth 100000 in
theorem e_X10_split_L25 {g : mm_G} {l : Launch} (hst : l.stackTraces = false) {Z : Nat → Nat → Option Nat} (hZ : HZ Z) {n : Nat} (hn : 1186 ≤ n) {z : Bool} {d : Nat} {U : Nat} {a : Nat} (hs : sh a = 10) {σ' : SG} : ∀ (U1 : Nat) (v1_ : Int32) (v2_ : Int32) (σ : SG), x_X10_split_L25 U a U1 v1_ v2_ σ = some σ' → mm_V g l RX10 "split" cX10_split 4 none [] (d + 8) 0 0 (mm_nt (fun v S' => v = none ∧ S' = (mem Z σ', n, z))) 25 [some (.ref a), some (.int v1_), some (.int v2_), none] [] (mem Z σ, n, z) 0 0 := by
  intro U1
  induction U1 with
  | zero => intro v1_ v2_ σ hx; exact absurd hx (by simp [x_X10_split_L25])
  | succ U1 ih =>
    intro v1_ v2_ σ hx
    rw [x_X10_split_L25] at hx
    refine mm_iload_n dX10_split_25 rfl ?_
    refine mm_sipush (v := 700) dX10_split_26 (by decide) ?_
    refine b_if hx (fun h6 hx => ?_) (fun h6 hx => ?_)
    · refine mm_icmp_gt 56 dX10_split_29 (by decide) (fun _ => ?_) (fun h => absurd h6 h)
      refine mm_vret dX10_split_56 rfl ?_ (by omega) (by omega)
      obtain rfl := fin1 hx
      exact ⟨rfl, rfl⟩
    · refine mm_icmp_gt 56 dX10_split_29 (by decide) (fun h => absurd h h6) (fun _ => ?_)
      refine mm_aload_n dX10_split_32 rfl rfl ?_
      refine mm_iload_n dX10_split_33 rfl ?_
      obtain ⟨v8, σ9, hc7, hx⟩ := b2_some hx
      refine mm_callV3 (a := a) (ci := 10) wM_X10_behindBlanks kM_X10_48 wI_X10_behindBlanks wS_X10_behindBlanks dX10_split_34 (e_X10_behindBlanks hst hZ hn hs hc7) (mem_obj hs (by decide)) (sh_ltn hs (by decide) hn) rfl rfl rfl (Nat.le_of_ble_eq_true rfl) (by omega) (by omega) (fun v9 S9 hq => ?_)
      obtain ⟨rfl, rfl⟩ := hq
      refine ⟨fun h => ⟨h, rfl⟩, ?_⟩
      refine mm_istore_n [some (.ref a), some (.int v1_), some (.int v2_), some (.int v8)] dX10_split_37 (by decide) rfl ?_
      refine mm_aload_n dX10_split_38 rfl rfl ?_
      refine mm_iload_n dX10_split_39 rfl ?_
      obtain ⟨v11, σ12, hc10, hx⟩ := b2_some hx
      refine mm_callV3 (a := a) (ci := 10) wM_X10_addWord kM_X10_52 wI_X10_addWord wS_X10_addWord dX10_split_40 (e_X10_addWord hst hZ hn hs hc10) (mem_obj hs (by decide)) (sh_ltn hs (by decide) hn) rfl rfl rfl (Nat.le_of_ble_eq_true rfl) (by omega) (by omega) (fun v9 S9 hq => ?_)
      obtain ⟨rfl, rfl⟩ := hq
      refine ⟨fun h => ⟨h, rfl⟩, ?_⟩
      refine mm_istore_n [some (.ref a), some (.int v11), some (.int v2_), some (.int v8)] dX10_split_43 (by decide) rfl ?_
      refine mm_iload_n dX10_split_44 rfl ?_
      refine mm_iload_n dX10_split_45 rfl ?_
      refine b_if hx (fun h13 hx => ?_) (fun h13 hx => ?_)
      · refine mm_icmp_gt 50 dX10_split_46 (by decide) (fun _ => ?_) (fun h => absurd h13 h)
        refine mm_iinc (v := v2_ + 1) [some (.ref a), some (.int v11), some (.int (v2_ + 1)), some (.int v8)] dX10_split_50 rfl rfl (by decide) rfl ?_
        refine mm_goto 25 dX10_split_53 (by decide) ?_
        refine mm_fewer [some (.ref a), some (.int v11), some (.int (v2_ + 1)), none] (few_ok (bs := [true, true, true, false]) rfl) ?_
        exact ih _ _ _ hx
      · refine mm_icmp_gt 50 dX10_split_46 (by decide) (fun h => absurd h h13) (fun _ => ?_)
        refine mm_vret dX10_split_49 rfl ?_ (by omega) (by omega)
        obtain rfl := fin1 hx
        exact ⟨rfl, rfl⟩
set_option maxHeartbeats 4000000 in
set_option maxRecDepth 100000 in
theorem e_X10_split {g : mm_G} {l : Launch} (hst : l.stackTraces = false) {Z : Nat → Nat → Option Nat} (hZ : HZ Z) {n : Nat} (hn : 1186 ≤ n) {z : Bool} {d : Nat} {U : Nat} {a : Nat} (hs : sh a = 10) {σ : SG} {σ' : SG} (hx : x_X10_split U a σ = some σ') : mm_Cm g l yX10_split (.code yX10_split cX10_split 4 none) (d + 8) 0 0 [.ref a] (mem Z σ, n, z) (fun v S' => v = none ∧ S' = (mem Z σ', n, z)) := by
  refine mm_Cm_of hst (by decide) (Nat.le_of_ble_eq_true rfl) ?_
  show mm_V g l RX10 "split" cX10_split 4 none [] (d + 8) 0 0 (mm_nt (fun v S' => v = none ∧ S' = (mem Z σ', n, z))) 0 [some (.ref a), none, none, none] [] (mem Z σ, n, z) 0 0
  unfold x_X10_split at hx
  refine mm_aload_n dX10_split_0 rfl rfl ?_
  refine mm_iconst (v := 0) dX10_split_1 (by decide) ?_
  refine s_putI (v := 0) (r := some a) (b := a) (ci := 10) (k := 5) in_X10 rfl (by decide) rfl tyX10_ok nmX10 rfl kF_X10_29 dX10_split_2 (mm_fit_int _) rfl hs (by decide) hn (by decide) rfl hx (fun σ1 hx => ?_)
  refine mm_aload_n dX10_split_5 rfl rfl ?_
  refine mm_aload_n dX10_split_6 rfl rfl ?_
  refine s_getS (q := a - 184) (r := some a) (b := a) (ci := 10) (k := 0) in_X10 rfl (by decide) rfl kF_X10_9 dX10_split_7 rfl hs (by decide) hn (by decide) rfl rfl ?_
  obtain ⟨v3, hc2, hx⟩ := b1_some hx
  refine mm_callV3 (a := a - 184) (ci := 0) wM_X0_size kM_X10_38 wI_X0_size wS_X0_size dX10_split_10 (e_X0_size hst hZ hn (sv10_0 hs) hc2) (mem_obj (sv10_0 hs) (by decide)) (sh_ltn (sv10_0 hs) (by decide) hn) rfl rfl rfl (Nat.le_of_ble_eq_true rfl) (by omega) (by omega) (fun v9 S9 hq => ?_)
  obtain ⟨rfl, rfl⟩ := hq
  refine ⟨fun h => ⟨h, rfl⟩, ?_⟩
  refine s_putI (v := v3) (r := some a) (b := a) (ci := 10) (k := 6) in_X10 rfl (by decide) rfl tyX10_ok nmX10 rfl kF_X10_33 dX10_split_13 (mm_fit_int _) rfl hs (by decide) hn (by decide) rfl hx (fun σ4 hx => ?_)
  refine mm_aload_n dX10_split_16 rfl rfl ?_
  refine mm_iconst (v := 0) dX10_split_17 (by decide) ?_
  refine s_putI (v := 0) (r := some a) (b := a) (ci := 10) (k := 7) in_X10 rfl (by decide) rfl tyX10_ok nmX10 rfl kF_X10_44 dX10_split_18 mm_fit_z0 rfl hs (by decide) hn (by decide) rfl hx (fun σ5 hx => ?_)
  refine mm_iconst (v := 0) dX10_split_21 (by decide) ?_
  refine mm_istore_n [some (.ref a), some (.int 0), none, none] dX10_split_22 (by decide) rfl ?_
  refine mm_iconst (v := 0) dX10_split_23 (by decide) ?_
  refine mm_istore_n [some (.ref a), some (.int 0), some (.int 0), none] dX10_split_24 (by decide) rfl ?_
  refine e_X10_split_L25 hst hZ hn hs _ _ _ _ hx
set_option maxHeartbeats 4000000 in
set_option maxRecDepth 100000 in
theorem e_X10_startOf {g : mm_G} {l : Launch} (hst : l.stackTraces = false) {Z : Nat → Nat → Option Nat} (hZ : HZ Z) {n : Nat} (hn : 1186 ≤ n) {z : Bool} {d : Nat} {a : Nat} (hs : sh a = 10) {p0 : Int32} {σ : SG} {r : Int32} (hx : x_X10_startOf a p0 σ = some r) : mm_Cm g l yX10_startOf (.code yX10_startOf cX10_startOf 2 (some .int)) (d) 0 0 [.ref a, .int p0] (mem Z σ, n, z) (fun v S' => v = some (.int r) ∧ S' = (mem Z σ, n, z)) := by
  refine mm_Cm_of hst (by decide) (Nat.le_of_ble_eq_true rfl) ?_
  show mm_V g l RX10 "startOf" cX10_startOf 2 (some .int) [] (d) 0 0 (mm_nt (fun v S' => v = some (.int r) ∧ S' = (mem Z σ, n, z))) 0 [some (.ref a), some (.int p0)] [] (mem Z σ, n, z) 0 0
  unfold x_X10_startOf at hx
  refine mm_iload_n dX10_startOf_0 rfl ?_
  refine b_if hx (fun h1 hx => ?_) (fun h1 hx => ?_)
  · refine mm_if_lt 30 dX10_startOf_1 (by decide) (fun _ => ?_) (fun h => absurd h1 h)
    refine mm_aload_n dX10_startOf_30 rfl rfl ?_
    refine s_getI (r := some a) (b := a) (ci := 10) (k := 6) in_X10 rfl (by decide) rfl kF_X10_33 dX10_startOf_31 rfl hs (by decide) hn (by decide) rfl ?_
    refine mm_iret dX10_startOf_34 rfl rfl ?_ (by omega) (by omega)
    obtain rfl := fin1 hx
    exact ⟨rfl, rfl⟩
  · refine mm_if_lt 30 dX10_startOf_1 (by decide) (fun h => absurd h h1) (fun _ => ?_)
    refine mm_iload_n dX10_startOf_4 rfl ?_
    refine mm_aload_n dX10_startOf_5 rfl rfl ?_
    refine s_getI (r := some a) (b := a) (ci := 10) (k := 5) in_X10 rfl (by decide) rfl kF_X10_29 dX10_startOf_6 rfl hs (by decide) hn (by decide) rfl ?_
    refine b_if hx (fun h2 hx => ?_) (fun h2 hx => ?_)
    · refine mm_icmp_ge 30 dX10_startOf_9 (by decide) (fun h => absurd h (Int32.not_le.mpr h2)) (fun _ => ?_)
      refine mm_iload_n dX10_startOf_12 rfl ?_
      refine mm_aload_n dX10_startOf_13 rfl rfl ?_
      refine s_getS (q := a + 2) (r := some a) (b := a) (ci := 10) (k := 2) in_X10 rfl (by decide) rfl kF_X10_19 dX10_startOf_14 rfl hs (by decide) hn (by decide) rfl rfl ?_
      refine s_alen (a := a + 2) (t := 0) (N := 701) (v := 701) (fun _ => rfl) (sv10_2 hs) (by decide) hn (sn10_2 hs) rfl dX10_startOf_17 ?_
      refine b_if hx (fun h3 hx => ?_) (fun h3 hx => ?_)
      · refine mm_icmp_ge 30 dX10_startOf_18 (by decide) (fun h => absurd h (Int32.not_le.mpr h3)) (fun _ => ?_)
        refine mm_aload_n dX10_startOf_21 rfl rfl ?_
        refine s_getS (q := a + 2) (r := some a) (b := a) (ci := 10) (k := 2) in_X10 rfl (by decide) rfl kF_X10_19 dX10_startOf_22 rfl hs (by decide) hn (by decide) rfl rfl ?_
        refine mm_iload_n dX10_startOf_25 rfl ?_
        obtain ⟨j4, hj5, hb6, hl7, hx⟩ := ix_some hx
        refine s_iald (a := a + 2) (sv10_2 hs) hn hj5 hb6 (sn10_2 hs) dX10_startOf_26 ?_
        refine mm_goto 34 dX10_startOf_27 (by decide) ?_
        refine mm_iret dX10_startOf_34 rfl rfl ?_ (by omega) (by omega)
        obtain rfl := fin1 hx
        exact ⟨rfl, rfl⟩
      · refine mm_icmp_ge 30 dX10_startOf_18 (by decide) (fun _ => ?_) (fun h => absurd (Int32.not_lt.mp h3) h)
        refine mm_aload_n dX10_startOf_30 rfl rfl ?_
        refine s_getI (r := some a) (b := a) (ci := 10) (k := 6) in_X10 rfl (by decide) rfl kF_X10_33 dX10_startOf_31 rfl hs (by decide) hn (by decide) rfl ?_
        refine mm_iret dX10_startOf_34 rfl rfl ?_ (by omega) (by omega)
        obtain rfl := fin1 hx
        exact ⟨rfl, rfl⟩
    · refine mm_icmp_ge 30 dX10_startOf_9 (by decide) (fun _ => ?_) (fun h => absurd (Int32.not_lt.mp h2) h)
      refine mm_aload_n dX10_startOf_30 rfl rfl ?_
      refine s_getI (r := some a) (b := a) (ci := 10) (k := 6) in_X10 rfl (by decide) rfl kF_X10_33 dX10_startOf_31 rfl hs (by decide) hn (by decide) rfl ?_
      refine mm_iret dX10_startOf_34 rfl rfl ?_ (by omega) (by omega)
      obtain rfl := fin1 hx
      exact ⟨rfl, rfl⟩
set_option maxHeartbeats 4000000 in
set_option maxRecDepth 100000 in
theorem e_X10_valueOf {g : mm_G} {l : Launch} (hst : l.stackTraces = false) {Z : Nat → Nat → Option Nat} (hZ : HZ Z) {n : Nat} (hn : 1186 ≤ n) {z : Bool} {d : Nat} {a : Nat} (hs : sh a = 10) {p0 : Int32} {σ : SG} {r : Int64} (hx : x_X10_valueOf a p0 σ = some r) : mm_Cm g l yX10_valueOf (.code yX10_valueOf cX10_valueOf 2 (some .long)) (d) 0 0 [.ref a, .int p0] (mem Z σ, n, z) (fun v S' => v = some (.long r) ∧ S' = (mem Z σ, n, z)) := by
  refine mm_Cm_of hst (by decide) (Nat.le_of_ble_eq_true rfl) ?_
  show mm_V g l RX10 "valueOf" cX10_valueOf 2 (some .long) [] (d) 0 0 (mm_nt (fun v S' => v = some (.long r) ∧ S' = (mem Z σ, n, z))) 0 [some (.ref a), some (.int p0)] [] (mem Z σ, n, z) 0 0
  unfold x_X10_valueOf at hx
  refine mm_iload_n dX10_valueOf_0 rfl ?_
  refine b_if hx (fun h1 hx => ?_) (fun h1 hx => ?_)
  · refine mm_if_lt 30 dX10_valueOf_1 (by decide) (fun _ => ?_) (fun h => absurd h1 h)
    refine mm_ldc2 kL_X10_36 dX10_valueOf_30 ?_
    refine mm_lret dX10_valueOf_33 rfl ?_ (by omega) (by omega)
    obtain rfl := fin1 hx
    exact ⟨rfl, rfl⟩
  · refine mm_if_lt 30 dX10_valueOf_1 (by decide) (fun h => absurd h h1) (fun _ => ?_)
    refine mm_iload_n dX10_valueOf_4 rfl ?_
    refine mm_aload_n dX10_valueOf_5 rfl rfl ?_
    refine s_getI (r := some a) (b := a) (ci := 10) (k := 5) in_X10 rfl (by decide) rfl kF_X10_29 dX10_valueOf_6 rfl hs (by decide) hn (by decide) rfl ?_
    refine b_if hx (fun h2 hx => ?_) (fun h2 hx => ?_)
    · refine mm_icmp_ge 30 dX10_valueOf_9 (by decide) (fun h => absurd h (Int32.not_le.mpr h2)) (fun _ => ?_)
      refine mm_iload_n dX10_valueOf_12 rfl ?_
      refine mm_aload_n dX10_valueOf_13 rfl rfl ?_
      refine s_getS (q := a + 4) (r := some a) (b := a) (ci := 10) (k := 4) in_X10 rfl (by decide) rfl kF_X10_25 dX10_valueOf_14 rfl hs (by decide) hn (by decide) rfl rfl ?_
      refine s_alen (a := a + 4) (t := 1) (N := 701) (v := 701) (fun _ => rfl) (sv10_4 hs) (by decide) hn (sn10_4 hs) rfl dX10_valueOf_17 ?_
      refine b_if hx (fun h3 hx => ?_) (fun h3 hx => ?_)
      · refine mm_icmp_ge 30 dX10_valueOf_18 (by decide) (fun h => absurd h (Int32.not_le.mpr h3)) (fun _ => ?_)
        refine mm_aload_n dX10_valueOf_21 rfl rfl ?_
        refine s_getS (q := a + 4) (r := some a) (b := a) (ci := 10) (k := 4) in_X10 rfl (by decide) rfl kF_X10_25 dX10_valueOf_22 rfl hs (by decide) hn (by decide) rfl rfl ?_
        refine mm_iload_n dX10_valueOf_25 rfl ?_
        obtain ⟨j4, hj5, hb6, hl7, hx⟩ := ix_some hx
        refine s_lald (a := a + 4) (sv10_4 hs) hn hj5 hb6 (sn10_4 hs) dX10_valueOf_26 ?_
        refine mm_goto 33 dX10_valueOf_27 (by decide) ?_
        refine mm_lret dX10_valueOf_33 rfl ?_ (by omega) (by omega)
        obtain rfl := fin1 hx
        exact ⟨rfl, rfl⟩
      · refine mm_icmp_ge 30 dX10_valueOf_18 (by decide) (fun _ => ?_) (fun h => absurd (Int32.not_lt.mp h3) h)
        refine mm_ldc2 kL_X10_36 dX10_valueOf_30 ?_
        refine mm_lret dX10_valueOf_33 rfl ?_ (by omega) (by omega)
        obtain rfl := fin1 hx
        exact ⟨rfl, rfl⟩
    · refine mm_icmp_ge 30 dX10_valueOf_9 (by decide) (fun _ => ?_) (fun h => absurd (Int32.not_lt.mp h2) h)
      refine mm_ldc2 kL_X10_36 dX10_valueOf_30 ?_
      refine mm_lret dX10_valueOf_33 rfl ?_ (by omega) (by omega)
      obtain rfl := fin1 hx
      exact ⟨rfl, rfl⟩
set_option maxHeartbeats 4000000 in
set_option maxRecDepth 100000 in
theorem e_X2_schema {g : mm_G} {l : Launch} (hst : l.stackTraces = false) {Z : Nat → Nat → Option Nat} (hZ : HZ Z) {n : Nat} (hn : 1186 ≤ n) {z : Bool} {d : Nat} {a : Nat} (hs : sh a = 2) {σ : SG} {r : Option Nat} (hx : x_X2_schema a σ = some r) : mm_Cm g l yX2_schema (.code yX2_schema cX2_schema 1 (some (.object "ProtoDesk$Schema"))) (d) 0 0 [.ref a] (mem Z σ, n, z) (fun v S' => v = some (va_rf r) ∧ S' = (mem Z σ, n, z)) := by
  refine mm_Cm_of hst (by decide) (Nat.le_of_ble_eq_true rfl) ?_
  show mm_V g l RX2 "schema" cX2_schema 1 (some (.object "ProtoDesk$Schema")) [] (d) 0 0 (mm_nt (fun v S' => v = some (va_rf r) ∧ S' = (mem Z σ, n, z))) 0 [some (.ref a)] [] (mem Z σ, n, z) 0 0
  unfold x_X2_schema at hx
  refine mm_aload_n dX2_schema_0 rfl rfl ?_
  refine s_getS (q := a + 1) (r := some a) (b := a) (ci := 2) (k := 0) in_X2 rfl (by decide) rfl kF_X2_12 dX2_schema_1 rfl hs (by decide) hn (by decide) rfl rfl ?_
  refine mm_aret (a := some (a + 1)) dX2_schema_4 rfl ?_ (by omega) (by omega)
  obtain rfl := fin1 hx
  exact ⟨rfl, rfl⟩
set_option maxHeartbeats 4000000 in
set_option maxRecDepth 100000 in
theorem e_X6_item {g : mm_G} {l : Launch} (hst : l.stackTraces = false) {Z : Nat → Nat → Option Nat} (hZ : HZ Z) {n : Nat} (hn : 1186 ≤ n) {z : Bool} {d : Nat} {a : Nat} (hs : sh a = 6) {p0 : Int32} {σ : SG} {r : Option Nat} (hx : x_X6_item a p0 σ = some r) : mm_Cm g l yX6_item (.code yX6_item cX6_item 2 (some (.object "ProtoDesk$Item"))) (d) 0 0 [.ref a, .int p0] (mem Z σ, n, z) (fun v S' => v = some (va_rf r) ∧ S' = (mem Z σ, n, z)) := by
  refine mm_Cm_of hst (by decide) (Nat.le_of_ble_eq_true rfl) ?_
  show mm_V g l RX6 "item" cX6_item 2 (some (.object "ProtoDesk$Item")) [] (d) 0 0 (mm_nt (fun v S' => v = some (va_rf r) ∧ S' = (mem Z σ, n, z))) 0 [some (.ref a), some (.int p0)] [] (mem Z σ, n, z) 0 0
  unfold x_X6_item at hx
  refine mm_iload_n dX6_item_0 rfl ?_
  refine b_if hx (fun h1 hx => ?_) (fun h1 hx => ?_)
  · refine mm_if_lt 30 dX6_item_1 (by decide) (fun _ => ?_) (fun h => absurd h1 h)
    refine mm_null dX6_item_30 ?_
    refine mm_aret (a := none) dX6_item_31 rfl ?_ (by omega) (by omega)
    obtain rfl := fin1 hx
    exact ⟨rfl, rfl⟩
  · refine mm_if_lt 30 dX6_item_1 (by decide) (fun h => absurd h h1) (fun _ => ?_)
    refine mm_iload_n dX6_item_4 rfl ?_
    refine mm_aload_n dX6_item_5 rfl rfl ?_
    refine s_getI (r := some a) (b := a) (ci := 6) (k := 3) in_X6 rfl (by decide) rfl kF_X6_34 dX6_item_6 rfl hs (by decide) hn (by decide) rfl ?_
    refine b_if hx (fun h2 hx => ?_) (fun h2 hx => ?_)
    · refine mm_icmp_ge 30 dX6_item_9 (by decide) (fun h => absurd h (Int32.not_le.mpr h2)) (fun _ => ?_)
      refine mm_iload_n dX6_item_12 rfl ?_
      refine mm_aload_n dX6_item_13 rfl rfl ?_
      refine s_getS (q := a + 3) (r := some a) (b := a) (ci := 6) (k := 1) in_X6 rfl (by decide) rfl kF_X6_22 dX6_item_14 rfl hs (by decide) hn (by decide) rfl rfl ?_
      refine s_alen (a := a + 3) (t := 4) (N := 180) (v := 180) (fun _ => rfl) (sv6_1 hs) (by decide) hn (sn6_1 hs) rfl dX6_item_17 ?_
      refine b_if hx (fun h3 hx => ?_) (fun h3 hx => ?_)
      · refine mm_icmp_ge 30 dX6_item_18 (by decide) (fun h => absurd h (Int32.not_le.mpr h3)) (fun _ => ?_)
        refine mm_aload_n dX6_item_21 rfl rfl ?_
        refine s_getS (q := a + 3) (r := some a) (b := a) (ci := 6) (k := 1) in_X6 rfl (by decide) rfl kF_X6_22 dX6_item_22 rfl hs (by decide) hn (by decide) rfl rfl ?_
        refine mm_iload_n dX6_item_25 rfl ?_
        obtain ⟨j4, hj5, hb6, hl7, hx⟩ := ix_some hx
        refine s_aaldS hZ hs hn hj5 hb6 hl7 dX6_item_26 ?_
        refine mm_goto 31 dX6_item_27 (by decide) ?_
        refine mm_aret (a := some (a + 4 + j4)) dX6_item_31 rfl ?_ (by omega) (by omega)
        obtain rfl := fin1 hx
        exact ⟨rfl, rfl⟩
      · refine mm_icmp_ge 30 dX6_item_18 (by decide) (fun _ => ?_) (fun h => absurd (Int32.not_lt.mp h3) h)
        refine mm_null dX6_item_30 ?_
        refine mm_aret (a := none) dX6_item_31 rfl ?_ (by omega) (by omega)
        obtain rfl := fin1 hx
        exact ⟨rfl, rfl⟩
    · refine mm_icmp_ge 30 dX6_item_9 (by decide) (fun _ => ?_) (fun h => absurd (Int32.not_lt.mp h2) h)
      refine mm_null dX6_item_30 ?_
      refine mm_aret (a := none) dX6_item_31 rfl ?_ (by omega) (by omega)
      obtain rfl := fin1 hx
      exact ⟨rfl, rfl⟩
set_option maxHeartbeats 4000000 in
set_option maxRecDepth 100000 in
theorem e_X6_message_37 {g : mm_G} {l : Launch} (hst : l.stackTraces = false) {Z : Nat → Nat → Option Nat} (hZ : HZ Z) {n : Nat} (hn : 1186 ≤ n) {z : Bool} {d : Nat} {U : Nat} {a : Nat} (hs : sh a = 6) {k2 : Int32 → Option (Option Nat)} {v1_ : Int32} {v2_ : Int32} {σ : SG} {r : Option Nat} (hk2 : ∀ (v2_ : Int32), k2 v2_ = some r → mm_V g l RX6 "message" cX6_message 4 (some (.object "ProtoDesk$Item")) [] (d + 1) 0 0 (mm_nt (fun v S' => v = some (va_rf r) ∧ S' = (mem Z σ, n, z))) 2 [some (.ref a), some (.int v1_), some (.int v2_), none] [] (mem Z σ, n, z) 0 0) (hx : x_X6_message_37 U a k2 v1_ v2_ σ = some r) : mm_V g l RX6 "message" cX6_message 4 (some (.object "ProtoDesk$Item")) [] (d + 1) 0 0 (mm_nt (fun v S' => v = some (va_rf r) ∧ S' = (mem Z σ, n, z))) 37 [some (.ref a), some (.int v1_), some (.int v2_), none] [] (mem Z σ, n, z) 0 0 := by
  unfold x_X6_message_37 at hx
  refine mm_iinc (v := v2_ + 1) [some (.ref a), some (.int v1_), some (.int (v2_ + 1)), none] dX6_message_37 rfl rfl (by decide) rfl ?_
  refine mm_goto 2 dX6_message_40 (by decide) ?_
  exact hk2 _ hx
set_option maxHeartbeats 4000000 in
set_option maxRecDepth 100000 in
theorem e_X6_message_L2 {g : mm_G} {l : Launch} (hst : l.stackTraces = false) {Z : Nat → Nat → Option Nat} (hZ : HZ Z) {n : Nat} (hn : 1186 ≤ n) {z : Bool} {d : Nat} {U : Nat} {a : Nat} (hs : sh a = 6) {v1_ : Int32} {σ : SG} {r : Option Nat} : ∀ (U1 : Nat) (v2_ : Int32), x_X6_message_L2 U a v1_ σ U1 v2_ = some r → mm_V g l RX6 "message" cX6_message 4 (some (.object "ProtoDesk$Item")) [] (d + 1) 0 0 (mm_nt (fun v S' => v = some (va_rf r) ∧ S' = (mem Z σ, n, z))) 2 [some (.ref a), some (.int v1_), some (.int v2_), none] [] (mem Z σ, n, z) 0 0 := by
  intro U1
  induction U1 with
  | zero => intro v2_ hx; exact absurd hx (by simp [x_X6_message_L2])
  | succ U1 ih =>
    intro v2_ hx
    rw [x_X6_message_L2] at hx
    refine mm_iload_n dX6_message_2 rfl ?_
    refine mm_aload_n dX6_message_3 rfl rfl ?_
    refine s_getI (r := some a) (b := a) (ci := 6) (k := 3) in_X6 rfl (by decide) rfl kF_X6_34 dX6_message_4 rfl hs (by decide) hn (by decide) rfl ?_
    refine b_if hx (fun h1 hx => ?_) (fun h1 hx => ?_)
    · refine mm_icmp_ge 43 dX6_message_7 (by decide) (fun h => absurd h (Int32.not_le.mpr h1)) (fun _ => ?_)
      refine mm_aload_n dX6_message_10 rfl rfl ?_
      refine mm_iload_n dX6_message_11 rfl ?_
      obtain ⟨v3, hc2, hx⟩ := b1_some hx
      refine mm_callV3 (a := a) (ci := 6) wM_X6_item kM_X6_45 wI_X6_item wS_X6_item dX6_message_12 (e_X6_item hst hZ hn hs hc2) (mem_obj hs (by decide)) (sh_ltn hs (by decide) hn) rfl rfl rfl (Nat.le_of_ble_eq_true rfl) (by omega) (by omega) (fun v9 S9 hq => ?_)
      obtain ⟨rfl, rfl⟩ := hq
      refine ⟨fun h => ⟨h, rfl⟩, ?_⟩
      refine mm_astore_n [some (.ref a), some (.int v1_), some (.int v2_), some (va_rf v3)] dX6_message_15 (by decide) (isr_rf _) rfl ?_
      refine mm_aload_n dX6_message_16 rfl (isr_rf _) ?_
      refine b_if hx (fun h4 hx => ?_) (fun h4 hx => ?_)
      · refine mm_ifnull (r := v3) 37 dX6_message_17 (by decide) (fun _ => ?_) (fun h => absurd h4 h)
        refine mm_fewer [some (.ref a), some (.int v1_), some (.int v2_), none] (few_ok (bs := [true, true, true, false]) rfl) ?_
        exact e_X6_message_37 hst hZ hn hs ih hx
      · refine mm_ifnull (r := v3) 37 dX6_message_17 (by decide) (fun h => absurd h h4) (fun _ => ?_)
        refine mm_aload_n dX6_message_20 rfl (isr_rf _) ?_
        obtain ⟨q5, hr6, hs7, hx⟩ := ck_some hx
        refine s_getIN (r := v3) (b := q5) (ci := 3) (k := 0) in_X3 rfl (by decide) rfl kF_X6_49 dX6_message_21 hr6 hs7 (by decide) hn (by decide) rfl ?_
        refine b_if hx (fun h8 hx => ?_) (fun h8 hx => ?_)
        · refine mm_if_ne 37 dX6_message_24 (by decide) (fun h => absurd h8 h) (fun _ => ?_)
          refine mm_aload_n dX6_message_27 rfl (isr_rf _) ?_
          refine s_getIN (r := v3) (b := q5) (ci := 3) (k := 1) in_X3 rfl (by decide) rfl kF_X6_52 dX6_message_28 hr6 hs7 (by decide) hn (by decide) rfl ?_
          refine mm_iload_n dX6_message_31 rfl ?_
          refine b_if hx (fun h9 hx => ?_) (fun h9 hx => ?_)
          · refine mm_icmp_ne 37 dX6_message_32 (by decide) (fun h => absurd h9 h) (fun _ => ?_)
            refine mm_aload_n dX6_message_35 rfl (isr_rf _) ?_
            refine mm_aret (a := v3) dX6_message_36 rfl ?_ (by omega) (by omega)
            obtain rfl := fin1 hx
            exact ⟨rfl, rfl⟩
          · refine mm_icmp_ne 37 dX6_message_32 (by decide) (fun _ => ?_) (fun h => absurd h h9)
            refine mm_fewer [some (.ref a), some (.int v1_), some (.int v2_), none] (few_ok (bs := [true, true, true, false]) rfl) ?_
            exact e_X6_message_37 hst hZ hn hs ih hx
        · refine mm_if_ne 37 dX6_message_24 (by decide) (fun _ => ?_) (fun h => absurd h h8)
          refine mm_fewer [some (.ref a), some (.int v1_), some (.int v2_), none] (few_ok (bs := [true, true, true, false]) rfl) ?_
          exact e_X6_message_37 hst hZ hn hs ih hx
    · refine mm_icmp_ge 43 dX6_message_7 (by decide) (fun _ => ?_) (fun h => absurd (Int32.not_lt.mp h1) h)
      refine mm_null dX6_message_43 ?_
      refine mm_aret (a := none) dX6_message_44 rfl ?_ (by omega) (by omega)
      obtain rfl := fin1 hx
      exact ⟨rfl, rfl⟩
set_option maxHeartbeats 4000000 in
set_option maxRecDepth 100000 in
theorem e_X6_message {g : mm_G} {l : Launch} (hst : l.stackTraces = false) {Z : Nat → Nat → Option Nat} (hZ : HZ Z) {n : Nat} (hn : 1186 ≤ n) {z : Bool} {d : Nat} {U : Nat} {a : Nat} (hs : sh a = 6) {p0 : Int32} {σ : SG} {r : Option Nat} (hx : x_X6_message U a p0 σ = some r) : mm_Cm g l yX6_message (.code yX6_message cX6_message 4 (some (.object "ProtoDesk$Item"))) (d + 1) 0 0 [.ref a, .int p0] (mem Z σ, n, z) (fun v S' => v = some (va_rf r) ∧ S' = (mem Z σ, n, z)) := by
  refine mm_Cm_of hst (by decide) (Nat.le_of_ble_eq_true rfl) ?_
  show mm_V g l RX6 "message" cX6_message 4 (some (.object "ProtoDesk$Item")) [] (d + 1) 0 0 (mm_nt (fun v S' => v = some (va_rf r) ∧ S' = (mem Z σ, n, z))) 0 [some (.ref a), some (.int p0), none, none] [] (mem Z σ, n, z) 0 0
  unfold x_X6_message at hx
  refine mm_iconst (v := 0) dX6_message_0 (by decide) ?_
  refine mm_istore_n [some (.ref a), some (.int p0), some (.int 0), none] dX6_message_1 (by decide) rfl ?_
  refine e_X6_message_L2 hst hZ hn hs _ _ hx
set_option maxHeartbeats 4000000 in
set_option maxRecDepth 100000 in
theorem e_X1_enter {g : mm_G} {l : Launch} (hst : l.stackTraces = false) {Z : Nat → Nat → Option Nat} (hZ : HZ Z) {n : Nat} (hn : 1186 ≤ n) {z : Bool} {d : Nat} {a : Nat} (hs : sh a = 1) {p0 : Option Nat} {p1 : Option Nat} {σ : SG} {r : Int32} {σ' : SG} (hx : x_X1_enter a p0 p1 σ = some (r, σ')) : mm_Cm g l yX1_enter (.code yX1_enter cX1_enter 4 (some .boolean)) (d) 0 0 [.ref a, va_rf p0, va_rf p1] (mem Z σ, n, z) (fun v S' => v = some (.int r) ∧ S' = (mem Z σ', n, z)) := by
  refine mm_Cm_of hst (by decide) (by cases p0 <;> cases p1 <;>  exact Nat.le_of_ble_eq_true rfl) ?_
  rw [show mm_ent [.ref a, va_rf p0, va_rf p1] 4 = [some (.ref a), some (va_rf p0), some (va_rf p1), none] from by cases p0 <;> cases p1 <;>  rfl]
  show mm_V g l RX1 "enter" cX1_enter 4 (some .boolean) [] (d) 0 0 (mm_nt (fun v S' => v = some (.int r) ∧ S' = (mem Z σ', n, z))) 0 [some (.ref a), some (va_rf p0), some (va_rf p1), none] [] (mem Z σ, n, z) 0 0
  unfold x_X1_enter at hx
  refine mm_aload_n dX1_enter_0 rfl (isr_rf _) ?_
  refine b_if hx (fun h1 hx => ?_) (fun h1 hx => ?_)
  · refine mm_ifnull (r := p0) 39 dX1_enter_1 (by decide) (fun _ => ?_) (fun h => absurd h1 h)
    refine mm_iconst (v := 0) dX1_enter_39 (by decide) ?_
    refine mm_iret dX1_enter_40 rfl rfl ?_ (by omega) (by omega)
    obtain ⟨rfl, rfl⟩ := fin2 hx
    exact ⟨rfl, rfl⟩
  · refine mm_ifnull (r := p0) 39 dX1_enter_1 (by decide) (fun h => absurd h h1) (fun _ => ?_)
    refine mm_aload_n dX1_enter_4 rfl (isr_rf _) ?_
    refine b_if hx (fun h2 hx => ?_) (fun h2 hx => ?_)
    · refine mm_ifnull (r := p1) 39 dX1_enter_5 (by decide) (fun _ => ?_) (fun h => absurd h2 h)
      refine mm_iconst (v := 0) dX1_enter_39 (by decide) ?_
      refine mm_iret dX1_enter_40 rfl rfl ?_ (by omega) (by omega)
      obtain ⟨rfl, rfl⟩ := fin2 hx
      exact ⟨rfl, rfl⟩
    · refine mm_ifnull (r := p1) 39 dX1_enter_5 (by decide) (fun h => absurd h h2) (fun _ => ?_)
      refine mm_aload_n dX1_enter_8 rfl rfl ?_
      refine s_getI (r := some a) (b := a) (ci := 1) (k := 4) in_X1 rfl (by decide) rfl kF_X1_28 dX1_enter_9 rfl hs (by decide) hn (by decide) rfl ?_
      refine b_if hx (fun h3 hx => ?_) (fun h3 hx => ?_)
      · refine mm_if_lt 39 dX1_enter_12 (by decide) (fun _ => ?_) (fun h => absurd h3 h)
        refine mm_iconst (v := 0) dX1_enter_39 (by decide) ?_
        refine mm_iret dX1_enter_40 rfl rfl ?_ (by omega) (by omega)
        obtain ⟨rfl, rfl⟩ := fin2 hx
        exact ⟨rfl, rfl⟩
      · refine mm_if_lt 39 dX1_enter_12 (by decide) (fun h => absurd h h3) (fun _ => ?_)
        refine mm_aload_n dX1_enter_15 rfl rfl ?_
        refine s_getI (r := some a) (b := a) (ci := 1) (k := 4) in_X1 rfl (by decide) rfl kF_X1_28 dX1_enter_16 rfl hs (by decide) hn (by decide) rfl ?_
        refine mm_aload_n dX1_enter_19 rfl rfl ?_
        refine s_getS (q := 1098) (r := some a) (b := a) (ci := 1) (k := 1) in_X1 rfl (by decide) rfl kF_X1_17 dX1_enter_20 rfl hs (by decide) hn (by decide) rfl rfl ?_
        refine s_alen (a := 1098) (t := 4) (N := 256) (v := 256) (fun _ => rfl) sa_1098 (by decide) hn na_1098 rfl dX1_enter_23 ?_
        refine b_if hx (fun h4 hx => ?_) (fun h4 hx => ?_)
        · refine mm_icmp_ge 39 dX1_enter_24 (by decide) (fun h => absurd h (Int32.not_le.mpr h4)) (fun _ => ?_)
          refine mm_aload_n dX1_enter_27 rfl rfl ?_
          refine s_getI (r := some a) (b := a) (ci := 1) (k := 4) in_X1 rfl (by decide) rfl kF_X1_28 dX1_enter_28 rfl hs (by decide) hn (by decide) rfl ?_
          refine mm_aload_n dX1_enter_31 rfl rfl ?_
          refine s_getS (q := 1099) (r := some a) (b := a) (ci := 1) (k := 2) in_X1 rfl (by decide) rfl kF_X1_21 dX1_enter_32 rfl hs (by decide) hn (by decide) rfl rfl ?_
          refine s_alen (a := 1099) (t := 4) (N := 256) (v := 256) (fun _ => rfl) sa_1099 (by decide) hn na_1099 rfl dX1_enter_35 ?_
          refine b_if hx (fun h5 hx => ?_) (fun h5 hx => ?_)
          · refine mm_icmp_lt 41 dX1_enter_36 (by decide) (fun _ => ?_) (fun h => absurd h5 h)
            refine mm_aload_n dX1_enter_41 rfl (isr_rf _) ?_
            obtain ⟨q6, hr7, hs8, hx⟩ := ck_some hx
            refine s_getIN (r := p0) (b := q6) (ci := 3) (k := 1) in_X3 rfl (by decide) rfl kF_X1_44 dX1_enter_42 hr7 hs8 (by decide) hn (by decide) rfl ?_
            refine mm_bipush (v := 16) dX1_enter_45 (by decide) ?_
            refine mm_imul dX1_enter_47 ?_
            refine mm_aload_n dX1_enter_48 rfl (isr_rf _) ?_
            obtain ⟨q9, hr10, hs11, hx⟩ := ck_some hx
            refine s_getIN (r := p1) (b := q9) (ci := 3) (k := 1) in_X3 rfl (by decide) rfl kF_X1_44 dX1_enter_49 hr10 hs11 (by decide) hn (by decide) rfl ?_
            refine mm_iadd dX1_enter_52 ?_
            refine mm_istore_n [some (.ref a), some (va_rf p0), some (va_rf p1), some (.int (((sI σ q6 1) * 16) + (sI σ q9 1)))] dX1_enter_53 (by decide) ((st1_o (r := p1) rfl).trans rfl) ?_
            refine mm_iload_n dX1_enter_54 rfl ?_
            refine b_if hx (fun h12 hx => ?_) (fun h12 hx => ?_)
            · refine mm_if_lt 76 dX1_enter_55 (by decide) (fun _ => ?_) (fun h => absurd h12 h)
              refine mm_iconst (v := 0) dX1_enter_76 (by decide) ?_
              refine mm_iret dX1_enter_77 rfl rfl ?_ (by omega) (by omega)
              obtain ⟨rfl, rfl⟩ := fin2 hx
              exact ⟨rfl, rfl⟩
            · refine mm_if_lt 76 dX1_enter_55 (by decide) (fun h => absurd h h12) (fun _ => ?_)
              refine mm_iload_n dX1_enter_58 rfl ?_
              refine mm_aload_n dX1_enter_59 rfl rfl ?_
              refine s_getS (q := 1100) (r := some a) (b := a) (ci := 1) (k := 3) in_X1 rfl (by decide) rfl kF_X1_24 dX1_enter_60 rfl hs (by decide) hn (by decide) rfl rfl ?_
              refine s_alen (a := 1100) (t := 3) (N := 256) (v := 256) (fun _ => rfl) sa_1100 (by decide) hn na_1100 rfl dX1_enter_63 ?_
              refine b_if hx (fun h13 hx => ?_) (fun h13 hx => ?_)
              · refine mm_icmp_ge 76 dX1_enter_64 (by decide) (fun h => absurd h (Int32.not_le.mpr h13)) (fun _ => ?_)
                refine mm_aload_n dX1_enter_67 rfl rfl ?_
                refine s_getS (q := 1100) (r := some a) (b := a) (ci := 1) (k := 3) in_X1 rfl (by decide) rfl kF_X1_24 dX1_enter_68 rfl hs (by decide) hn (by decide) rfl rfl ?_
                refine mm_iload_n dX1_enter_71 rfl ?_
                obtain ⟨j14, hj15, hb16, hl17, hx⟩ := ix_some hx
                refine s_zald (a := 1100) sa_1100 hn hj15 hb16 na_1100 dX1_enter_72 ?_
                refine b_if hx (fun h18 hx => ?_) (fun h18 hx => ?_)
                · refine mm_if_eq 78 dX1_enter_73 (by decide) (fun _ => ?_) (fun h => absurd h18 h)
                  refine mm_aload_n dX1_enter_78 rfl rfl ?_
                  refine s_getS (q := 1100) (r := some a) (b := a) (ci := 1) (k := 3) in_X1 rfl (by decide) rfl kF_X1_24 dX1_enter_79 rfl hs (by decide) hn (by decide) rfl rfl ?_
                  refine mm_iload_n dX1_enter_82 rfl ?_
                  refine mm_iconst (v := 1) dX1_enter_83 (by decide) ?_
                  obtain ⟨j19, hj20, hb21, hl22, hx⟩ := ix_some hx
                  refine s_zast (a := 1100) (v := 1) sa_1100 hn hj20 hb21 na_1100 dX1_enter_84 hx (fun σ23 hx => ?_)
                  refine mm_aload_n dX1_enter_85 rfl rfl ?_
                  refine s_getS (q := 1098) (r := some a) (b := a) (ci := 1) (k := 1) in_X1 rfl (by decide) rfl kF_X1_17 dX1_enter_86 rfl hs (by decide) hn (by decide) rfl rfl ?_
                  refine mm_aload_n dX1_enter_89 rfl rfl ?_
                  refine s_getI (r := some a) (b := a) (ci := 1) (k := 4) in_X1 rfl (by decide) rfl kF_X1_28 dX1_enter_90 rfl hs (by decide) hn (by decide) rfl ?_
                  refine mm_aload_n dX1_enter_93 rfl (isr_rf _) ?_
                  refine s_getPN (r := p0) (b := q6) (ci := 3) (k := 15) in_X3 rfl (by decide) rfl kF_X1_47 dX1_enter_94 hr7 hs8 (by decide) hn (by decide) rfl ?_
                  obtain ⟨j24, hj25, hb26, hl27, hx⟩ := ix_some hx
                  obtain ⟨hv29, hx⟩ := ckN_some hx
                  refine s_aast (a := 1098) (v := sP σ23 q6 15) sa_1098 (by decide) hn hj25 hb26 na_1098 hv29 dX1_enter_97 hx (fun σ28 hx => ?_)
                  refine mm_aload_n dX1_enter_98 rfl rfl ?_
                  refine s_getS (q := 1099) (r := some a) (b := a) (ci := 1) (k := 2) in_X1 rfl (by decide) rfl kF_X1_21 dX1_enter_99 rfl hs (by decide) hn (by decide) rfl rfl ?_
                  refine mm_aload_n dX1_enter_102 rfl rfl ?_
                  refine s_getI (r := some a) (b := a) (ci := 1) (k := 4) in_X1 rfl (by decide) rfl kF_X1_28 dX1_enter_103 rfl hs (by decide) hn (by decide) rfl ?_
                  refine mm_aload_n dX1_enter_106 rfl (isr_rf _) ?_
                  obtain ⟨j30, hj31, hb32, hl33, hx⟩ := ix_some hx
                  obtain ⟨hv35, hx⟩ := ckN_some hx
                  refine s_aast (a := 1099) (v := p1) sa_1099 (by decide) hn hj31 hb32 na_1099 hv35 dX1_enter_107 hx (fun σ34 hx => ?_)
                  refine mm_aload_n dX1_enter_108 rfl rfl ?_
                  refine mm_dup dX1_enter_109 rfl ?_
                  refine s_getI (r := some a) (b := a) (ci := 1) (k := 4) in_X1 rfl (by decide) rfl kF_X1_28 dX1_enter_110 rfl hs (by decide) hn (by decide) rfl ?_
                  refine mm_iconst (v := 1) dX1_enter_113 (by decide) ?_
                  refine mm_iadd dX1_enter_114 ?_
                  refine s_putI (v := (sI σ34 a 4) + 1) (r := some a) (b := a) (ci := 1) (k := 4) in_X1 rfl (by decide) rfl tyX1_ok nmX1 rfl kF_X1_28 dX1_enter_115 (mm_fit_int _) rfl hs (by decide) hn (by decide) rfl hx (fun σ36 hx => ?_)
                  refine mm_iconst (v := 1) dX1_enter_118 (by decide) ?_
                  refine mm_iret dX1_enter_119 rfl rfl ?_ (by omega) (by omega)
                  obtain ⟨rfl, rfl⟩ := fin2 hx
                  exact ⟨rfl, rfl⟩
                · refine mm_if_eq 78 dX1_enter_73 (by decide) (fun h => absurd h h18) (fun _ => ?_)
                  refine mm_iconst (v := 0) dX1_enter_76 (by decide) ?_
                  refine mm_iret dX1_enter_77 rfl rfl ?_ (by omega) (by omega)
                  obtain ⟨rfl, rfl⟩ := fin2 hx
                  exact ⟨rfl, rfl⟩
              · refine mm_icmp_ge 76 dX1_enter_64 (by decide) (fun _ => ?_) (fun h => absurd (Int32.not_lt.mp h13) h)
                refine mm_iconst (v := 0) dX1_enter_76 (by decide) ?_
                refine mm_iret dX1_enter_77 rfl rfl ?_ (by omega) (by omega)
                obtain ⟨rfl, rfl⟩ := fin2 hx
                exact ⟨rfl, rfl⟩
          · refine mm_icmp_lt 41 dX1_enter_36 (by decide) (fun h => absurd h h5) (fun _ => ?_)
            refine mm_iconst (v := 0) dX1_enter_39 (by decide) ?_
            refine mm_iret dX1_enter_40 rfl rfl ?_ (by omega) (by omega)
            obtain ⟨rfl, rfl⟩ := fin2 hx
            exact ⟨rfl, rfl⟩
        · refine mm_icmp_ge 39 dX1_enter_24 (by decide) (fun _ => ?_) (fun h => absurd (Int32.not_lt.mp h4) h)
          refine mm_iconst (v := 0) dX1_enter_39 (by decide) ?_
          refine mm_iret dX1_enter_40 rfl rfl ?_ (by omega) (by omega)
          obtain ⟨rfl, rfl⟩ := fin2 hx
          exact ⟨rfl, rfl⟩
set_option maxHeartbeats 4000000 in
set_option maxRecDepth 100000 in
theorem e_X3_memberNumbered_L5 {g : mm_G} {l : Launch} (hst : l.stackTraces = false) {Z : Nat → Nat → Option Nat} (hZ : HZ Z) {n : Nat} (hn : 1186 ≤ n) {z : Bool} {d : Nat} {U : Nat} {a : Nat} (hs : sh a = 3) {v1_ : Int64} {σ : SG} {r : Option Nat} : ∀ (U1 : Nat) (v3_ : Option Nat), x_X3_memberNumbered_L5 U a v1_ σ U1 v3_ = some r → mm_V g l RX3 "memberNumbered" cX3_memberNumbered 4 (some (.object "ProtoDesk$Item")) [] (d) 0 0 (mm_nt (fun v S' => v = some (va_rf r) ∧ S' = (mem Z σ, n, z))) 5 [none, some (.long v1_), none, some (va_rf v3_)] [] (mem Z σ, n, z) 0 0 := by
  intro U1
  induction U1 with
  | zero => intro v3_ hx; exact absurd hx (by simp [x_X3_memberNumbered_L5])
  | succ U1 ih =>
    intro v3_ hx
    rw [x_X3_memberNumbered_L5] at hx
    refine mm_aload_n dX3_memberNumbered_5 rfl (isr_rf _) ?_
    refine b_if hx (fun h1 hx => ?_) (fun h1 hx => ?_)
    · refine mm_ifnull (r := v3_) 26 dX3_memberNumbered_6 (by decide) (fun _ => ?_) (fun h => absurd h1 h)
      refine mm_aload_n dX3_memberNumbered_26 rfl (isr_rf _) ?_
      refine mm_aret (a := v3_) dX3_memberNumbered_27 rfl ?_ (by omega) (by omega)
      obtain rfl := fin1 hx
      exact ⟨rfl, rfl⟩
    · refine mm_ifnull (r := v3_) 26 dX3_memberNumbered_6 (by decide) (fun h => absurd h h1) (fun _ => ?_)
      refine mm_aload_n dX3_memberNumbered_9 rfl (isr_rf _) ?_
      obtain ⟨q2, hr3, hs4, hx⟩ := ck_some hx
      refine s_getL (r := v3_) (b := q2) (ci := 3) (k := 6) in_X3 rfl (by decide) rfl kF_X3_31 dX3_memberNumbered_10 hr3 hs4 (by decide) hn (by decide) rfl ?_
      refine mm_lload_n dX3_memberNumbered_13 rfl ?_
      refine mm_lcmp dX3_memberNumbered_14 ?_
      refine b_if hx (fun h5 hx => ?_) (fun h5 hx => ?_)
      · refine mm_if_eq 26 dX3_memberNumbered_15 (by decide) (fun _ => ?_) (fun h => absurd (lg_eq.mpr h5) h)
        refine mm_aload_n dX3_memberNumbered_26 rfl (isr_rf _) ?_
        refine mm_aret (a := v3_) dX3_memberNumbered_27 rfl ?_ (by omega) (by omega)
        obtain rfl := fin1 hx
        exact ⟨rfl, rfl⟩
      · refine mm_if_eq 26 dX3_memberNumbered_15 (by decide) (fun h => absurd (lg_eq.mp h) h5) (fun _ => ?_)
        refine mm_aload_n dX3_memberNumbered_18 rfl (isr_rf _) ?_
        refine s_getP (r := v3_) (b := q2) (ci := 3) (k := 16) in_X3 rfl (by decide) rfl kF_X3_63 dX3_memberNumbered_19 hr3 hs4 (by decide) hn (by decide) rfl ?_
        refine mm_astore_n [none, some (.long v1_), none, some (va_rf (sP σ q2 16))] dX3_memberNumbered_22 (by decide) (isr_rf _) rfl ?_
        refine mm_goto 5 dX3_memberNumbered_23 (by decide) ?_
        exact ih _ hx
set_option maxHeartbeats 4000000 in
set_option maxRecDepth 100000 in
theorem e_X3_memberNumbered {g : mm_G} {l : Launch} (hst : l.stackTraces = false) {Z : Nat → Nat → Option Nat} (hZ : HZ Z) {n : Nat} (hn : 1186 ≤ n) {z : Bool} {d : Nat} {U : Nat} {a : Nat} (hs : sh a = 3) {p0 : Int64} {σ : SG} {r : Option Nat} (hx : x_X3_memberNumbered U a p0 σ = some r) : mm_Cm g l yX3_memberNumbered (.code yX3_memberNumbered cX3_memberNumbered 4 (some (.object "ProtoDesk$Item"))) (d) 0 0 [.ref a, .long p0] (mem Z σ, n, z) (fun v S' => v = some (va_rf r) ∧ S' = (mem Z σ, n, z)) := by
  refine mm_Cm_of hst (by decide) (Nat.le_of_ble_eq_true rfl) ?_
  show mm_V g l RX3 "memberNumbered" cX3_memberNumbered 4 (some (.object "ProtoDesk$Item")) [] (d) 0 0 (mm_nt (fun v S' => v = some (va_rf r) ∧ S' = (mem Z σ, n, z))) 0 [some (.ref a), some (.long p0), none, none] [] (mem Z σ, n, z) 0 0
  unfold x_X3_memberNumbered at hx
  refine mm_aload_n dX3_memberNumbered_0 rfl rfl ?_
  refine s_getP (r := some a) (b := a) (ci := 3) (k := 15) in_X3 rfl (by decide) rfl kF_X3_60 dX3_memberNumbered_1 rfl hs (by decide) hn (by decide) rfl ?_
  refine mm_astore_n [some (.ref a), some (.long p0), none, some (va_rf (sP σ a 15))] dX3_memberNumbered_4 (by decide) (isr_rf _) rfl ?_
  refine mm_fewer [none, some (.long p0), none, some (va_rf (sP σ a 15))] (few_ok (bs := [false, true, false, true]) rfl) ?_
  refine e_X3_memberNumbered_L5 hst hZ hn hs _ _ hx
set_option maxHeartbeats 4000000 in
set_option maxRecDepth 100000 in
theorem e_X1_isUnderstood {g : mm_G} {l : Launch} (hst : l.stackTraces = false) {Z : Nat → Nat → Option Nat} (hZ : HZ Z) {n : Nat} (hn : 1186 ≤ n) {z : Bool} {d : Nat} {p0 : Int32} {p1 : Int32} {σ : SG} {r : Int32} (hx : x_X1_isUnderstood p0 p1 = some r) : mm_Cm g l yX1_isUnderstood (.code yX1_isUnderstood cX1_isUnderstood 2 (some .boolean)) (d) 0 0 [.int p0, .int p1] (mem Z σ, n, z) (fun v S' => v = some (.int r) ∧ S' = (mem Z σ, n, z)) := by
  refine mm_Cm_of hst (by decide) (Nat.le_of_ble_eq_true rfl) ?_
  show mm_V g l RX1 "isUnderstood" cX1_isUnderstood 2 (some .boolean) [] (d) 0 0 (mm_nt (fun v S' => v = some (.int r) ∧ S' = (mem Z σ, n, z))) 0 [some (.int p0), some (.int p1)] [] (mem Z σ, n, z) 0 0
  unfold x_X1_isUnderstood at hx
  refine mm_iload_n dX1_isUnderstood_0 rfl ?_
  refine mm_iload_n dX1_isUnderstood_1 rfl ?_
  refine b_if hx (fun h1 hx => ?_) (fun h1 hx => ?_)
  · refine mm_icmp_ne 7 dX1_isUnderstood_2 (by decide) (fun h => absurd h1 h) (fun _ => ?_)
    refine mm_iconst (v := 1) dX1_isUnderstood_5 (by decide) ?_
    refine mm_iret dX1_isUnderstood_6 rfl rfl ?_ (by omega) (by omega)
    obtain rfl := fin1 hx
    exact ⟨rfl, rfl⟩
  · refine mm_icmp_ne 7 dX1_isUnderstood_2 (by decide) (fun _ => ?_) (fun h => absurd h h1)
    refine mm_iload_n dX1_isUnderstood_7 rfl ?_
    refine b_if hx (fun h2 hx => ?_) (fun h2 hx => ?_)
    · refine mm_tsIn 84 dX1_isUnderstood_8 (by rw [h2]; decide) (by rw [h2]; decide) (by rw [h2]; rfl) (by decide) ?_
      refine mm_iload_n dX1_isUnderstood_84 rfl ?_
      refine mm_iconst (v := 1) dX1_isUnderstood_85 (by decide) ?_
      refine b_if hx (fun h3 hx => ?_) (fun h3 hx => ?_)
      · refine mm_icmp_eq 95 dX1_isUnderstood_86 (by decide) (fun _ => ?_) (fun h => absurd h3 h)
        refine mm_iconst (v := 1) dX1_isUnderstood_95 (by decide) ?_
        refine mm_goto 100 dX1_isUnderstood_96 (by decide) ?_
        refine mm_iret dX1_isUnderstood_100 rfl rfl ?_ (by omega) (by omega)
        obtain rfl := fin1 hx
        exact ⟨rfl, rfl⟩
      · refine mm_icmp_eq 95 dX1_isUnderstood_86 (by decide) (fun h => absurd h h3) (fun _ => ?_)
        refine mm_iload_n dX1_isUnderstood_89 rfl ?_
        refine mm_bipush (v := 14) dX1_isUnderstood_90 (by decide) ?_
        refine b_if hx (fun h4 hx => ?_) (fun h4 hx => ?_)
        · refine mm_icmp_ne 99 dX1_isUnderstood_92 (by decide) (fun h => absurd h4 h) (fun _ => ?_)
          refine mm_iconst (v := 1) dX1_isUnderstood_95 (by decide) ?_
          refine mm_goto 100 dX1_isUnderstood_96 (by decide) ?_
          refine mm_iret dX1_isUnderstood_100 rfl rfl ?_ (by omega) (by omega)
          obtain rfl := fin1 hx
          exact ⟨rfl, rfl⟩
        · refine mm_icmp_ne 99 dX1_isUnderstood_92 (by decide) (fun _ => ?_) (fun h => absurd h h4)
          refine mm_iconst (v := 0) dX1_isUnderstood_99 (by decide) ?_
          refine mm_iret dX1_isUnderstood_100 rfl rfl ?_ (by omega) (by omega)
          obtain rfl := fin1 hx
          exact ⟨rfl, rfl⟩
    · skip
      refine b_if hx (fun h5 hx => ?_) (fun h5 hx => ?_)
      · refine mm_tsIn 186 dX1_isUnderstood_8 (by rw [h5]; decide) (by rw [h5]; decide) (by rw [h5]; rfl) (by decide) ?_
        refine mm_iconst (v := 0) dX1_isUnderstood_186 (by decide) ?_
        refine mm_iret dX1_isUnderstood_187 rfl rfl ?_ (by omega) (by omega)
        obtain rfl := fin1 hx
        exact ⟨rfl, rfl⟩
      · skip
        refine b_if hx (fun h6 hx => ?_) (fun h6 hx => ?_)
        · refine mm_tsIn 101 dX1_isUnderstood_8 (by rw [h6]; decide) (by rw [h6]; decide) (by rw [h6]; rfl) (by decide) ?_
          refine mm_iload_n dX1_isUnderstood_101 rfl ?_
          refine mm_iconst (v := 3) dX1_isUnderstood_102 (by decide) ?_
          refine b_if hx (fun h7 hx => ?_) (fun h7 hx => ?_)
          · refine mm_icmp_eq 111 dX1_isUnderstood_103 (by decide) (fun _ => ?_) (fun h => absurd h7 h)
            refine mm_iconst (v := 1) dX1_isUnderstood_111 (by decide) ?_
            refine mm_goto 116 dX1_isUnderstood_112 (by decide) ?_
            refine mm_iret dX1_isUnderstood_116 rfl rfl ?_ (by omega) (by omega)
            obtain rfl := fin1 hx
            exact ⟨rfl, rfl⟩
          · refine mm_icmp_eq 111 dX1_isUnderstood_103 (by decide) (fun h => absurd h h7) (fun _ => ?_)
            refine mm_iload_n dX1_isUnderstood_106 rfl ?_
            refine mm_iconst (v := 1) dX1_isUnderstood_107 (by decide) ?_
            refine b_if hx (fun h8 hx => ?_) (fun h8 hx => ?_)
            · refine mm_icmp_ne 115 dX1_isUnderstood_108 (by decide) (fun h => absurd h8 h) (fun _ => ?_)
              refine mm_iconst (v := 1) dX1_isUnderstood_111 (by decide) ?_
              refine mm_goto 116 dX1_isUnderstood_112 (by decide) ?_
              refine mm_iret dX1_isUnderstood_116 rfl rfl ?_ (by omega) (by omega)
              obtain rfl := fin1 hx
              exact ⟨rfl, rfl⟩
            · refine mm_icmp_ne 115 dX1_isUnderstood_108 (by decide) (fun _ => ?_) (fun h => absurd h h8)
              refine mm_iconst (v := 0) dX1_isUnderstood_115 (by decide) ?_
              refine mm_iret dX1_isUnderstood_116 rfl rfl ?_ (by omega) (by omega)
              obtain rfl := fin1 hx
              exact ⟨rfl, rfl⟩
        · skip
          refine b_if hx (fun h9 hx => ?_) (fun h9 hx => ?_)
          · refine mm_tsIn 186 dX1_isUnderstood_8 (by rw [h9]; decide) (by rw [h9]; decide) (by rw [h9]; rfl) (by decide) ?_
            refine mm_iconst (v := 0) dX1_isUnderstood_186 (by decide) ?_
            refine mm_iret dX1_isUnderstood_187 rfl rfl ?_ (by omega) (by omega)
            obtain rfl := fin1 hx
            exact ⟨rfl, rfl⟩
          · skip
            refine b_if hx (fun h10 hx => ?_) (fun h10 hx => ?_)
            · refine mm_tsIn 117 dX1_isUnderstood_8 (by rw [h10]; decide) (by rw [h10]; decide) (by rw [h10]; rfl) (by decide) ?_
              refine mm_iload_n dX1_isUnderstood_117 rfl ?_
              refine mm_iconst (v := 5) dX1_isUnderstood_118 (by decide) ?_
              refine b_if hx (fun h11 hx => ?_) (fun h11 hx => ?_)
              · refine mm_icmp_ne 126 dX1_isUnderstood_119 (by decide) (fun h => absurd h11 h) (fun _ => ?_)
                refine mm_iconst (v := 1) dX1_isUnderstood_122 (by decide) ?_
                refine mm_goto 127 dX1_isUnderstood_123 (by decide) ?_
                refine mm_iret dX1_isUnderstood_127 rfl rfl ?_ (by omega) (by omega)
                obtain rfl := fin1 hx
                exact ⟨rfl, rfl⟩
              · refine mm_icmp_ne 126 dX1_isUnderstood_119 (by decide) (fun _ => ?_) (fun h => absurd h h11)
                refine mm_iconst (v := 0) dX1_isUnderstood_126 (by decide) ?_
                refine mm_iret dX1_isUnderstood_127 rfl rfl ?_ (by omega) (by omega)
                obtain rfl := fin1 hx
                exact ⟨rfl, rfl⟩
            · skip
              refine b_if hx (fun h12 hx => ?_) (fun h12 hx => ?_)
              · refine mm_tsIn 186 dX1_isUnderstood_8 (by rw [h12]; decide) (by rw [h12]; decide) (by rw [h12]; rfl) (by decide) ?_
                refine mm_iconst (v := 0) dX1_isUnderstood_186 (by decide) ?_
                refine mm_iret dX1_isUnderstood_187 rfl rfl ?_ (by omega) (by omega)
                obtain rfl := fin1 hx
                exact ⟨rfl, rfl⟩
              · skip
                refine b_if hx (fun h13 hx => ?_) (fun h13 hx => ?_)
                · refine mm_tsIn 186 dX1_isUnderstood_8 (by rw [h13]; decide) (by rw [h13]; decide) (by rw [h13]; rfl) (by decide) ?_
                  refine mm_iconst (v := 0) dX1_isUnderstood_186 (by decide) ?_
                  refine mm_iret dX1_isUnderstood_187 rfl rfl ?_ (by omega) (by omega)
                  obtain rfl := fin1 hx
                  exact ⟨rfl, rfl⟩
                · skip
                  refine b_if hx (fun h14 hx => ?_) (fun h14 hx => ?_)
                  · refine mm_tsIn 186 dX1_isUnderstood_8 (by rw [h14]; decide) (by rw [h14]; decide) (by rw [h14]; rfl) (by decide) ?_
                    refine mm_iconst (v := 0) dX1_isUnderstood_186 (by decide) ?_
                    refine mm_iret dX1_isUnderstood_187 rfl rfl ?_ (by omega) (by omega)
                    obtain rfl := fin1 hx
                    exact ⟨rfl, rfl⟩
                  · skip
                    refine b_if hx (fun h15 hx => ?_) (fun h15 hx => ?_)
                    · refine mm_tsIn 186 dX1_isUnderstood_8 (by rw [h15]; decide) (by rw [h15]; decide) (by rw [h15]; rfl) (by decide) ?_
                      refine mm_iconst (v := 0) dX1_isUnderstood_186 (by decide) ?_
                      refine mm_iret dX1_isUnderstood_187 rfl rfl ?_ (by omega) (by omega)
                      obtain rfl := fin1 hx
                      exact ⟨rfl, rfl⟩
                    · skip
                      refine b_if hx (fun h16 hx => ?_) (fun h16 hx => ?_)
                      · refine mm_tsIn 186 dX1_isUnderstood_8 (by rw [h16]; decide) (by rw [h16]; decide) (by rw [h16]; rfl) (by decide) ?_
                        refine mm_iconst (v := 0) dX1_isUnderstood_186 (by decide) ?_
                        refine mm_iret dX1_isUnderstood_187 rfl rfl ?_ (by omega) (by omega)
                        obtain rfl := fin1 hx
                        exact ⟨rfl, rfl⟩
                      · skip
                        refine b_if hx (fun h17 hx => ?_) (fun h17 hx => ?_)
                        · refine mm_tsIn 128 dX1_isUnderstood_8 (by rw [h17]; decide) (by rw [h17]; decide) (by rw [h17]; rfl) (by decide) ?_
                          refine mm_iload_n dX1_isUnderstood_128 rfl ?_
                          refine b_if hx (fun h18 hx => ?_) (fun h18 hx => ?_)
                          · refine mm_if_eq 153 dX1_isUnderstood_129 (by decide) (fun _ => ?_) (fun h => absurd h18 h)
                            refine mm_iconst (v := 1) dX1_isUnderstood_153 (by decide) ?_
                            refine mm_goto 158 dX1_isUnderstood_154 (by decide) ?_
                            refine mm_iret dX1_isUnderstood_158 rfl rfl ?_ (by omega) (by omega)
                            obtain rfl := fin1 hx
                            exact ⟨rfl, rfl⟩
                          · refine mm_if_eq 153 dX1_isUnderstood_129 (by decide) (fun h => absurd h h18) (fun _ => ?_)
                            refine mm_iload_n dX1_isUnderstood_132 rfl ?_
                            refine mm_iconst (v := 1) dX1_isUnderstood_133 (by decide) ?_
                            refine b_if hx (fun h19 hx => ?_) (fun h19 hx => ?_)
                            · refine mm_icmp_eq 153 dX1_isUnderstood_134 (by decide) (fun _ => ?_) (fun h => absurd h19 h)
                              refine mm_iconst (v := 1) dX1_isUnderstood_153 (by decide) ?_
                              refine mm_goto 158 dX1_isUnderstood_154 (by decide) ?_
                              refine mm_iret dX1_isUnderstood_158 rfl rfl ?_ (by omega) (by omega)
                              obtain rfl := fin1 hx
                              exact ⟨rfl, rfl⟩
                            · refine mm_icmp_eq 153 dX1_isUnderstood_134 (by decide) (fun h => absurd h h19) (fun _ => ?_)
                              refine mm_iload_n dX1_isUnderstood_137 rfl ?_
                              refine mm_iconst (v := 2) dX1_isUnderstood_138 (by decide) ?_
                              refine b_if hx (fun h20 hx => ?_) (fun h20 hx => ?_)
                              · refine mm_icmp_eq 153 dX1_isUnderstood_139 (by decide) (fun _ => ?_) (fun h => absurd h20 h)
                                refine mm_iconst (v := 1) dX1_isUnderstood_153 (by decide) ?_
                                refine mm_goto 158 dX1_isUnderstood_154 (by decide) ?_
                                refine mm_iret dX1_isUnderstood_158 rfl rfl ?_ (by omega) (by omega)
                                obtain rfl := fin1 hx
                                exact ⟨rfl, rfl⟩
                              · refine mm_icmp_eq 153 dX1_isUnderstood_139 (by decide) (fun h => absurd h h20) (fun _ => ?_)
                                refine mm_iload_n dX1_isUnderstood_142 rfl ?_
                                refine mm_iconst (v := 3) dX1_isUnderstood_143 (by decide) ?_
                                refine b_if hx (fun h21 hx => ?_) (fun h21 hx => ?_)
                                · refine mm_icmp_eq 153 dX1_isUnderstood_144 (by decide) (fun _ => ?_) (fun h => absurd h21 h)
                                  refine mm_iconst (v := 1) dX1_isUnderstood_153 (by decide) ?_
                                  refine mm_goto 158 dX1_isUnderstood_154 (by decide) ?_
                                  refine mm_iret dX1_isUnderstood_158 rfl rfl ?_ (by omega) (by omega)
                                  obtain rfl := fin1 hx
                                  exact ⟨rfl, rfl⟩
                                · refine mm_icmp_eq 153 dX1_isUnderstood_144 (by decide) (fun h => absurd h h21) (fun _ => ?_)
                                  refine mm_iload_n dX1_isUnderstood_147 rfl ?_
                                  refine mm_bipush (v := 14) dX1_isUnderstood_148 (by decide) ?_
                                  refine b_if hx (fun h22 hx => ?_) (fun h22 hx => ?_)
                                  · refine mm_icmp_ne 157 dX1_isUnderstood_150 (by decide) (fun h => absurd h22 h) (fun _ => ?_)
                                    refine mm_iconst (v := 1) dX1_isUnderstood_153 (by decide) ?_
                                    refine mm_goto 158 dX1_isUnderstood_154 (by decide) ?_
                                    refine mm_iret dX1_isUnderstood_158 rfl rfl ?_ (by omega) (by omega)
                                    obtain rfl := fin1 hx
                                    exact ⟨rfl, rfl⟩
                                  · refine mm_icmp_ne 157 dX1_isUnderstood_150 (by decide) (fun _ => ?_) (fun h => absurd h h22)
                                    refine mm_iconst (v := 0) dX1_isUnderstood_157 (by decide) ?_
                                    refine mm_iret dX1_isUnderstood_158 rfl rfl ?_ (by omega) (by omega)
                                    obtain rfl := fin1 hx
                                    exact ⟨rfl, rfl⟩
                        · skip
                          refine b_if hx (fun h23 hx => ?_) (fun h23 hx => ?_)
                          · refine mm_tsIn 174 dX1_isUnderstood_8 (by rw [h23]; decide) (by rw [h23]; decide) (by rw [h23]; rfl) (by decide) ?_
                            refine mm_iload_n dX1_isUnderstood_174 rfl ?_
                            refine mm_bipush (v := 12) dX1_isUnderstood_175 (by decide) ?_
                            refine b_if hx (fun h24 hx => ?_) (fun h24 hx => ?_)
                            · refine mm_icmp_ne 184 dX1_isUnderstood_177 (by decide) (fun h => absurd h24 h) (fun _ => ?_)
                              refine mm_iconst (v := 1) dX1_isUnderstood_180 (by decide) ?_
                              refine mm_goto 185 dX1_isUnderstood_181 (by decide) ?_
                              refine mm_iret dX1_isUnderstood_185 rfl rfl ?_ (by omega) (by omega)
                              obtain rfl := fin1 hx
                              exact ⟨rfl, rfl⟩
                            · refine mm_icmp_ne 184 dX1_isUnderstood_177 (by decide) (fun _ => ?_) (fun h => absurd h h24)
                              refine mm_iconst (v := 0) dX1_isUnderstood_184 (by decide) ?_
                              refine mm_iret dX1_isUnderstood_185 rfl rfl ?_ (by omega) (by omega)
                              obtain rfl := fin1 hx
                              exact ⟨rfl, rfl⟩
                          · skip
                            refine b_if hx (fun h25 hx => ?_) (fun h25 hx => ?_)
                            · refine mm_tsIn 186 dX1_isUnderstood_8 (by rw [h25]; decide) (by rw [h25]; decide) (by rw [h25]; rfl) (by decide) ?_
                              refine mm_iconst (v := 0) dX1_isUnderstood_186 (by decide) ?_
                              refine mm_iret dX1_isUnderstood_187 rfl rfl ?_ (by omega) (by omega)
                              obtain rfl := fin1 hx
                              exact ⟨rfl, rfl⟩
                            · skip
                              refine b_if hx (fun h26 hx => ?_) (fun h26 hx => ?_)
                              · refine mm_tsIn 186 dX1_isUnderstood_8 (by rw [h26]; decide) (by rw [h26]; decide) (by rw [h26]; rfl) (by decide) ?_
                                refine mm_iconst (v := 0) dX1_isUnderstood_186 (by decide) ?_
                                refine mm_iret dX1_isUnderstood_187 rfl rfl ?_ (by omega) (by omega)
                                obtain rfl := fin1 hx
                                exact ⟨rfl, rfl⟩
                              · skip
                                refine b_if hx (fun h27 hx => ?_) (fun h27 hx => ?_)
                                · refine mm_tsIn 159 dX1_isUnderstood_8 (by rw [h27]; decide) (by rw [h27]; decide) (by rw [h27]; rfl) (by decide) ?_
                                  refine mm_iload_n dX1_isUnderstood_159 rfl ?_
                                  refine b_if hx (fun h28 hx => ?_) (fun h28 hx => ?_)
                                  · refine mm_if_eq 168 dX1_isUnderstood_160 (by decide) (fun _ => ?_) (fun h => absurd h28 h)
                                    refine mm_iconst (v := 1) dX1_isUnderstood_168 (by decide) ?_
                                    refine mm_goto 173 dX1_isUnderstood_169 (by decide) ?_
                                    refine mm_iret dX1_isUnderstood_173 rfl rfl ?_ (by omega) (by omega)
                                    obtain rfl := fin1 hx
                                    exact ⟨rfl, rfl⟩
                                  · refine mm_if_eq 168 dX1_isUnderstood_160 (by decide) (fun h => absurd h h28) (fun _ => ?_)
                                    refine mm_iload_n dX1_isUnderstood_163 rfl ?_
                                    refine mm_iconst (v := 1) dX1_isUnderstood_164 (by decide) ?_
                                    refine b_if hx (fun h29 hx => ?_) (fun h29 hx => ?_)
                                    · refine mm_icmp_ne 172 dX1_isUnderstood_165 (by decide) (fun h => absurd h29 h) (fun _ => ?_)
                                      refine mm_iconst (v := 1) dX1_isUnderstood_168 (by decide) ?_
                                      refine mm_goto 173 dX1_isUnderstood_169 (by decide) ?_
                                      refine mm_iret dX1_isUnderstood_173 rfl rfl ?_ (by omega) (by omega)
                                      obtain rfl := fin1 hx
                                      exact ⟨rfl, rfl⟩
                                    · refine mm_icmp_ne 172 dX1_isUnderstood_165 (by decide) (fun _ => ?_) (fun h => absurd h h29)
                                      refine mm_iconst (v := 0) dX1_isUnderstood_172 (by decide) ?_
                                      refine mm_iret dX1_isUnderstood_173 rfl rfl ?_ (by omega) (by omega)
                                      obtain rfl := fin1 hx
                                      exact ⟨rfl, rfl⟩
                                · skip
                                  refine mm_tsOut 186 dX1_isUnderstood_8 (ts_out_15 h2 h5 h6 h9 h10 h12 h13 h14 h15 h16 h17 h23 h25 h26 h27) (by decide) ?_
                                  refine mm_iconst (v := 0) dX1_isUnderstood_186 (by decide) ?_
                                  refine mm_iret dX1_isUnderstood_187 rfl rfl ?_ (by omega) (by omega)
                                  obtain rfl := fin1 hx
                                  exact ⟨rfl, rfl⟩
set_option maxHeartbeats 4000000 in
set_option maxRecDepth 100000 in
theorem e_X1_isTornApart_96 {g : mm_G} {l : Launch} (hst : l.stackTraces = false) {Z : Nat → Nat → Option Nat} (hZ : HZ Z) {n : Nat} (hn : 1186 ≤ n) {z : Bool} {d : Nat} {U : Nat} {k28 : Option Nat → Option (Int32)} {v0_ : Option Nat} {v1_ : Option Nat} {v2_ : Option Nat} {v3_ : Option Nat} {σ : SG} {r : Int32} (hk28 : ∀ (v3_ : Option Nat), k28 v3_ = some r → mm_V g l RX1 "isTornApart" cX1_isTornApart 6 (some .boolean) [] (d + 1) 0 0 (mm_nt (fun v S' => v = some (.int r) ∧ S' = (mem Z σ, n, z))) 28 [some (va_rf v0_), some (va_rf v1_), some (va_rf v2_), some (va_rf v3_), none, none] [] (mem Z σ, n, z) 0 0) (hx : x_X1_isTornApart_96 U k28 v0_ v1_ v2_ v3_ σ = some r) : mm_V g l RX1 "isTornApart" cX1_isTornApart 6 (some .boolean) [] (d + 1) 0 0 (mm_nt (fun v S' => v = some (.int r) ∧ S' = (mem Z σ, n, z))) 96 [some (va_rf v0_), some (va_rf v1_), some (va_rf v2_), some (va_rf v3_), none, none] [] (mem Z σ, n, z) 0 0 := by
  unfold x_X1_isTornApart_96 at hx
  refine mm_aload_n dX1_isTornApart_96 rfl (isr_rf _) ?_
  obtain ⟨q25, hr26, hs27, hx⟩ := ck_some hx
  refine s_getPN (r := v3_) (b := q25) (ci := 3) (k := 16) in_X3 rfl (by decide) rfl kF_X1_59 dX1_isTornApart_97 hr26 hs27 (by decide) hn (by decide) rfl ?_
  refine mm_astore_n [some (va_rf v0_), some (va_rf v1_), some (va_rf v2_), some (va_rf (sP σ q25 16)), none, none] dX1_isTornApart_100 (by decide) (isr_rf _) ((st1_o (r := v2_) rfl).trans rfl) ?_
  refine mm_goto 28 dX1_isTornApart_101 (by decide) ?_
  exact hk28 _ hx
