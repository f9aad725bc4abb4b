set_option maxHeartbeats 4000000 in
set_option maxRecDepth 100000 in
theorem e_X12_textBlanks_23 {g : mm_G} {l : Launch} (hst : l.stackTraces = false) {Z : Nat → Nat → Option Nat} (hZ : HZ Z) {n : Nat} (hn : 1186 ≤ n) {z : Bool} {d : Nat} {U : Nat} {a : Nat} (hs : sh a = 12) {k2 : Int32 → Option (Int32)} {v2_ : Int32} {σ : SG} {r : Int32} (hk2 : ∀ (v2_ : Int32), k2 v2_ = some r → mm_V g l RX12 "textBlanks" cX12_textBlanks 3 (some .int) [] (d + 1) 0 0 (mm_nt (fun v S' => v = some (.int r) ∧ S' = (mem Z σ, n, z))) 2 [some (.ref a), none, some (.int v2_)] [] (mem Z σ, n, z) 0 0) (hx : x_X12_textBlanks_23 U a k2 v2_ σ = some r) : mm_V g l RX12 "textBlanks" cX12_textBlanks 3 (some .int) [] (d + 1) 0 0 (mm_nt (fun v S' => v = some (.int r) ∧ S' = (mem Z σ, n, z))) 23 [some (.ref a), none, some (.int v2_)] [] (mem Z σ, n, z) 0 0 := by
  unfold x_X12_textBlanks_23 at hx
  refine mm_aload_n dX12_textBlanks_23 rfl rfl ?_
  refine mm_iload_n dX12_textBlanks_24 rfl ?_
  obtain ⟨v10, hc9, hx⟩ := b1_some hx
  refine mm_callV3 (a := a) (ci := 12) wM_X12_byteAt kM_X12_284 wI_X12_byteAt wS_X12_byteAt dX12_textBlanks_25 (e_X12_byteAt hst hZ hn hs hc9) (mem_obj hs (by decide)) (sh_ltn hs (by decide) hn) rfl rfl rfl (Nat.le_of_ble_eq_true rfl) (by omega) (by omega) (fun v9 S9 hq => ?_)
  obtain ⟨rfl, rfl⟩ := hq
  refine ⟨fun h => ⟨h, rfl⟩, ?_⟩
  refine mm_bipush (v := 35) dX12_textBlanks_28 (by decide) ?_
  refine b_if hx (fun h11 hx => ?_) (fun h11 hx => ?_)
  · refine mm_icmp_ne 57 dX12_textBlanks_30 (by decide) (fun h => absurd h11 h) (fun _ => ?_)
    refine e_X12_textBlanks_L33 hst hZ hn hs ?_ _ _ hx
    · intro w16 hx
      exact hk2 _ hx
  · refine mm_icmp_ne 57 dX12_textBlanks_30 (by decide) (fun _ => ?_) (fun h => absurd h h11)
    refine mm_iinc (v := v2_ + 1) [some (.ref a), none, some (.int (v2_ + 1))] dX12_textBlanks_57 rfl rfl (by decide) rfl ?_
    refine mm_goto 2 dX12_textBlanks_60 (by decide) ?_
    exact hk2 _ hx
set_option maxHeartbeats 4000000 in
set_option maxRecDepth 100000 in
theorem e_X12_textBlanks_L2 {g : mm_G} {l : Launch} (hst : l.stackTraces = false) {Z : Nat → Nat → Option Nat} (hZ : HZ Z) {n : Nat} (hn : 1186 ≤ n) {z : Bool} {d : Nat} {U : Nat} {a : Nat} (hs : sh a = 12) {σ : SG} {r : Int32} : ∀ (U1 : Nat) (v2_ : Int32), x_X12_textBlanks_L2 U a σ U1 v2_ = some r → mm_V g l RX12 "textBlanks" cX12_textBlanks 3 (some .int) [] (d + 1) 0 0 (mm_nt (fun v S' => v = some (.int r) ∧ S' = (mem Z σ, n, z))) 2 [some (.ref a), none, some (.int v2_)] [] (mem Z σ, n, z) 0 0 := by
  intro U1
  induction U1 with
  | zero => intro v2_ hx; exact absurd hx (by simp [x_X12_textBlanks_L2])
  | succ U1 ih =>
    intro v2_ hx
    rw [x_X12_textBlanks_L2] at hx
    refine mm_aload_n dX12_textBlanks_2 rfl rfl ?_
    refine mm_iload_n dX12_textBlanks_3 rfl ?_
    obtain ⟨v2, hc1, hx⟩ := b1_some hx
    refine mm_callV3 (a := a) (ci := 12) wM_X12_byteAt kM_X12_284 wI_X12_byteAt wS_X12_byteAt dX12_textBlanks_4 (e_X12_byteAt hst hZ hn hs hc1) (mem_obj hs (by decide)) (sh_ltn hs (by decide) hn) rfl rfl rfl (Nat.le_of_ble_eq_true rfl) (by omega) (by omega) (fun v9 S9 hq => ?_)
    obtain ⟨rfl, rfl⟩ := hq
    refine ⟨fun h => ⟨h, rfl⟩, ?_⟩
    obtain ⟨v4, hc3, hx⟩ := b1_some hx
    refine mm_callS wM_X12_isBlank kM_X12_292 wT_X12_isBlank dX12_textBlanks_7 (e_X12_isBlank hst hZ hn hc3) rfl rfl (Nat.le_of_ble_eq_true rfl) (by omega) (by omega) (fun v9 S9 hq => ?_)
    obtain ⟨rfl, rfl⟩ := hq
    refine ⟨fun h => ⟨h, rfl⟩, ?_⟩
    refine b_if hx (fun h5 hx => ?_) (fun h5 hx => ?_)
    · refine mm_if_ne 23 dX12_textBlanks_10 (by decide) (fun h => absurd h5 h) (fun _ => ?_)
      refine mm_aload_n dX12_textBlanks_13 rfl rfl ?_
      refine mm_iload_n dX12_textBlanks_14 rfl ?_
      obtain ⟨v7, hc6, hx⟩ := b1_some hx
      refine mm_callV3 (a := a) (ci := 12) wM_X12_byteAt kM_X12_284 wI_X12_byteAt wS_X12_byteAt dX12_textBlanks_15 (e_X12_byteAt hst hZ hn hs hc6) (mem_obj hs (by decide)) (sh_ltn hs (by decide) hn) rfl rfl rfl (Nat.le_of_ble_eq_true rfl) (by omega) (by omega) (fun v9 S9 hq => ?_)
      obtain ⟨rfl, rfl⟩ := hq
      refine ⟨fun h => ⟨h, rfl⟩, ?_⟩
      refine mm_bipush (v := 35) dX12_textBlanks_18 (by decide) ?_
      refine b_if hx (fun h8 hx => ?_) (fun h8 hx => ?_)
      · refine mm_icmp_ne 63 dX12_textBlanks_20 (by decide) (fun h => absurd h8 h) (fun _ => ?_)
        exact e_X12_textBlanks_23 hst hZ hn hs ih hx
      · refine mm_icmp_ne 63 dX12_textBlanks_20 (by decide) (fun _ => ?_) (fun h => absurd h h8)
        refine mm_iload_n dX12_textBlanks_63 rfl ?_
        refine mm_iret dX12_textBlanks_64 rfl rfl ?_ (by omega) (by omega)
        obtain rfl := fin1 hx
        exact ⟨rfl, rfl⟩
    · refine mm_if_ne 23 dX12_textBlanks_10 (by decide) (fun _ => ?_) (fun h => absurd h h5)
      exact e_X12_textBlanks_23 hst hZ hn hs ih hx
set_option maxHeartbeats 4000000 in
set_option maxRecDepth 100000 in
theorem e_X12_textBlanks {g : mm_G} {l : Launch} (hst : l.stackTraces = false) {Z : Nat → Nat → Option Nat} (hZ : HZ Z) {n : Nat} (hn : 1186 ≤ n) {z : Bool} {d : Nat} {U : Nat} {a : Nat} (hs : sh a = 12) {p0 : Int32} {σ : SG} {r : Int32} (hx : x_X12_textBlanks U a p0 σ = some r) : mm_Cm g l yX12_textBlanks (.code yX12_textBlanks cX12_textBlanks 3 (some .int)) (d + 1) 0 0 [.ref a, .int p0] (mem Z σ, n, z) (fun v S' => v = some (.int r) ∧ S' = (mem Z σ, n, z)) := by
  refine mm_Cm_of hst (by decide) (Nat.le_of_ble_eq_true rfl) ?_
  show mm_V g l RX12 "textBlanks" cX12_textBlanks 3 (some .int) [] (d + 1) 0 0 (mm_nt (fun v S' => v = some (.int r) ∧ S' = (mem Z σ, n, z))) 0 [some (.ref a), some (.int p0), none] [] (mem Z σ, n, z) 0 0
  unfold x_X12_textBlanks at hx
  refine mm_iload_n dX12_textBlanks_0 rfl ?_
  refine mm_istore_n [some (.ref a), some (.int p0), some (.int p0)] dX12_textBlanks_1 (by decide) rfl ?_
  refine mm_fewer [some (.ref a), none, some (.int p0)] (few_ok (bs := [true, false, true]) rfl) ?_
  refine e_X12_textBlanks_L2 hst hZ hn hs _ _ hx
set_option maxHeartbeats 4000000 in
set_option maxRecDepth 100000 in
theorem e_X12_toldBefore_73 {g : mm_G} {l : Launch} (hst : l.stackTraces = false) {Z : Nat → Nat → Option Nat} (hZ : HZ Z) {n : Nat} (hn : 1186 ≤ n) {z : Bool} {d : Nat} {U : Nat} {a : Nat} (hs : sh a = 12) {k13 : Int32 → Option (Int32)} {v1_ : Int32} {v2_ : Int32} {v3_ : Int32} {σ : SG} {r : Int32} (hk13 : ∀ (v3_ : Int32), k13 v3_ = some r → mm_V g l RX12 "toldBefore" cX12_toldBefore 4 (some .boolean) [] (d) 0 0 (mm_nt (fun v S' => v = some (.int r) ∧ S' = (mem Z σ, n, z))) 13 [some (.ref a), some (.int v1_), some (.int v2_), some (.int v3_)] [] (mem Z σ, n, z) 0 0) (hx : x_X12_toldBefore_73 U a k13 v1_ v2_ v3_ σ = some r) : mm_V g l RX12 "toldBefore" cX12_toldBefore 4 (some .boolean) [] (d) 0 0 (mm_nt (fun v S' => v = some (.int r) ∧ S' = (mem Z σ, n, z))) 73 [some (.ref a), some (.int v1_), some (.int v2_), some (.int v3_)] [] (mem Z σ, n, z) 0 0 := by
  unfold x_X12_toldBefore_73 at hx
  refine mm_iinc (v := v3_ + 1) [some (.ref a), some (.int v1_), some (.int v2_), some (.int (v3_ + 1))] dX12_toldBefore_73 rfl rfl (by decide) rfl ?_
  refine mm_goto 13 dX12_toldBefore_76 (by decide) ?_
  exact hk13 _ hx
set_option maxHeartbeats 4000000 in
set_option maxRecDepth 100000 in
theorem e_X12_toldBefore_L13 {g : mm_G} {l : Launch} (hst : l.stackTraces = false) {Z : Nat → Nat → Option Nat} (hZ : HZ Z) {n : Nat} (hn : 1186 ≤ n) {z : Bool} {d : Nat} {U : Nat} {a : Nat} (hs : sh a = 12) {v1_ : Int32} {v2_ : Int32} {σ : SG} {r : Int32} : ∀ (U1 : Nat) (v3_ : Int32), x_X12_toldBefore_L13 U a v1_ v2_ σ U1 v3_ = some r → mm_V g l RX12 "toldBefore" cX12_toldBefore 4 (some .boolean) [] (d) 0 0 (mm_nt (fun v S' => v = some (.int r) ∧ S' = (mem Z σ, n, z))) 13 [some (.ref a), some (.int v1_), some (.int v2_), some (.int v3_)] [] (mem Z σ, n, z) 0 0 := by
  intro U1
  induction U1 with
  | zero => intro v3_ hx; exact absurd hx (by simp [x_X12_toldBefore_L13])
  | succ U1 ih =>
    intro v3_ hx
    rw [x_X12_toldBefore_L13] at hx
    refine mm_iload_n dX12_toldBefore_13 rfl ?_
    refine mm_aload_n dX12_toldBefore_14 rfl rfl ?_
    refine s_getI (r := some a) (b := a) (ci := 12) (k := 82) in_X12 rfl (by decide) rfl kF_X12_596 dX12_toldBefore_15 rfl hs (by decide) hn (by decide) rfl ?_
    refine b_if hx (fun h6 hx => ?_) (fun h6 hx => ?_)
    · refine mm_icmp_ge 79 dX12_toldBefore_18 (by decide) (fun h => absurd h (Int32.not_le.mpr h6)) (fun _ => ?_)
      refine mm_aload_n dX12_toldBefore_21 rfl rfl ?_
      refine s_getS (q := 1165) (r := some a) (b := a) (ci := 12) (k := 91) in_X12 rfl (by decide) rfl kF_X12_205 dX12_toldBefore_22 rfl hs (by decide) hn (by decide) rfl rfl ?_
      refine mm_iload_n dX12_toldBefore_25 rfl ?_
      obtain ⟨j7, hj8, hb9, hl10, hx⟩ := ix_some hx
      refine s_iald (a := 1165) sa_1165 hn hj8 hb9 na_1165 dX12_toldBefore_26 ?_
      refine mm_iload_n dX12_toldBefore_27 rfl ?_
      refine b_if hx (fun h11 hx => ?_) (fun h11 hx => ?_)
      · refine mm_icmp_ne 73 dX12_toldBefore_28 (by decide) (fun h => absurd h11 h) (fun _ => ?_)
        refine mm_aload_n dX12_toldBefore_31 rfl rfl ?_
        refine s_getS (q := 1166) (r := some a) (b := a) (ci := 12) (k := 92) in_X12 rfl (by decide) rfl kF_X12_208 dX12_toldBefore_32 rfl hs (by decide) hn (by decide) rfl rfl ?_
        refine mm_iload_n dX12_toldBefore_35 rfl ?_
        obtain ⟨j12, hj13, hb14, hl15, hx⟩ := ix_some hx
        refine s_iald (a := 1166) sa_1166 hn hj13 hb14 na_1166 dX12_toldBefore_36 ?_
        refine mm_iload_n dX12_toldBefore_37 rfl ?_
        refine b_if hx (fun h16 hx => ?_) (fun h16 hx => ?_)
        · refine mm_icmp_eq 71 dX12_toldBefore_38 (by decide) (fun _ => ?_) (fun h => absurd h16 h)
          refine mm_iconst (v := 1) dX12_toldBefore_71 (by decide) ?_
          refine mm_iret dX12_toldBefore_72 rfl rfl ?_ (by omega) (by omega)
          obtain rfl := fin1 hx
          exact ⟨rfl, rfl⟩
        · refine mm_icmp_eq 71 dX12_toldBefore_38 (by decide) (fun h => absurd h h16) (fun _ => ?_)
          refine mm_aload_n dX12_toldBefore_41 rfl rfl ?_
          refine s_getS (q := 1122) (r := some a) (b := a) (ci := 12) (k := 25) in_X12 rfl (by decide) rfl kF_X12_75 dX12_toldBefore_42 rfl hs (by decide) hn (by decide) rfl rfl ?_
          refine mm_iload_n dX12_toldBefore_45 rfl ?_
          obtain ⟨j17, hj18, hb19, hl20, hx⟩ := ix_some hx
          refine s_iald (a := 1122) sa_1122 hn hj18 hb19 na_1122 dX12_toldBefore_46 ?_
          refine mm_iconst (v := (-1)) dX12_toldBefore_47 (by decide) ?_
          refine b_if hx (fun h21 hx => ?_) (fun h21 hx => ?_)
          · refine mm_icmp_eq 73 dX12_toldBefore_48 (by decide) (fun _ => ?_) (fun h => absurd h21 h)
            exact e_X12_toldBefore_73 hst hZ hn hs ih hx
          · refine mm_icmp_eq 73 dX12_toldBefore_48 (by decide) (fun h => absurd h h21) (fun _ => ?_)
            refine mm_aload_n dX12_toldBefore_51 rfl rfl ?_
            refine s_getS (q := 1122) (r := some a) (b := a) (ci := 12) (k := 25) in_X12 rfl (by decide) rfl kF_X12_75 dX12_toldBefore_52 rfl hs (by decide) hn (by decide) rfl rfl ?_
            refine mm_aload_n dX12_toldBefore_55 rfl rfl ?_
            refine s_getS (q := 1166) (r := some a) (b := a) (ci := 12) (k := 92) in_X12 rfl (by decide) rfl kF_X12_208 dX12_toldBefore_56 rfl hs (by decide) hn (by decide) rfl rfl ?_
            refine mm_iload_n dX12_toldBefore_59 rfl ?_
            obtain ⟨j22, hj23, hb24, hl25, hx⟩ := ix_some hx
            refine s_iald (a := 1166) sa_1166 hn hj23 hb24 na_1166 dX12_toldBefore_60 ?_
            obtain ⟨j26, hj27, hb28, hl29, hx⟩ := ix_some hx
            refine s_iald (a := 1122) sa_1122 hn hj27 hb28 na_1122 dX12_toldBefore_61 ?_
            refine mm_aload_n dX12_toldBefore_62 rfl rfl ?_
            refine s_getS (q := 1122) (r := some a) (b := a) (ci := 12) (k := 25) in_X12 rfl (by decide) rfl kF_X12_75 dX12_toldBefore_63 rfl hs (by decide) hn (by decide) rfl rfl ?_
            refine mm_iload_n dX12_toldBefore_66 rfl ?_
            obtain ⟨j30, hj31, hb32, hl33, hx⟩ := ix_some hx
            refine s_iald (a := 1122) sa_1122 hn hj31 hb32 na_1122 dX12_toldBefore_67 ?_
            refine b_if hx (fun h34 hx => ?_) (fun h34 hx => ?_)
            · refine mm_icmp_ne 73 dX12_toldBefore_68 (by decide) (fun h => absurd h34 h) (fun _ => ?_)
              refine mm_iconst (v := 1) dX12_toldBefore_71 (by decide) ?_
              refine mm_iret dX12_toldBefore_72 rfl rfl ?_ (by omega) (by omega)
              obtain rfl := fin1 hx
              exact ⟨rfl, rfl⟩
            · refine mm_icmp_ne 73 dX12_toldBefore_68 (by decide) (fun _ => ?_) (fun h => absurd h h34)
              exact e_X12_toldBefore_73 hst hZ hn hs ih hx
      · refine mm_icmp_ne 73 dX12_toldBefore_28 (by decide) (fun _ => ?_) (fun h => absurd h h11)
        exact e_X12_toldBefore_73 hst hZ hn hs ih hx
    · refine mm_icmp_ge 79 dX12_toldBefore_18 (by decide) (fun _ => ?_) (fun h => absurd (Int32.not_lt.mp h6) h)
      refine mm_iconst (v := 0) dX12_toldBefore_79 (by decide) ?_
      refine mm_iret dX12_toldBefore_80 rfl rfl ?_ (by omega) (by omega)
      obtain rfl := fin1 hx
      exact ⟨rfl, rfl⟩
set_option maxHeartbeats 4000000 in
set_option maxRecDepth 100000 in
theorem e_X12_toldBefore {g : mm_G} {l : Launch} (hst : l.stackTraces = false) {Z : Nat → Nat → Option Nat} (hZ : HZ Z) {n : Nat} (hn : 1186 ≤ n) {z : Bool} {d : Nat} {U : Nat} {a : Nat} (hs : sh a = 12) {p0 : Int32} {p1 : Int32} {σ : SG} {r : Int32} (hx : x_X12_toldBefore U a p0 p1 σ = some r) : mm_Cm g l yX12_toldBefore (.code yX12_toldBefore cX12_toldBefore 4 (some .boolean)) (d) 0 0 [.ref a, .int p0, .int p1] (mem Z σ, n, z) (fun v S' => v = some (.int r) ∧ S' = (mem Z σ, n, z)) := by
  refine mm_Cm_of hst (by decide) (Nat.le_of_ble_eq_true rfl) ?_
  show mm_V g l RX12 "toldBefore" cX12_toldBefore 4 (some .boolean) [] (d) 0 0 (mm_nt (fun v S' => v = some (.int r) ∧ S' = (mem Z σ, n, z))) 0 [some (.ref a), some (.int p0), some (.int p1), none] [] (mem Z σ, n, z) 0 0
  unfold x_X12_toldBefore at hx
  refine mm_aload_n dX12_toldBefore_0 rfl rfl ?_
  refine s_getS (q := 1120) (r := some a) (b := a) (ci := 12) (k := 23) in_X12 rfl (by decide) rfl kF_X12_68 dX12_toldBefore_1 rfl hs (by decide) hn (by decide) rfl rfl ?_
  refine mm_iload_n dX12_toldBefore_4 rfl ?_
  obtain ⟨j1, hj2, hb3, hl4, hx⟩ := ix_some hx
  refine s_zald (a := 1120) sa_1120 hn hj2 hb3 na_1120 dX12_toldBefore_5 ?_
  refine b_if hx (fun h5 hx => ?_) (fun h5 hx => ?_)
  · refine mm_if_eq 11 dX12_toldBefore_6 (by decide) (fun _ => ?_) (fun h => absurd h5 h)
    refine mm_iconst (v := 0) dX12_toldBefore_11 (by decide) ?_
    refine mm_istore_n [some (.ref a), some (.int p0), some (.int p1), some (.int 0)] dX12_toldBefore_12 (by decide) rfl ?_
    refine e_X12_toldBefore_L13 hst hZ hn hs _ _ hx
  · refine mm_if_eq 11 dX12_toldBefore_6 (by decide) (fun h => absurd h h5) (fun _ => ?_)
    refine mm_iconst (v := 0) dX12_toldBefore_9 (by decide) ?_
    refine mm_iret dX12_toldBefore_10 rfl rfl ?_ (by omega) (by omega)
    obtain rfl := fin1 hx
    exact ⟨rfl, rfl⟩
set_option maxHeartbeats 4000000 in
set_option maxRecDepth 100000 in
theorem e_X12_parseEscape_163 {g : mm_G} {l : Launch} (hst : l.stackTraces = false) {Z : Nat → Nat → Option Nat} (hZ : HZ Z) {n : Nat} (hn : 1186 ≤ n) {z : Bool} {d : Nat} {a : Nat} (hs : sh a = 12) {v2_ : Int32} {v3_ : Int32} {σ : SG} {σ' : SG} (hx : x_X12_parseEscape_163 a v2_ v3_ σ = some σ') : mm_V g l RX12 "parseEscape" cX12_parseEscape 4 none [] (d + 2) 0 0 (mm_nt (fun v S' => v = none ∧ S' = (mem Z σ', n, z))) 163 [some (.ref a), none, some (.int v2_), some (.int v3_)] [] (mem Z σ, n, z) 0 0 := by
  unfold x_X12_parseEscape_163 at hx
  refine mm_aload_n dX12_parseEscape_163 rfl rfl ?_
  refine s_getS (q := 1175) (r := some a) (b := a) (ci := 12) (k := 101) in_X12 rfl (by decide) rfl kF_X12_235 dX12_parseEscape_164 rfl hs (by decide) hn (by decide) rfl rfl ?_
  refine mm_aload_n dX12_parseEscape_167 rfl rfl ?_
  refine s_getI (r := some a) (b := a) (ci := 12) (k := 84) in_X12 rfl (by decide) rfl kF_X12_602 dX12_parseEscape_168 rfl hs (by decide) hn (by decide) rfl ?_
  refine mm_iload_n dX12_parseEscape_171 rfl ?_
  obtain ⟨j9, hj10, hb11, hl12, hx⟩ := ix_some hx
  refine s_iast (a := 1175) (v := v2_) sa_1175 hn hj10 hb11 na_1175 dX12_parseEscape_172 hx (fun σ13 hx => ?_)
  refine mm_aload_n dX12_parseEscape_173 rfl rfl ?_
  refine mm_dup dX12_parseEscape_174 rfl ?_
  refine s_getI (r := some a) (b := a) (ci := 12) (k := 84) in_X12 rfl (by decide) rfl kF_X12_602 dX12_parseEscape_175 rfl hs (by decide) hn (by decide) rfl ?_
  refine mm_iconst (v := 1) dX12_parseEscape_178 (by decide) ?_
  refine mm_iadd dX12_parseEscape_179 ?_
  refine s_putI (v := (sI σ13 a 84) + 1) (r := some a) (b := a) (ci := 12) (k := 84) in_X12 rfl (by decide) rfl tyX12_ok nmX12 rfl kF_X12_602 dX12_parseEscape_180 (mm_fit_int _) rfl hs (by decide) hn (by decide) rfl hx (fun σ14 hx => ?_)
  refine mm_aload_n dX12_parseEscape_183 rfl rfl ?_
  refine mm_dup dX12_parseEscape_184 rfl ?_
  refine s_getI (r := some a) (b := a) (ci := 12) (k := 109) in_X12 rfl (by decide) rfl kF_X12_636 dX12_parseEscape_185 rfl hs (by decide) hn (by decide) rfl ?_
  refine mm_iload_n dX12_parseEscape_188 rfl ?_
  refine mm_iadd dX12_parseEscape_189 ?_
  refine s_putI (v := (sI σ14 a 109) + v3_) (r := some a) (b := a) (ci := 12) (k := 109) in_X12 rfl (by decide) rfl tyX12_ok nmX12 rfl kF_X12_636 dX12_parseEscape_190 (mm_fit_int _) rfl hs (by decide) hn (by decide) rfl hx (fun σ15 hx => ?_)
  refine mm_vret dX12_parseEscape_193 rfl ?_ (by omega) (by omega)
  obtain rfl := fin1 hx
  exact ⟨rfl, rfl⟩
set_option maxHeartbeats 4000000 in
set_option maxRecDepth 100000 in
theorem e_X12_parseEscape_158 {g : mm_G} {l : Launch} (hst : l.stackTraces = false) {Z : Nat → Nat → Option Nat} (hZ : HZ Z) {n : Nat} (hn : 1186 ≤ n) {z : Bool} {d : Nat} {a : Nat} (hs : sh a = 12) {v2_ : Int32} {v3_ : Int32} {σ : SG} {σ' : SG} (hx : x_X12_parseEscape_158 a v2_ v3_ σ = some σ') : mm_V g l RX12 "parseEscape" cX12_parseEscape 4 none [] (d + 2) 0 0 (mm_nt (fun v S' => v = none ∧ S' = (mem Z σ', n, z))) 158 [some (.ref a), none, some (.int v2_), some (.int v3_)] [] (mem Z σ, n, z) 0 0 := by
  unfold x_X12_parseEscape_158 at hx
  refine mm_aload_n dX12_parseEscape_158 rfl rfl ?_
  refine mm_iconst (v := 1) dX12_parseEscape_159 (by decide) ?_
  refine s_putI (v := 1) (r := some a) (b := a) (ci := 12) (k := 107) in_X12 rfl (by decide) rfl tyX12_ok nmX12 rfl kF_X12_590 dX12_parseEscape_160 mm_fit_z1 rfl hs (by decide) hn (by decide) rfl hx (fun σ8 hx => ?_)
  exact e_X12_parseEscape_163 hst hZ hn hs hx
set_option maxHeartbeats 4000000 in
set_option maxRecDepth 100000 in
theorem e_X12_parseEscape_146 {g : mm_G} {l : Launch} (hst : l.stackTraces = false) {Z : Nat → Nat → Option Nat} (hZ : HZ Z) {n : Nat} (hn : 1186 ≤ n) {z : Bool} {d : Nat} {a : Nat} (hs : sh a = 12) {v2_ : Int32} {v3_ : Int32} {σ : SG} {σ' : SG} (hx : x_X12_parseEscape_146 a v2_ v3_ σ = some σ') : mm_V g l RX12 "parseEscape" cX12_parseEscape 4 none [] (d + 2) 0 0 (mm_nt (fun v S' => v = none ∧ S' = (mem Z σ', n, z))) 146 [some (.ref a), none, some (.int v2_), some (.int v3_)] [] (mem Z σ, n, z) 0 0 := by
  unfold x_X12_parseEscape_146 at hx
  refine mm_iload_n dX12_parseEscape_146 rfl ?_
  refine mm_iconst (v := (-1)) dX12_parseEscape_147 (by decide) ?_
  refine b_if hx (fun h7 hx => ?_) (fun h7 hx => ?_)
  · refine mm_icmp_eq 158 dX12_parseEscape_148 (by decide) (fun _ => ?_) (fun h => absurd h7 h)
    exact e_X12_parseEscape_158 hst hZ hn hs hx
  · refine mm_icmp_eq 158 dX12_parseEscape_148 (by decide) (fun h => absurd h h7) (fun _ => ?_)
    refine mm_iload_n dX12_parseEscape_151 rfl ?_
    refine mm_sipush (v := 255) dX12_parseEscape_152 (by decide) ?_
    refine b_if hx (fun h16 hx => ?_) (fun h16 hx => ?_)
    · refine mm_icmp_le 163 dX12_parseEscape_155 (by decide) (fun h => absurd h (Int32.not_le.mpr h16)) (fun _ => ?_)
      exact e_X12_parseEscape_158 hst hZ hn hs hx
    · refine mm_icmp_le 163 dX12_parseEscape_155 (by decide) (fun _ => ?_) (fun h => absurd (Int32.not_lt.mp h16) h)
      exact e_X12_parseEscape_163 hst hZ hn hs hx
set_option maxHeartbeats 4000000 in
set_option maxRecDepth 100000 in
theorem e_X12_parseEscape_65 {g : mm_G} {l : Launch} (hst : l.stackTraces = false) {Z : Nat → Nat → Option Nat} (hZ : HZ Z) {n : Nat} (hn : 1186 ≤ n) {z : Bool} {d : Nat} {a : Nat} (hs : sh a = 12) {v1_ : Int32} {s0_ : Int32} {σ : SG} {σ' : SG} (hx : x_X12_parseEscape_65 a v1_ s0_ σ = some σ') : mm_V g l RX12 "parseEscape" cX12_parseEscape 4 none [] (d + 2) 0 0 (mm_nt (fun v S' => v = none ∧ S' = (mem Z σ', n, z))) 65 [some (.ref a), some (.int v1_), none, none] [.int s0_] (mem Z σ, n, z) 0 0 := by
  unfold x_X12_parseEscape_65 at hx
  refine mm_istore_n [some (.ref a), some (.int v1_), some (.int s0_), none] dX12_parseEscape_65 (by decide) rfl ?_
  refine mm_iconst (v := 1) dX12_parseEscape_66 (by decide) ?_
  refine mm_istore_n [some (.ref a), some (.int v1_), some (.int s0_), some (.int 1)] dX12_parseEscape_67 (by decide) rfl ?_
  refine mm_aload_n dX12_parseEscape_68 rfl rfl ?_
  refine mm_aload_n dX12_parseEscape_69 rfl rfl ?_
  refine s_getI (r := some a) (b := a) (ci := 12) (k := 109) in_X12 rfl (by decide) rfl kF_X12_636 dX12_parseEscape_70 rfl hs (by decide) hn (by decide) rfl ?_
  obtain ⟨v5, hc4, hx⟩ := b1_some hx
  refine mm_callV3 (a := a) (ci := 12) wM_X12_isEight kM_X12_814 wI_X12_isEight wS_X12_isEight dX12_parseEscape_73 (e_X12_isEight hst hZ hn hs hc4) (mem_obj hs (by decide)) (sh_ltn hs (by decide) hn) rfl rfl rfl (Nat.le_of_ble_eq_true rfl) (by omega) (by omega) (fun v9 S9 hq => ?_)
  obtain ⟨rfl, rfl⟩ := hq
  refine ⟨fun h => ⟨h, rfl⟩, ?_⟩
  refine b_if hx (fun h6 hx => ?_) (fun h6 hx => ?_)
  · refine mm_if_eq 146 dX12_parseEscape_76 (by decide) (fun _ => ?_) (fun h => absurd h6 h)
    refine mm_fewer [some (.ref a), none, some (.int s0_), some (.int 1)] (few_ok (bs := [true, false, true, true]) rfl) ?_
    exact e_X12_parseEscape_146 hst hZ hn hs hx
  · refine mm_if_eq 146 dX12_parseEscape_76 (by decide) (fun h => absurd h h6) (fun _ => ?_)
    refine mm_aload_n dX12_parseEscape_79 rfl rfl ?_
    refine mm_aload_n dX12_parseEscape_80 rfl rfl ?_
    refine s_getI (r := some a) (b := a) (ci := 12) (k := 109) in_X12 rfl (by decide) rfl kF_X12_636 dX12_parseEscape_81 rfl hs (by decide) hn (by decide) rfl ?_
    refine mm_iconst (v := 1) dX12_parseEscape_84 (by decide) ?_
    refine mm_iadd dX12_parseEscape_85 ?_
    obtain ⟨v18, hc17, hx⟩ := b1_some hx
    refine mm_callV3 (a := a) (ci := 12) wM_X12_isEight kM_X12_814 wI_X12_isEight wS_X12_isEight dX12_parseEscape_86 (e_X12_isEight hst hZ hn hs hc17) (mem_obj hs (by decide)) (sh_ltn hs (by decide) hn) rfl rfl rfl (Nat.le_of_ble_eq_true rfl) (by omega) (by omega) (fun v9 S9 hq => ?_)
    obtain ⟨rfl, rfl⟩ := hq
    refine ⟨fun h => ⟨h, rfl⟩, ?_⟩
    refine b_if hx (fun h19 hx => ?_) (fun h19 hx => ?_)
    · refine mm_if_eq 146 dX12_parseEscape_89 (by decide) (fun _ => ?_) (fun h => absurd h19 h)
      refine mm_fewer [some (.ref a), none, some (.int s0_), some (.int 1)] (few_ok (bs := [true, false, true, true]) rfl) ?_
      exact e_X12_parseEscape_146 hst hZ hn hs hx
    · refine mm_if_eq 146 dX12_parseEscape_89 (by decide) (fun h => absurd h h19) (fun _ => ?_)
      refine mm_aload_n dX12_parseEscape_92 rfl rfl ?_
      refine mm_aload_n dX12_parseEscape_93 rfl rfl ?_
      refine s_getI (r := some a) (b := a) (ci := 12) (k := 109) in_X12 rfl (by decide) rfl kF_X12_636 dX12_parseEscape_94 rfl hs (by decide) hn (by decide) rfl ?_
      refine mm_iconst (v := 2) dX12_parseEscape_97 (by decide) ?_
      refine mm_iadd dX12_parseEscape_98 ?_
      obtain ⟨v21, hc20, hx⟩ := b1_some hx
      refine mm_callV3 (a := a) (ci := 12) wM_X12_isEight kM_X12_814 wI_X12_isEight wS_X12_isEight dX12_parseEscape_99 (e_X12_isEight hst hZ hn hs hc20) (mem_obj hs (by decide)) (sh_ltn hs (by decide) hn) rfl rfl rfl (Nat.le_of_ble_eq_true rfl) (by omega) (by omega) (fun v9 S9 hq => ?_)
      obtain ⟨rfl, rfl⟩ := hq
      refine ⟨fun h => ⟨h, rfl⟩, ?_⟩
      refine b_if hx (fun h22 hx => ?_) (fun h22 hx => ?_)
      · refine mm_if_eq 146 dX12_parseEscape_102 (by decide) (fun _ => ?_) (fun h => absurd h22 h)
        refine mm_fewer [some (.ref a), none, some (.int s0_), some (.int 1)] (few_ok (bs := [true, false, true, true]) rfl) ?_
        exact e_X12_parseEscape_146 hst hZ hn hs hx
      · refine mm_if_eq 146 dX12_parseEscape_102 (by decide) (fun h => absurd h h22) (fun _ => ?_)
        refine mm_iload_n dX12_parseEscape_105 rfl ?_
        refine mm_bipush (v := 48) dX12_parseEscape_106 (by decide) ?_
        refine mm_isub dX12_parseEscape_108 ?_
        refine mm_bipush (v := 64) dX12_parseEscape_109 (by decide) ?_
        refine mm_imul dX12_parseEscape_111 ?_
        refine mm_aload_n dX12_parseEscape_112 rfl rfl ?_
        refine mm_aload_n dX12_parseEscape_113 rfl rfl ?_
        refine s_getI (r := some a) (b := a) (ci := 12) (k := 109) in_X12 rfl (by decide) rfl kF_X12_636 dX12_parseEscape_114 rfl hs (by decide) hn (by decide) rfl ?_
        refine mm_iconst (v := 1) dX12_parseEscape_117 (by decide) ?_
        refine mm_iadd dX12_parseEscape_118 ?_
        obtain ⟨v24, hc23, hx⟩ := b1_some hx
        refine mm_callV3 (a := a) (ci := 12) wM_X12_byteAt kM_X12_284 wI_X12_byteAt wS_X12_byteAt dX12_parseEscape_119 (e_X12_byteAt hst hZ hn hs hc23) (mem_obj hs (by decide)) (sh_ltn hs (by decide) hn) rfl rfl rfl (Nat.le_of_ble_eq_true rfl) (by omega) (by omega) (fun v9 S9 hq => ?_)
        obtain ⟨rfl, rfl⟩ := hq
        refine ⟨fun h => ⟨h, rfl⟩, ?_⟩
        refine mm_bipush (v := 48) dX12_parseEscape_122 (by decide) ?_
        refine mm_isub dX12_parseEscape_124 ?_
        refine mm_bipush (v := 8) dX12_parseEscape_125 (by decide) ?_
        refine mm_imul dX12_parseEscape_127 ?_
        refine mm_iadd dX12_parseEscape_128 ?_
        refine mm_aload_n dX12_parseEscape_129 rfl rfl ?_
        refine mm_aload_n dX12_parseEscape_130 rfl rfl ?_
        refine s_getI (r := some a) (b := a) (ci := 12) (k := 109) in_X12 rfl (by decide) rfl kF_X12_636 dX12_parseEscape_131 rfl hs (by decide) hn (by decide) rfl ?_
        refine mm_iconst (v := 2) dX12_parseEscape_134 (by decide) ?_
        refine mm_iadd dX12_parseEscape_135 ?_
        obtain ⟨v26, hc25, hx⟩ := b1_some hx
        refine mm_callV3 (a := a) (ci := 12) wM_X12_byteAt kM_X12_284 wI_X12_byteAt wS_X12_byteAt dX12_parseEscape_136 (e_X12_byteAt hst hZ hn hs hc25) (mem_obj hs (by decide)) (sh_ltn hs (by decide) hn) rfl rfl rfl (Nat.le_of_ble_eq_true rfl) (by omega) (by omega) (fun v9 S9 hq => ?_)
        obtain ⟨rfl, rfl⟩ := hq
        refine ⟨fun h => ⟨h, rfl⟩, ?_⟩
        refine mm_iadd dX12_parseEscape_139 ?_
        refine mm_bipush (v := 48) dX12_parseEscape_140 (by decide) ?_
        refine mm_isub dX12_parseEscape_142 ?_
        refine mm_istore_n [some (.ref a), some (.int v1_), some (.int (((((v1_ - 48) * 64) + ((v24 - 48) * 8)) + v26) - 48)), some (.int 1)] dX12_parseEscape_143 (by decide) rfl ?_
        refine mm_iconst (v := 3) dX12_parseEscape_144 (by decide) ?_
        refine mm_istore_n [some (.ref a), some (.int v1_), some (.int (((((v1_ - 48) * 64) + ((v24 - 48) * 8)) + v26) - 48)), some (.int 3)] dX12_parseEscape_145 (by decide) rfl ?_
        refine mm_fewer [some (.ref a), none, some (.int (((((v1_ - 48) * 64) + ((v24 - 48) * 8)) + v26) - 48)), some (.int 3)] (few_ok (bs := [true, false, true, true]) rfl) ?_
        exact e_X12_parseEscape_146 hst hZ hn hs hx
set_option maxHeartbeats 4000000 in
set_option maxRecDepth 100000 in
theorem e_X12_parseEscape_60 {g : mm_G} {l : Launch} (hst : l.stackTraces = false) {Z : Nat → Nat → Option Nat} (hZ : HZ Z) {n : Nat} (hn : 1186 ≤ n) {z : Bool} {d : Nat} {a : Nat} (hs : sh a = 12) {v1_ : Int32} {σ : SG} {σ' : SG} (hx : x_X12_parseEscape_60 a v1_ σ = some σ') : mm_V g l RX12 "parseEscape" cX12_parseEscape 4 none [] (d + 2) 0 0 (mm_nt (fun v S' => v = none ∧ S' = (mem Z σ', n, z))) 60 [some (.ref a), some (.int v1_), none, none] [] (mem Z σ, n, z) 0 0 := by
  unfold x_X12_parseEscape_60 at hx
  refine mm_iload_n dX12_parseEscape_60 rfl ?_
  refine mm_goto 65 dX12_parseEscape_61 (by decide) ?_
  exact e_X12_parseEscape_65 hst hZ hn hs hx
set_option maxHeartbeats 4000000 in
set_option maxRecDepth 100000 in
theorem e_X12_parseEscape {g : mm_G} {l : Launch} (hst : l.stackTraces = false) {Z : Nat → Nat → Option Nat} (hZ : HZ Z) {n : Nat} (hn : 1186 ≤ n) {z : Bool} {d : Nat} {a : Nat} (hs : sh a = 12) {σ : SG} {σ' : SG} (hx : x_X12_parseEscape a σ = some σ') : mm_Cm g l yX12_parseEscape (.code yX12_parseEscape cX12_parseEscape 4 none) (d + 2) 0 0 [.ref a] (mem Z σ, n, z) (fun v S' => v = none ∧ S' = (mem Z σ', n, z)) := by
  refine mm_Cm_of hst (by decide) (Nat.le_of_ble_eq_true rfl) ?_
  show mm_V g l RX12 "parseEscape" cX12_parseEscape 4 none [] (d + 2) 0 0 (mm_nt (fun v S' => v = none ∧ S' = (mem Z σ', n, z))) 0 [some (.ref a), none, none, none] [] (mem Z σ, n, z) 0 0
  unfold x_X12_parseEscape at hx
  refine mm_aload_n dX12_parseEscape_0 rfl rfl ?_
  refine mm_aload_n dX12_parseEscape_1 rfl rfl ?_
  refine s_getI (r := some a) (b := a) (ci := 12) (k := 109) in_X12 rfl (by decide) rfl kF_X12_636 dX12_parseEscape_2 rfl hs (by decide) hn (by decide) rfl ?_
  obtain ⟨v2, hc1, hx⟩ := b1_some hx
  refine mm_callV3 (a := a) (ci := 12) wM_X12_byteAt kM_X12_284 wI_X12_byteAt wS_X12_byteAt dX12_parseEscape_5 (e_X12_byteAt hst hZ hn hs hc1) (mem_obj hs (by decide)) (sh_ltn hs (by decide) hn) rfl rfl rfl (Nat.le_of_ble_eq_true rfl) (by omega) (by omega) (fun v9 S9 hq => ?_)
  obtain ⟨rfl, rfl⟩ := hq
  refine ⟨fun h => ⟨h, rfl⟩, ?_⟩
  refine mm_istore_n [some (.ref a), some (.int v2), none, none] dX12_parseEscape_8 (by decide) rfl ?_
  refine mm_iload_n dX12_parseEscape_9 rfl ?_
  refine mm_bipush (v := 110) dX12_parseEscape_10 (by decide) ?_
  refine b_if hx (fun h3 hx => ?_) (fun h3 hx => ?_)
  · refine mm_icmp_ne 20 dX12_parseEscape_12 (by decide) (fun h => absurd h3 h) (fun _ => ?_)
    refine mm_bipush (v := 10) dX12_parseEscape_15 (by decide) ?_
    refine mm_goto 65 dX12_parseEscape_17 (by decide) ?_
    exact e_X12_parseEscape_65 hst hZ hn hs hx
  · refine mm_icmp_ne 20 dX12_parseEscape_12 (by decide) (fun _ => ?_) (fun h => absurd h h3)
    refine mm_iload_n dX12_parseEscape_20 rfl ?_
    refine mm_bipush (v := 114) dX12_parseEscape_21 (by decide) ?_
    refine b_if hx (fun h27 hx => ?_) (fun h27 hx => ?_)
    · refine mm_icmp_ne 31 dX12_parseEscape_23 (by decide) (fun h => absurd h27 h) (fun _ => ?_)
      refine mm_bipush (v := 13) dX12_parseEscape_26 (by decide) ?_
      refine mm_goto 65 dX12_parseEscape_28 (by decide) ?_
      exact e_X12_parseEscape_65 hst hZ hn hs hx
    · refine mm_icmp_ne 31 dX12_parseEscape_23 (by decide) (fun _ => ?_) (fun h => absurd h h27)
      refine mm_iload_n dX12_parseEscape_31 rfl ?_
      refine mm_bipush (v := 116) dX12_parseEscape_32 (by decide) ?_
      refine b_if hx (fun h28 hx => ?_) (fun h28 hx => ?_)
      · refine mm_icmp_ne 42 dX12_parseEscape_34 (by decide) (fun h => absurd h28 h) (fun _ => ?_)
        refine mm_bipush (v := 9) dX12_parseEscape_37 (by decide) ?_
        refine mm_goto 65 dX12_parseEscape_39 (by decide) ?_
        exact e_X12_parseEscape_65 hst hZ hn hs hx
      · refine mm_icmp_ne 42 dX12_parseEscape_34 (by decide) (fun _ => ?_) (fun h => absurd h h28)
        refine mm_iload_n dX12_parseEscape_42 rfl ?_
        refine mm_bipush (v := 34) dX12_parseEscape_43 (by decide) ?_
        refine b_if hx (fun h29 hx => ?_) (fun h29 hx => ?_)
        · refine mm_icmp_eq 60 dX12_parseEscape_45 (by decide) (fun _ => ?_) (fun h => absurd h29 h)
          exact e_X12_parseEscape_60 hst hZ hn hs hx
        · refine mm_icmp_eq 60 dX12_parseEscape_45 (by decide) (fun h => absurd h h29) (fun _ => ?_)
          refine mm_iload_n dX12_parseEscape_48 rfl ?_
          refine mm_bipush (v := 92) dX12_parseEscape_49 (by decide) ?_
          refine b_if hx (fun h30 hx => ?_) (fun h30 hx => ?_)
          · refine mm_icmp_eq 60 dX12_parseEscape_51 (by decide) (fun _ => ?_) (fun h => absurd h30 h)
            exact e_X12_parseEscape_60 hst hZ hn hs hx
          · refine mm_icmp_eq 60 dX12_parseEscape_51 (by decide) (fun h => absurd h h30) (fun _ => ?_)
            refine mm_iload_n dX12_parseEscape_54 rfl ?_
            refine mm_bipush (v := 39) dX12_parseEscape_55 (by decide) ?_
            refine b_if hx (fun h31 hx => ?_) (fun h31 hx => ?_)
            · refine mm_icmp_ne 64 dX12_parseEscape_57 (by decide) (fun h => absurd h31 h) (fun _ => ?_)
              exact e_X12_parseEscape_60 hst hZ hn hs hx
            · refine mm_icmp_ne 64 dX12_parseEscape_57 (by decide) (fun _ => ?_) (fun h => absurd h h31)
              refine mm_iconst (v := (-1)) dX12_parseEscape_64 (by decide) ?_
              exact e_X12_parseEscape_65 hst hZ hn hs hx
set_option maxHeartbeats 4000000 in
set_option maxRecDepth 100000 in
theorem e_X12_parseText_125 {g : mm_G} {l : Launch} (hst : l.stackTraces = false) {Z : Nat → Nat → Option Nat} (hZ : HZ Z) {n : Nat} (hn : 1186 ≤ n) {z : Bool} {d : Nat} {U : Nat} {a : Nat} (hs : sh a = 12) {k25 : SG → Option (SG)} {k128 : SG → Option (SG)} {v1_ : Int32} {v2_ : Int32} {v3_ : Int32} {v4_ : Int32} {σ : SG} {σ' : SG} (hk25 : ∀ (σ8 : SG), k25 σ8 = some σ' → mm_V g l RX12 "parseText" cX12_parseText 6 none [] (d + 3) 0 0 (mm_nt (fun v S' => v = none ∧ S' = (mem Z σ', n, z))) 25 [some (.ref a), some (.int v1_), some (.int v2_), some (.int v3_), some (.int v4_), none] [] (mem Z σ8, n, z) 0 0) (hk128 : ∀ (σ8 : SG), k128 σ8 = some σ' → mm_V g l RX12 "parseText" cX12_parseText 6 none [] (d + 3) 0 0 (mm_nt (fun v S' => v = none ∧ S' = (mem Z σ', n, z))) 128 [some (.ref a), some (.int v1_), some (.int v2_), none, some (.int v4_), none] [] (mem Z σ8, n, z) 0 0) (hx : x_X12_parseText_125 U a k25 k128 v1_ v2_ v3_ v4_ σ = some σ') : mm_V g l RX12 "parseText" cX12_parseText 6 none [] (d + 3) 0 0 (mm_nt (fun v S' => v = none ∧ S' = (mem Z σ', n, z))) 125 [some (.ref a), some (.int v1_), some (.int v2_), some (.int v3_), some (.int v4_), none] [] (mem Z σ, n, z) 0 0 := by
  unfold x_X12_parseText_125 at hx
  refine mm_goto 25 dX12_parseText_125 (by decide) ?_
  exact hk25  _ hx
set_option maxHeartbeats 4000000 in
set_option maxRecDepth 100000 in
theorem e_X12_parseText_73 {g : mm_G} {l : Launch} (hst : l.stackTraces = false) {Z : Nat → Nat → Option Nat} (hZ : HZ Z) {n : Nat} (hn : 1186 ≤ n) {z : Bool} {d : Nat} {U : Nat} {a : Nat} (hs : sh a = 12) {k25 : SG → Option (SG)} {k128 : SG → Option (SG)} {v1_ : Int32} {v2_ : Int32} {v3_ : Int32} {v4_ : Int32} {v5_ : Int32} {σ : SG} {σ' : SG} (hk25 : ∀ (σ8 : SG), k25 σ8 = some σ' → mm_V g l RX12 "parseText" cX12_parseText 6 none [] (d + 3) 0 0 (mm_nt (fun v S' => v = none ∧ S' = (mem Z σ', n, z))) 25 [some (.ref a), some (.int v1_), some (.int v2_), some (.int v3_), some (.int v4_), none] [] (mem Z σ8, n, z) 0 0) (hk128 : ∀ (σ8 : SG), k128 σ8 = some σ' → mm_V g l RX12 "parseText" cX12_parseText 6 none [] (d + 3) 0 0 (mm_nt (fun v S' => v = none ∧ S' = (mem Z σ', n, z))) 128 [some (.ref a), some (.int v1_), some (.int v2_), none, some (.int v4_), none] [] (mem Z σ8, n, z) 0 0) (hx : x_X12_parseText_73 U a k25 k128 v1_ v2_ v3_ v4_ v5_ σ = some σ') : mm_V g l RX12 "parseText" cX12_parseText 6 none [] (d + 3) 0 0 (mm_nt (fun v S' => v = none ∧ S' = (mem Z σ', n, z))) 73 [some (.ref a), some (.int v1_), some (.int v2_), some (.int v3_), some (.int v4_), some (.int v5_)] [] (mem Z σ, n, z) 0 0 := by
  unfold x_X12_parseText_73 at hx
  refine mm_aload_n dX12_parseText_73 rfl rfl ?_
  refine mm_dup dX12_parseText_74 rfl ?_
  refine s_getI (r := some a) (b := a) (ci := 12) (k := 109) in_X12 rfl (by decide) rfl kF_X12_636 dX12_parseText_75 rfl hs (by decide) hn (by decide) rfl ?_
  refine mm_iconst (v := 1) dX12_parseText_78 (by decide) ?_
  refine mm_iadd dX12_parseText_79 ?_
  refine s_putI (v := (sI σ a 109) + 1) (r := some a) (b := a) (ci := 12) (k := 109) in_X12 rfl (by decide) rfl tyX12_ok nmX12 rfl kF_X12_636 dX12_parseText_80 (mm_fit_int _) rfl hs (by decide) hn (by decide) rfl hx (fun σ12 hx => ?_)
  refine mm_iload dX12_parseText_83 rfl ?_
  refine mm_bipush (v := 92) dX12_parseText_85 (by decide) ?_
  refine b_if hx (fun h13 hx => ?_) (fun h13 hx => ?_)
  · refine mm_icmp_ne 97 dX12_parseText_87 (by decide) (fun h => absurd h13 h) (fun _ => ?_)
    refine mm_aload_n dX12_parseText_90 rfl rfl ?_
    obtain ⟨σ15, hc14, hx⟩ := b1_some hx
    refine mm_callV3 (a := a) (ci := 12) wM_X12_parseEscape kM_X12_817 wI_X12_parseEscape wS_X12_parseEscape dX12_parseText_91 (e_X12_parseEscape hst hZ hn hs hc14) (mem_obj hs (by decide)) (sh_ltn hs (by decide) hn) rfl rfl rfl (Nat.le_of_ble_eq_true rfl) (by omega) (by omega) (fun v9 S9 hq => ?_)
    obtain ⟨rfl, rfl⟩ := hq
    refine ⟨fun h => ⟨h, rfl⟩, ?_⟩
    refine mm_goto 125 dX12_parseText_94 (by decide) ?_
    refine mm_fewer [some (.ref a), some (.int v1_), some (.int v2_), some (.int v3_), some (.int v4_), none] (few_ok (bs := [true, true, true, true, true, false]) rfl) ?_
    exact e_X12_parseText_125 hst hZ hn hs hk25 hk128 hx
  · refine mm_icmp_ne 97 dX12_parseText_87 (by decide) (fun _ => ?_) (fun h => absurd h h13)
    refine mm_aload_n dX12_parseText_97 rfl rfl ?_
    refine s_getI (r := some a) (b := a) (ci := 12) (k := 107) in_X12 rfl (by decide) rfl kF_X12_590 dX12_parseText_98 rfl hs (by decide) hn (by decide) rfl ?_
    refine b_if hx (fun h16 hx => ?_) (fun h16 hx => ?_)
    · refine mm_if_ne 125 dX12_parseText_101 (by decide) (fun h => absurd h16 h) (fun _ => ?_)
      refine mm_aload_n dX12_parseText_104 rfl rfl ?_
      refine s_getS (q := 1175) (r := some a) (b := a) (ci := 12) (k := 101) in_X12 rfl (by decide) rfl kF_X12_235 dX12_parseText_105 rfl hs (by decide) hn (by decide) rfl rfl ?_
      refine mm_aload_n dX12_parseText_108 rfl rfl ?_
      refine s_getI (r := some a) (b := a) (ci := 12) (k := 84) in_X12 rfl (by decide) rfl kF_X12_602 dX12_parseText_109 rfl hs (by decide) hn (by decide) rfl ?_
      refine mm_iload dX12_parseText_112 rfl ?_
      obtain ⟨j17, hj18, hb19, hl20, hx⟩ := ix_some hx
      refine s_iast (a := 1175) (v := v5_) sa_1175 hn hj18 hb19 na_1175 dX12_parseText_114 hx (fun σ21 hx => ?_)
      refine mm_aload_n dX12_parseText_115 rfl rfl ?_
      refine mm_dup dX12_parseText_116 rfl ?_
      refine s_getI (r := some a) (b := a) (ci := 12) (k := 84) in_X12 rfl (by decide) rfl kF_X12_602 dX12_parseText_117 rfl hs (by decide) hn (by decide) rfl ?_
      refine mm_iconst (v := 1) dX12_parseText_120 (by decide) ?_
      refine mm_iadd dX12_parseText_121 ?_
      refine s_putI (v := (sI σ21 a 84) + 1) (r := some a) (b := a) (ci := 12) (k := 84) in_X12 rfl (by decide) rfl tyX12_ok nmX12 rfl kF_X12_602 dX12_parseText_122 (mm_fit_int _) rfl hs (by decide) hn (by decide) rfl hx (fun σ22 hx => ?_)
      refine mm_fewer [some (.ref a), some (.int v1_), some (.int v2_), some (.int v3_), some (.int v4_), none] (few_ok (bs := [true, true, true, true, true, false]) rfl) ?_
      exact e_X12_parseText_125 hst hZ hn hs hk25 hk128 hx
    · refine mm_if_ne 125 dX12_parseText_101 (by decide) (fun _ => ?_) (fun h => absurd h h16)
      refine mm_fewer [some (.ref a), some (.int v1_), some (.int v2_), some (.int v3_), some (.int v4_), none] (few_ok (bs := [true, true, true, true, true, false]) rfl) ?_
      exact e_X12_parseText_125 hst hZ hn hs hk25 hk128 hx
set_option maxHeartbeats 4000000 in
set_option maxRecDepth 100000 in
theorem e_X12_parseText_68 {g : mm_G} {l : Launch} (hst : l.stackTraces = false) {Z : Nat → Nat → Option Nat} (hZ : HZ Z) {n : Nat} (hn : 1186 ≤ n) {z : Bool} {d : Nat} {U : Nat} {a : Nat} (hs : sh a = 12) {k25 : SG → Option (SG)} {k128 : SG → Option (SG)} {v1_ : Int32} {v2_ : Int32} {v3_ : Int32} {v4_ : Int32} {v5_ : Int32} {σ : SG} {σ' : SG} (hk25 : ∀ (σ8 : SG), k25 σ8 = some σ' → mm_V g l RX12 "parseText" cX12_parseText 6 none [] (d + 3) 0 0 (mm_nt (fun v S' => v = none ∧ S' = (mem Z σ', n, z))) 25 [some (.ref a), some (.int v1_), some (.int v2_), some (.int v3_), some (.int v4_), none] [] (mem Z σ8, n, z) 0 0) (hk128 : ∀ (σ8 : SG), k128 σ8 = some σ' → mm_V g l RX12 "parseText" cX12_parseText 6 none [] (d + 3) 0 0 (mm_nt (fun v S' => v = none ∧ S' = (mem Z σ', n, z))) 128 [some (.ref a), some (.int v1_), some (.int v2_), none, some (.int v4_), none] [] (mem Z σ8, n, z) 0 0) (hx : x_X12_parseText_68 U a k25 k128 v1_ v2_ v3_ v4_ v5_ σ = some σ') : mm_V g l RX12 "parseText" cX12_parseText 6 none [] (d + 3) 0 0 (mm_nt (fun v S' => v = none ∧ S' = (mem Z σ', n, z))) 68 [some (.ref a), some (.int v1_), some (.int v2_), some (.int v3_), some (.int v4_), some (.int v5_)] [] (mem Z σ, n, z) 0 0 := by
  unfold x_X12_parseText_68 at hx
  refine mm_aload_n dX12_parseText_68 rfl rfl ?_
  refine mm_iconst (v := 1) dX12_parseText_69 (by decide) ?_
  refine s_putI (v := 1) (r := some a) (b := a) (ci := 12) (k := 107) in_X12 rfl (by decide) rfl tyX12_ok nmX12 rfl kF_X12_590 dX12_parseText_70 mm_fit_z1 rfl hs (by decide) hn (by decide) rfl hx (fun σ11 hx => ?_)
  exact e_X12_parseText_73 hst hZ hn hs hk25 hk128 hx
set_option maxHeartbeats 4000000 in
set_option maxRecDepth 100000 in
theorem e_X12_parseText_L25 {g : mm_G} {l : Launch} (hst : l.stackTraces = false) {Z : Nat → Nat → Option Nat} (hZ : HZ Z) {n : Nat} (hn : 1186 ≤ n) {z : Bool} {d : Nat} {U : Nat} {a : Nat} (hs : sh a = 12) {k128 : SG → Option (SG)} {v1_ : Int32} {v2_ : Int32} {v3_ : Int32} {v4_ : Int32} {σ' : SG} (hk128 : ∀ (σ8 : SG), k128 σ8 = some σ' → mm_V g l RX12 "parseText" cX12_parseText 6 none [] (d + 3) 0 0 (mm_nt (fun v S' => v = none ∧ S' = (mem Z σ', n, z))) 128 [some (.ref a), some (.int v1_), some (.int v2_), none, some (.int v4_), none] [] (mem Z σ8, n, z) 0 0) : ∀ (U1 : Nat) (σ : SG), x_X12_parseText_L25 U a k128 v1_ v2_ v3_ v4_ U1 σ = some σ' → mm_V g l RX12 "parseText" cX12_parseText 6 none [] (d + 3) 0 0 (mm_nt (fun v S' => v = none ∧ S' = (mem Z σ', n, z))) 25 [some (.ref a), some (.int v1_), some (.int v2_), some (.int v3_), some (.int v4_), none] [] (mem Z σ, n, z) 0 0 := by
  intro U1
  induction U1 with
  | zero => intro σ hx; exact absurd hx (by simp [x_X12_parseText_L25])
  | succ U1 ih =>
    intro σ hx
    rw [x_X12_parseText_L25] at hx
    refine mm_aload_n dX12_parseText_25 rfl rfl ?_
    refine s_getI (r := some a) (b := a) (ci := 12) (k := 107) in_X12 rfl (by decide) rfl kF_X12_590 dX12_parseText_26 rfl hs (by decide) hn (by decide) rfl ?_
    refine b_if hx (fun h4 hx => ?_) (fun h4 hx => ?_)
    · refine mm_if_ne 128 dX12_parseText_29 (by decide) (fun h => absurd h4 h) (fun _ => ?_)
      refine mm_aload_n dX12_parseText_32 rfl rfl ?_
      refine mm_aload_n dX12_parseText_33 rfl rfl ?_
      refine s_getI (r := some a) (b := a) (ci := 12) (k := 109) in_X12 rfl (by decide) rfl kF_X12_636 dX12_parseText_34 rfl hs (by decide) hn (by decide) rfl ?_
      obtain ⟨v6, hc5, hx⟩ := b1_some hx
      refine mm_callV3 (a := a) (ci := 12) wM_X12_byteAt kM_X12_284 wI_X12_byteAt wS_X12_byteAt dX12_parseText_37 (e_X12_byteAt hst hZ hn hs hc5) (mem_obj hs (by decide)) (sh_ltn hs (by decide) hn) rfl rfl rfl (Nat.le_of_ble_eq_true rfl) (by omega) (by omega) (fun v9 S9 hq => ?_)
      obtain ⟨rfl, rfl⟩ := hq
      refine ⟨fun h => ⟨h, rfl⟩, ?_⟩
      refine mm_iload_n dX12_parseText_40 rfl ?_
      refine b_if hx (fun h7 hx => ?_) (fun h7 hx => ?_)
      · refine mm_icmp_eq 128 dX12_parseText_41 (by decide) (fun _ => ?_) (fun h => absurd h7 h)
        refine mm_fewer [some (.ref a), some (.int v1_), some (.int v2_), none, some (.int v4_), none] (few_ok (bs := [true, true, true, false, true, false]) rfl) ?_
        exact hk128  _ hx
      · refine mm_icmp_eq 128 dX12_parseText_41 (by decide) (fun h => absurd h h7) (fun _ => ?_)
        refine mm_aload_n dX12_parseText_44 rfl rfl ?_
        refine mm_aload_n dX12_parseText_45 rfl rfl ?_
        refine s_getI (r := some a) (b := a) (ci := 12) (k := 109) in_X12 rfl (by decide) rfl kF_X12_636 dX12_parseText_46 rfl hs (by decide) hn (by decide) rfl ?_
        obtain ⟨v9, hc8, hx⟩ := b1_some hx
        refine mm_callV3 (a := a) (ci := 12) wM_X12_byteAt kM_X12_284 wI_X12_byteAt wS_X12_byteAt dX12_parseText_49 (e_X12_byteAt hst hZ hn hs hc8) (mem_obj hs (by decide)) (sh_ltn hs (by decide) hn) rfl rfl rfl (Nat.le_of_ble_eq_true rfl) (by omega) (by omega) (fun v9 S9 hq => ?_)
        obtain ⟨rfl, rfl⟩ := hq
        refine ⟨fun h => ⟨h, rfl⟩, ?_⟩
        refine mm_istore [some (.ref a), some (.int v1_), some (.int v2_), some (.int v3_), some (.int v4_), some (.int v9)] dX12_parseText_52 (by decide) rfl ?_
        refine mm_iload dX12_parseText_54 rfl ?_
        refine mm_bipush (v := 32) dX12_parseText_56 (by decide) ?_
        refine b_if hx (fun h10 hx => ?_) (fun h10 hx => ?_)
        · refine mm_icmp_lt 68 dX12_parseText_58 (by decide) (fun _ => ?_) (fun h => absurd h10 h)
          exact e_X12_parseText_68 hst hZ hn hs ih hk128 hx
        · refine mm_icmp_lt 68 dX12_parseText_58 (by decide) (fun h => absurd h h10) (fun _ => ?_)
          refine mm_iload dX12_parseText_61 rfl ?_
          refine mm_bipush (v := 126) dX12_parseText_63 (by decide) ?_
          refine b_if hx (fun h23 hx => ?_) (fun h23 hx => ?_)
          · refine mm_icmp_le 73 dX12_parseText_65 (by decide) (fun h => absurd h (Int32.not_le.mpr h23)) (fun _ => ?_)
            exact e_X12_parseText_68 hst hZ hn hs ih hk128 hx
          · refine mm_icmp_le 73 dX12_parseText_65 (by decide) (fun _ => ?_) (fun h => absurd (Int32.not_lt.mp h23) h)
            exact e_X12_parseText_73 hst hZ hn hs ih hk128 hx
    · refine mm_if_ne 128 dX12_parseText_29 (by decide) (fun _ => ?_) (fun h => absurd h h4)
      refine mm_fewer [some (.ref a), some (.int v1_), some (.int v2_), none, some (.int v4_), none] (few_ok (bs := [true, true, true, false, true, false]) rfl) ?_
      exact hk128  _ hx
set_option maxHeartbeats 4000000 in
set_option maxRecDepth 100000 in
theorem e_X12_parseText_128 {g : mm_G} {l : Launch} (hst : l.stackTraces = false) {Z : Nat → Nat → Option Nat} (hZ : HZ Z) {n : Nat} (hn : 1186 ≤ n) {z : Bool} {d : Nat} {U : Nat} {a : Nat} (hs : sh a = 12) {v1_ : Int32} {v2_ : Int32} {v4_ : Int32} {σ : SG} {σ' : SG} (hx : x_X12_parseText_128 U a v1_ v2_ v4_ σ = some σ') : mm_V g l RX12 "parseText" cX12_parseText 6 none [] (d + 3) 0 0 (mm_nt (fun v S' => v = none ∧ S' = (mem Z σ', n, z))) 128 [some (.ref a), some (.int v1_), some (.int v2_), none, some (.int v4_), none] [] (mem Z σ, n, z) 0 0 := by
  unfold x_X12_parseText_128 at hx
  refine mm_aload_n dX12_parseText_128 rfl rfl ?_
  refine mm_dup dX12_parseText_129 rfl ?_
  refine s_getI (r := some a) (b := a) (ci := 12) (k := 109) in_X12 rfl (by decide) rfl kF_X12_636 dX12_parseText_130 rfl hs (by decide) hn (by decide) rfl ?_
  refine mm_iconst (v := 1) dX12_parseText_133 (by decide) ?_
  refine mm_iadd dX12_parseText_134 ?_
  refine s_putI (v := (sI σ a 109) + 1) (r := some a) (b := a) (ci := 12) (k := 109) in_X12 rfl (by decide) rfl tyX12_ok nmX12 rfl kF_X12_636 dX12_parseText_135 (mm_fit_int _) rfl hs (by decide) hn (by decide) rfl hx (fun σ25 hx => ?_)
  refine mm_aload_n dX12_parseText_138 rfl rfl ?_
  refine s_getI (r := some a) (b := a) (ci := 12) (k := 107) in_X12 rfl (by decide) rfl kF_X12_590 dX12_parseText_139 rfl hs (by decide) hn (by decide) rfl ?_
  refine b_if hx (fun h26 hx => ?_) (fun h26 hx => ?_)
  · refine mm_if_ne 153 dX12_parseText_142 (by decide) (fun h => absurd h26 h) (fun _ => ?_)
    refine mm_aload_n dX12_parseText_145 rfl rfl ?_
    refine mm_iload_n dX12_parseText_146 rfl ?_
    refine mm_iload_n dX12_parseText_147 rfl ?_
    refine mm_iload dX12_parseText_148 rfl ?_
    obtain ⟨σ28, hc27, hx⟩ := b1_some hx
    refine mm_callV3 (a := a) (ci := 12) wM_X12_putText kM_X12_656 wI_X12_putText wS_X12_putText dX12_parseText_150 (e_X12_putText hst hZ hn hs hc27) (mem_obj hs (by decide)) (sh_ltn hs (by decide) hn) rfl rfl rfl (Nat.le_of_ble_eq_true rfl) (by omega) (by omega) (fun v9 S9 hq => ?_)
    obtain ⟨rfl, rfl⟩ := hq
    refine ⟨fun h => ⟨h, rfl⟩, ?_⟩
    refine mm_vret dX12_parseText_153 rfl ?_ (by omega) (by omega)
    obtain rfl := fin1 hx
    exact ⟨rfl, rfl⟩
  · refine mm_if_ne 153 dX12_parseText_142 (by decide) (fun _ => ?_) (fun h => absurd h h26)
    refine mm_vret dX12_parseText_153 rfl ?_ (by omega) (by omega)
    obtain rfl := fin1 hx
    exact ⟨rfl, rfl⟩
set_option maxHeartbeats 4000000 in
set_option maxRecDepth 100000 in
theorem e_X12_parseText {g : mm_G} {l : Launch} (hst : l.stackTraces = false) {Z : Nat → Nat → Option Nat} (hZ : HZ Z) {n : Nat} (hn : 1186 ≤ n) {z : Bool} {d : Nat} {U : Nat} {a : Nat} (hs : sh a = 12) {p0 : Int32} {p1 : Int32} {σ : SG} {σ' : SG} (hx : x_X12_parseText U a p0 p1 σ = some σ') : mm_Cm g l yX12_parseText (.code yX12_parseText cX12_parseText 6 none) (d + 3) 0 0 [.ref a, .int p0, .int p1] (mem Z σ, n, z) (fun v S' => v = none ∧ S' = (mem Z σ', n, z)) := by
  refine mm_Cm_of hst (by decide) (Nat.le_of_ble_eq_true rfl) ?_
  show mm_V g l RX12 "parseText" cX12_parseText 6 none [] (d + 3) 0 0 (mm_nt (fun v S' => v = none ∧ S' = (mem Z σ', n, z))) 0 [some (.ref a), some (.int p0), some (.int p1), none, none, none] [] (mem Z σ, n, z) 0 0
  unfold x_X12_parseText at hx
  refine mm_aload_n dX12_parseText_0 rfl rfl ?_
  refine mm_aload_n dX12_parseText_1 rfl rfl ?_
  refine s_getI (r := some a) (b := a) (ci := 12) (k := 109) in_X12 rfl (by decide) rfl kF_X12_636 dX12_parseText_2 rfl hs (by decide) hn (by decide) rfl ?_
  obtain ⟨v2, hc1, hx⟩ := b1_some hx
  refine mm_callV3 (a := a) (ci := 12) wM_X12_byteAt kM_X12_284 wI_X12_byteAt wS_X12_byteAt dX12_parseText_5 (e_X12_byteAt hst hZ hn hs hc1) (mem_obj hs (by decide)) (sh_ltn hs (by decide) hn) rfl rfl rfl (Nat.le_of_ble_eq_true rfl) (by omega) (by omega) (fun v9 S9 hq => ?_)
  obtain ⟨rfl, rfl⟩ := hq
  refine ⟨fun h => ⟨h, rfl⟩, ?_⟩
  refine mm_istore_n [some (.ref a), some (.int p0), some (.int p1), some (.int v2), none, none] dX12_parseText_8 (by decide) rfl ?_
  refine mm_aload_n dX12_parseText_9 rfl rfl ?_
  refine s_getI (r := some a) (b := a) (ci := 12) (k := 84) in_X12 rfl (by decide) rfl kF_X12_602 dX12_parseText_10 rfl hs (by decide) hn (by decide) rfl ?_
  refine mm_istore [some (.ref a), some (.int p0), some (.int p1), some (.int v2), some (.int (sI σ a 84)), none] dX12_parseText_13 (by decide) rfl ?_
  refine mm_aload_n dX12_parseText_15 rfl rfl ?_
  refine mm_dup dX12_parseText_16 rfl ?_
  refine s_getI (r := some a) (b := a) (ci := 12) (k := 109) in_X12 rfl (by decide) rfl kF_X12_636 dX12_parseText_17 rfl hs (by decide) hn (by decide) rfl ?_
  refine mm_iconst (v := 1) dX12_parseText_20 (by decide) ?_
  refine mm_iadd dX12_parseText_21 ?_
  refine s_putI (v := (sI σ a 109) + 1) (r := some a) (b := a) (ci := 12) (k := 109) in_X12 rfl (by decide) rfl tyX12_ok nmX12 rfl kF_X12_636 dX12_parseText_22 (mm_fit_int _) rfl hs (by decide) hn (by decide) rfl hx (fun σ3 hx => ?_)
  refine e_X12_parseText_L25 hst hZ hn hs ?_ _ _ hx
  · intro  σ24 hx
    exact e_X12_parseText_128 hst hZ hn hs hx
set_option maxHeartbeats 4000000 in
set_option maxRecDepth 100000 in
theorem e_X12_parseName_184 {g : mm_G} {l : Launch} (hst : l.stackTraces = false) {Z : Nat → Nat → Option Nat} (hZ : HZ Z) {n : Nat} (hn : 1186 ≤ n) {z : Bool} {d : Nat} {U : Nat} {a : Nat} (hs : sh a = 12) {k100 : Int64 → Int32 → Int32 → Option (SG)} {k190 : Int64 → Int32 → Option (SG)} {v1_ : Int32} {v2_ : Int32} {v3_ : Int32} {v4_ : Int32} {v5_ : Int64} {v7_ : Int32} {v8_ : Int32} {σ : SG} {σ' : SG} (hk100 : ∀ (v5_ : Int64) (v7_ : Int32) (v8_ : Int32), k100 v5_ v7_ v8_ = some σ' → mm_V g l RX12 "parseName" cX12_parseName 9 none [] (d + 3) 0 0 (mm_nt (fun v S' => v = none ∧ S' = (mem Z σ', n, z))) 100 [some (.ref a), some (.int v1_), some (.int v2_), some (.int v3_), some (.int v4_), some (.long v5_), none, some (.int v7_), some (.int v8_)] [] (mem Z σ, n, z) 0 0) (hk190 : ∀ (v5_ : Int64) (v7_ : Int32), k190 v5_ v7_ = some σ' → mm_V g l RX12 "parseName" cX12_parseName 9 none [] (d + 3) 0 0 (mm_nt (fun v S' => v = none ∧ S' = (mem Z σ', n, z))) 190 [some (.ref a), some (.int v1_), some (.int v2_), some (.int v3_), none, some (.long v5_), none, some (.int v7_), none] [] (mem Z σ, n, z) 0 0) (hx : x_X12_parseName_184 U a k100 k190 v1_ v2_ v3_ v4_ v5_ v7_ v8_ σ = some σ') : mm_V g l RX12 "parseName" cX12_parseName 9 none [] (d + 3) 0 0 (mm_nt (fun v S' => v = none ∧ S' = (mem Z σ', n, z))) 184 [some (.ref a), some (.int v1_), some (.int v2_), some (.int v3_), some (.int v4_), some (.long v5_), none, some (.int v7_), some (.int v8_)] [] (mem Z σ, n, z) 0 0 := by
  unfold x_X12_parseName_184 at hx
  refine mm_iinc (v := v8_ + 1) [some (.ref a), some (.int v1_), some (.int v2_), some (.int v3_), some (.int v4_), some (.long v5_), none, some (.int v7_), some (.int (v8_ + 1))] dX12_parseName_184 rfl rfl (by decide) rfl ?_
  refine mm_goto 100 dX12_parseName_187 (by decide) ?_
  exact hk100 _ _ _ hx
set_option maxHeartbeats 4000000 in
set_option maxRecDepth 100000 in
theorem e_X12_parseName_L100 {g : mm_G} {l : Launch} (hst : l.stackTraces = false) {Z : Nat → Nat → Option Nat} (hZ : HZ Z) {n : Nat} (hn : 1186 ≤ n) {z : Bool} {d : Nat} {U : Nat} {a : Nat} (hs : sh a = 12) {k190 : Int64 → Int32 → Option (SG)} {v1_ : Int32} {v2_ : Int32} {v3_ : Int32} {v4_ : Int32} {σ : SG} {σ' : SG} (hk190 : ∀ (v5_ : Int64) (v7_ : Int32), k190 v5_ v7_ = some σ' → mm_V g l RX12 "parseName" cX12_parseName 9 none [] (d + 3) 0 0 (mm_nt (fun v S' => v = none ∧ S' = (mem Z σ', n, z))) 190 [some (.ref a), some (.int v1_), some (.int v2_), some (.int v3_), none, some (.long v5_), none, some (.int v7_), none] [] (mem Z σ, n, z) 0 0) : ∀ (U1 : Nat) (v5_ : Int64) (v7_ : Int32) (v8_ : Int32), x_X12_parseName_L100 U a k190 v1_ v2_ v3_ v4_ σ U1 v5_ v7_ v8_ = some σ' → mm_V g l RX12 "parseName" cX12_parseName 9 none [] (d + 3) 0 0 (mm_nt (fun v S' => v = none ∧ S' = (mem Z σ', n, z))) 100 [some (.ref a), some (.int v1_), some (.int v2_), some (.int v3_), some (.int v4_), some (.long v5_), none, some (.int v7_), some (.int v8_)] [] (mem Z σ, n, z) 0 0 := by
  intro U1
  induction U1 with
  | zero => intro v5_ v7_ v8_ hx; exact absurd hx (by simp [x_X12_parseName_L100])
  | succ U1 ih =>
    intro v5_ v7_ v8_ hx
    rw [x_X12_parseName_L100] at hx
    refine mm_iload dX12_parseName_100 rfl ?_
    refine mm_bipush (v := 40) dX12_parseName_102 (by decide) ?_
    refine mm_aload_n dX12_parseName_104 rfl rfl ?_
    refine s_getI (r := some a) (b := a) (ci := 12) (k := 80) in_X12 rfl (by decide) rfl kF_X12_587 dX12_parseName_105 rfl hs (by decide) hn (by decide) rfl ?_
    refine mm_imul dX12_parseName_108 ?_
    refine mm_aload_n dX12_parseName_109 rfl rfl ?_
    refine s_getS (q := 1107) (r := some a) (b := a) (ci := 12) (k := 10) in_X12 rfl (by decide) rfl kF_X12_29 dX12_parseName_110 rfl hs (by decide) hn (by decide) rfl rfl ?_
    refine mm_aload_n dX12_parseName_113 rfl rfl ?_
    refine s_getI (r := some a) (b := a) (ci := 12) (k := 80) in_X12 rfl (by decide) rfl kF_X12_587 dX12_parseName_114 rfl hs (by decide) hn (by decide) rfl ?_
    obtain ⟨j17, hj18, hb19, hl20, hx⟩ := ix_some hx
    refine s_iald (a := 1107) sa_1107 hn hj18 hb19 na_1107 dX12_parseName_117 ?_
    refine mm_iadd dX12_parseName_118 ?_
    refine b_if hx (fun h21 hx => ?_) (fun h21 hx => ?_)
    · refine mm_icmp_ge 190 dX12_parseName_119 (by decide) (fun h => absurd h (Int32.not_le.mpr h21)) (fun _ => ?_)
      refine mm_iload dX12_parseName_122 rfl ?_
      refine mm_bipush (v := 14) dX12_parseName_124 (by decide) ?_
      refine b_if hx (fun h22 hx => ?_) (fun h22 hx => ?_)
      · refine mm_icmp_ne 190 dX12_parseName_126 (by decide) (fun h => absurd h22 h) (fun _ => ?_)
        refine mm_aload_n dX12_parseName_129 rfl rfl ?_
        refine s_getS (q := 1123) (r := some a) (b := a) (ci := 12) (k := 26) in_X12 rfl (by decide) rfl kF_X12_78 dX12_parseName_130 rfl hs (by decide) hn (by decide) rfl rfl ?_
        refine mm_iload dX12_parseName_133 rfl ?_
        obtain ⟨j23, hj24, hb25, hl26, hx⟩ := ix_some hx
        refine s_iald (a := 1123) sa_1123 hn hj24 hb25 na_1123 dX12_parseName_135 ?_
        refine mm_aload_n dX12_parseName_136 rfl rfl ?_
        refine s_getS (q := 1119) (r := some a) (b := a) (ci := 12) (k := 22) in_X12 rfl (by decide) rfl kF_X12_65 dX12_parseName_137 rfl hs (by decide) hn (by decide) rfl rfl ?_
        refine mm_iload_n dX12_parseName_140 rfl ?_
        obtain ⟨j27, hj28, hb29, hl30, hx⟩ := ix_some hx
        refine s_iald (a := 1119) sa_1119 hn hj28 hb29 na_1119 dX12_parseName_141 ?_
        refine b_if hx (fun h31 hx => ?_) (fun h31 hx => ?_)
        · refine mm_icmp_ne 184 dX12_parseName_142 (by decide) (fun h => absurd h31 h) (fun _ => ?_)
          refine mm_aload_n dX12_parseName_145 rfl rfl ?_
          refine mm_aload_n dX12_parseName_146 rfl rfl ?_
          refine s_getI (r := some a) (b := a) (ci := 12) (k := 109) in_X12 rfl (by decide) rfl kF_X12_636 dX12_parseName_147 rfl hs (by decide) hn (by decide) rfl ?_
          refine mm_iload_n dX12_parseName_150 rfl ?_
          refine mm_aload_n dX12_parseName_151 rfl rfl ?_
          refine s_getS (q := 1124) (r := some a) (b := a) (ci := 12) (k := 27) in_X12 rfl (by decide) rfl kF_X12_81 dX12_parseName_152 rfl hs (by decide) hn (by decide) rfl rfl ?_
          refine mm_iload dX12_parseName_155 rfl ?_
          obtain ⟨j32, hj33, hb34, hl35, hx⟩ := ix_some hx
          refine s_iald (a := 1124) sa_1124 hn hj33 hb34 na_1124 dX12_parseName_157 ?_
          refine mm_aload_n dX12_parseName_158 rfl rfl ?_
          refine s_getS (q := 1125) (r := some a) (b := a) (ci := 12) (k := 28) in_X12 rfl (by decide) rfl kF_X12_84 dX12_parseName_159 rfl hs (by decide) hn (by decide) rfl rfl ?_
          refine mm_iload dX12_parseName_162 rfl ?_
          obtain ⟨j36, hj37, hb38, hl39, hx⟩ := ix_some hx
          refine s_iald (a := 1125) sa_1125 hn hj37 hb38 na_1125 dX12_parseName_164 ?_
          obtain ⟨v41, hc40, hx⟩ := b1_some hx
          refine mm_callV3 (a := a) (ci := 12) wM_X12_isNamed kM_X12_789 wI_X12_isNamed wS_X12_isNamed dX12_parseName_165 (e_X12_isNamed hst hZ hn hs hc40) (mem_obj hs (by decide)) (sh_ltn hs (by decide) hn) rfl rfl rfl (Nat.le_of_ble_eq_true rfl) (by omega) (by omega) (fun v9 S9 hq => ?_)
          obtain ⟨rfl, rfl⟩ := hq
          refine ⟨fun h => ⟨h, rfl⟩, ?_⟩
          refine b_if hx (fun h42 hx => ?_) (fun h42 hx => ?_)
          · refine mm_if_eq 184 dX12_parseName_168 (by decide) (fun _ => ?_) (fun h => absurd h42 h)
            exact e_X12_parseName_184 hst hZ hn hs ih hk190 hx
          · refine mm_if_eq 184 dX12_parseName_168 (by decide) (fun h => absurd h h42) (fun _ => ?_)
            refine mm_iconst (v := 1) dX12_parseName_171 (by decide) ?_
            refine mm_istore [some (.ref a), some (.int v1_), some (.int v2_), some (.int v3_), some (.int v4_), some (.long v5_), none, some (.int 1), some (.int v8_)] dX12_parseName_172 (by decide) rfl ?_
            refine mm_aload_n dX12_parseName_174 rfl rfl ?_
            refine s_getS (q := 1126) (r := some a) (b := a) (ci := 12) (k := 29) in_X12 rfl (by decide) rfl kF_X12_87 dX12_parseName_175 rfl hs (by decide) hn (by decide) rfl rfl ?_
            refine mm_iload dX12_parseName_178 rfl ?_
            obtain ⟨j43, hj44, hb45, hl46, hx⟩ := ix_some hx
            refine s_iald (a := 1126) sa_1126 hn hj44 hb45 na_1126 dX12_parseName_180 ?_
            refine mm_i2l dX12_parseName_181 ?_
            refine mm_lstore [some (.ref a), some (.int v1_), some (.int v2_), some (.int v3_), some (.int v4_), some (.long (Int32.toInt64 (sI σ 1126 j43))), none, some (.int 1), some (.int v8_)] dX12_parseName_182 (by decide) rfl ?_
            exact e_X12_parseName_184 hst hZ hn hs ih hk190 hx
        · refine mm_icmp_ne 184 dX12_parseName_142 (by decide) (fun _ => ?_) (fun h => absurd h h31)
          exact e_X12_parseName_184 hst hZ hn hs ih hk190 hx
      · refine mm_icmp_ne 190 dX12_parseName_126 (by decide) (fun _ => ?_) (fun h => absurd h h22)
        refine mm_fewer [some (.ref a), some (.int v1_), some (.int v2_), some (.int v3_), none, some (.long v5_), none, some (.int v7_), none] (few_ok (bs := [true, true, true, true, false, true, false, true, false]) rfl) ?_
        exact hk190 _ _ hx
    · refine mm_icmp_ge 190 dX12_parseName_119 (by decide) (fun _ => ?_) (fun h => absurd (Int32.not_lt.mp h21) h)
      refine mm_fewer [some (.ref a), some (.int v1_), some (.int v2_), some (.int v3_), none, some (.long v5_), none, some (.int v7_), none] (few_ok (bs := [true, true, true, true, false, true, false, true, false]) rfl) ?_
      exact hk190 _ _ hx
set_option maxHeartbeats 4000000 in
set_option maxRecDepth 100000 in
theorem e_X12_parseName_190 {g : mm_G} {l : Launch} (hst : l.stackTraces = false) {Z : Nat → Nat → Option Nat} (hZ : HZ Z) {n : Nat} (hn : 1186 ≤ n) {z : Bool} {d : Nat} {U : Nat} {a : Nat} (hs : sh a = 12) {v1_ : Int32} {v2_ : Int32} {v3_ : Int32} {v5_ : Int64} {v7_ : Int32} {σ : SG} {σ' : SG} (hx : x_X12_parseName_190 U a v1_ v2_ v3_ v5_ v7_ σ = some σ') : mm_V g l RX12 "parseName" cX12_parseName 9 none [] (d + 3) 0 0 (mm_nt (fun v S' => v = none ∧ S' = (mem Z σ', n, z))) 190 [some (.ref a), some (.int v1_), some (.int v2_), some (.int v3_), none, some (.long v5_), none, some (.int v7_), none] [] (mem Z σ, n, z) 0 0 := by
  unfold x_X12_parseName_190 at hx
  refine mm_aload_n dX12_parseName_190 rfl rfl ?_
  refine mm_iload_n dX12_parseName_191 rfl ?_
  refine s_putI (v := v3_) (r := some a) (b := a) (ci := 12) (k := 109) in_X12 rfl (by decide) rfl tyX12_ok nmX12 rfl kF_X12_636 dX12_parseName_192 (mm_fit_int _) rfl hs (by decide) hn (by decide) rfl hx (fun σ49 hx => ?_)
  refine mm_iload dX12_parseName_195 rfl ?_
  refine b_if hx (fun h50 hx => ?_) (fun h50 hx => ?_)
  · refine mm_if_ne 208 dX12_parseName_197 (by decide) (fun h => absurd h50 h) (fun _ => ?_)
    refine mm_aload_n dX12_parseName_200 rfl rfl ?_
    refine mm_iconst (v := 1) dX12_parseName_201 (by decide) ?_
    refine s_putI (v := 1) (r := some a) (b := a) (ci := 12) (k := 107) in_X12 rfl (by decide) rfl tyX12_ok nmX12 rfl kF_X12_590 dX12_parseName_202 mm_fit_z1 rfl hs (by decide) hn (by decide) rfl hx (fun σ51 hx => ?_)
    refine mm_goto 216 dX12_parseName_205 (by decide) ?_
    refine mm_vret dX12_parseName_216 rfl ?_ (by omega) (by omega)
    obtain rfl := fin1 hx
    exact ⟨rfl, rfl⟩
  · refine mm_if_ne 208 dX12_parseName_197 (by decide) (fun _ => ?_) (fun h => absurd h h50)
    refine mm_aload_n dX12_parseName_208 rfl rfl ?_
    refine mm_iload_n dX12_parseName_209 rfl ?_
    refine mm_iload_n dX12_parseName_210 rfl ?_
    refine mm_lload dX12_parseName_211 rfl ?_
    obtain ⟨σ53, hc52, hx⟩ := b1_some hx
    refine mm_callV3 (a := a) (ci := 12) wM_X12_putNumber kM_X12_667 wI_X12_putNumber wS_X12_putNumber dX12_parseName_213 (e_X12_putNumber hst hZ hn hs hc52) (mem_obj hs (by decide)) (sh_ltn hs (by decide) hn) rfl rfl rfl (Nat.le_of_ble_eq_true rfl) (by omega) (by omega) (fun v9 S9 hq => ?_)
    obtain ⟨rfl, rfl⟩ := hq
    refine ⟨fun h => ⟨h, rfl⟩, ?_⟩
    refine mm_vret dX12_parseName_216 rfl ?_ (by omega) (by omega)
    obtain rfl := fin1 hx
    exact ⟨rfl, rfl⟩
set_option maxHeartbeats 4000000 in
set_option maxRecDepth 100000 in
theorem e_X12_parseName_91 {g : mm_G} {l : Launch} (hst : l.stackTraces = false) {Z : Nat → Nat → Option Nat} (hZ : HZ Z) {n : Nat} (hn : 1186 ≤ n) {z : Bool} {d : Nat} {U : Nat} {a : Nat} (hs : sh a = 12) {v1_ : Int32} {v2_ : Int32} {v3_ : Int32} {v4_ : Int32} {v5_ : Int64} {v7_ : Int32} {σ : SG} {σ' : SG} (hx : x_X12_parseName_91 U a v1_ v2_ v3_ v4_ v5_ v7_ σ = some σ') : mm_V g l RX12 "parseName" cX12_parseName 9 none [] (d + 3) 0 0 (mm_nt (fun v S' => v = none ∧ S' = (mem Z σ', n, z))) 91 [some (.ref a), some (.int v1_), some (.int v2_), some (.int v3_), some (.int v4_), some (.long v5_), none, some (.int v7_), none] [] (mem Z σ, n, z) 0 0 := by
  unfold x_X12_parseName_91 at hx
  refine mm_bipush (v := 40) dX12_parseName_91 (by decide) ?_
  refine mm_aload_n dX12_parseName_93 rfl rfl ?_
  refine s_getI (r := some a) (b := a) (ci := 12) (k := 80) in_X12 rfl (by decide) rfl kF_X12_587 dX12_parseName_94 rfl hs (by decide) hn (by decide) rfl ?_
  refine mm_imul dX12_parseName_97 ?_
  refine mm_istore [some (.ref a), some (.int v1_), some (.int v2_), some (.int v3_), some (.int v4_), some (.long v5_), none, some (.int v7_), some (.int (40 * (sI σ a 80)))] dX12_parseName_98 (by decide) rfl ?_
  refine e_X12_parseName_L100 hst hZ hn hs ?_ _ _ _ _ hx
  · intro w47 w48 hx
    exact e_X12_parseName_190 hst hZ hn hs hx
set_option maxHeartbeats 4000000 in
set_option maxRecDepth 100000 in
theorem e_X12_parseName_89 {g : mm_G} {l : Launch} (hst : l.stackTraces = false) {Z : Nat → Nat → Option Nat} (hZ : HZ Z) {n : Nat} (hn : 1186 ≤ n) {z : Bool} {d : Nat} {U : Nat} {a : Nat} (hs : sh a = 12) {v1_ : Int32} {v2_ : Int32} {v3_ : Int32} {v4_ : Int32} {v7_ : Int32} {s0_ : Int64} {σ : SG} {σ' : SG} (hx : x_X12_parseName_89 U a v1_ v2_ v3_ v4_ v7_ s0_ σ = some σ') : mm_V g l RX12 "parseName" cX12_parseName 9 none [] (d + 3) 0 0 (mm_nt (fun v S' => v = none ∧ S' = (mem Z σ', n, z))) 89 [some (.ref a), some (.int v1_), some (.int v2_), some (.int v3_), some (.int v4_), none, none, some (.int v7_), none] [.long s0_] (mem Z σ, n, z) 0 0 := by
  unfold x_X12_parseName_89 at hx
  refine mm_lstore [some (.ref a), some (.int v1_), some (.int v2_), some (.int v3_), some (.int v4_), some (.long s0_), none, some (.int v7_), none] dX12_parseName_89 (by decide) rfl ?_
  exact e_X12_parseName_91 hst hZ hn hs hx
set_option maxHeartbeats 4000000 in
set_option maxRecDepth 100000 in
theorem e_X12_parseName_67 {g : mm_G} {l : Launch} (hst : l.stackTraces = false) {Z : Nat → Nat → Option Nat} (hZ : HZ Z) {n : Nat} (hn : 1186 ≤ n) {z : Bool} {d : Nat} {U : Nat} {a : Nat} (hs : sh a = 12) {v1_ : Int32} {v2_ : Int32} {v3_ : Int32} {v4_ : Int32} {s0_ : Int32} {σ : SG} {σ' : SG} (hx : x_X12_parseName_67 U a v1_ v2_ v3_ v4_ s0_ σ = some σ') : mm_V g l RX12 "parseName" cX12_parseName 9 none [] (d + 3) 0 0 (mm_nt (fun v S' => v = none ∧ S' = (mem Z σ', n, z))) 67 [some (.ref a), some (.int v1_), some (.int v2_), some (.int v3_), some (.int v4_), none, none, none, none] [.int s0_] (mem Z σ, n, z) 0 0 := by
  unfold x_X12_parseName_67 at hx
  refine mm_istore [some (.ref a), some (.int v1_), some (.int v2_), some (.int v3_), some (.int v4_), none, none, some (.int s0_), none] dX12_parseName_67 (by decide) rfl ?_
  refine mm_aload_n dX12_parseName_69 rfl rfl ?_
  refine mm_aload_n dX12_parseName_70 rfl rfl ?_
  refine s_getI (r := some a) (b := a) (ci := 12) (k := 109) in_X12 rfl (by decide) rfl kF_X12_636 dX12_parseName_71 rfl hs (by decide) hn (by decide) rfl ?_
  refine mm_iload_n dX12_parseName_74 rfl ?_
  refine mm_ldc2 kL_X12_453 dX12_parseName_75 ?_
  obtain ⟨v15, hc14, hx⟩ := b1_some hx
  refine mm_callV3 (a := a) (ci := 12) wM_X12_isPlain kM_X12_342 wI_X12_isPlain wS_X12_isPlain dX12_parseName_78 (e_X12_isPlain hst hZ hn hs hc14) (mem_obj hs (by decide)) (sh_ltn hs (by decide) hn) rfl rfl rfl (Nat.le_of_ble_eq_true rfl) (by omega) (by omega) (fun v9 S9 hq => ?_)
  obtain ⟨rfl, rfl⟩ := hq
  refine ⟨fun h => ⟨h, rfl⟩, ?_⟩
  refine b_if hx (fun h16 hx => ?_) (fun h16 hx => ?_)
  · refine mm_if_eq 88 dX12_parseName_81 (by decide) (fun _ => ?_) (fun h => absurd h16 h)
    refine mm_lconst (v := 0) dX12_parseName_88 (by decide) ?_
    exact e_X12_parseName_89 hst hZ hn hs hx
  · refine mm_if_eq 88 dX12_parseName_81 (by decide) (fun h => absurd h h16) (fun _ => ?_)
    refine mm_lconst (v := 1) dX12_parseName_84 (by decide) ?_
    refine mm_goto 89 dX12_parseName_85 (by decide) ?_
    exact e_X12_parseName_89 hst hZ hn hs hx
set_option maxHeartbeats 4000000 in
set_option maxRecDepth 100000 in
theorem e_X12_parseName_62 {g : mm_G} {l : Launch} (hst : l.stackTraces = false) {Z : Nat → Nat → Option Nat} (hZ : HZ Z) {n : Nat} (hn : 1186 ≤ n) {z : Bool} {d : Nat} {U : Nat} {a : Nat} (hs : sh a = 12) {v1_ : Int32} {v2_ : Int32} {v3_ : Int32} {v4_ : Int32} {σ : SG} {σ' : SG} (hx : x_X12_parseName_62 U a v1_ v2_ v3_ v4_ σ = some σ') : mm_V g l RX12 "parseName" cX12_parseName 9 none [] (d + 3) 0 0 (mm_nt (fun v S' => v = none ∧ S' = (mem Z σ', n, z))) 62 [some (.ref a), some (.int v1_), some (.int v2_), some (.int v3_), some (.int v4_), none, none, none, none] [] (mem Z σ, n, z) 0 0 := by
  unfold x_X12_parseName_62 at hx
  refine mm_iconst (v := 1) dX12_parseName_62 (by decide) ?_
  refine mm_goto 67 dX12_parseName_63 (by decide) ?_
  exact e_X12_parseName_67 hst hZ hn hs hx
set_option maxHeartbeats 4000000 in
set_option maxRecDepth 100000 in
theorem e_X12_parseName {g : mm_G} {l : Launch} (hst : l.stackTraces = false) {Z : Nat → Nat → Option Nat} (hZ : HZ Z) {n : Nat} (hn : 1186 ≤ n) {z : Bool} {d : Nat} {U : Nat} {a : Nat} (hs : sh a = 12) {p0 : Int32} {p1 : Int32} {σ : SG} {σ' : SG} (hx : x_X12_parseName U a p0 p1 σ = some σ') : mm_Cm g l yX12_parseName (.code yX12_parseName cX12_parseName 9 none) (d + 3) 0 0 [.ref a, .int p0, .int p1] (mem Z σ, n, z) (fun v S' => v = none ∧ S' = (mem Z σ', n, z)) := by
  refine mm_Cm_of hst (by decide) (Nat.le_of_ble_eq_true rfl) ?_
  show mm_V g l RX12 "parseName" cX12_parseName 9 none [] (d + 3) 0 0 (mm_nt (fun v S' => v = none ∧ S' = (mem Z σ', n, z))) 0 [some (.ref a), some (.int p0), some (.int p1), none, none, none, none, none, none] [] (mem Z σ, n, z) 0 0
  unfold x_X12_parseName at hx
  refine mm_aload_n dX12_parseName_0 rfl rfl ?_
  refine mm_aload_n dX12_parseName_1 rfl rfl ?_
  refine s_getI (r := some a) (b := a) (ci := 12) (k := 109) in_X12 rfl (by decide) rfl kF_X12_636 dX12_parseName_2 rfl hs (by decide) hn (by decide) rfl ?_
  obtain ⟨v2, hc1, hx⟩ := b1_some hx
  refine mm_callV3 (a := a) (ci := 12) wM_X12_nameEnd kM_X12_811 wI_X12_nameEnd wS_X12_nameEnd dX12_parseName_5 (e_X12_nameEnd hst hZ hn hs hc1) (mem_obj hs (by decide)) (sh_ltn hs (by decide) hn) rfl rfl rfl (Nat.le_of_ble_eq_true rfl) (by omega) (by omega) (fun v9 S9 hq => ?_)
  obtain ⟨rfl, rfl⟩ := hq
  refine ⟨fun h => ⟨h, rfl⟩, ?_⟩
  refine mm_istore_n [some (.ref a), some (.int p0), some (.int p1), some (.int v2), none, none, none, none, none] dX12_parseName_8 (by decide) rfl ?_
  refine mm_aload_n dX12_parseName_9 rfl rfl ?_
  refine s_getS (q := 1118) (r := some a) (b := a) (ci := 12) (k := 21) in_X12 rfl (by decide) rfl kF_X12_62 dX12_parseName_10 rfl hs (by decide) hn (by decide) rfl rfl ?_
  refine mm_iload_n dX12_parseName_13 rfl ?_
  obtain ⟨j3, hj4, hb5, hl6, hx⟩ := ix_some hx
  refine s_iald (a := 1118) sa_1118 hn hj4 hb5 na_1118 dX12_parseName_14 ?_
  refine mm_istore [some (.ref a), some (.int p0), some (.int p1), some (.int v2), some (.int (sI σ 1118 j3)), none, none, none, none] dX12_parseName_15 (by decide) rfl ?_
  refine mm_ldc2 kL_X12_794 dX12_parseName_17 ?_
  refine mm_lstore [some (.ref a), some (.int p0), some (.int p1), some (.int v2), some (.int (sI σ 1118 j3)), some (.long (-1)), none, none, none] dX12_parseName_20 (by decide) rfl ?_
  refine mm_iconst (v := 0) dX12_parseName_22 (by decide) ?_
  refine mm_istore [some (.ref a), some (.int p0), some (.int p1), some (.int v2), some (.int (sI σ 1118 j3)), some (.long (-1)), none, some (.int 0), none] dX12_parseName_23 (by decide) rfl ?_
  refine mm_iload dX12_parseName_25 rfl ?_
  refine mm_bipush (v := 10) dX12_parseName_27 (by decide) ?_
  refine b_if hx (fun h7 hx => ?_) (fun h7 hx => ?_)
  · refine mm_icmp_ne 91 dX12_parseName_29 (by decide) (fun h => absurd h7 h) (fun _ => ?_)
    refine mm_aload_n dX12_parseName_32 rfl rfl ?_
    refine mm_aload_n dX12_parseName_33 rfl rfl ?_
    refine s_getI (r := some a) (b := a) (ci := 12) (k := 109) in_X12 rfl (by decide) rfl kF_X12_636 dX12_parseName_34 rfl hs (by decide) hn (by decide) rfl ?_
    refine mm_iload_n dX12_parseName_37 rfl ?_
    refine mm_ldc2 kL_X12_453 dX12_parseName_38 ?_
    obtain ⟨v9, hc8, hx⟩ := b1_some hx
    refine mm_callV3 (a := a) (ci := 12) wM_X12_isPlain kM_X12_342 wI_X12_isPlain wS_X12_isPlain dX12_parseName_41 (e_X12_isPlain hst hZ hn hs hc8) (mem_obj hs (by decide)) (sh_ltn hs (by decide) hn) rfl rfl rfl (Nat.le_of_ble_eq_true rfl) (by omega) (by omega) (fun v9 S9 hq => ?_)
    obtain ⟨rfl, rfl⟩ := hq
    refine ⟨fun h => ⟨h, rfl⟩, ?_⟩
    refine b_if hx (fun h10 hx => ?_) (fun h10 hx => ?_)
    · refine mm_if_ne 62 dX12_parseName_44 (by decide) (fun h => absurd h10 h) (fun _ => ?_)
      refine mm_aload_n dX12_parseName_47 rfl rfl ?_
      refine mm_aload_n dX12_parseName_48 rfl rfl ?_
      refine s_getI (r := some a) (b := a) (ci := 12) (k := 109) in_X12 rfl (by decide) rfl kF_X12_636 dX12_parseName_49 rfl hs (by decide) hn (by decide) rfl ?_
      refine mm_iload_n dX12_parseName_52 rfl ?_
      refine mm_ldc2 kL_X12_455 dX12_parseName_53 ?_
      obtain ⟨v12, hc11, hx⟩ := b1_some hx
      refine mm_callV3 (a := a) (ci := 12) wM_X12_isPlain kM_X12_342 wI_X12_isPlain wS_X12_isPlain dX12_parseName_56 (e_X12_isPlain hst hZ hn hs hc11) (mem_obj hs (by decide)) (sh_ltn hs (by decide) hn) rfl rfl rfl (Nat.le_of_ble_eq_true rfl) (by omega) (by omega) (fun v9 S9 hq => ?_)
      obtain ⟨rfl, rfl⟩ := hq
      refine ⟨fun h => ⟨h, rfl⟩, ?_⟩
      refine b_if hx (fun h13 hx => ?_) (fun h13 hx => ?_)
      · refine mm_if_eq 66 dX12_parseName_59 (by decide) (fun _ => ?_) (fun h => absurd h13 h)
        refine mm_iconst (v := 0) dX12_parseName_66 (by decide) ?_
        refine mm_fewer [some (.ref a), some (.int p0), some (.int p1), some (.int v2), some (.int (sI σ 1118 j3)), none, none, none, none] (few_ok (bs := [true, true, true, true, true, false, false, false, false]) rfl) ?_
        exact e_X12_parseName_67 hst hZ hn hs hx
      · refine mm_if_eq 66 dX12_parseName_59 (by decide) (fun h => absurd h h13) (fun _ => ?_)
        refine mm_fewer [some (.ref a), some (.int p0), some (.int p1), some (.int v2), some (.int (sI σ 1118 j3)), none, none, none, none] (few_ok (bs := [true, true, true, true, true, false, false, false, false]) rfl) ?_
        exact e_X12_parseName_62 hst hZ hn hs hx
    · refine mm_if_ne 62 dX12_parseName_44 (by decide) (fun _ => ?_) (fun h => absurd h h10)
      refine mm_fewer [some (.ref a), some (.int p0), some (.int p1), some (.int v2), some (.int (sI σ 1118 j3)), none, none, none, none] (few_ok (bs := [true, true, true, true, true, false, false, false, false]) rfl) ?_
      exact e_X12_parseName_62 hst hZ hn hs hx
  · refine mm_icmp_ne 91 dX12_parseName_29 (by decide) (fun _ => ?_) (fun h => absurd h h7)
    exact e_X12_parseName_91 hst hZ hn hs hx
set_option maxHeartbeats 4000000 in
set_option maxRecDepth 100000 in
theorem e_X12_parseNumber_101 {g : mm_G} {l : Launch} (hst : l.stackTraces = false) {Z : Nat → Nat → Option Nat} (hZ : HZ Z) {n : Nat} (hn : 1186 ≤ n) {z : Bool} {d : Nat} {U : Nat} {a : Nat} (hs : sh a = 12) {k45 : Int64 → Int32 → SG → Option (SG)} {k126 : Int64 → Int32 → SG → Option (SG)} {v1_ : Int32} {v2_ : Int32} {v3_ : Int32} {v4_ : Int32} {v5_ : Int64} {v7_ : Int32} {v8_ : Int32} {σ : SG} {σ' : SG} (hk45 : ∀ (v5_ : Int64) (v7_ : Int32) (σ8 : SG), k45 v5_ v7_ σ8 = some σ' → mm_V g l RX12 "parseNumber" cX12_parseNumber 11 none [] (d + 3) 0 0 (mm_nt (fun v S' => v = none ∧ S' = (mem Z σ', n, z))) 45 [some (.ref a), some (.int v1_), some (.int v2_), some (.int v3_), some (.int v4_), some (.long v5_), none, some (.int v7_), none, none, none] [] (mem Z σ8, n, z) 0 0) (hk126 : ∀ (v5_ : Int64) (v7_ : Int32) (σ8 : SG), k126 v5_ v7_ σ8 = some σ' → mm_V g l RX12 "parseNumber" cX12_parseNumber 11 none [] (d + 3) 0 0 (mm_nt (fun v S' => v = none ∧ S' = (mem Z σ', n, z))) 126 [some (.ref a), some (.int v1_), some (.int v2_), some (.int v3_), some (.int v4_), some (.long v5_), none, some (.int v7_), none, none, none] [] (mem Z σ8, n, z) 0 0) (hx : x_X12_parseNumber_101 U a k45 k126 v1_ v2_ v3_ v4_ v5_ v7_ v8_ σ = some σ') : mm_V g l RX12 "parseNumber" cX12_parseNumber 11 none [] (d + 3) 0 0 (mm_nt (fun v S' => v = none ∧ S' = (mem Z σ', n, z))) 101 [some (.ref a), some (.int v1_), some (.int v2_), some (.int v3_), some (.int v4_), some (.long v5_), none, some (.int v7_), some (.int v8_), none, none] [] (mem Z σ, n, z) 0 0 := by
  unfold x_X12_parseNumber_101 at hx
  refine mm_ldc2 kL_X12_757 dX12_parseNumber_101 ?_
  refine mm_lload dX12_parseNumber_104 rfl ?_
  refine mm_lmul dX12_parseNumber_106 ?_
  refine mm_iload dX12_parseNumber_107 rfl ?_
  refine mm_i2l dX12_parseNumber_109 ?_
  refine mm_ladd dX12_parseNumber_110 ?_
  refine mm_lstore [some (.ref a), some (.int v1_), some (.int v2_), some (.int v3_), some (.int v4_), some (.long ((10 * v5_) + (Int32.toInt64 v8_))), none, some (.int v7_), some (.int v8_), none, none] dX12_parseNumber_111 (by decide) rfl ?_
  refine mm_aload_n dX12_parseNumber_113 rfl rfl ?_
  refine mm_dup dX12_parseNumber_114 rfl ?_
  refine s_getI (r := some a) (b := a) (ci := 12) (k := 109) in_X12 rfl (by decide) rfl kF_X12_636 dX12_parseNumber_115 rfl hs (by decide) hn (by decide) rfl ?_
  refine mm_iconst (v := 1) dX12_parseNumber_118 (by decide) ?_
  refine mm_iadd dX12_parseNumber_119 ?_
  refine s_putI (v := (sI σ a 109) + 1) (r := some a) (b := a) (ci := 12) (k := 109) in_X12 rfl (by decide) rfl tyX12_ok nmX12 rfl kF_X12_636 dX12_parseNumber_120 (mm_fit_int _) rfl hs (by decide) hn (by decide) rfl hx (fun σ17 hx => ?_)
  refine mm_goto 45 dX12_parseNumber_123 (by decide) ?_
  refine mm_fewer [some (.ref a), some (.int v1_), some (.int v2_), some (.int v3_), some (.int v4_), some (.long ((10 * v5_) + (Int32.toInt64 v8_))), none, some (.int v7_), none, none, none] (few_ok (bs := [true, true, true, true, true, true, false, true, false, false, false]) rfl) ?_
  exact hk45 _ _ _ hx
set_option maxHeartbeats 4000000 in
set_option maxRecDepth 100000 in
theorem e_X12_parseNumber_98 {g : mm_G} {l : Launch} (hst : l.stackTraces = false) {Z : Nat → Nat → Option Nat} (hZ : HZ Z) {n : Nat} (hn : 1186 ≤ n) {z : Bool} {d : Nat} {U : Nat} {a : Nat} (hs : sh a = 12) {k45 : Int64 → Int32 → SG → Option (SG)} {k126 : Int64 → Int32 → SG → Option (SG)} {v1_ : Int32} {v2_ : Int32} {v3_ : Int32} {v4_ : Int32} {v5_ : Int64} {v8_ : Int32} {σ : SG} {σ' : SG} (hk45 : ∀ (v5_ : Int64) (v7_ : Int32) (σ8 : SG), k45 v5_ v7_ σ8 = some σ' → mm_V g l RX12 "parseNumber" cX12_parseNumber 11 none [] (d + 3) 0 0 (mm_nt (fun v S' => v = none ∧ S' = (mem Z σ', n, z))) 45 [some (.ref a), some (.int v1_), some (.int v2_), some (.int v3_), some (.int v4_), some (.long v5_), none, some (.int v7_), none, none, none] [] (mem Z σ8, n, z) 0 0) (hk126 : ∀ (v5_ : Int64) (v7_ : Int32) (σ8 : SG), k126 v5_ v7_ σ8 = some σ' → mm_V g l RX12 "parseNumber" cX12_parseNumber 11 none [] (d + 3) 0 0 (mm_nt (fun v S' => v = none ∧ S' = (mem Z σ', n, z))) 126 [some (.ref a), some (.int v1_), some (.int v2_), some (.int v3_), some (.int v4_), some (.long v5_), none, some (.int v7_), none, none, none] [] (mem Z σ8, n, z) 0 0) (hx : x_X12_parseNumber_98 U a k45 k126 v1_ v2_ v3_ v4_ v5_ v8_ σ = some σ') : mm_V g l RX12 "parseNumber" cX12_parseNumber 11 none [] (d + 3) 0 0 (mm_nt (fun v S' => v = none ∧ S' = (mem Z σ', n, z))) 98 [some (.ref a), some (.int v1_), some (.int v2_), some (.int v3_), some (.int v4_), some (.long v5_), none, none, some (.int v8_), none, none] [] (mem Z σ, n, z) 0 0 := by
  unfold x_X12_parseNumber_98 at hx
  refine mm_iconst (v := 1) dX12_parseNumber_98 (by decide) ?_
  refine mm_istore [some (.ref a), some (.int v1_), some (.int v2_), some (.int v3_), some (.int v4_), some (.long v5_), none, some (.int 1), some (.int v8_), none, none] dX12_parseNumber_99 (by decide) rfl ?_
  exact e_X12_parseNumber_101 hst hZ hn hs hk45 hk126 hx
set_option maxHeartbeats 4000000 in
set_option maxRecDepth 100000 in
theorem e_X12_parseNumber_L45 {g : mm_G} {l : Launch} (hst : l.stackTraces = false) {Z : Nat → Nat → Option Nat} (hZ : HZ Z) {n : Nat} (hn : 1186 ≤ n) {z : Bool} {d : Nat} {U : Nat} {a : Nat} (hs : sh a = 12) {k126 : Int64 → Int32 → SG → Option (SG)} {v1_ : Int32} {v2_ : Int32} {v3_ : Int32} {v4_ : Int32} {σ' : SG} (hk126 : ∀ (v5_ : Int64) (v7_ : Int32) (σ8 : SG), k126 v5_ v7_ σ8 = some σ' → mm_V g l RX12 "parseNumber" cX12_parseNumber 11 none [] (d + 3) 0 0 (mm_nt (fun v S' => v = none ∧ S' = (mem Z σ', n, z))) 126 [some (.ref a), some (.int v1_), some (.int v2_), some (.int v3_), some (.int v4_), some (.long v5_), none, some (.int v7_), none, none, none] [] (mem Z σ8, n, z) 0 0) : ∀ (U1 : Nat) (v5_ : Int64) (v7_ : Int32) (σ : SG), x_X12_parseNumber_L45 U a k126 v1_ v2_ v3_ v4_ U1 v5_ v7_ σ = some σ' → mm_V g l RX12 "parseNumber" cX12_parseNumber 11 none [] (d + 3) 0 0 (mm_nt (fun v S' => v = none ∧ S' = (mem Z σ', n, z))) 45 [some (.ref a), some (.int v1_), some (.int v2_), some (.int v3_), some (.int v4_), some (.long v5_), none, some (.int v7_), none, none, none] [] (mem Z σ, n, z) 0 0 := by
  intro U1
  induction U1 with
  | zero => intro v5_ v7_ σ hx; exact absurd hx (by simp [x_X12_parseNumber_L45])
  | succ U1 ih =>
    intro v5_ v7_ σ hx
    rw [x_X12_parseNumber_L45] at hx
    refine mm_aload_n dX12_parseNumber_45 rfl rfl ?_
    refine mm_aload_n dX12_parseNumber_46 rfl rfl ?_
    refine s_getI (r := some a) (b := a) (ci := 12) (k := 109) in_X12 rfl (by decide) rfl kF_X12_636 dX12_parseNumber_47 rfl hs (by decide) hn (by decide) rfl ?_
    obtain ⟨v6, hc5, hx⟩ := b1_some hx
    refine mm_callV3 (a := a) (ci := 12) wM_X12_byteAt kM_X12_284 wI_X12_byteAt wS_X12_byteAt dX12_parseNumber_50 (e_X12_byteAt hst hZ hn hs hc5) (mem_obj hs (by decide)) (sh_ltn hs (by decide) hn) rfl rfl rfl (Nat.le_of_ble_eq_true rfl) (by omega) (by omega) (fun v9 S9 hq => ?_)
    obtain ⟨rfl, rfl⟩ := hq
    refine ⟨fun h => ⟨h, rfl⟩, ?_⟩
    obtain ⟨v8, hc7, hx⟩ := b1_some hx
    refine mm_callS wM_X12_isDigit kM_X12_281 wT_X12_isDigit dX12_parseNumber_53 (e_X12_isDigit hst hZ hn hc7) rfl rfl (Nat.le_of_ble_eq_true rfl) (by omega) (by omega) (fun v9 S9 hq => ?_)
    obtain ⟨rfl, rfl⟩ := hq
    refine ⟨fun h => ⟨h, rfl⟩, ?_⟩
    refine b_if hx (fun h9 hx => ?_) (fun h9 hx => ?_)
    · refine mm_if_eq 126 dX12_parseNumber_56 (by decide) (fun _ => ?_) (fun h => absurd h9 h)
      exact hk126 _ _ _ hx
    · refine mm_if_eq 126 dX12_parseNumber_56 (by decide) (fun h => absurd h h9) (fun _ => ?_)
      refine mm_aload_n dX12_parseNumber_59 rfl rfl ?_
      refine mm_aload_n dX12_parseNumber_60 rfl rfl ?_
      refine s_getI (r := some a) (b := a) (ci := 12) (k := 109) in_X12 rfl (by decide) rfl kF_X12_636 dX12_parseNumber_61 rfl hs (by decide) hn (by decide) rfl ?_
      obtain ⟨v11, hc10, hx⟩ := b1_some hx
      refine mm_callV3 (a := a) (ci := 12) wM_X12_byteAt kM_X12_284 wI_X12_byteAt wS_X12_byteAt dX12_parseNumber_64 (e_X12_byteAt hst hZ hn hs hc10) (mem_obj hs (by decide)) (sh_ltn hs (by decide) hn) rfl rfl rfl (Nat.le_of_ble_eq_true rfl) (by omega) (by omega) (fun v9 S9 hq => ?_)
      obtain ⟨rfl, rfl⟩ := hq
      refine ⟨fun h => ⟨h, rfl⟩, ?_⟩
      refine mm_bipush (v := 48) dX12_parseNumber_67 (by decide) ?_
      refine mm_isub dX12_parseNumber_69 ?_
      refine mm_istore [some (.ref a), some (.int v1_), some (.int v2_), some (.int v3_), some (.int v4_), some (.long v5_), none, some (.int v7_), some (.int (v11 - 48)), none, none] dX12_parseNumber_70 (by decide) rfl ?_
      refine mm_lload dX12_parseNumber_72 rfl ?_
      refine mm_ldc2 kL_X12_798 dX12_parseNumber_74 ?_
      obtain ⟨v13, hc12, hx⟩ := b1_some hx
      refine mm_callS wM_X12_above kM_X12_800 wT_X12_above dX12_parseNumber_77 (e_X12_above hst hZ hn hc12) rfl rfl (Nat.le_of_ble_eq_true rfl) (by omega) (by omega) (fun v9 S9 hq => ?_)
      obtain ⟨rfl, rfl⟩ := hq
      refine ⟨fun h => ⟨h, rfl⟩, ?_⟩
      refine b_if hx (fun h14 hx => ?_) (fun h14 hx => ?_)
      · refine mm_if_ne 98 dX12_parseNumber_80 (by decide) (fun h => absurd h14 h) (fun _ => ?_)
        refine mm_lload dX12_parseNumber_83 rfl ?_
        refine mm_ldc2 kL_X12_798 dX12_parseNumber_85 ?_
        refine mm_lcmp dX12_parseNumber_88 ?_
        refine b_if hx (fun h15 hx => ?_) (fun h15 hx => ?_)
        · refine mm_if_ne 101 dX12_parseNumber_89 (by decide) (fun h => absurd (lg_eq.mpr h15) h) (fun _ => ?_)
          refine mm_iload dX12_parseNumber_92 rfl ?_
          refine mm_iconst (v := 5) dX12_parseNumber_94 (by decide) ?_
          refine b_if hx (fun h16 hx => ?_) (fun h16 hx => ?_)
          · refine mm_icmp_le 101 dX12_parseNumber_95 (by decide) (fun h => absurd h (Int32.not_le.mpr h16)) (fun _ => ?_)
            refine mm_fewer [some (.ref a), some (.int v1_), some (.int v2_), some (.int v3_), some (.int v4_), some (.long v5_), none, none, some (.int (v11 - 48)), none, none] (few_ok (bs := [true, true, true, true, true, true, false, false, true, false, false]) rfl) ?_
            exact e_X12_parseNumber_98 hst hZ hn hs ih hk126 hx
          · refine mm_icmp_le 101 dX12_parseNumber_95 (by decide) (fun _ => ?_) (fun h => absurd (Int32.not_lt.mp h16) h)
            exact e_X12_parseNumber_101 hst hZ hn hs ih hk126 hx
        · refine mm_if_ne 101 dX12_parseNumber_89 (by decide) (fun _ => ?_) (fun h => absurd (lg_eq.mp h) h15)
          exact e_X12_parseNumber_101 hst hZ hn hs ih hk126 hx
      · refine mm_if_ne 98 dX12_parseNumber_80 (by decide) (fun _ => ?_) (fun h => absurd h h14)
        refine mm_fewer [some (.ref a), some (.int v1_), some (.int v2_), some (.int v3_), some (.int v4_), some (.long v5_), none, none, some (.int (v11 - 48)), none, none] (few_ok (bs := [true, true, true, true, true, true, false, false, true, false, false]) rfl) ?_
        exact e_X12_parseNumber_98 hst hZ hn hs ih hk126 hx
set_option maxHeartbeats 4000000 in
set_option maxRecDepth 100000 in
theorem e_X12_parseNumber_226 {g : mm_G} {l : Launch} (hst : l.stackTraces = false) {Z : Nat → Nat → Option Nat} (hZ : HZ Z) {n : Nat} (hn : 1186 ≤ n) {z : Bool} {d : Nat} {U : Nat} {a : Nat} (hs : sh a = 12) {s0_ : Int64} {s1_ : Int32} {s2_ : Int32} {σ : SG} {σ' : SG} (hx : x_X12_parseNumber_226 U a s0_ s1_ s2_ σ = some σ') : mm_V g l RX12 "parseNumber" cX12_parseNumber 11 none [] (d + 3) 0 0 (mm_nt (fun v S' => v = none ∧ S' = (mem Z σ', n, z))) 226 [none, none, none, none, none, none, none, none, none, none, none] [.long s0_, .int s1_, .int s2_, .ref a] (mem Z σ, n, z) 0 0 := by
  unfold x_X12_parseNumber_226 at hx
  obtain ⟨σ33, hc32, hx⟩ := b1_some hx
  refine mm_callV3 (a := a) (ci := 12) wM_X12_putNumber kM_X12_667 wI_X12_putNumber wS_X12_putNumber dX12_parseNumber_226 (e_X12_putNumber hst hZ hn hs hc32) (mem_obj hs (by decide)) (sh_ltn hs (by decide) hn) rfl rfl rfl (Nat.le_of_ble_eq_true rfl) (by omega) (by omega) (fun v9 S9 hq => ?_)
  obtain ⟨rfl, rfl⟩ := hq
  refine ⟨fun h => ⟨h, rfl⟩, ?_⟩
  refine mm_vret dX12_parseNumber_229 rfl ?_ (by omega) (by omega)
  obtain rfl := fin1 hx
  exact ⟨rfl, rfl⟩
set_option maxHeartbeats 4000000 in
set_option maxRecDepth 100000 in
theorem e_X12_parseNumber_204 {g : mm_G} {l : Launch} (hst : l.stackTraces = false) {Z : Nat → Nat → Option Nat} (hZ : HZ Z) {n : Nat} (hn : 1186 ≤ n) {z : Bool} {d : Nat} {U : Nat} {a : Nat} (hs : sh a = 12) {v1_ : Int32} {v2_ : Int32} {v3_ : Int32} {v5_ : Int64} {σ : SG} {σ' : SG} (hx : x_X12_parseNumber_204 U a v1_ v2_ v3_ v5_ σ = some σ') : mm_V g l RX12 "parseNumber" cX12_parseNumber 11 none [] (d + 3) 0 0 (mm_nt (fun v S' => v = none ∧ S' = (mem Z σ', n, z))) 204 [some (.ref a), some (.int v1_), some (.int v2_), some (.int v3_), none, some (.long v5_), none, none, none, none, none] [] (mem Z σ, n, z) 0 0 := by
  unfold x_X12_parseNumber_204 at hx
  refine mm_aload_n dX12_parseNumber_204 rfl rfl ?_
  refine s_getI (r := some a) (b := a) (ci := 12) (k := 107) in_X12 rfl (by decide) rfl kF_X12_590 dX12_parseNumber_205 rfl hs (by decide) hn (by decide) rfl ?_
  refine b_if hx (fun h30 hx => ?_) (fun h30 hx => ?_)
  · refine mm_if_ne 229 dX12_parseNumber_208 (by decide) (fun h => absurd h30 h) (fun _ => ?_)
    refine mm_aload_n dX12_parseNumber_211 rfl rfl ?_
    refine mm_iload_n dX12_parseNumber_212 rfl ?_
    refine mm_iload_n dX12_parseNumber_213 rfl ?_
    refine mm_iload_n dX12_parseNumber_214 rfl ?_
    refine b_if hx (fun h31 hx => ?_) (fun h31 hx => ?_)
    · refine mm_if_eq 224 dX12_parseNumber_215 (by decide) (fun _ => ?_) (fun h => absurd h31 h)
      refine mm_lload dX12_parseNumber_224 rfl ?_
      refine mm_fewer [none, none, none, none, none, none, none, none, none, none, none] (few_ok (bs := [false, false, false, false, false, false, false, false, false, false, false]) rfl) ?_
      exact e_X12_parseNumber_226 hst hZ hn hs hx
    · refine mm_if_eq 224 dX12_parseNumber_215 (by decide) (fun h => absurd h h31) (fun _ => ?_)
      refine mm_lload dX12_parseNumber_218 rfl ?_
      refine mm_lneg dX12_parseNumber_220 ?_
      refine mm_goto 226 dX12_parseNumber_221 (by decide) ?_
      refine mm_fewer [none, none, none, none, none, none, none, none, none, none, none] (few_ok (bs := [false, false, false, false, false, false, false, false, false, false, false]) rfl) ?_
      exact e_X12_parseNumber_226 hst hZ hn hs hx
  · refine mm_if_ne 229 dX12_parseNumber_208 (by decide) (fun _ => ?_) (fun h => absurd h h30)
    refine mm_vret dX12_parseNumber_229 rfl ?_ (by omega) (by omega)
    obtain rfl := fin1 hx
    exact ⟨rfl, rfl⟩
set_option maxHeartbeats 4000000 in
set_option maxRecDepth 100000 in
theorem e_X12_parseNumber_199 {g : mm_G} {l : Launch} (hst : l.stackTraces = false) {Z : Nat → Nat → Option Nat} (hZ : HZ Z) {n : Nat} (hn : 1186 ≤ n) {z : Bool} {d : Nat} {U : Nat} {a : Nat} (hs : sh a = 12) {v1_ : Int32} {v2_ : Int32} {v3_ : Int32} {v5_ : Int64} {σ : SG} {σ' : SG} (hx : x_X12_parseNumber_199 U a v1_ v2_ v3_ v5_ σ = some σ') : mm_V g l RX12 "parseNumber" cX12_parseNumber 11 none [] (d + 3) 0 0 (mm_nt (fun v S' => v = none ∧ S' = (mem Z σ', n, z))) 199 [some (.ref a), some (.int v1_), some (.int v2_), some (.int v3_), none, some (.long v5_), none, none, none, none, none] [] (mem Z σ, n, z) 0 0 := by
  unfold x_X12_parseNumber_199 at hx
  refine mm_aload_n dX12_parseNumber_199 rfl rfl ?_
  refine mm_iconst (v := 1) dX12_parseNumber_200 (by decide) ?_
  refine s_putI (v := 1) (r := some a) (b := a) (ci := 12) (k := 107) in_X12 rfl (by decide) rfl tyX12_ok nmX12 rfl kF_X12_590 dX12_parseNumber_201 mm_fit_z1 rfl hs (by decide) hn (by decide) rfl hx (fun σ29 hx => ?_)
  exact e_X12_parseNumber_204 hst hZ hn hs hx
set_option maxHeartbeats 4000000 in
set_option maxRecDepth 100000 in
theorem e_X12_parseNumber_152 {g : mm_G} {l : Launch} (hst : l.stackTraces = false) {Z : Nat → Nat → Option Nat} (hZ : HZ Z) {n : Nat} (hn : 1186 ≤ n) {z : Bool} {d : Nat} {U : Nat} {a : Nat} (hs : sh a = 12) {v1_ : Int32} {v2_ : Int32} {v3_ : Int32} {v4_ : Int32} {v5_ : Int64} {v7_ : Int32} {v8_ : Int32} {s0_ : Int64} {σ : SG} {σ' : SG} (hx : x_X12_parseNumber_152 U a v1_ v2_ v3_ v4_ v5_ v7_ v8_ s0_ σ = some σ') : mm_V g l RX12 "parseNumber" cX12_parseNumber 11 none [] (d + 3) 0 0 (mm_nt (fun v S' => v = none ∧ S' = (mem Z σ', n, z))) 152 [some (.ref a), some (.int v1_), some (.int v2_), some (.int v3_), some (.int v4_), some (.long v5_), none, some (.int v7_), some (.int v8_), none, none] [.long s0_] (mem Z σ, n, z) 0 0 := by
  unfold x_X12_parseNumber_152 at hx
  refine mm_lstore [some (.ref a), some (.int v1_), some (.int v2_), some (.int v3_), some (.int v4_), some (.long v5_), none, some (.int v7_), some (.int v8_), some (.long s0_), none] dX12_parseNumber_152 (by decide) rfl ?_
  refine mm_aload_n dX12_parseNumber_154 rfl rfl ?_
  refine s_getI (r := some a) (b := a) (ci := 12) (k := 109) in_X12 rfl (by decide) rfl kF_X12_636 dX12_parseNumber_155 rfl hs (by decide) hn (by decide) rfl ?_
  refine mm_iload dX12_parseNumber_158 rfl ?_
  refine b_if hx (fun h28 hx => ?_) (fun h28 hx => ?_)
  · refine mm_icmp_eq 199 dX12_parseNumber_160 (by decide) (fun _ => ?_) (fun h => absurd h28 h)
    refine mm_fewer [some (.ref a), some (.int v1_), some (.int v2_), some (.int v3_), none, some (.long v5_), none, none, none, none, none] (few_ok (bs := [true, true, true, true, false, true, false, false, false, false, false]) rfl) ?_
    exact e_X12_parseNumber_199 hst hZ hn hs hx
  · refine mm_icmp_eq 199 dX12_parseNumber_160 (by decide) (fun h => absurd h h28) (fun _ => ?_)
    refine mm_aload_n dX12_parseNumber_163 rfl rfl ?_
    refine mm_aload_n dX12_parseNumber_164 rfl rfl ?_
    refine s_getI (r := some a) (b := a) (ci := 12) (k := 109) in_X12 rfl (by decide) rfl kF_X12_636 dX12_parseNumber_165 rfl hs (by decide) hn (by decide) rfl ?_
    obtain ⟨v35, hc34, hx⟩ := b1_some hx
    refine mm_callV3 (a := a) (ci := 12) wM_X12_byteAt kM_X12_284 wI_X12_byteAt wS_X12_byteAt dX12_parseNumber_168 (e_X12_byteAt hst hZ hn hs hc34) (mem_obj hs (by decide)) (sh_ltn hs (by decide) hn) rfl rfl rfl (Nat.le_of_ble_eq_true rfl) (by omega) (by omega) (fun v9 S9 hq => ?_)
    obtain ⟨rfl, rfl⟩ := hq
    refine ⟨fun h => ⟨h, rfl⟩, ?_⟩
    obtain ⟨v37, hc36, hx⟩ := b1_some hx
    refine mm_callS wM_X12_isPart kM_X12_313 wT_X12_isPart dX12_parseNumber_171 (e_X12_isPart hst hZ hn hc36) rfl rfl (Nat.le_of_ble_eq_true rfl) (by omega) (by omega) (fun v9 S9 hq => ?_)
    obtain ⟨rfl, rfl⟩ := hq
    refine ⟨fun h => ⟨h, rfl⟩, ?_⟩
    refine b_if hx (fun h38 hx => ?_) (fun h38 hx => ?_)
    · refine mm_if_ne 199 dX12_parseNumber_174 (by decide) (fun h => absurd h38 h) (fun _ => ?_)
      refine mm_iload dX12_parseNumber_177 rfl ?_
      refine b_if hx (fun h39 hx => ?_) (fun h39 hx => ?_)
      · refine mm_if_ne 199 dX12_parseNumber_179 (by decide) (fun h => absurd h39 h) (fun _ => ?_)
        refine mm_lload dX12_parseNumber_182 rfl ?_
        refine mm_lload dX12_parseNumber_184 rfl ?_
        obtain ⟨v41, hc40, hx⟩ := b1_some hx
        refine mm_callS wM_X12_above kM_X12_800 wT_X12_above dX12_parseNumber_186 (e_X12_above hst hZ hn hc40) rfl rfl (Nat.le_of_ble_eq_true rfl) (by omega) (by omega) (fun v9 S9 hq => ?_)
        obtain ⟨rfl, rfl⟩ := hq
        refine ⟨fun h => ⟨h, rfl⟩, ?_⟩
        refine b_if hx (fun h42 hx => ?_) (fun h42 hx => ?_)
        · refine mm_if_ne 199 dX12_parseNumber_189 (by decide) (fun h => absurd h42 h) (fun _ => ?_)
          refine mm_iload dX12_parseNumber_192 rfl ?_
          refine mm_bipush (v := 10) dX12_parseNumber_194 (by decide) ?_
          refine b_if hx (fun h43 hx => ?_) (fun h43 hx => ?_)
          · refine mm_icmp_ne 204 dX12_parseNumber_196 (by decide) (fun h => absurd h43 h) (fun _ => ?_)
            refine mm_fewer [some (.ref a), some (.int v1_), some (.int v2_), some (.int v3_), none, some (.long v5_), none, none, none, none, none] (few_ok (bs := [true, true, true, true, false, true, false, false, false, false, false]) rfl) ?_
            exact e_X12_parseNumber_199 hst hZ hn hs hx
          · refine mm_icmp_ne 204 dX12_parseNumber_196 (by decide) (fun _ => ?_) (fun h => absurd h h43)
            refine mm_fewer [some (.ref a), some (.int v1_), some (.int v2_), some (.int v3_), none, some (.long v5_), none, none, none, none, none] (few_ok (bs := [true, true, true, true, false, true, false, false, false, false, false]) rfl) ?_
            exact e_X12_parseNumber_204 hst hZ hn hs hx
        · refine mm_if_ne 199 dX12_parseNumber_189 (by decide) (fun _ => ?_) (fun h => absurd h h42)
          refine mm_fewer [some (.ref a), some (.int v1_), some (.int v2_), some (.int v3_), none, some (.long v5_), none, none, none, none, none] (few_ok (bs := [true, true, true, true, false, true, false, false, false, false, false]) rfl) ?_
          exact e_X12_parseNumber_199 hst hZ hn hs hx
      · refine mm_if_ne 199 dX12_parseNumber_179 (by decide) (fun _ => ?_) (fun h => absurd h h39)
        refine mm_fewer [some (.ref a), some (.int v1_), some (.int v2_), some (.int v3_), none, some (.long v5_), none, none, none, none, none] (few_ok (bs := [true, true, true, true, false, true, false, false, false, false, false]) rfl) ?_
        exact e_X12_parseNumber_199 hst hZ hn hs hx
    · refine mm_if_ne 199 dX12_parseNumber_174 (by decide) (fun _ => ?_) (fun h => absurd h h38)
      refine mm_fewer [some (.ref a), some (.int v1_), some (.int v2_), some (.int v3_), none, some (.long v5_), none, none, none, none, none] (few_ok (bs := [true, true, true, true, false, true, false, false, false, false, false]) rfl) ?_
      exact e_X12_parseNumber_199 hst hZ hn hs hx
set_option maxHeartbeats 4000000 in
set_option maxRecDepth 100000 in
theorem e_X12_parseNumber_33 {g : mm_G} {l : Launch} (hst : l.stackTraces = false) {Z : Nat → Nat → Option Nat} (hZ : HZ Z) {n : Nat} (hn : 1186 ≤ n) {z : Bool} {d : Nat} {U : Nat} {a : Nat} (hs : sh a = 12) {v1_ : Int32} {v2_ : Int32} {v3_ : Int32} {σ : SG} {σ' : SG} (hx : x_X12_parseNumber_33 U a v1_ v2_ v3_ σ = some σ') : mm_V g l RX12 "parseNumber" cX12_parseNumber 11 none [] (d + 3) 0 0 (mm_nt (fun v S' => v = none ∧ S' = (mem Z σ', n, z))) 33 [some (.ref a), some (.int v1_), some (.int v2_), some (.int v3_), none, none, none, none, none, none, none] [] (mem Z σ, n, z) 0 0 := by
  unfold x_X12_parseNumber_33 at hx
  refine mm_aload_n dX12_parseNumber_33 rfl rfl ?_
  refine s_getI (r := some a) (b := a) (ci := 12) (k := 109) in_X12 rfl (by decide) rfl kF_X12_636 dX12_parseNumber_34 rfl hs (by decide) hn (by decide) rfl ?_
  refine mm_istore [some (.ref a), some (.int v1_), some (.int v2_), some (.int v3_), some (.int (sI σ a 109)), none, none, none, none, none, none] dX12_parseNumber_37 (by decide) rfl ?_
  refine mm_lconst (v := 0) dX12_parseNumber_39 (by decide) ?_
  refine mm_lstore [some (.ref a), some (.int v1_), some (.int v2_), some (.int v3_), some (.int (sI σ a 109)), some (.long 0), none, none, none, none, none] dX12_parseNumber_40 (by decide) rfl ?_
  refine mm_iconst (v := 0) dX12_parseNumber_42 (by decide) ?_
  refine mm_istore [some (.ref a), some (.int v1_), some (.int v2_), some (.int v3_), some (.int (sI σ a 109)), some (.long 0), none, some (.int 0), none, none, none] dX12_parseNumber_43 (by decide) rfl ?_
  refine e_X12_parseNumber_L45 hst hZ hn hs ?_ _ _ _ _ hx
  · intro w18 w19 σ20 hx
    refine mm_aload_n dX12_parseNumber_126 rfl rfl ?_
    refine s_getS (q := 1118) (r := some a) (b := a) (ci := 12) (k := 21) in_X12 rfl (by decide) rfl kF_X12_62 dX12_parseNumber_127 rfl hs (by decide) hn (by decide) rfl rfl ?_
    refine mm_iload_n dX12_parseNumber_130 rfl ?_
    obtain ⟨j21, hj22, hb23, hl24, hx⟩ := ix_some hx
    refine s_iald (a := 1118) sa_1118 hn hj22 hb23 na_1118 dX12_parseNumber_131 ?_
    refine mm_istore [some (.ref a), some (.int v1_), some (.int v2_), some (.int v3_), some (.int (sI σ a 109)), some (.long w18), none, some (.int w19), some (.int (sI σ20 1118 j21)), none, none] dX12_parseNumber_132 (by decide) rfl ?_
    refine mm_iload_n dX12_parseNumber_134 rfl ?_
    refine b_if hx (fun h25 hx => ?_) (fun h25 hx => ?_)
    · refine mm_if_eq 147 dX12_parseNumber_135 (by decide) (fun _ => ?_) (fun h => absurd h25 h)
      refine mm_iload dX12_parseNumber_147 rfl ?_
      obtain ⟨v27, hc26, hx⟩ := b1_some hx
      refine mm_callS wM_X12_mostOf kM_X12_808 wT_X12_mostOf dX12_parseNumber_149 (e_X12_mostOf hst hZ hn hc26) rfl rfl (Nat.le_of_ble_eq_true rfl) (by omega) (by omega) (fun v9 S9 hq => ?_)
      obtain ⟨rfl, rfl⟩ := hq
      refine ⟨fun h => ⟨h, rfl⟩, ?_⟩
      exact e_X12_parseNumber_152 hst hZ hn hs hx
    · refine mm_if_eq 147 dX12_parseNumber_135 (by decide) (fun h => absurd h h25) (fun _ => ?_)
      refine mm_iload dX12_parseNumber_138 rfl ?_
      obtain ⟨v45, hc44, hx⟩ := b1_some hx
      refine mm_callS wM_X12_leastOf kM_X12_804 wT_X12_leastOf dX12_parseNumber_140 (e_X12_leastOf hst hZ hn hc44) rfl rfl (Nat.le_of_ble_eq_true rfl) (by omega) (by omega) (fun v9 S9 hq => ?_)
      obtain ⟨rfl, rfl⟩ := hq
      refine ⟨fun h => ⟨h, rfl⟩, ?_⟩
      refine mm_lneg dX12_parseNumber_143 ?_
      refine mm_goto 152 dX12_parseNumber_144 (by decide) ?_
      exact e_X12_parseNumber_152 hst hZ hn hs hx
set_option maxHeartbeats 4000000 in
set_option maxRecDepth 100000 in
theorem e_X12_parseNumber_18 {g : mm_G} {l : Launch} (hst : l.stackTraces = false) {Z : Nat → Nat → Option Nat} (hZ : HZ Z) {n : Nat} (hn : 1186 ≤ n) {z : Bool} {d : Nat} {U : Nat} {a : Nat} (hs : sh a = 12) {v1_ : Int32} {v2_ : Int32} {s0_ : Int32} {σ : SG} {σ' : SG} (hx : x_X12_parseNumber_18 U a v1_ v2_ s0_ σ = some σ') : mm_V g l RX12 "parseNumber" cX12_parseNumber 11 none [] (d + 3) 0 0 (mm_nt (fun v S' => v = none ∧ S' = (mem Z σ', n, z))) 18 [some (.ref a), some (.int v1_), some (.int v2_), none, none, none, none, none, none, none, none] [.int s0_] (mem Z σ, n, z) 0 0 := by
  unfold x_X12_parseNumber_18 at hx
  refine mm_istore_n [some (.ref a), some (.int v1_), some (.int v2_), some (.int s0_), none, none, none, none, none, none, none] dX12_parseNumber_18 (by decide) rfl ?_
  refine mm_iload_n dX12_parseNumber_19 rfl ?_
  refine b_if hx (fun h4 hx => ?_) (fun h4 hx => ?_)
  · refine mm_if_eq 33 dX12_parseNumber_20 (by decide) (fun _ => ?_) (fun h => absurd h4 h)
    exact e_X12_parseNumber_33 hst hZ hn hs hx
  · refine mm_if_eq 33 dX12_parseNumber_20 (by decide) (fun h => absurd h h4) (fun _ => ?_)
    refine mm_aload_n dX12_parseNumber_23 rfl rfl ?_
    refine mm_dup dX12_parseNumber_24 rfl ?_
    refine s_getI (r := some a) (b := a) (ci := 12) (k := 109) in_X12 rfl (by decide) rfl kF_X12_636 dX12_parseNumber_25 rfl hs (by decide) hn (by decide) rfl ?_
    refine mm_iconst (v := 1) dX12_parseNumber_28 (by decide) ?_
    refine mm_iadd dX12_parseNumber_29 ?_
    refine s_putI (v := (sI σ a 109) + 1) (r := some a) (b := a) (ci := 12) (k := 109) in_X12 rfl (by decide) rfl tyX12_ok nmX12 rfl kF_X12_636 dX12_parseNumber_30 (mm_fit_int _) rfl hs (by decide) hn (by decide) rfl hx (fun σ46 hx => ?_)
    exact e_X12_parseNumber_33 hst hZ hn hs hx
set_option maxHeartbeats 4000000 in
set_option maxRecDepth 100000 in
theorem e_X12_parseNumber {g : mm_G} {l : Launch} (hst : l.stackTraces = false) {Z : Nat → Nat → Option Nat} (hZ : HZ Z) {n : Nat} (hn : 1186 ≤ n) {z : Bool} {d : Nat} {U : Nat} {a : Nat} (hs : sh a = 12) {p0 : Int32} {p1 : Int32} {σ : SG} {σ' : SG} (hx : x_X12_parseNumber U a p0 p1 σ = some σ') : mm_Cm g l yX12_parseNumber (.code yX12_parseNumber cX12_parseNumber 11 none) (d + 3) 0 0 [.ref a, .int p0, .int p1] (mem Z σ, n, z) (fun v S' => v = none ∧ S' = (mem Z σ', n, z)) := by
  refine mm_Cm_of hst (by decide) (Nat.le_of_ble_eq_true rfl) ?_
  show mm_V g l RX12 "parseNumber" cX12_parseNumber 11 none [] (d + 3) 0 0 (mm_nt (fun v S' => v = none ∧ S' = (mem Z σ', n, z))) 0 [some (.ref a), some (.int p0), some (.int p1), none, none, none, none, none, none, none, none] [] (mem Z σ, n, z) 0 0
  unfold x_X12_parseNumber at hx
  refine mm_aload_n dX12_parseNumber_0 rfl rfl ?_
  refine mm_aload_n dX12_parseNumber_1 rfl rfl ?_
  refine s_getI (r := some a) (b := a) (ci := 12) (k := 109) in_X12 rfl (by decide) rfl kF_X12_636 dX12_parseNumber_2 rfl hs (by decide) hn (by decide) rfl ?_
  obtain ⟨v2, hc1, hx⟩ := b1_some hx
  refine mm_callV3 (a := a) (ci := 12) wM_X12_byteAt kM_X12_284 wI_X12_byteAt wS_X12_byteAt dX12_parseNumber_5 (e_X12_byteAt hst hZ hn hs hc1) (mem_obj hs (by decide)) (sh_ltn hs (by decide) hn) rfl rfl rfl (Nat.le_of_ble_eq_true rfl) (by omega) (by omega) (fun v9 S9 hq => ?_)
  obtain ⟨rfl, rfl⟩ := hq
  refine ⟨fun h => ⟨h, rfl⟩, ?_⟩
  refine mm_bipush (v := 45) dX12_parseNumber_8 (by decide) ?_
  refine b_if hx (fun h3 hx => ?_) (fun h3 hx => ?_)
  · refine mm_icmp_ne 17 dX12_parseNumber_10 (by decide) (fun h => absurd h3 h) (fun _ => ?_)
    refine mm_iconst (v := 1) dX12_parseNumber_13 (by decide) ?_
    refine mm_goto 18 dX12_parseNumber_14 (by decide) ?_
    exact e_X12_parseNumber_18 hst hZ hn hs hx
  · refine mm_icmp_ne 17 dX12_parseNumber_10 (by decide) (fun _ => ?_) (fun h => absurd h h3)
    refine mm_iconst (v := 0) dX12_parseNumber_17 (by decide) ?_
    exact e_X12_parseNumber_18 hst hZ hn hs hx
set_option maxHeartbeats 4000000 in
set_option maxRecDepth 100000 in
theorem e_X12_parsePlain_57 {g : mm_G} {l : Launch} (hst : l.stackTraces = false) {Z : Nat → Nat → Option Nat} (hZ : HZ Z) {n : Nat} (hn : 1186 ≤ n) {z : Bool} {d : Nat} {U : Nat} {a : Nat} (hs : sh a = 12) {v1_ : Int32} {v2_ : Int32} {v3_ : Int32} {v4_ : Int32} {s0_ : Int32} {s1_ : Int32} {σ : SG} {σ' : SG} (hx : x_X12_parsePlain_57 U a v1_ v2_ v3_ v4_ s0_ s1_ σ = some σ') : mm_V g l RX12 "parsePlain" cX12_parsePlain 5 none [] (d + 4) 0 0 (mm_nt (fun v S' => v = none ∧ S' = (mem Z σ', n, z))) 57 [some (.ref a), some (.int v1_), some (.int v2_), some (.int v3_), some (.int v4_)] [.int s0_, .int s1_] (mem Z σ, n, z) 0 0 := by
  unfold x_X12_parsePlain_57 at hx
  refine b_if hx (fun h9 hx => ?_) (fun h9 hx => ?_)
  · refine mm_icmp_eq 68 dX12_parsePlain_57 (by decide) (fun _ => ?_) (fun h => absurd h9 h)
    refine mm_iload dX12_parsePlain_68 rfl ?_
    refine b_if hx (fun h10 hx => ?_) (fun h10 hx => ?_)
    · refine mm_if_eq 82 dX12_parsePlain_70 (by decide) (fun _ => ?_) (fun h => absurd h10 h)
      refine mm_iload_n dX12_parsePlain_82 rfl ?_
      obtain ⟨v12, hc11, hx⟩ := b1_some hx
      refine mm_callS wM_X12_isLetter kM_X12_277 wT_X12_isLetter dX12_parsePlain_83 (e_X12_isLetter hst hZ hn hc11) rfl rfl (Nat.le_of_ble_eq_true rfl) (by omega) (by omega) (fun v9 S9 hq => ?_)
      obtain ⟨rfl, rfl⟩ := hq
      refine ⟨fun h => ⟨h, rfl⟩, ?_⟩
      refine b_if hx (fun h13 hx => ?_) (fun h13 hx => ?_)
      · refine mm_if_eq 98 dX12_parsePlain_86 (by decide) (fun _ => ?_) (fun h => absurd h13 h)
        refine mm_aload_n dX12_parsePlain_98 rfl rfl ?_
        refine mm_iload_n dX12_parsePlain_99 rfl ?_
        refine mm_iload_n dX12_parsePlain_100 rfl ?_
        obtain ⟨σ15, hc14, hx⟩ := b1_some hx
        refine mm_callV3 (a := a) (ci := 12) wM_X12_parseNumber kM_X12_826 wI_X12_parseNumber wS_X12_parseNumber dX12_parsePlain_101 (e_X12_parseNumber hst hZ hn hs hc14) (mem_obj hs (by decide)) (sh_ltn hs (by decide) hn) rfl rfl rfl (Nat.le_of_ble_eq_true rfl) (by omega) (by omega) (fun v9 S9 hq => ?_)
        obtain ⟨rfl, rfl⟩ := hq
        refine ⟨fun h => ⟨h, rfl⟩, ?_⟩
        refine mm_vret dX12_parsePlain_104 rfl ?_ (by omega) (by omega)
        obtain rfl := fin1 hx
        exact ⟨rfl, rfl⟩
      · refine mm_if_eq 98 dX12_parsePlain_86 (by decide) (fun h => absurd h h13) (fun _ => ?_)
        refine mm_aload_n dX12_parsePlain_89 rfl rfl ?_
        refine mm_iload_n dX12_parsePlain_90 rfl ?_
        refine mm_iload_n dX12_parsePlain_91 rfl ?_
        obtain ⟨σ17, hc16, hx⟩ := b1_some hx
        refine mm_callV3 (a := a) (ci := 12) wM_X12_parseName kM_X12_823 wI_X12_parseName wS_X12_parseName dX12_parsePlain_92 (e_X12_parseName hst hZ hn hs hc16) (mem_obj hs (by decide)) (sh_ltn hs (by decide) hn) rfl rfl rfl (Nat.le_of_ble_eq_true rfl) (by omega) (by omega) (fun v9 S9 hq => ?_)
        obtain ⟨rfl, rfl⟩ := hq
        refine ⟨fun h => ⟨h, rfl⟩, ?_⟩
        refine mm_goto 104 dX12_parsePlain_95 (by decide) ?_
        refine mm_vret dX12_parsePlain_104 rfl ?_ (by omega) (by omega)
        obtain rfl := fin1 hx
        exact ⟨rfl, rfl⟩
    · refine mm_if_eq 82 dX12_parsePlain_70 (by decide) (fun h => absurd h h10) (fun _ => ?_)
      refine mm_aload_n dX12_parsePlain_73 rfl rfl ?_
      refine mm_iload_n dX12_parsePlain_74 rfl ?_
      refine mm_iload_n dX12_parsePlain_75 rfl ?_
      obtain ⟨σ19, hc18, hx⟩ := b1_some hx
      refine mm_callV3 (a := a) (ci := 12) wM_X12_parseText kM_X12_820 wI_X12_parseText wS_X12_parseText dX12_parsePlain_76 (e_X12_parseText hst hZ hn hs hc18) (mem_obj hs (by decide)) (sh_ltn hs (by decide) hn) rfl rfl rfl (Nat.le_of_ble_eq_true rfl) (by omega) (by omega) (fun v9 S9 hq => ?_)
      obtain ⟨rfl, rfl⟩ := hq
      refine ⟨fun h => ⟨h, rfl⟩, ?_⟩
      refine mm_goto 104 dX12_parsePlain_79 (by decide) ?_
      refine mm_vret dX12_parsePlain_104 rfl ?_ (by omega) (by omega)
      obtain rfl := fin1 hx
      exact ⟨rfl, rfl⟩
  · refine mm_icmp_eq 68 dX12_parsePlain_57 (by decide) (fun h => absurd h h9) (fun _ => ?_)
    refine mm_aload_n dX12_parsePlain_60 rfl rfl ?_
    refine mm_iconst (v := 1) dX12_parsePlain_61 (by decide) ?_
    refine s_putI (v := 1) (r := some a) (b := a) (ci := 12) (k := 107) in_X12 rfl (by decide) rfl tyX12_ok nmX12 rfl kF_X12_590 dX12_parsePlain_62 mm_fit_z1 rfl hs (by decide) hn (by decide) rfl hx (fun σ20 hx => ?_)
    refine mm_goto 104 dX12_parsePlain_65 (by decide) ?_
    refine mm_vret dX12_parsePlain_104 rfl ?_ (by omega) (by omega)
    obtain rfl := fin1 hx
    exact ⟨rfl, rfl⟩
set_option maxHeartbeats 4000000 in
set_option maxRecDepth 100000 in
theorem e_X12_parsePlain_52 {g : mm_G} {l : Launch} (hst : l.stackTraces = false) {Z : Nat → Nat → Option Nat} (hZ : HZ Z) {n : Nat} (hn : 1186 ≤ n) {z : Bool} {d : Nat} {U : Nat} {a : Nat} (hs : sh a = 12) {v1_ : Int32} {v2_ : Int32} {v3_ : Int32} {v4_ : Int32} {s0_ : Int32} {σ : SG} {σ' : SG} (hx : x_X12_parsePlain_52 U a v1_ v2_ v3_ v4_ s0_ σ = some σ') : mm_V g l RX12 "parsePlain" cX12_parsePlain 5 none [] (d + 4) 0 0 (mm_nt (fun v S' => v = none ∧ S' = (mem Z σ', n, z))) 52 [some (.ref a), some (.int v1_), some (.int v2_), some (.int v3_), some (.int v4_)] [.int s0_] (mem Z σ, n, z) 0 0 := by
  unfold x_X12_parsePlain_52 at hx
  refine mm_iconst (v := 1) dX12_parsePlain_52 (by decide) ?_
  refine mm_goto 57 dX12_parsePlain_53 (by decide) ?_
  exact e_X12_parsePlain_57 hst hZ hn hs hx
set_option maxHeartbeats 4000000 in
set_option maxRecDepth 100000 in
theorem e_X12_parsePlain_36 {g : mm_G} {l : Launch} (hst : l.stackTraces = false) {Z : Nat → Nat → Option Nat} (hZ : HZ Z) {n : Nat} (hn : 1186 ≤ n) {z : Bool} {d : Nat} {U : Nat} {a : Nat} (hs : sh a = 12) {v1_ : Int32} {v2_ : Int32} {v3_ : Int32} {s0_ : Int32} {σ : SG} {σ' : SG} (hx : x_X12_parsePlain_36 U a v1_ v2_ v3_ s0_ σ = some σ') : mm_V g l RX12 "parsePlain" cX12_parsePlain 5 none [] (d + 4) 0 0 (mm_nt (fun v S' => v = none ∧ S' = (mem Z σ', n, z))) 36 [some (.ref a), some (.int v1_), some (.int v2_), some (.int v3_), none] [.int s0_] (mem Z σ, n, z) 0 0 := by
  unfold x_X12_parsePlain_36 at hx
  refine mm_istore [some (.ref a), some (.int v1_), some (.int v2_), some (.int v3_), some (.int s0_)] dX12_parsePlain_36 (by decide) rfl ?_
  refine mm_iload dX12_parsePlain_38 rfl ?_
  refine mm_iload_n dX12_parsePlain_40 rfl ?_
  refine mm_bipush (v := 34) dX12_parsePlain_41 (by decide) ?_
  refine b_if hx (fun h8 hx => ?_) (fun h8 hx => ?_)
  · refine mm_icmp_eq 52 dX12_parsePlain_43 (by decide) (fun _ => ?_) (fun h => absurd h8 h)
    exact e_X12_parsePlain_52 hst hZ hn hs hx
  · refine mm_icmp_eq 52 dX12_parsePlain_43 (by decide) (fun h => absurd h h8) (fun _ => ?_)
    refine mm_iload_n dX12_parsePlain_46 rfl ?_
    refine mm_bipush (v := 39) dX12_parsePlain_47 (by decide) ?_
    refine b_if hx (fun h21 hx => ?_) (fun h21 hx => ?_)
    · refine mm_icmp_ne 56 dX12_parsePlain_49 (by decide) (fun h => absurd h21 h) (fun _ => ?_)
      exact e_X12_parsePlain_52 hst hZ hn hs hx
    · refine mm_icmp_ne 56 dX12_parsePlain_49 (by decide) (fun _ => ?_) (fun h => absurd h h21)
      refine mm_iconst (v := 0) dX12_parsePlain_56 (by decide) ?_
      exact e_X12_parsePlain_57 hst hZ hn hs hx
set_option maxHeartbeats 4000000 in
set_option maxRecDepth 100000 in
theorem e_X12_parsePlain_31 {g : mm_G} {l : Launch} (hst : l.stackTraces = false) {Z : Nat → Nat → Option Nat} (hZ : HZ Z) {n : Nat} (hn : 1186 ≤ n) {z : Bool} {d : Nat} {U : Nat} {a : Nat} (hs : sh a = 12) {v1_ : Int32} {v2_ : Int32} {v3_ : Int32} {σ : SG} {σ' : SG} (hx : x_X12_parsePlain_31 U a v1_ v2_ v3_ σ = some σ') : mm_V g l RX12 "parsePlain" cX12_parsePlain 5 none [] (d + 4) 0 0 (mm_nt (fun v S' => v = none ∧ S' = (mem Z σ', n, z))) 31 [some (.ref a), some (.int v1_), some (.int v2_), some (.int v3_), none] [] (mem Z σ, n, z) 0 0 := by
  unfold x_X12_parsePlain_31 at hx
  refine mm_iconst (v := 1) dX12_parsePlain_31 (by decide) ?_
  refine mm_goto 36 dX12_parsePlain_32 (by decide) ?_
  exact e_X12_parsePlain_36 hst hZ hn hs hx
set_option maxHeartbeats 4000000 in
set_option maxRecDepth 100000 in
theorem e_X12_parsePlain {g : mm_G} {l : Launch} (hst : l.stackTraces = false) {Z : Nat → Nat → Option Nat} (hZ : HZ Z) {n : Nat} (hn : 1186 ≤ n) {z : Bool} {d : Nat} {U : Nat} {a : Nat} (hs : sh a = 12) {p0 : Int32} {p1 : Int32} {σ : SG} {σ' : SG} (hx : x_X12_parsePlain U a p0 p1 σ = some σ') : mm_Cm g l yX12_parsePlain (.code yX12_parsePlain cX12_parsePlain 5 none) (d + 4) 0 0 [.ref a, .int p0, .int p1] (mem Z σ, n, z) (fun v S' => v = none ∧ S' = (mem Z σ', n, z)) := by
  refine mm_Cm_of hst (by decide) (Nat.le_of_ble_eq_true rfl) ?_
  show mm_V g l RX12 "parsePlain" cX12_parsePlain 5 none [] (d + 4) 0 0 (mm_nt (fun v S' => v = none ∧ S' = (mem Z σ', n, z))) 0 [some (.ref a), some (.int p0), some (.int p1), none, none] [] (mem Z σ, n, z) 0 0
  unfold x_X12_parsePlain at hx
  refine mm_aload_n dX12_parsePlain_0 rfl rfl ?_
  refine mm_aload_n dX12_parsePlain_1 rfl rfl ?_
  refine s_getI (r := some a) (b := a) (ci := 12) (k := 109) in_X12 rfl (by decide) rfl kF_X12_636 dX12_parsePlain_2 rfl hs (by decide) hn (by decide) rfl ?_
  obtain ⟨v2, hc1, hx⟩ := b1_some hx
  refine mm_callV3 (a := a) (ci := 12) wM_X12_byteAt kM_X12_284 wI_X12_byteAt wS_X12_byteAt dX12_parsePlain_5 (e_X12_byteAt hst hZ hn hs hc1) (mem_obj hs (by decide)) (sh_ltn hs (by decide) hn) rfl rfl rfl (Nat.le_of_ble_eq_true rfl) (by omega) (by omega) (fun v9 S9 hq => ?_)
  obtain ⟨rfl, rfl⟩ := hq
  refine ⟨fun h => ⟨h, rfl⟩, ?_⟩
  refine mm_istore_n [some (.ref a), some (.int p0), some (.int p1), some (.int v2), none] dX12_parsePlain_8 (by decide) rfl ?_
  refine mm_aload_n dX12_parsePlain_9 rfl rfl ?_
  refine s_getS (q := 1118) (r := some a) (b := a) (ci := 12) (k := 21) in_X12 rfl (by decide) rfl kF_X12_62 dX12_parsePlain_10 rfl hs (by decide) hn (by decide) rfl rfl ?_
  refine mm_iload_n dX12_parsePlain_13 rfl ?_
  obtain ⟨j3, hj4, hb5, hl6, hx⟩ := ix_some hx
  refine s_iald (a := 1118) sa_1118 hn hj4 hb5 na_1118 dX12_parsePlain_14 ?_
  refine mm_bipush (v := 11) dX12_parsePlain_15 (by decide) ?_
  refine b_if hx (fun h7 hx => ?_) (fun h7 hx => ?_)
  · refine mm_icmp_eq 31 dX12_parsePlain_17 (by decide) (fun _ => ?_) (fun h => absurd h7 h)
    exact e_X12_parsePlain_31 hst hZ hn hs hx
  · refine mm_icmp_eq 31 dX12_parsePlain_17 (by decide) (fun h => absurd h h7) (fun _ => ?_)
    refine mm_aload_n dX12_parsePlain_20 rfl rfl ?_
    refine s_getS (q := 1118) (r := some a) (b := a) (ci := 12) (k := 21) in_X12 rfl (by decide) rfl kF_X12_62 dX12_parsePlain_21 rfl hs (by decide) hn (by decide) rfl rfl ?_
    refine mm_iload_n dX12_parsePlain_24 rfl ?_
    obtain ⟨j22, hj23, hb24, hl25, hx⟩ := ix_some hx
    refine s_iald (a := 1118) sa_1118 hn hj23 hb24 na_1118 dX12_parsePlain_25 ?_
    refine mm_bipush (v := 12) dX12_parsePlain_26 (by decide) ?_
    refine b_if hx (fun h26 hx => ?_) (fun h26 hx => ?_)
    · refine mm_icmp_ne 35 dX12_parsePlain_28 (by decide) (fun h => absurd h26 h) (fun _ => ?_)
      exact e_X12_parsePlain_31 hst hZ hn hs hx
    · refine mm_icmp_ne 35 dX12_parsePlain_28 (by decide) (fun _ => ?_) (fun h => absurd h h26)
      refine mm_iconst (v := 0) dX12_parsePlain_35 (by decide) ?_
      exact e_X12_parsePlain_36 hst hZ hn hs hx
set_option maxHeartbeats 4000000 in
set_option maxRecDepth 100000 in
theorem e_X12_parseNext_85 {g : mm_G} {l : Launch} (hst : l.stackTraces = false) {Z : Nat → Nat → Option Nat} (hZ : HZ Z) {n : Nat} (hn : 1186 ≤ n) {z : Bool} {d : Nat} {U : Nat} {a : Nat} (hs : sh a = 12) {σ : SG} {σ' : SG} (hx : x_X12_parseNext_85 U a σ = some σ') : mm_V g l RX12 "parseNext" cX12_parseNext 5 none [] (d + 5) 0 0 (mm_nt (fun v S' => v = none ∧ S' = (mem Z σ', n, z))) 85 [some (.ref a), none, none, none, none] [] (mem Z σ, n, z) 0 0 := by
  unfold x_X12_parseNext_85 at hx
  refine mm_aload_n dX12_parseNext_85 rfl rfl ?_
  refine mm_dup dX12_parseNext_86 rfl ?_
  refine s_getI (r := some a) (b := a) (ci := 12) (k := 106) in_X12 rfl (by decide) rfl kF_X12_650 dX12_parseNext_87 rfl hs (by decide) hn (by decide) rfl ?_
  refine mm_iconst (v := 1) dX12_parseNext_90 (by decide) ?_
  refine mm_isub dX12_parseNext_91 ?_
  refine s_putI (v := (sI σ a 106) - 1) (r := some a) (b := a) (ci := 12) (k := 106) in_X12 rfl (by decide) rfl tyX12_ok nmX12 rfl kF_X12_650 dX12_parseNext_92 (mm_fit_int _) rfl hs (by decide) hn (by decide) rfl hx (fun σ12 hx => ?_)
  refine mm_aload_n dX12_parseNext_95 rfl rfl ?_
  refine mm_dup dX12_parseNext_96 rfl ?_
  refine s_getI (r := some a) (b := a) (ci := 12) (k := 109) in_X12 rfl (by decide) rfl kF_X12_636 dX12_parseNext_97 rfl hs (by decide) hn (by decide) rfl ?_
  refine mm_iconst (v := 1) dX12_parseNext_100 (by decide) ?_
  refine mm_iadd dX12_parseNext_101 ?_
  refine s_putI (v := (sI σ12 a 109) + 1) (r := some a) (b := a) (ci := 12) (k := 109) in_X12 rfl (by decide) rfl tyX12_ok nmX12 rfl kF_X12_636 dX12_parseNext_102 (mm_fit_int _) rfl hs (by decide) hn (by decide) rfl hx (fun σ13 hx => ?_)
  refine mm_vret dX12_parseNext_105 rfl ?_ (by omega) (by omega)
  obtain rfl := fin1 hx
  exact ⟨rfl, rfl⟩
set_option maxHeartbeats 4000000 in
set_option maxRecDepth 100000 in
theorem e_X12_parseNext_77 {g : mm_G} {l : Launch} (hst : l.stackTraces = false) {Z : Nat → Nat → Option Nat} (hZ : HZ Z) {n : Nat} (hn : 1186 ≤ n) {z : Bool} {d : Nat} {U : Nat} {a : Nat} (hs : sh a = 12) {s0_ : Int32} {s1_ : Int32} {σ : SG} {σ' : SG} (hx : x_X12_parseNext_77 U a s0_ s1_ σ = some σ') : mm_V g l RX12 "parseNext" cX12_parseNext 5 none [] (d + 5) 0 0 (mm_nt (fun v S' => v = none ∧ S' = (mem Z σ', n, z))) 77 [some (.ref a), none, none, none, none] [.int s0_, .int s1_] (mem Z σ, n, z) 0 0 := by
  unfold x_X12_parseNext_77 at hx
  refine b_if hx (fun h11 hx => ?_) (fun h11 hx => ?_)
  · refine mm_icmp_eq 85 dX12_parseNext_77 (by decide) (fun _ => ?_) (fun h => absurd h11 h)
    exact e_X12_parseNext_85 hst hZ hn hs hx
  · refine mm_icmp_eq 85 dX12_parseNext_77 (by decide) (fun h => absurd h h11) (fun _ => ?_)
    refine mm_aload_n dX12_parseNext_80 rfl rfl ?_
    refine mm_iconst (v := 1) dX12_parseNext_81 (by decide) ?_
    refine s_putI (v := 1) (r := some a) (b := a) (ci := 12) (k := 107) in_X12 rfl (by decide) rfl tyX12_ok nmX12 rfl kF_X12_590 dX12_parseNext_82 mm_fit_z1 rfl hs (by decide) hn (by decide) rfl hx (fun σ14 hx => ?_)
    exact e_X12_parseNext_85 hst hZ hn hs hx
set_option maxHeartbeats 4000000 in
set_option maxRecDepth 100000 in
theorem e_X12_parseNext_64 {g : mm_G} {l : Launch} (hst : l.stackTraces = false) {Z : Nat → Nat → Option Nat} (hZ : HZ Z) {n : Nat} (hn : 1186 ≤ n) {z : Bool} {d : Nat} {U : Nat} {a : Nat} (hs : sh a = 12) {s0_ : Int32} {σ : SG} {σ' : SG} (hx : x_X12_parseNext_64 U a s0_ σ = some σ') : mm_V g l RX12 "parseNext" cX12_parseNext 5 none [] (d + 5) 0 0 (mm_nt (fun v S' => v = none ∧ S' = (mem Z σ', n, z))) 64 [some (.ref a), none, none, none, none] [.int s0_] (mem Z σ, n, z) 0 0 := by
  unfold x_X12_parseNext_64 at hx
  refine mm_aload_n dX12_parseNext_64 rfl rfl ?_
  refine s_getI (r := some a) (b := a) (ci := 12) (k := 106) in_X12 rfl (by decide) rfl kF_X12_650 dX12_parseNext_65 rfl hs (by decide) hn (by decide) rfl ?_
  refine mm_iconst (v := 1) dX12_parseNext_68 (by decide) ?_
  refine b_if hx (fun h10 hx => ?_) (fun h10 hx => ?_)
  · refine mm_icmp_ne 76 dX12_parseNext_69 (by decide) (fun h => absurd h10 h) (fun _ => ?_)
    refine mm_iconst (v := 1) dX12_parseNext_72 (by decide) ?_
    refine mm_goto 77 dX12_parseNext_73 (by decide) ?_
    exact e_X12_parseNext_77 hst hZ hn hs hx
  · refine mm_icmp_ne 76 dX12_parseNext_69 (by decide) (fun _ => ?_) (fun h => absurd h h10)
    refine mm_iconst (v := 0) dX12_parseNext_76 (by decide) ?_
    exact e_X12_parseNext_77 hst hZ hn hs hx
set_option maxHeartbeats 4000000 in
set_option maxRecDepth 100000 in
theorem e_X12_parseNext_48 {g : mm_G} {l : Launch} (hst : l.stackTraces = false) {Z : Nat → Nat → Option Nat} (hZ : HZ Z) {n : Nat} (hn : 1186 ≤ n) {z : Bool} {d : Nat} {U : Nat} {a : Nat} (hs : sh a = 12) {σ : SG} {σ' : SG} (hx : x_X12_parseNext_48 U a σ = some σ') : mm_V g l RX12 "parseNext" cX12_parseNext 5 none [] (d + 5) 0 0 (mm_nt (fun v S' => v = none ∧ S' = (mem Z σ', n, z))) 48 [some (.ref a), none, none, none, none] [] (mem Z σ, n, z) 0 0 := by
  unfold x_X12_parseNext_48 at hx
  refine mm_aload_n dX12_parseNext_48 rfl rfl ?_
  refine s_getI (r := some a) (b := a) (ci := 12) (k := 109) in_X12 rfl (by decide) rfl kF_X12_636 dX12_parseNext_49 rfl hs (by decide) hn (by decide) rfl ?_
  refine mm_aload_n dX12_parseNext_52 rfl rfl ?_
  refine s_getI (r := some a) (b := a) (ci := 12) (k := 73) in_X12 rfl (by decide) rfl kF_X12_274 dX12_parseNext_53 rfl hs (by decide) hn (by decide) rfl ?_
  refine b_if hx (fun h9 hx => ?_) (fun h9 hx => ?_)
  · refine mm_icmp_ne 63 dX12_parseNext_56 (by decide) (fun h => absurd h9 h) (fun _ => ?_)
    refine mm_iconst (v := 1) dX12_parseNext_59 (by decide) ?_
    refine mm_goto 64 dX12_parseNext_60 (by decide) ?_
    exact e_X12_parseNext_64 hst hZ hn hs hx
  · refine mm_icmp_ne 63 dX12_parseNext_56 (by decide) (fun _ => ?_) (fun h => absurd h h9)
    refine mm_iconst (v := 0) dX12_parseNext_63 (by decide) ?_
    exact e_X12_parseNext_64 hst hZ hn hs hx
set_option maxHeartbeats 4000000 in
set_option maxRecDepth 100000 in
theorem e_X12_parseNext_145 {g : mm_G} {l : Launch} (hst : l.stackTraces = false) {Z : Nat → Nat → Option Nat} (hZ : HZ Z) {n : Nat} (hn : 1186 ≤ n) {z : Bool} {d : Nat} {U : Nat} {a : Nat} (hs : sh a = 12) {σ : SG} {σ' : SG} (hx : x_X12_parseNext_145 U a σ = some σ') : mm_V g l RX12 "parseNext" cX12_parseNext 5 none [] (d + 5) 0 0 (mm_nt (fun v S' => v = none ∧ S' = (mem Z σ', n, z))) 145 [some (.ref a), none, none, none, none] [] (mem Z σ, n, z) 0 0 := by
  unfold x_X12_parseNext_145 at hx
  refine mm_aload_n dX12_parseNext_145 rfl rfl ?_
  refine mm_iconst (v := 1) dX12_parseNext_146 (by decide) ?_
  refine s_putI (v := 1) (r := some a) (b := a) (ci := 12) (k := 107) in_X12 rfl (by decide) rfl tyX12_ok nmX12 rfl kF_X12_590 dX12_parseNext_147 mm_fit_z1 rfl hs (by decide) hn (by decide) rfl hx (fun σ27 hx => ?_)
  refine mm_vret dX12_parseNext_150 rfl ?_ (by omega) (by omega)
  obtain rfl := fin1 hx
  exact ⟨rfl, rfl⟩
set_option maxHeartbeats 4000000 in
set_option maxRecDepth 100000 in
theorem e_X12_parseNext_186 {g : mm_G} {l : Launch} (hst : l.stackTraces = false) {Z : Nat → Nat → Option Nat} (hZ : HZ Z) {n : Nat} (hn : 1186 ≤ n) {z : Bool} {d : Nat} {U : Nat} {a : Nat} (hs : sh a = 12) {v1_ : Int32} {v3_ : Int32} {s0_ : Int32} {s1_ : Int32} {σ : SG} {σ' : SG} (hx : x_X12_parseNext_186 U a v1_ v3_ s0_ s1_ σ = some σ') : mm_V g l RX12 "parseNext" cX12_parseNext 5 none [] (d + 5) 0 0 (mm_nt (fun v S' => v = none ∧ S' = (mem Z σ', n, z))) 186 [some (.ref a), some (.int v1_), none, some (.int v3_), none] [.int s0_, .int s1_] (mem Z σ, n, z) 0 0 := by
  unfold x_X12_parseNext_186 at hx
  refine b_if hx (fun h41 hx => ?_) (fun h41 hx => ?_)
  · refine mm_icmp_eq 195 dX12_parseNext_186 (by decide) (fun _ => ?_) (fun h => absurd h41 h)
    refine mm_aload_n dX12_parseNext_195 rfl rfl ?_
    refine mm_dup dX12_parseNext_196 rfl ?_
    refine s_getI (r := some a) (b := a) (ci := 12) (k := 109) in_X12 rfl (by decide) rfl kF_X12_636 dX12_parseNext_197 rfl hs (by decide) hn (by decide) rfl ?_
    refine mm_iconst (v := 1) dX12_parseNext_200 (by decide) ?_
    refine mm_iadd dX12_parseNext_201 ?_
    refine s_putI (v := (sI σ a 109) + 1) (r := some a) (b := a) (ci := 12) (k := 109) in_X12 rfl (by decide) rfl tyX12_ok nmX12 rfl kF_X12_636 dX12_parseNext_202 (mm_fit_int _) rfl hs (by decide) hn (by decide) rfl hx (fun σ42 hx => ?_)
    refine mm_aload_n dX12_parseNext_205 rfl rfl ?_
    refine s_getS (q := 1118) (r := some a) (b := a) (ci := 12) (k := 21) in_X12 rfl (by decide) rfl kF_X12_62 dX12_parseNext_206 rfl hs (by decide) hn (by decide) rfl rfl ?_
    refine mm_iload_n dX12_parseNext_209 rfl ?_
    obtain ⟨j43, hj44, hb45, hl46, hx⟩ := ix_some hx
    refine s_iald (a := 1118) sa_1118 hn hj44 hb45 na_1118 dX12_parseNext_210 ?_
    refine mm_bipush (v := 13) dX12_parseNext_211 (by decide) ?_
    refine b_if hx (fun h47 hx => ?_) (fun h47 hx => ?_)
    · refine mm_icmp_ne 248 dX12_parseNext_213 (by decide) (fun h => absurd h47 h) (fun _ => ?_)
      refine mm_aload_n dX12_parseNext_216 rfl rfl ?_
      refine mm_iload_n dX12_parseNext_217 rfl ?_
      refine mm_iload_n dX12_parseNext_218 rfl ?_
      obtain ⟨v49, σ50, hc48, hx⟩ := b2_some hx
      refine mm_callV3 (a := a) (ci := 12) wM_X12_putMessage kM_X12_647 wI_X12_putMessage wS_X12_putMessage dX12_parseNext_219 (e_X12_putMessage hst hZ hn hs hc48) (mem_obj hs (by decide)) (sh_ltn hs (by decide) hn) rfl rfl rfl (Nat.le_of_ble_eq_true rfl) (by omega) (by omega) (fun v9 S9 hq => ?_)
      obtain ⟨rfl, rfl⟩ := hq
      refine ⟨fun h => ⟨h, rfl⟩, ?_⟩
      refine mm_istore [some (.ref a), some (.int v1_), none, some (.int v3_), some (.int v49)] dX12_parseNext_222 (by decide) rfl ?_
      refine mm_aload_n dX12_parseNext_224 rfl rfl ?_
      refine s_getS (q := 1176) (r := some a) (b := a) (ci := 12) (k := 102) in_X12 rfl (by decide) rfl kF_X12_238 dX12_parseNext_225 rfl hs (by decide) hn (by decide) rfl rfl ?_
      refine mm_aload_n dX12_parseNext_228 rfl rfl ?_
      refine s_getI (r := some a) (b := a) (ci := 12) (k := 106) in_X12 rfl (by decide) rfl kF_X12_650 dX12_parseNext_229 rfl hs (by decide) hn (by decide) rfl ?_
      refine mm_iload dX12_parseNext_232 rfl ?_
      obtain ⟨j51, hj52, hb53, hl54, hx⟩ := ix_some hx
      refine s_iast (a := 1176) (v := v49) sa_1176 hn hj52 hb53 na_1176 dX12_parseNext_234 hx (fun σ55 hx => ?_)
      refine mm_aload_n dX12_parseNext_235 rfl rfl ?_
      refine mm_dup dX12_parseNext_236 rfl ?_
      refine s_getI (r := some a) (b := a) (ci := 12) (k := 106) in_X12 rfl (by decide) rfl kF_X12_650 dX12_parseNext_237 rfl hs (by decide) hn (by decide) rfl ?_
      refine mm_iconst (v := 1) dX12_parseNext_240 (by decide) ?_
      refine mm_iadd dX12_parseNext_241 ?_
      refine s_putI (v := (sI σ55 a 106) + 1) (r := some a) (b := a) (ci := 12) (k := 106) in_X12 rfl (by decide) rfl tyX12_ok nmX12 rfl kF_X12_650 dX12_parseNext_242 (mm_fit_int _) rfl hs (by decide) hn (by decide) rfl hx (fun σ56 hx => ?_)
      refine mm_goto 266 dX12_parseNext_245 (by decide) ?_
      refine mm_vret dX12_parseNext_266 rfl ?_ (by omega) (by omega)
      obtain rfl := fin1 hx
      exact ⟨rfl, rfl⟩
    · refine mm_icmp_ne 248 dX12_parseNext_213 (by decide) (fun _ => ?_) (fun h => absurd h h47)
      refine mm_aload_n dX12_parseNext_248 rfl rfl ?_
      refine mm_aload_n dX12_parseNext_249 rfl rfl ?_
      refine mm_aload_n dX12_parseNext_250 rfl rfl ?_
      refine s_getI (r := some a) (b := a) (ci := 12) (k := 109) in_X12 rfl (by decide) rfl kF_X12_636 dX12_parseNext_251 rfl hs (by decide) hn (by decide) rfl ?_
      obtain ⟨v58, hc57, hx⟩ := b1_some hx
      refine mm_callV3 (a := a) (ci := 12) wM_X12_textBlanks kM_X12_829 wI_X12_textBlanks wS_X12_textBlanks dX12_parseNext_254 (e_X12_textBlanks hst hZ hn hs hc57) (mem_obj hs (by decide)) (sh_ltn hs (by decide) hn) rfl rfl rfl (Nat.le_of_ble_eq_true rfl) (by omega) (by omega) (fun v9 S9 hq => ?_)
      obtain ⟨rfl, rfl⟩ := hq
      refine ⟨fun h => ⟨h, rfl⟩, ?_⟩
      refine s_putI (v := v58) (r := some a) (b := a) (ci := 12) (k := 109) in_X12 rfl (by decide) rfl tyX12_ok nmX12 rfl kF_X12_636 dX12_parseNext_257 (mm_fit_int _) rfl hs (by decide) hn (by decide) rfl hx (fun σ59 hx => ?_)
      refine mm_aload_n dX12_parseNext_260 rfl rfl ?_
      refine mm_iload_n dX12_parseNext_261 rfl ?_
      refine mm_iload_n dX12_parseNext_262 rfl ?_
      obtain ⟨σ61, hc60, hx⟩ := b1_some hx
      refine mm_callV3 (a := a) (ci := 12) wM_X12_parsePlain kM_X12_838 wI_X12_parsePlain wS_X12_parsePlain dX12_parseNext_263 (e_X12_parsePlain hst hZ hn hs hc60) (mem_obj hs (by decide)) (sh_ltn hs (by decide) hn) rfl rfl rfl (Nat.le_of_ble_eq_true rfl) (by omega) (by omega) (fun v9 S9 hq => ?_)
      obtain ⟨rfl, rfl⟩ := hq
      refine ⟨fun h => ⟨h, rfl⟩, ?_⟩
      refine mm_vret dX12_parseNext_266 rfl ?_ (by omega) (by omega)
      obtain rfl := fin1 hx
      exact ⟨rfl, rfl⟩
  · refine mm_icmp_eq 195 dX12_parseNext_186 (by decide) (fun h => absurd h h41) (fun _ => ?_)
    refine mm_aload_n dX12_parseNext_189 rfl rfl ?_
    refine mm_iconst (v := 1) dX12_parseNext_190 (by decide) ?_
    refine s_putI (v := 1) (r := some a) (b := a) (ci := 12) (k := 107) in_X12 rfl (by decide) rfl tyX12_ok nmX12 rfl kF_X12_590 dX12_parseNext_191 mm_fit_z1 rfl hs (by decide) hn (by decide) rfl hx (fun σ62 hx => ?_)
    refine mm_vret dX12_parseNext_194 rfl ?_ (by omega) (by omega)
    obtain rfl := fin1 hx
    exact ⟨rfl, rfl⟩
set_option maxHeartbeats 4000000 in
set_option maxRecDepth 100000 in
theorem e_X12_parseNext {g : mm_G} {l : Launch} (hst : l.stackTraces = false) {Z : Nat → Nat → Option Nat} (hZ : HZ Z) {n : Nat} (hn : 1186 ≤ n) {z : Bool} {d : Nat} {U : Nat} {a : Nat} (hs : sh a = 12) {σ : SG} {σ' : SG} (hx : x_X12_parseNext U a σ = some σ') : mm_Cm g l yX12_parseNext (.code yX12_parseNext cX12_parseNext 5 none) (d + 5) 0 0 [.ref a] (mem Z σ, n, z) (fun v S' => v = none ∧ S' = (mem Z σ', n, z)) := by
  refine mm_Cm_of hst (by decide) (Nat.le_of_ble_eq_true rfl) ?_
  show mm_V g l RX12 "parseNext" cX12_parseNext 5 none [] (d + 5) 0 0 (mm_nt (fun v S' => v = none ∧ S' = (mem Z σ', n, z))) 0 [some (.ref a), none, none, none, none] [] (mem Z σ, n, z) 0 0
  unfold x_X12_parseNext at hx
  refine mm_aload_n dX12_parseNext_0 rfl rfl ?_
  refine s_getS (q := 1176) (r := some a) (b := a) (ci := 12) (k := 102) in_X12 rfl (by decide) rfl kF_X12_238 dX12_parseNext_1 rfl hs (by decide) hn (by decide) rfl rfl ?_
  refine mm_aload_n dX12_parseNext_4 rfl rfl ?_
  refine s_getI (r := some a) (b := a) (ci := 12) (k := 106) in_X12 rfl (by decide) rfl kF_X12_650 dX12_parseNext_5 rfl hs (by decide) hn (by decide) rfl ?_
  refine mm_iconst (v := 1) dX12_parseNext_8 (by decide) ?_
  refine mm_isub dX12_parseNext_9 ?_
  obtain ⟨j1, hj2, hb3, hl4, hx⟩ := ix_some hx
  refine s_iald (a := 1176) sa_1176 hn hj2 hb3 na_1176 dX12_parseNext_10 ?_
  refine mm_istore_n [some (.ref a), some (.int (sI σ 1176 j1)), none, none, none] dX12_parseNext_11 (by decide) rfl ?_
  refine mm_aload_n dX12_parseNext_12 rfl rfl ?_
  refine mm_aload_n dX12_parseNext_13 rfl rfl ?_
  refine mm_aload_n dX12_parseNext_14 rfl rfl ?_
  refine s_getI (r := some a) (b := a) (ci := 12) (k := 109) in_X12 rfl (by decide) rfl kF_X12_636 dX12_parseNext_15 rfl hs (by decide) hn (by decide) rfl ?_
  obtain ⟨v6, hc5, hx⟩ := b1_some hx
  refine mm_callV3 (a := a) (ci := 12) wM_X12_textBlanks kM_X12_829 wI_X12_textBlanks wS_X12_textBlanks dX12_parseNext_18 (e_X12_textBlanks hst hZ hn hs hc5) (mem_obj hs (by decide)) (sh_ltn hs (by decide) hn) rfl rfl rfl (Nat.le_of_ble_eq_true rfl) (by omega) (by omega) (fun v9 S9 hq => ?_)
  obtain ⟨rfl, rfl⟩ := hq
  refine ⟨fun h => ⟨h, rfl⟩, ?_⟩
  refine s_putI (v := v6) (r := some a) (b := a) (ci := 12) (k := 109) in_X12 rfl (by decide) rfl tyX12_ok nmX12 rfl kF_X12_636 dX12_parseNext_21 (mm_fit_int _) rfl hs (by decide) hn (by decide) rfl hx (fun σ7 hx => ?_)
  refine mm_aload_n dX12_parseNext_24 rfl rfl ?_
  refine s_getI (r := some a) (b := a) (ci := 12) (k := 109) in_X12 rfl (by decide) rfl kF_X12_636 dX12_parseNext_25 rfl hs (by decide) hn (by decide) rfl ?_
  refine mm_aload_n dX12_parseNext_28 rfl rfl ?_
  refine s_getI (r := some a) (b := a) (ci := 12) (k := 73) in_X12 rfl (by decide) rfl kF_X12_274 dX12_parseNext_29 rfl hs (by decide) hn (by decide) rfl ?_
  refine b_if hx (fun h8 hx => ?_) (fun h8 hx => ?_)
  · refine mm_icmp_eq 48 dX12_parseNext_32 (by decide) (fun _ => ?_) (fun h => absurd h8 h)
    refine mm_fewer [some (.ref a), none, none, none, none] (few_ok (bs := [true, false, false, false, false]) rfl) ?_
    exact e_X12_parseNext_48 hst hZ hn hs hx
  · refine mm_icmp_eq 48 dX12_parseNext_32 (by decide) (fun h => absurd h h8) (fun _ => ?_)
    refine mm_aload_n dX12_parseNext_35 rfl rfl ?_
    refine mm_aload_n dX12_parseNext_36 rfl rfl ?_
    refine s_getI (r := some a) (b := a) (ci := 12) (k := 109) in_X12 rfl (by decide) rfl kF_X12_636 dX12_parseNext_37 rfl hs (by decide) hn (by decide) rfl ?_
    obtain ⟨v16, hc15, hx⟩ := b1_some hx
    refine mm_callV3 (a := a) (ci := 12) wM_X12_byteAt kM_X12_284 wI_X12_byteAt wS_X12_byteAt dX12_parseNext_40 (e_X12_byteAt hst hZ hn hs hc15) (mem_obj hs (by decide)) (sh_ltn hs (by decide) hn) rfl rfl rfl (Nat.le_of_ble_eq_true rfl) (by omega) (by omega) (fun v9 S9 hq => ?_)
    obtain ⟨rfl, rfl⟩ := hq
    refine ⟨fun h => ⟨h, rfl⟩, ?_⟩
    refine mm_bipush (v := 125) dX12_parseNext_43 (by decide) ?_
    refine b_if hx (fun h17 hx => ?_) (fun h17 hx => ?_)
    · refine mm_icmp_ne 106 dX12_parseNext_45 (by decide) (fun h => absurd h17 h) (fun _ => ?_)
      refine mm_fewer [some (.ref a), none, none, none, none] (few_ok (bs := [true, false, false, false, false]) rfl) ?_
      exact e_X12_parseNext_48 hst hZ hn hs hx
    · refine mm_icmp_ne 106 dX12_parseNext_45 (by decide) (fun _ => ?_) (fun h => absurd h h17)
      refine mm_aload_n dX12_parseNext_106 rfl rfl ?_
      refine mm_aload_n dX12_parseNext_107 rfl rfl ?_
      refine s_getI (r := some a) (b := a) (ci := 12) (k := 109) in_X12 rfl (by decide) rfl kF_X12_636 dX12_parseNext_108 rfl hs (by decide) hn (by decide) rfl ?_
      obtain ⟨v19, hc18, hx⟩ := b1_some hx
      refine mm_callV3 (a := a) (ci := 12) wM_X12_nameEnd kM_X12_811 wI_X12_nameEnd wS_X12_nameEnd dX12_parseNext_111 (e_X12_nameEnd hst hZ hn hs hc18) (mem_obj hs (by decide)) (sh_ltn hs (by decide) hn) rfl rfl rfl (Nat.le_of_ble_eq_true rfl) (by omega) (by omega) (fun v9 S9 hq => ?_)
      obtain ⟨rfl, rfl⟩ := hq
      refine ⟨fun h => ⟨h, rfl⟩, ?_⟩
      refine mm_istore_n [some (.ref a), some (.int (sI σ 1176 j1)), some (.int v19), none, none] dX12_parseNext_114 (by decide) rfl ?_
      refine mm_aload_n dX12_parseNext_115 rfl rfl ?_
      refine mm_aload_n dX12_parseNext_116 rfl rfl ?_
      refine s_getS (q := 1160) (r := some a) (b := a) (ci := 12) (k := 86) in_X12 rfl (by decide) rfl kF_X12_190 dX12_parseNext_117 rfl hs (by decide) hn (by decide) rfl rfl ?_
      refine mm_iload_n dX12_parseNext_120 rfl ?_
      obtain ⟨j20, hj21, hb22, hl23, hx⟩ := ix_some hx
      refine s_iald (a := 1160) sa_1160 hn hj21 hb22 na_1160 dX12_parseNext_121 ?_
      refine mm_aload_n dX12_parseNext_122 rfl rfl ?_
      refine s_getI (r := some a) (b := a) (ci := 12) (k := 109) in_X12 rfl (by decide) rfl kF_X12_636 dX12_parseNext_123 rfl hs (by decide) hn (by decide) rfl ?_
      refine mm_iload_n dX12_parseNext_126 rfl ?_
      obtain ⟨v25, hc24, hx⟩ := b1_some hx
      refine mm_callV3 (a := a) (ci := 12) wM_X12_fieldNamed kM_X12_832 wI_X12_fieldNamed wS_X12_fieldNamed dX12_parseNext_127 (e_X12_fieldNamed hst hZ hn hs hc24) (mem_obj hs (by decide)) (sh_ltn hs (by decide) hn) rfl rfl rfl (Nat.le_of_ble_eq_true rfl) (by omega) (by omega) (fun v9 S9 hq => ?_)
      obtain ⟨rfl, rfl⟩ := hq
      refine ⟨fun h => ⟨h, rfl⟩, ?_⟩
      refine mm_istore_n [some (.ref a), some (.int (sI σ 1176 j1)), some (.int v19), some (.int v25), none] dX12_parseNext_130 (by decide) rfl ?_
      refine mm_iload_n dX12_parseNext_131 rfl ?_
      refine mm_iconst (v := (-1)) dX12_parseNext_132 (by decide) ?_
      refine b_if hx (fun h26 hx => ?_) (fun h26 hx => ?_)
      · refine mm_icmp_eq 145 dX12_parseNext_133 (by decide) (fun _ => ?_) (fun h => absurd h26 h)
        refine mm_fewer [some (.ref a), none, none, none, none] (few_ok (bs := [true, false, false, false, false]) rfl) ?_
        exact e_X12_parseNext_145 hst hZ hn hs hx
      · refine mm_icmp_eq 145 dX12_parseNext_133 (by decide) (fun h => absurd h h26) (fun _ => ?_)
        refine mm_aload_n dX12_parseNext_136 rfl rfl ?_
        refine mm_iload_n dX12_parseNext_137 rfl ?_
        refine mm_iload_n dX12_parseNext_138 rfl ?_
        obtain ⟨v29, hc28, hx⟩ := b1_some hx
        refine mm_callV3 (a := a) (ci := 12) wM_X12_toldBefore kM_X12_835 wI_X12_toldBefore wS_X12_toldBefore dX12_parseNext_139 (e_X12_toldBefore hst hZ hn hs hc28) (mem_obj hs (by decide)) (sh_ltn hs (by decide) hn) rfl rfl rfl (Nat.le_of_ble_eq_true rfl) (by omega) (by omega) (fun v9 S9 hq => ?_)
        obtain ⟨rfl, rfl⟩ := hq
        refine ⟨fun h => ⟨h, rfl⟩, ?_⟩
        refine b_if hx (fun h30 hx => ?_) (fun h30 hx => ?_)
        · refine mm_if_eq 151 dX12_parseNext_142 (by decide) (fun _ => ?_) (fun h => absurd h30 h)
          refine mm_aload_n dX12_parseNext_151 rfl rfl ?_
          refine mm_aload_n dX12_parseNext_152 rfl rfl ?_
          refine mm_iload_n dX12_parseNext_153 rfl ?_
          obtain ⟨v32, hc31, hx⟩ := b1_some hx
          refine mm_callV3 (a := a) (ci := 12) wM_X12_textBlanks kM_X12_829 wI_X12_textBlanks wS_X12_textBlanks dX12_parseNext_154 (e_X12_textBlanks hst hZ hn hs hc31) (mem_obj hs (by decide)) (sh_ltn hs (by decide) hn) rfl rfl rfl (Nat.le_of_ble_eq_true rfl) (by omega) (by omega) (fun v9 S9 hq => ?_)
          obtain ⟨rfl, rfl⟩ := hq
          refine ⟨fun h => ⟨h, rfl⟩, ?_⟩
          refine s_putI (v := v32) (r := some a) (b := a) (ci := 12) (k := 109) in_X12 rfl (by decide) rfl tyX12_ok nmX12 rfl kF_X12_636 dX12_parseNext_157 (mm_fit_int _) rfl hs (by decide) hn (by decide) rfl hx (fun σ33 hx => ?_)
          refine mm_aload_n dX12_parseNext_160 rfl rfl ?_
          refine mm_aload_n dX12_parseNext_161 rfl rfl ?_
          refine s_getI (r := some a) (b := a) (ci := 12) (k := 109) in_X12 rfl (by decide) rfl kF_X12_636 dX12_parseNext_162 rfl hs (by decide) hn (by decide) rfl ?_
          obtain ⟨v35, hc34, hx⟩ := b1_some hx
          refine mm_callV3 (a := a) (ci := 12) wM_X12_byteAt kM_X12_284 wI_X12_byteAt wS_X12_byteAt dX12_parseNext_165 (e_X12_byteAt hst hZ hn hs hc34) (mem_obj hs (by decide)) (sh_ltn hs (by decide) hn) rfl rfl rfl (Nat.le_of_ble_eq_true rfl) (by omega) (by omega) (fun v9 S9 hq => ?_)
          obtain ⟨rfl, rfl⟩ := hq
          refine ⟨fun h => ⟨h, rfl⟩, ?_⟩
          refine mm_aload_n dX12_parseNext_168 rfl rfl ?_
          refine s_getS (q := 1118) (r := some a) (b := a) (ci := 12) (k := 21) in_X12 rfl (by decide) rfl kF_X12_62 dX12_parseNext_169 rfl hs (by decide) hn (by decide) rfl rfl ?_
          refine mm_iload_n dX12_parseNext_172 rfl ?_
          obtain ⟨j36, hj37, hb38, hl39, hx⟩ := ix_some hx
          refine s_iald (a := 1118) sa_1118 hn hj37 hb38 na_1118 dX12_parseNext_173 ?_
          refine mm_bipush (v := 13) dX12_parseNext_174 (by decide) ?_
          refine b_if hx (fun h40 hx => ?_) (fun h40 hx => ?_)
          · refine mm_icmp_ne 184 dX12_parseNext_176 (by decide) (fun h => absurd h40 h) (fun _ => ?_)
            refine mm_bipush (v := 123) dX12_parseNext_179 (by decide) ?_
            refine mm_goto 186 dX12_parseNext_181 (by decide) ?_
            refine mm_fewer [some (.ref a), some (.int (sI σ 1176 j1)), none, some (.int v25), none] (few_ok (bs := [true, true, false, true, false]) rfl) ?_
            exact e_X12_parseNext_186 hst hZ hn hs hx
          · refine mm_icmp_ne 184 dX12_parseNext_176 (by decide) (fun _ => ?_) (fun h => absurd h h40)
            refine mm_bipush (v := 58) dX12_parseNext_184 (by decide) ?_
            refine mm_fewer [some (.ref a), some (.int (sI σ 1176 j1)), none, some (.int v25), none] (few_ok (bs := [true, true, false, true, false]) rfl) ?_
            exact e_X12_parseNext_186 hst hZ hn hs hx
        · refine mm_if_eq 151 dX12_parseNext_142 (by decide) (fun h => absurd h h30) (fun _ => ?_)
          refine mm_fewer [some (.ref a), none, none, none, none] (few_ok (bs := [true, false, false, false, false]) rfl) ?_
          exact e_X12_parseNext_145 hst hZ hn hs hx
set_option maxHeartbeats 4000000 in
set_option maxRecDepth 100000 in
theorem e_X12_parse_L29 {g : mm_G} {l : Launch} (hst : l.stackTraces = false) {Z : Nat → Nat → Option Nat} (hZ : HZ Z) {n : Nat} (hn : 1186 ≤ n) {z : Bool} {d : Nat} {U : Nat} {a : Nat} (hs : sh a = 12) {k50 : SG → Option (Int32 × SG)} {r : Int32} {σ' : SG} (hk50 : ∀ (σ8 : SG), k50 σ8 = some (r, σ') → mm_V g l RX12 "parse" cX12_parse 4 (some .int) [] (d + 6) 0 0 (mm_nt (fun v S' => v = some (.int r) ∧ S' = (mem Z σ', n, z))) 50 [some (.ref a), none, none, none] [] (mem Z σ8, n, z) 0 0) : ∀ (U1 : Nat) (σ : SG), x_X12_parse_L29 U a k50 U1 σ = some (r, σ') → mm_V g l RX12 "parse" cX12_parse 4 (some .int) [] (d + 6) 0 0 (mm_nt (fun v S' => v = some (.int r) ∧ S' = (mem Z σ', n, z))) 29 [some (.ref a), none, none, none] [] (mem Z σ, n, z) 0 0 := by
  intro U1
  induction U1 with
  | zero => intro σ hx; exact absurd hx (by simp [x_X12_parse_L29])
  | succ U1 ih =>
    intro σ hx
    rw [x_X12_parse_L29] at hx
    refine mm_aload_n dX12_parse_29 rfl rfl ?_
    refine s_getI (r := some a) (b := a) (ci := 12) (k := 106) in_X12 rfl (by decide) rfl kF_X12_650 dX12_parse_30 rfl hs (by decide) hn (by decide) rfl ?_
    refine b_if hx (fun h12 hx => ?_) (fun h12 hx => ?_)
    · refine mm_if_le 50 dX12_parse_33 (by decide) (fun h => absurd h (Int32.not_le.mpr h12)) (fun _ => ?_)
      refine mm_aload_n dX12_parse_36 rfl rfl ?_
      refine s_getI (r := some a) (b := a) (ci := 12) (k := 107) in_X12 rfl (by decide) rfl kF_X12_590 dX12_parse_37 rfl hs (by decide) hn (by decide) rfl ?_
      refine b_if hx (fun h13 hx => ?_) (fun h13 hx => ?_)
      · refine mm_if_ne 50 dX12_parse_40 (by decide) (fun h => absurd h13 h) (fun _ => ?_)
        refine mm_aload_n dX12_parse_43 rfl rfl ?_
        obtain ⟨σ15, hc14, hx⟩ := b1_some hx
        refine mm_callV3 (a := a) (ci := 12) wM_X12_parseNext kM_X12_841 wI_X12_parseNext wS_X12_parseNext dX12_parse_44 (e_X12_parseNext hst hZ hn hs hc14) (mem_obj hs (by decide)) (sh_ltn hs (by decide) hn) rfl rfl rfl (Nat.le_of_ble_eq_true rfl) (by omega) (by omega) (fun v9 S9 hq => ?_)
        obtain ⟨rfl, rfl⟩ := hq
        refine ⟨fun h => ⟨h, rfl⟩, ?_⟩
        refine mm_goto 29 dX12_parse_47 (by decide) ?_
        exact ih  _ hx
      · refine mm_if_ne 50 dX12_parse_40 (by decide) (fun _ => ?_) (fun h => absurd h h13)
        exact hk50  _ hx
    · refine mm_if_le 50 dX12_parse_33 (by decide) (fun _ => ?_) (fun h => absurd (Int32.not_lt.mp h12) h)
      exact hk50  _ hx
set_option maxHeartbeats 4000000 in
set_option maxRecDepth 100000 in
theorem e_X12_parse_50 {g : mm_G} {l : Launch} (hst : l.stackTraces = false) {Z : Nat → Nat → Option Nat} (hZ : HZ Z) {n : Nat} (hn : 1186 ≤ n) {z : Bool} {d : Nat} {U : Nat} {a : Nat} (hs : sh a = 12) {σ : SG} {r : Int32} {σ' : SG} (hx : x_X12_parse_50 U a σ = some (r, σ')) : mm_V g l RX12 "parse" cX12_parse 4 (some .int) [] (d + 6) 0 0 (mm_nt (fun v S' => v = some (.int r) ∧ S' = (mem Z σ', n, z))) 50 [some (.ref a), none, none, none] [] (mem Z σ, n, z) 0 0 := by
  unfold x_X12_parse_50 at hx
  refine mm_aload_n dX12_parse_50 rfl rfl ?_
  obtain ⟨v18, σ19, hc17, hx⟩ := b2_some hx
  refine mm_callV3 (a := a) (ci := 12) wM_X12_finish kM_X12_694 wI_X12_finish wS_X12_finish dX12_parse_51 (e_X12_finish hst hZ hn hs hc17) (mem_obj hs (by decide)) (sh_ltn hs (by decide) hn) rfl rfl rfl (Nat.le_of_ble_eq_true rfl) (by omega) (by omega) (fun v9 S9 hq => ?_)
  obtain ⟨rfl, rfl⟩ := hq
  refine ⟨fun h => ⟨h, rfl⟩, ?_⟩
  refine mm_iret dX12_parse_54 rfl rfl ?_ (by omega) (by omega)
  obtain ⟨rfl, rfl⟩ := fin2 hx
  exact ⟨rfl, rfl⟩
set_option maxHeartbeats 4000000 in
set_option maxRecDepth 100000 in
theorem e_X12_parse {g : mm_G} {l : Launch} (hst : l.stackTraces = false) {Z : Nat → Nat → Option Nat} (hZ : HZ Z) {n : Nat} (hn : 1186 ≤ n) {z : Bool} {d : Nat} {U : Nat} {a : Nat} (hs : sh a = 12) {p0 : Int32} {p1 : Int32} {p2 : Int32} {σ : SG} {r : Int32} {σ' : SG} (hx : x_X12_parse U a p0 p1 p2 σ = some (r, σ')) : mm_Cm g l yX12_parse (.code yX12_parse cX12_parse 4 (some .int)) (d + 6) 0 0 [.ref a, .int p0, .int p1, .int p2] (mem Z σ, n, z) (fun v S' => v = some (.int r) ∧ S' = (mem Z σ', n, z)) := by
  refine mm_Cm_of hst (by decide) (Nat.le_of_ble_eq_true rfl) ?_
  show mm_V g l RX12 "parse" cX12_parse 4 (some .int) [] (d + 6) 0 0 (mm_nt (fun v S' => v = some (.int r) ∧ S' = (mem Z σ', n, z))) 0 [some (.ref a), some (.int p0), some (.int p1), some (.int p2)] [] (mem Z σ, n, z) 0 0
  unfold x_X12_parse at hx
  refine mm_aload_n dX12_parse_0 rfl rfl ?_
  refine mm_iload_n dX12_parse_1 rfl ?_
  refine mm_iload_n dX12_parse_2 rfl ?_
  refine mm_iload_n dX12_parse_3 rfl ?_
  obtain ⟨v2, σ3, hc1, hx⟩ := b2_some hx
  refine mm_callV3 (a := a) (ci := 12) wM_X12_begins kM_X12_688 wI_X12_begins wS_X12_begins dX12_parse_4 (e_X12_begins hst hZ hn hs hc1) (mem_obj hs (by decide)) (sh_ltn hs (by decide) hn) rfl rfl rfl (Nat.le_of_ble_eq_true rfl) (by omega) (by omega) (fun v9 S9 hq => ?_)
  obtain ⟨rfl, rfl⟩ := hq
  refine ⟨fun h => ⟨h, rfl⟩, ?_⟩
  refine b_if hx (fun h4 hx => ?_) (fun h4 hx => ?_)
  · refine mm_if_ne 12 dX12_parse_7 (by decide) (fun h => absurd h4 h) (fun _ => ?_)
    refine mm_iconst (v := 0) dX12_parse_10 (by decide) ?_
    refine mm_iret dX12_parse_11 rfl rfl ?_ (by omega) (by omega)
    obtain ⟨rfl, rfl⟩ := fin2 hx
    exact ⟨rfl, rfl⟩
  · refine mm_if_ne 12 dX12_parse_7 (by decide) (fun _ => ?_) (fun h => absurd h h4)
    refine mm_aload_n dX12_parse_12 rfl rfl ?_
    refine mm_iconst (v := 0) dX12_parse_13 (by decide) ?_
    refine s_putI (v := 0) (r := some a) (b := a) (ci := 12) (k := 109) in_X12 rfl (by decide) rfl tyX12_ok nmX12 rfl kF_X12_636 dX12_parse_14 (mm_fit_int _) rfl hs (by decide) hn (by decide) rfl hx (fun σ5 hx => ?_)
    refine mm_aload_n dX12_parse_17 rfl rfl ?_
    refine s_getS (q := 1176) (r := some a) (b := a) (ci := 12) (k := 102) in_X12 rfl (by decide) rfl kF_X12_238 dX12_parse_18 rfl hs (by decide) hn (by decide) rfl rfl ?_
    refine mm_iconst (v := 0) dX12_parse_21 (by decide) ?_
    refine mm_iconst (v := 0) dX12_parse_22 (by decide) ?_
    obtain ⟨j6, hj7, hb8, hl9, hx⟩ := ix_some hx
    refine s_iast (a := 1176) (v := 0) sa_1176 hn hj7 hb8 na_1176 dX12_parse_23 hx (fun σ10 hx => ?_)
    refine mm_aload_n dX12_parse_24 rfl rfl ?_
    refine mm_iconst (v := 1) dX12_parse_25 (by decide) ?_
    refine s_putI (v := 1) (r := some a) (b := a) (ci := 12) (k := 106) in_X12 rfl (by decide) rfl tyX12_ok nmX12 rfl kF_X12_650 dX12_parse_26 (mm_fit_int _) rfl hs (by decide) hn (by decide) rfl hx (fun σ11 hx => ?_)
    refine mm_fewer [some (.ref a), none, none, none] (few_ok (bs := [true, false, false, false]) rfl) ?_
    refine e_X12_parse_L29 hst hZ hn hs ?_ _ _ hx
    · intro  σ16 hx
      exact e_X12_parse_50 hst hZ hn hs hx
set_option maxHeartbeats 4000000 in
set_option maxRecDepth 100000 in
theorem e_X12_place {g : mm_G} {l : Launch} (hst : l.stackTraces = false) {Z : Nat → Nat → Option Nat} (hZ : HZ Z) {n : Nat} (hn : 1186 ≤ n) {z : Bool} {d : Nat} {a : Nat} (hs : sh a = 12) {σ : SG} {r : Int32} {σ' : SG} (hx : x_X12_place a σ = some (r, σ')) : mm_Cm g l yX12_place (.code yX12_place cX12_place 1 (some .int)) (d) 0 0 [.ref a] (mem Z σ, n, z) (fun v S' => v = some (.int r) ∧ S' = (mem Z σ', n, z)) := by
  refine mm_Cm_of hst (by decide) (Nat.le_of_ble_eq_true rfl) ?_
  show mm_V g l RX12 "place" cX12_place 1 (some .int) [] (d) 0 0 (mm_nt (fun v S' => v = some (.int r) ∧ S' = (mem Z σ', n, z))) 0 [some (.ref a)] [] (mem Z σ, n, z) 0 0
  unfold x_X12_place at hx
  refine mm_aload_n dX12_place_0 rfl rfl ?_
  refine mm_iconst (v := 0) dX12_place_1 (by decide) ?_
  refine s_putI (v := 0) (r := some a) (b := a) (ci := 12) (k := 5) in_X12 rfl (by decide) rfl tyX12_ok nmX12 rfl kF_X12_265 dX12_place_2 (mm_fit_int _) rfl hs (by decide) hn (by decide) rfl hx (fun σ1 hx => ?_)
  refine mm_aload_n dX12_place_5 rfl rfl ?_
  refine s_getI (r := some a) (b := a) (ci := 12) (k := 6) in_X12 rfl (by decide) rfl kF_X12_16 dX12_place_6 rfl hs (by decide) hn (by decide) rfl ?_
  refine mm_iret dX12_place_9 rfl rfl ?_ (by omega) (by omega)
  obtain ⟨rfl, rfl⟩ := fin2 hx
  exact ⟨rfl, rfl⟩
set_option maxHeartbeats 4000000 in
set_option maxRecDepth 100000 in
theorem e_X12_putName_L2 {g : mm_G} {l : Launch} (hst : l.stackTraces = false) {Z : Nat → Nat → Option Nat} (hZ : HZ Z) {n : Nat} (hn : 1186 ≤ n) {z : Bool} {d : Nat} {U : Nat} {a : Nat} (hs : sh a = 12) {v1_ : Int32} {v2_ : Int32} {σ' : SG} : ∀ (U1 : Nat) (v3_ : Int32) (σ : SG), x_X12_putName_L2 U a v1_ v2_ U1 v3_ σ = some σ' → mm_V g l RX12 "putName" cX12_putName 4 none [] (d + 1) 0 0 (mm_nt (fun v S' => v = none ∧ S' = (mem Z σ', n, z))) 2 [some (.ref a), some (.int v1_), some (.int v2_), some (.int v3_)] [] (mem Z σ, n, z) 0 0 := by
  intro U1
  induction U1 with
  | zero => intro v3_ σ hx; exact absurd hx (by simp [x_X12_putName_L2])
  | succ U1 ih =>
    intro v3_ σ hx
    rw [x_X12_putName_L2] at hx
    refine mm_iload_n dX12_putName_2 rfl ?_
    refine mm_iload_n dX12_putName_3 rfl ?_
    refine b_if hx (fun h1 hx => ?_) (fun h1 hx => ?_)
    · refine mm_icmp_ge 25 dX12_putName_4 (by decide) (fun h => absurd h (Int32.not_le.mpr h1)) (fun _ => ?_)
      refine mm_aload_n dX12_putName_7 rfl rfl ?_
      refine mm_aload_n dX12_putName_8 rfl rfl ?_
      refine s_getS (q := 1127) (r := some a) (b := a) (ci := 12) (k := 30) in_X12 rfl (by decide) rfl kF_X12_90 dX12_putName_9 rfl hs (by decide) hn (by decide) rfl rfl ?_
      refine mm_iload_n dX12_putName_12 rfl ?_
      refine mm_iload_n dX12_putName_13 rfl ?_
      refine mm_iadd dX12_putName_14 ?_
      obtain ⟨j2, hj3, hb4, hl5, hx⟩ := ix_some hx
      refine s_iald (a := 1127) sa_1127 hn hj3 hb4 na_1127 dX12_putName_15 ?_
      obtain ⟨σ7, hc6, hx⟩ := b1_some hx
      refine mm_callV3 (a := a) (ci := 12) wM_X12_put kM_X12_704 wI_X12_put wS_X12_put dX12_putName_16 (e_X12_put hst hZ hn hs hc6) (mem_obj hs (by decide)) (sh_ltn hs (by decide) hn) rfl rfl rfl (Nat.le_of_ble_eq_true rfl) (by omega) (by omega) (fun v9 S9 hq => ?_)
      obtain ⟨rfl, rfl⟩ := hq
      refine ⟨fun h => ⟨h, rfl⟩, ?_⟩
      refine mm_iinc (v := v3_ + 1) [some (.ref a), some (.int v1_), some (.int v2_), some (.int (v3_ + 1))] dX12_putName_19 rfl rfl (by decide) rfl ?_
      refine mm_goto 2 dX12_putName_22 (by decide) ?_
      exact ih _ _ hx
    · refine mm_icmp_ge 25 dX12_putName_4 (by decide) (fun _ => ?_) (fun h => absurd (Int32.not_lt.mp h1) h)
      refine mm_vret dX12_putName_25 rfl ?_ (by omega) (by omega)
      obtain rfl := fin1 hx
      exact ⟨rfl, rfl⟩
set_option maxHeartbeats 4000000 in
set_option maxRecDepth 100000 in
theorem e_X12_putName {g : mm_G} {l : Launch} (hst : l.stackTraces = false) {Z : Nat → Nat → Option Nat} (hZ : HZ Z) {n : Nat} (hn : 1186 ≤ n) {z : Bool} {d : Nat} {U : Nat} {a : Nat} (hs : sh a = 12) {p0 : Int32} {p1 : Int32} {σ : SG} {σ' : SG} (hx : x_X12_putName U a p0 p1 σ = some σ') : mm_Cm g l yX12_putName (.code yX12_putName cX12_putName 4 none) (d + 1) 0 0 [.ref a, .int p0, .int p1] (mem Z σ, n, z) (fun v S' => v = none ∧ S' = (mem Z σ', n, z)) := by
  refine mm_Cm_of hst (by decide) (Nat.le_of_ble_eq_true rfl) ?_
  show mm_V g l RX12 "putName" cX12_putName 4 none [] (d + 1) 0 0 (mm_nt (fun v S' => v = none ∧ S' = (mem Z σ', n, z))) 0 [some (.ref a), some (.int p0), some (.int p1), none] [] (mem Z σ, n, z) 0 0
  unfold x_X12_putName at hx
  refine mm_iconst (v := 0) dX12_putName_0 (by decide) ?_
  refine mm_istore_n [some (.ref a), some (.int p0), some (.int p1), some (.int 0)] dX12_putName_1 (by decide) rfl ?_
  refine e_X12_putName_L2 hst hZ hn hs _ _ _ hx
set_option maxHeartbeats 4000000 in
set_option maxRecDepth 100000 in
theorem e_X12_putWord_L2 {g : mm_G} {l : Launch} (hst : l.stackTraces = false) {Z : Nat → Nat → Option Nat} (hZ : HZ Z) {n : Nat} (hn : 1186 ≤ n) {z : Bool} {d : Nat} {U : Nat} {a : Nat} (hs : sh a = 12) {v1_ : Int64} {σ' : SG} : ∀ (U1 : Nat) (v3_ : Int32) (σ : SG), x_X12_putWord_L2 U a v1_ U1 v3_ σ = some σ' → mm_V g l RX12 "putWord" cX12_putWord 4 none [] (d + 2) 0 0 (mm_nt (fun v S' => v = none ∧ S' = (mem Z σ', n, z))) 2 [some (.ref a), some (.long v1_), none, some (.int v3_)] [] (mem Z σ, n, z) 0 0 := by
  intro U1
  induction U1 with
  | zero => intro v3_ σ hx; exact absurd hx (by simp [x_X12_putWord_L2])
  | succ U1 ih =>
    intro v3_ σ hx
    rw [x_X12_putWord_L2] at hx
    refine mm_iload_n dX12_putWord_2 rfl ?_
    refine mm_lload_n dX12_putWord_3 rfl ?_
    obtain ⟨v2, hc1, hx⟩ := b1_some hx
    refine mm_callS wM_X12_letters kM_X12_334 wT_X12_letters dX12_putWord_4 (e_X12_letters hst hZ hn hc1) rfl rfl (Nat.le_of_ble_eq_true rfl) (by omega) (by omega) (fun v9 S9 hq => ?_)
    obtain ⟨rfl, rfl⟩ := hq
    refine ⟨fun h => ⟨h, rfl⟩, ?_⟩
    refine b_if hx (fun h3 hx => ?_) (fun h3 hx => ?_)
    · refine mm_icmp_ge 25 dX12_putWord_7 (by decide) (fun h => absurd h (Int32.not_le.mpr h3)) (fun _ => ?_)
      refine mm_aload_n dX12_putWord_10 rfl rfl ?_
      refine mm_lload_n dX12_putWord_11 rfl ?_
      refine mm_iload_n dX12_putWord_12 rfl ?_
      obtain ⟨v5, hc4, hx⟩ := b1_some hx
      refine mm_callS wM_X12_letter kM_X12_338 wT_X12_letter dX12_putWord_13 (e_X12_letter hst hZ hn hc4) rfl rfl (Nat.le_of_ble_eq_true rfl) (by omega) (by omega) (fun v9 S9 hq => ?_)
      obtain ⟨rfl, rfl⟩ := hq
      refine ⟨fun h => ⟨h, rfl⟩, ?_⟩
      obtain ⟨σ7, hc6, hx⟩ := b1_some hx
      refine mm_callV3 (a := a) (ci := 12) wM_X12_put kM_X12_704 wI_X12_put wS_X12_put dX12_putWord_16 (e_X12_put hst hZ hn hs hc6) (mem_obj hs (by decide)) (sh_ltn hs (by decide) hn) rfl rfl rfl (Nat.le_of_ble_eq_true rfl) (by omega) (by omega) (fun v9 S9 hq => ?_)
      obtain ⟨rfl, rfl⟩ := hq
      refine ⟨fun h => ⟨h, rfl⟩, ?_⟩
      refine mm_iinc (v := v3_ + 1) [some (.ref a), some (.long v1_), none, some (.int (v3_ + 1))] dX12_putWord_19 rfl rfl (by decide) rfl ?_
      refine mm_goto 2 dX12_putWord_22 (by decide) ?_
      exact ih _ _ hx
    · refine mm_icmp_ge 25 dX12_putWord_7 (by decide) (fun _ => ?_) (fun h => absurd (Int32.not_lt.mp h3) h)
      refine mm_vret dX12_putWord_25 rfl ?_ (by omega) (by omega)
      obtain rfl := fin1 hx
      exact ⟨rfl, rfl⟩
set_option maxHeartbeats 4000000 in
set_option maxRecDepth 100000 in
theorem e_X12_putWord {g : mm_G} {l : Launch} (hst : l.stackTraces = false) {Z : Nat → Nat → Option Nat} (hZ : HZ Z) {n : Nat} (hn : 1186 ≤ n) {z : Bool} {d : Nat} {U : Nat} {a : Nat} (hs : sh a = 12) {p0 : Int64} {σ : SG} {σ' : SG} (hx : x_X12_putWord U a p0 σ = some σ') : mm_Cm g l yX12_putWord (.code yX12_putWord cX12_putWord 4 none) (d + 2) 0 0 [.ref a, .long p0] (mem Z σ, n, z) (fun v S' => v = none ∧ S' = (mem Z σ', n, z)) := by
  refine mm_Cm_of hst (by decide) (Nat.le_of_ble_eq_true rfl) ?_
  show mm_V g l RX12 "putWord" cX12_putWord 4 none [] (d + 2) 0 0 (mm_nt (fun v S' => v = none ∧ S' = (mem Z σ', n, z))) 0 [some (.ref a), some (.long p0), none, none] [] (mem Z σ, n, z) 0 0
  unfold x_X12_putWord at hx
  refine mm_iconst (v := 0) dX12_putWord_0 (by decide) ?_
  refine mm_istore_n [some (.ref a), some (.long p0), none, some (.int 0)] dX12_putWord_1 (by decide) rfl ?_
  refine e_X12_putWord_L2 hst hZ hn hs _ _ _ hx
set_option maxHeartbeats 4000000 in
set_option maxRecDepth 100000 in
theorem e_X12_valueNumbered_58 {g : mm_G} {l : Launch} (hst : l.stackTraces = false) {Z : Nat → Nat → Option Nat} (hZ : HZ Z) {n : Nat} (hn : 1186 ≤ n) {z : Bool} {d : Nat} {U : Nat} {a : Nat} (hs : sh a = 12) {k9 : Int32 → Option (Int32)} {v1_ : Int32} {v2_ : Int64} {v4_ : Int32} {σ : SG} {r : Int32} (hk9 : ∀ (v4_ : Int32), k9 v4_ = some r → mm_V g l RX12 "valueNumbered" cX12_valueNumbered 5 (some .int) [] (d) 0 0 (mm_nt (fun v S' => v = some (.int r) ∧ S' = (mem Z σ, n, z))) 9 [some (.ref a), some (.int v1_), some (.long v2_), none, some (.int v4_)] [] (mem Z σ, n, z) 0 0) (hx : x_X12_valueNumbered_58 U a k9 v1_ v2_ v4_ σ = some r) : mm_V g l RX12 "valueNumbered" cX12_valueNumbered 5 (some .int) [] (d) 0 0 (mm_nt (fun v S' => v = some (.int r) ∧ S' = (mem Z σ, n, z))) 58 [some (.ref a), some (.int v1_), some (.long v2_), none, some (.int v4_)] [] (mem Z σ, n, z) 0 0 := by
  unfold x_X12_valueNumbered_58 at hx
  refine mm_iinc (v := v4_ + 1) [some (.ref a), some (.int v1_), some (.long v2_), none, some (.int (v4_ + 1))] dX12_valueNumbered_58 rfl rfl (by decide) rfl ?_
  refine mm_goto 9 dX12_valueNumbered_61 (by decide) ?_
  exact hk9 _ hx
set_option maxHeartbeats 4000000 in
set_option maxRecDepth 100000 in
theorem e_X12_valueNumbered_L9 {g : mm_G} {l : Launch} (hst : l.stackTraces = false) {Z : Nat → Nat → Option Nat} (hZ : HZ Z) {n : Nat} (hn : 1186 ≤ n) {z : Bool} {d : Nat} {U : Nat} {a : Nat} (hs : sh a = 12) {v1_ : Int32} {v2_ : Int64} {σ : SG} {r : Int32} : ∀ (U1 : Nat) (v4_ : Int32), x_X12_valueNumbered_L9 U a v1_ v2_ σ U1 v4_ = some r → mm_V g l RX12 "valueNumbered" cX12_valueNumbered 5 (some .int) [] (d) 0 0 (mm_nt (fun v S' => v = some (.int r) ∧ S' = (mem Z σ, n, z))) 9 [some (.ref a), some (.int v1_), some (.long v2_), none, some (.int v4_)] [] (mem Z σ, n, z) 0 0 := by
  intro U1
  induction U1 with
  | zero => intro v4_ hx; exact absurd hx (by simp [x_X12_valueNumbered_L9])
  | succ U1 ih =>
    intro v4_ hx
    rw [x_X12_valueNumbered_L9] at hx
    refine mm_iload dX12_valueNumbered_9 rfl ?_
    refine mm_bipush (v := 40) dX12_valueNumbered_11 (by decide) ?_
    refine mm_aload_n dX12_valueNumbered_13 rfl rfl ?_
    refine s_getI (r := some a) (b := a) (ci := 12) (k := 80) in_X12 rfl (by decide) rfl kF_X12_587 dX12_valueNumbered_14 rfl hs (by decide) hn (by decide) rfl ?_
    refine mm_imul dX12_valueNumbered_17 ?_
    refine mm_aload_n dX12_valueNumbered_18 rfl rfl ?_
    refine s_getS (q := 1107) (r := some a) (b := a) (ci := 12) (k := 10) in_X12 rfl (by decide) rfl kF_X12_29 dX12_valueNumbered_19 rfl hs (by decide) hn (by decide) rfl rfl ?_
    refine mm_aload_n dX12_valueNumbered_22 rfl rfl ?_
    refine s_getI (r := some a) (b := a) (ci := 12) (k := 80) in_X12 rfl (by decide) rfl kF_X12_587 dX12_valueNumbered_23 rfl hs (by decide) hn (by decide) rfl ?_
    obtain ⟨j1, hj2, hb3, hl4, hx⟩ := ix_some hx
    refine s_iald (a := 1107) sa_1107 hn hj2 hb3 na_1107 dX12_valueNumbered_26 ?_
    refine mm_iadd dX12_valueNumbered_27 ?_
    refine b_if hx (fun h5 hx => ?_) (fun h5 hx => ?_)
    · refine mm_icmp_ge 64 dX12_valueNumbered_28 (by decide) (fun h => absurd h (Int32.not_le.mpr h5)) (fun _ => ?_)
      refine mm_aload_n dX12_valueNumbered_31 rfl rfl ?_
      refine s_getS (q := 1123) (r := some a) (b := a) (ci := 12) (k := 26) in_X12 rfl (by decide) rfl kF_X12_78 dX12_valueNumbered_32 rfl hs (by decide) hn (by decide) rfl rfl ?_
      refine mm_iload dX12_valueNumbered_35 rfl ?_
      obtain ⟨j6, hj7, hb8, hl9, hx⟩ := ix_some hx
      refine s_iald (a := 1123) sa_1123 hn hj7 hb8 na_1123 dX12_valueNumbered_37 ?_
      refine mm_iload_n dX12_valueNumbered_38 rfl ?_
      refine b_if hx (fun h10 hx => ?_) (fun h10 hx => ?_)
      · refine mm_icmp_ne 58 dX12_valueNumbered_39 (by decide) (fun h => absurd h10 h) (fun _ => ?_)
        refine mm_aload_n dX12_valueNumbered_42 rfl rfl ?_
        refine s_getS (q := 1126) (r := some a) (b := a) (ci := 12) (k := 29) in_X12 rfl (by decide) rfl kF_X12_87 dX12_valueNumbered_43 rfl hs (by decide) hn (by decide) rfl rfl ?_
        refine mm_iload dX12_valueNumbered_46 rfl ?_
        obtain ⟨j11, hj12, hb13, hl14, hx⟩ := ix_some hx
        refine s_iald (a := 1126) sa_1126 hn hj12 hb13 na_1126 dX12_valueNumbered_48 ?_
        refine mm_i2l dX12_valueNumbered_49 ?_
        refine mm_lload_n dX12_valueNumbered_50 rfl ?_
        refine mm_lcmp dX12_valueNumbered_51 ?_
        refine b_if hx (fun h15 hx => ?_) (fun h15 hx => ?_)
        · refine mm_if_ne 58 dX12_valueNumbered_52 (by decide) (fun h => absurd (lg_eq.mpr h15) h) (fun _ => ?_)
          refine mm_iload dX12_valueNumbered_55 rfl ?_
          refine mm_iret dX12_valueNumbered_57 rfl rfl ?_ (by omega) (by omega)
          obtain rfl := fin1 hx
          exact ⟨rfl, rfl⟩
        · refine mm_if_ne 58 dX12_valueNumbered_52 (by decide) (fun _ => ?_) (fun h => absurd (lg_eq.mp h) h15)
          exact e_X12_valueNumbered_58 hst hZ hn hs ih hx
      · refine mm_icmp_ne 58 dX12_valueNumbered_39 (by decide) (fun _ => ?_) (fun h => absurd h h10)
        exact e_X12_valueNumbered_58 hst hZ hn hs ih hx
    · refine mm_icmp_ge 64 dX12_valueNumbered_28 (by decide) (fun _ => ?_) (fun h => absurd (Int32.not_lt.mp h5) h)
      refine mm_iconst (v := (-1)) dX12_valueNumbered_64 (by decide) ?_
      refine mm_iret dX12_valueNumbered_65 rfl rfl ?_ (by omega) (by omega)
      obtain rfl := fin1 hx
      exact ⟨rfl, rfl⟩
set_option maxHeartbeats 4000000 in
set_option maxRecDepth 100000 in
theorem e_X12_valueNumbered {g : mm_G} {l : Launch} (hst : l.stackTraces = false) {Z : Nat → Nat → Option Nat} (hZ : HZ Z) {n : Nat} (hn : 1186 ≤ n) {z : Bool} {d : Nat} {U : Nat} {a : Nat} (hs : sh a = 12) {p0 : Int32} {p1 : Int64} {σ : SG} {r : Int32} (hx : x_X12_valueNumbered U a p0 p1 σ = some r) : mm_Cm g l yX12_valueNumbered (.code yX12_valueNumbered cX12_valueNumbered 5 (some .int)) (d) 0 0 [.ref a, .int p0, .long p1] (mem Z σ, n, z) (fun v S' => v = some (.int r) ∧ S' = (mem Z σ, n, z)) := by
  refine mm_Cm_of hst (by decide) (Nat.le_of_ble_eq_true rfl) ?_
  show mm_V g l RX12 "valueNumbered" cX12_valueNumbered 5 (some .int) [] (d) 0 0 (mm_nt (fun v S' => v = some (.int r) ∧ S' = (mem Z σ, n, z))) 0 [some (.ref a), some (.int p0), some (.long p1), none, none] [] (mem Z σ, n, z) 0 0
  unfold x_X12_valueNumbered at hx
  refine mm_bipush (v := 40) dX12_valueNumbered_0 (by decide) ?_
  refine mm_aload_n dX12_valueNumbered_2 rfl rfl ?_
  refine s_getI (r := some a) (b := a) (ci := 12) (k := 80) in_X12 rfl (by decide) rfl kF_X12_587 dX12_valueNumbered_3 rfl hs (by decide) hn (by decide) rfl ?_
  refine mm_imul dX12_valueNumbered_6 ?_
  refine mm_istore [some (.ref a), some (.int p0), some (.long p1), none, some (.int (40 * (sI σ a 80)))] dX12_valueNumbered_7 (by decide) rfl ?_
  refine e_X12_valueNumbered_L9 hst hZ hn hs _ _ hx
set_option maxHeartbeats 4000000 in
set_option maxRecDepth 100000 in
theorem e_X12_putText__176 {g : mm_G} {l : Launch} (hst : l.stackTraces = false) {Z : Nat → Nat → Option Nat} (hZ : HZ Z) {n : Nat} (hn : 1186 ≤ n) {z : Bool} {d : Nat} {U : Nat} {a : Nat} (hs : sh a = 12) {k8 : Int32 → SG → Option (SG)} {k182 : SG → Option (SG)} {v1_ : Int32} {v2_ : Int32} {v3_ : Int32} {σ : SG} {σ' : SG} (hk8 : ∀ (v3_ : Int32) (σ8 : SG), k8 v3_ σ8 = some σ' → mm_V g l RX12 "putText" cX12_putText_ 5 none [] (d + 1) 0 0 (mm_nt (fun v S' => v = none ∧ S' = (mem Z σ', n, z))) 8 [some (.ref a), some (.int v1_), some (.int v2_), some (.int v3_), none] [] (mem Z σ8, n, z) 0 0) (hk182 : ∀ (σ8 : SG), k182 σ8 = some σ' → mm_V g l RX12 "putText" cX12_putText_ 5 none [] (d + 1) 0 0 (mm_nt (fun v S' => v = none ∧ S' = (mem Z σ', n, z))) 182 [some (.ref a), none, none, none, none] [] (mem Z σ8, n, z) 0 0) (hx : x_X12_putText__176 U a k8 k182 v1_ v2_ v3_ σ = some σ') : mm_V g l RX12 "putText" cX12_putText_ 5 none [] (d + 1) 0 0 (mm_nt (fun v S' => v = none ∧ S' = (mem Z σ', n, z))) 176 [some (.ref a), some (.int v1_), some (.int v2_), some (.int v3_), none] [] (mem Z σ, n, z) 0 0 := by
  unfold x_X12_putText__176 at hx
  refine mm_iinc (v := v3_ + 1) [some (.ref a), some (.int v1_), some (.int v2_), some (.int (v3_ + 1)), none] dX12_putText__176 rfl rfl (by decide) rfl ?_
  refine mm_goto 8 dX12_putText__179 (by decide) ?_
  exact hk8 _ _ hx
set_option maxHeartbeats 4000000 in
set_option maxRecDepth 100000 in
theorem e_X12_putText__103 {g : mm_G} {l : Launch} (hst : l.stackTraces = false) {Z : Nat → Nat → Option Nat} (hZ : HZ Z) {n : Nat} (hn : 1186 ≤ n) {z : Bool} {d : Nat} {U : Nat} {a : Nat} (hs : sh a = 12) {k8 : Int32 → SG → Option (SG)} {k182 : SG → Option (SG)} {v1_ : Int32} {v2_ : Int32} {v3_ : Int32} {s0_ : Int32} {σ : SG} {σ' : SG} (hk8 : ∀ (v3_ : Int32) (σ8 : SG), k8 v3_ σ8 = some σ' → mm_V g l RX12 "putText" cX12_putText_ 5 none [] (d + 1) 0 0 (mm_nt (fun v S' => v = none ∧ S' = (mem Z σ', n, z))) 8 [some (.ref a), some (.int v1_), some (.int v2_), some (.int v3_), none] [] (mem Z σ8, n, z) 0 0) (hk182 : ∀ (σ8 : SG), k182 σ8 = some σ' → mm_V g l RX12 "putText" cX12_putText_ 5 none [] (d + 1) 0 0 (mm_nt (fun v S' => v = none ∧ S' = (mem Z σ', n, z))) 182 [some (.ref a), none, none, none, none] [] (mem Z σ8, n, z) 0 0) (hx : x_X12_putText__103 U a k8 k182 v1_ v2_ v3_ s0_ σ = some σ') : mm_V g l RX12 "putText" cX12_putText_ 5 none [] (d + 1) 0 0 (mm_nt (fun v S' => v = none ∧ S' = (mem Z σ', n, z))) 103 [some (.ref a), some (.int v1_), some (.int v2_), some (.int v3_), none] [.int s0_, .ref a] (mem Z σ, n, z) 0 0 := by
  unfold x_X12_putText__103 at hx
  obtain ⟨σ13, hc12, hx⟩ := b1_some hx
  refine mm_callV3 (a := a) (ci := 12) wM_X12_put kM_X12_704 wI_X12_put wS_X12_put dX12_putText__103 (e_X12_put hst hZ hn hs hc12) (mem_obj hs (by decide)) (sh_ltn hs (by decide) hn) rfl rfl rfl (Nat.le_of_ble_eq_true rfl) (by omega) (by omega) (fun v9 S9 hq => ?_)
  obtain ⟨rfl, rfl⟩ := hq
  refine ⟨fun h => ⟨h, rfl⟩, ?_⟩
  refine mm_goto 176 dX12_putText__106 (by decide) ?_
  exact e_X12_putText__176 hst hZ hn hs hk8 hk182 hx
set_option maxHeartbeats 4000000 in
set_option maxRecDepth 100000 in
theorem e_X12_putText__58 {g : mm_G} {l : Launch} (hst : l.stackTraces = false) {Z : Nat → Nat → Option Nat} (hZ : HZ Z) {n : Nat} (hn : 1186 ≤ n) {z : Bool} {d : Nat} {U : Nat} {a : Nat} (hs : sh a = 12) {k8 : Int32 → SG → Option (SG)} {k182 : SG → Option (SG)} {v1_ : Int32} {v2_ : Int32} {v3_ : Int32} {v4_ : Int32} {σ : SG} {σ' : SG} (hk8 : ∀ (v3_ : Int32) (σ8 : SG), k8 v3_ σ8 = some σ' → mm_V g l RX12 "putText" cX12_putText_ 5 none [] (d + 1) 0 0 (mm_nt (fun v S' => v = none ∧ S' = (mem Z σ', n, z))) 8 [some (.ref a), some (.int v1_), some (.int v2_), some (.int v3_), none] [] (mem Z σ8, n, z) 0 0) (hk182 : ∀ (σ8 : SG), k182 σ8 = some σ' → mm_V g l RX12 "putText" cX12_putText_ 5 none [] (d + 1) 0 0 (mm_nt (fun v S' => v = none ∧ S' = (mem Z σ', n, z))) 182 [some (.ref a), none, none, none, none] [] (mem Z σ8, n, z) 0 0) (hx : x_X12_putText__58 U a k8 k182 v1_ v2_ v3_ v4_ σ = some σ') : mm_V g l RX12 "putText" cX12_putText_ 5 none [] (d + 1) 0 0 (mm_nt (fun v S' => v = none ∧ S' = (mem Z σ', n, z))) 58 [some (.ref a), some (.int v1_), some (.int v2_), some (.int v3_), some (.int v4_)] [] (mem Z σ, n, z) 0 0 := by
  unfold x_X12_putText__58 at hx
  refine mm_aload_n dX12_putText__58 rfl rfl ?_
  refine mm_bipush (v := 92) dX12_putText__59 (by decide) ?_
  obtain ⟨σ10, hc9, hx⟩ := b1_some hx
  refine mm_callV3 (a := a) (ci := 12) wM_X12_put kM_X12_704 wI_X12_put wS_X12_put dX12_putText__61 (e_X12_put hst hZ hn hs hc9) (mem_obj hs (by decide)) (sh_ltn hs (by decide) hn) rfl rfl rfl (Nat.le_of_ble_eq_true rfl) (by omega) (by omega) (fun v9 S9 hq => ?_)
  obtain ⟨rfl, rfl⟩ := hq
  refine ⟨fun h => ⟨h, rfl⟩, ?_⟩
  refine mm_aload_n dX12_putText__64 rfl rfl ?_
  refine mm_iload dX12_putText__65 rfl ?_
  refine mm_bipush (v := 10) dX12_putText__67 (by decide) ?_
  refine b_if hx (fun h11 hx => ?_) (fun h11 hx => ?_)
  · refine mm_icmp_ne 77 dX12_putText__69 (by decide) (fun h => absurd h11 h) (fun _ => ?_)
    refine mm_bipush (v := 110) dX12_putText__72 (by decide) ?_
    refine mm_goto 103 dX12_putText__74 (by decide) ?_
    refine mm_fewer [some (.ref a), some (.int v1_), some (.int v2_), some (.int v3_), none] (few_ok (bs := [true, true, true, true, false]) rfl) ?_
    exact e_X12_putText__103 hst hZ hn hs hk8 hk182 hx
  · refine mm_icmp_ne 77 dX12_putText__69 (by decide) (fun _ => ?_) (fun h => absurd h h11)
    refine mm_iload dX12_putText__77 rfl ?_
    refine mm_bipush (v := 13) dX12_putText__79 (by decide) ?_
    refine b_if hx (fun h14 hx => ?_) (fun h14 hx => ?_)
    · refine mm_icmp_ne 89 dX12_putText__81 (by decide) (fun h => absurd h14 h) (fun _ => ?_)
      refine mm_bipush (v := 114) dX12_putText__84 (by decide) ?_
      refine mm_goto 103 dX12_putText__86 (by decide) ?_
      refine mm_fewer [some (.ref a), some (.int v1_), some (.int v2_), some (.int v3_), none] (few_ok (bs := [true, true, true, true, false]) rfl) ?_
      exact e_X12_putText__103 hst hZ hn hs hk8 hk182 hx
    · refine mm_icmp_ne 89 dX12_putText__81 (by decide) (fun _ => ?_) (fun h => absurd h h14)
      refine mm_iload dX12_putText__89 rfl ?_
      refine mm_bipush (v := 9) dX12_putText__91 (by decide) ?_
      refine b_if hx (fun h15 hx => ?_) (fun h15 hx => ?_)
      · refine mm_icmp_ne 101 dX12_putText__93 (by decide) (fun h => absurd h15 h) (fun _ => ?_)
        refine mm_bipush (v := 116) dX12_putText__96 (by decide) ?_
        refine mm_goto 103 dX12_putText__98 (by decide) ?_
        refine mm_fewer [some (.ref a), some (.int v1_), some (.int v2_), some (.int v3_), none] (few_ok (bs := [true, true, true, true, false]) rfl) ?_
        exact e_X12_putText__103 hst hZ hn hs hk8 hk182 hx
      · refine mm_icmp_ne 101 dX12_putText__93 (by decide) (fun _ => ?_) (fun h => absurd h h15)
        refine mm_iload dX12_putText__101 rfl ?_
        refine mm_fewer [some (.ref a), some (.int v1_), some (.int v2_), some (.int v3_), none] (few_ok (bs := [true, true, true, true, false]) rfl) ?_
        exact e_X12_putText__103 hst hZ hn hs hk8 hk182 hx
set_option maxHeartbeats 4000000 in
set_option maxRecDepth 100000 in
theorem e_X12_putText__132 {g : mm_G} {l : Launch} (hst : l.stackTraces = false) {Z : Nat → Nat → Option Nat} (hZ : HZ Z) {n : Nat} (hn : 1186 ≤ n) {z : Bool} {d : Nat} {U : Nat} {a : Nat} (hs : sh a = 12) {k8 : Int32 → SG → Option (SG)} {k182 : SG → Option (SG)} {v1_ : Int32} {v2_ : Int32} {v3_ : Int32} {v4_ : Int32} {σ : SG} {σ' : SG} (hk8 : ∀ (v3_ : Int32) (σ8 : SG), k8 v3_ σ8 = some σ' → mm_V g l RX12 "putText" cX12_putText_ 5 none [] (d + 1) 0 0 (mm_nt (fun v S' => v = none ∧ S' = (mem Z σ', n, z))) 8 [some (.ref a), some (.int v1_), some (.int v2_), some (.int v3_), none] [] (mem Z σ8, n, z) 0 0) (hk182 : ∀ (σ8 : SG), k182 σ8 = some σ' → mm_V g l RX12 "putText" cX12_putText_ 5 none [] (d + 1) 0 0 (mm_nt (fun v S' => v = none ∧ S' = (mem Z σ', n, z))) 182 [some (.ref a), none, none, none, none] [] (mem Z σ8, n, z) 0 0) (hx : x_X12_putText__132 U a k8 k182 v1_ v2_ v3_ v4_ σ = some σ') : mm_V g l RX12 "putText" cX12_putText_ 5 none [] (d + 1) 0 0 (mm_nt (fun v S' => v = none ∧ S' = (mem Z σ', n, z))) 132 [some (.ref a), some (.int v1_), some (.int v2_), some (.int v3_), some (.int v4_)] [] (mem Z σ, n, z) 0 0 := by
  unfold x_X12_putText__132 at hx
  refine mm_aload_n dX12_putText__132 rfl rfl ?_
  refine mm_bipush (v := 92) dX12_putText__133 (by decide) ?_
  obtain ⟨σ22, hc21, hx⟩ := b1_some hx
  refine mm_callV3 (a := a) (ci := 12) wM_X12_put kM_X12_704 wI_X12_put wS_X12_put dX12_putText__135 (e_X12_put hst hZ hn hs hc21) (mem_obj hs (by decide)) (sh_ltn hs (by decide) hn) rfl rfl rfl (Nat.le_of_ble_eq_true rfl) (by omega) (by omega) (fun v9 S9 hq => ?_)
  obtain ⟨rfl, rfl⟩ := hq
  refine ⟨fun h => ⟨h, rfl⟩, ?_⟩
  refine mm_aload_n dX12_putText__138 rfl rfl ?_
  refine mm_bipush (v := 48) dX12_putText__139 (by decide) ?_
  refine mm_iload dX12_putText__141 rfl ?_
  refine mm_bipush (v := 6) dX12_putText__143 (by decide) ?_
  refine mm_ishr dX12_putText__145 ?_
  refine mm_iadd dX12_putText__146 ?_
  obtain ⟨σ24, hc23, hx⟩ := b1_some hx
  refine mm_callV3 (a := a) (ci := 12) wM_X12_put kM_X12_704 wI_X12_put wS_X12_put dX12_putText__147 (e_X12_put hst hZ hn hs hc23) (mem_obj hs (by decide)) (sh_ltn hs (by decide) hn) rfl rfl rfl (Nat.le_of_ble_eq_true rfl) (by omega) (by omega) (fun v9 S9 hq => ?_)
  obtain ⟨rfl, rfl⟩ := hq
  refine ⟨fun h => ⟨h, rfl⟩, ?_⟩
  refine mm_aload_n dX12_putText__150 rfl rfl ?_
  refine mm_bipush (v := 48) dX12_putText__151 (by decide) ?_
  refine mm_iload dX12_putText__153 rfl ?_
  refine mm_iconst (v := 3) dX12_putText__155 (by decide) ?_
  refine mm_ishr dX12_putText__156 ?_
  refine mm_bipush (v := 7) dX12_putText__157 (by decide) ?_
  refine mm_iand dX12_putText__159 ?_
  refine mm_iadd dX12_putText__160 ?_
  obtain ⟨σ26, hc25, hx⟩ := b1_some hx
  refine mm_callV3 (a := a) (ci := 12) wM_X12_put kM_X12_704 wI_X12_put wS_X12_put dX12_putText__161 (e_X12_put hst hZ hn hs hc25) (mem_obj hs (by decide)) (sh_ltn hs (by decide) hn) rfl rfl rfl (Nat.le_of_ble_eq_true rfl) (by omega) (by omega) (fun v9 S9 hq => ?_)
  obtain ⟨rfl, rfl⟩ := hq
  refine ⟨fun h => ⟨h, rfl⟩, ?_⟩
  refine mm_aload_n dX12_putText__164 rfl rfl ?_
  refine mm_bipush (v := 48) dX12_putText__165 (by decide) ?_
  refine mm_iload dX12_putText__167 rfl ?_
  refine mm_bipush (v := 7) dX12_putText__169 (by decide) ?_
  refine mm_iand dX12_putText__171 ?_
  refine mm_iadd dX12_putText__172 ?_
  obtain ⟨σ28, hc27, hx⟩ := b1_some hx
  refine mm_callV3 (a := a) (ci := 12) wM_X12_put kM_X12_704 wI_X12_put wS_X12_put dX12_putText__173 (e_X12_put hst hZ hn hs hc27) (mem_obj hs (by decide)) (sh_ltn hs (by decide) hn) rfl rfl rfl (Nat.le_of_ble_eq_true rfl) (by omega) (by omega) (fun v9 S9 hq => ?_)
  obtain ⟨rfl, rfl⟩ := hq
  refine ⟨fun h => ⟨h, rfl⟩, ?_⟩
  refine mm_fewer [some (.ref a), some (.int v1_), some (.int v2_), some (.int v3_), none] (few_ok (bs := [true, true, true, true, false]) rfl) ?_
  exact e_X12_putText__176 hst hZ hn hs hk8 hk182 hx
set_option maxHeartbeats 4000000 in
set_option maxRecDepth 100000 in
theorem e_X12_putText__L8 {g : mm_G} {l : Launch} (hst : l.stackTraces = false) {Z : Nat → Nat → Option Nat} (hZ : HZ Z) {n : Nat} (hn : 1186 ≤ n) {z : Bool} {d : Nat} {U : Nat} {a : Nat} (hs : sh a = 12) {k182 : SG → Option (SG)} {v1_ : Int32} {v2_ : Int32} {σ' : SG} (hk182 : ∀ (σ8 : SG), k182 σ8 = some σ' → mm_V g l RX12 "putText" cX12_putText_ 5 none [] (d + 1) 0 0 (mm_nt (fun v S' => v = none ∧ S' = (mem Z σ', n, z))) 182 [some (.ref a), none, none, none, none] [] (mem Z σ8, n, z) 0 0) : ∀ (U1 : Nat) (v3_ : Int32) (σ : SG), x_X12_putText__L8 U a k182 v1_ v2_ U1 v3_ σ = some σ' → mm_V g l RX12 "putText" cX12_putText_ 5 none [] (d + 1) 0 0 (mm_nt (fun v S' => v = none ∧ S' = (mem Z σ', n, z))) 8 [some (.ref a), some (.int v1_), some (.int v2_), some (.int v3_), none] [] (mem Z σ, n, z) 0 0 := by
  intro U1
  induction U1 with
  | zero => intro v3_ σ hx; exact absurd hx (by simp [x_X12_putText__L8])
  | succ U1 ih =>
    intro v3_ σ hx
    rw [x_X12_putText__L8] at hx
    refine mm_iload_n dX12_putText__8 rfl ?_
    refine mm_iload_n dX12_putText__9 rfl ?_
    refine mm_iload_n dX12_putText__10 rfl ?_
    refine mm_iadd dX12_putText__11 ?_
    refine b_if hx (fun h3 hx => ?_) (fun h3 hx => ?_)
    · refine mm_icmp_ge 182 dX12_putText__12 (by decide) (fun h => absurd h (Int32.not_le.mpr h3)) (fun _ => ?_)
      refine mm_aload_n dX12_putText__15 rfl rfl ?_
      refine s_getS (q := 1175) (r := some a) (b := a) (ci := 12) (k := 101) in_X12 rfl (by decide) rfl kF_X12_235 dX12_putText__16 rfl hs (by decide) hn (by decide) rfl rfl ?_
      refine mm_iload_n dX12_putText__19 rfl ?_
      obtain ⟨j4, hj5, hb6, hl7, hx⟩ := ix_some hx
      refine s_iald (a := 1175) sa_1175 hn hj5 hb6 na_1175 dX12_putText__20 ?_
      refine mm_istore [some (.ref a), some (.int v1_), some (.int v2_), some (.int v3_), some (.int (sI σ 1175 j4))] dX12_putText__21 (by decide) rfl ?_
      refine mm_iload dX12_putText__23 rfl ?_
      refine mm_bipush (v := 10) dX12_putText__25 (by decide) ?_
      refine b_if hx (fun h8 hx => ?_) (fun h8 hx => ?_)
      · refine mm_icmp_eq 58 dX12_putText__27 (by decide) (fun _ => ?_) (fun h => absurd h8 h)
        exact e_X12_putText__58 hst hZ hn hs ih hk182 hx
      · refine mm_icmp_eq 58 dX12_putText__27 (by decide) (fun h => absurd h h8) (fun _ => ?_)
        refine mm_iload dX12_putText__30 rfl ?_
        refine mm_bipush (v := 13) dX12_putText__32 (by decide) ?_
        refine b_if hx (fun h16 hx => ?_) (fun h16 hx => ?_)
        · refine mm_icmp_eq 58 dX12_putText__34 (by decide) (fun _ => ?_) (fun h => absurd h16 h)
          exact e_X12_putText__58 hst hZ hn hs ih hk182 hx
        · refine mm_icmp_eq 58 dX12_putText__34 (by decide) (fun h => absurd h h16) (fun _ => ?_)
          refine mm_iload dX12_putText__37 rfl ?_
          refine mm_bipush (v := 9) dX12_putText__39 (by decide) ?_
          refine b_if hx (fun h17 hx => ?_) (fun h17 hx => ?_)
          · refine mm_icmp_eq 58 dX12_putText__41 (by decide) (fun _ => ?_) (fun h => absurd h17 h)
            exact e_X12_putText__58 hst hZ hn hs ih hk182 hx
          · refine mm_icmp_eq 58 dX12_putText__41 (by decide) (fun h => absurd h h17) (fun _ => ?_)
            refine mm_iload dX12_putText__44 rfl ?_
            refine mm_bipush (v := 34) dX12_putText__46 (by decide) ?_
            refine b_if hx (fun h18 hx => ?_) (fun h18 hx => ?_)
            · refine mm_icmp_eq 58 dX12_putText__48 (by decide) (fun _ => ?_) (fun h => absurd h18 h)
              exact e_X12_putText__58 hst hZ hn hs ih hk182 hx
            · refine mm_icmp_eq 58 dX12_putText__48 (by decide) (fun h => absurd h h18) (fun _ => ?_)
              refine mm_iload dX12_putText__51 rfl ?_
              refine mm_bipush (v := 92) dX12_putText__53 (by decide) ?_
              refine b_if hx (fun h19 hx => ?_) (fun h19 hx => ?_)
              · refine mm_icmp_ne 109 dX12_putText__55 (by decide) (fun h => absurd h19 h) (fun _ => ?_)
                exact e_X12_putText__58 hst hZ hn hs ih hk182 hx
              · refine mm_icmp_ne 109 dX12_putText__55 (by decide) (fun _ => ?_) (fun h => absurd h h19)
                refine mm_iload dX12_putText__109 rfl ?_
                refine mm_bipush (v := 32) dX12_putText__111 (by decide) ?_
                refine b_if hx (fun h20 hx => ?_) (fun h20 hx => ?_)
                · refine mm_icmp_lt 132 dX12_putText__113 (by decide) (fun _ => ?_) (fun h => absurd h20 h)
                  exact e_X12_putText__132 hst hZ hn hs ih hk182 hx
                · refine mm_icmp_lt 132 dX12_putText__113 (by decide) (fun h => absurd h h20) (fun _ => ?_)
                  refine mm_iload dX12_putText__116 rfl ?_
                  refine mm_bipush (v := 126) dX12_putText__118 (by decide) ?_
                  refine b_if hx (fun h29 hx => ?_) (fun h29 hx => ?_)
                  · refine mm_icmp_gt 132 dX12_putText__120 (by decide) (fun _ => ?_) (fun h => absurd h29 h)
                    exact e_X12_putText__132 hst hZ hn hs ih hk182 hx
                  · refine mm_icmp_gt 132 dX12_putText__120 (by decide) (fun h => absurd h h29) (fun _ => ?_)
                    refine mm_aload_n dX12_putText__123 rfl rfl ?_
                    refine mm_iload dX12_putText__124 rfl ?_
                    obtain ⟨σ31, hc30, hx⟩ := b1_some hx
                    refine mm_callV3 (a := a) (ci := 12) wM_X12_put kM_X12_704 wI_X12_put wS_X12_put dX12_putText__126 (e_X12_put hst hZ hn hs hc30) (mem_obj hs (by decide)) (sh_ltn hs (by decide) hn) rfl rfl rfl (Nat.le_of_ble_eq_true rfl) (by omega) (by omega) (fun v9 S9 hq => ?_)
                    obtain ⟨rfl, rfl⟩ := hq
                    refine ⟨fun h => ⟨h, rfl⟩, ?_⟩
                    refine mm_goto 176 dX12_putText__129 (by decide) ?_
                    refine mm_fewer [some (.ref a), some (.int v1_), some (.int v2_), some (.int v3_), none] (few_ok (bs := [true, true, true, true, false]) rfl) ?_
                    exact e_X12_putText__176 hst hZ hn hs ih hk182 hx
    · refine mm_icmp_ge 182 dX12_putText__12 (by decide) (fun _ => ?_) (fun h => absurd (Int32.not_lt.mp h3) h)
      refine mm_fewer [some (.ref a), none, none, none, none] (few_ok (bs := [true, false, false, false, false]) rfl) ?_
      exact hk182  _ hx
set_option maxHeartbeats 4000000 in
set_option maxRecDepth 100000 in
theorem e_X12_putText_ {g : mm_G} {l : Launch} (hst : l.stackTraces = false) {Z : Nat → Nat → Option Nat} (hZ : HZ Z) {n : Nat} (hn : 1186 ≤ n) {z : Bool} {d : Nat} {U : Nat} {a : Nat} (hs : sh a = 12) {p0 : Int32} {p1 : Int32} {σ : SG} {σ' : SG} (hx : x_X12_putText_ U a p0 p1 σ = some σ') : mm_Cm g l yX12_putText_ (.code yX12_putText_ cX12_putText_ 5 none) (d + 1) 0 0 [.ref a, .int p0, .int p1] (mem Z σ, n, z) (fun v S' => v = none ∧ S' = (mem Z σ', n, z)) := by
  refine mm_Cm_of hst (by decide) (Nat.le_of_ble_eq_true rfl) ?_
  show mm_V g l RX12 "putText" cX12_putText_ 5 none [] (d + 1) 0 0 (mm_nt (fun v S' => v = none ∧ S' = (mem Z σ', n, z))) 0 [some (.ref a), some (.int p0), some (.int p1), none, none] [] (mem Z σ, n, z) 0 0
  unfold x_X12_putText_ at hx
  refine mm_aload_n dX12_putText__0 rfl rfl ?_
  refine mm_bipush (v := 34) dX12_putText__1 (by decide) ?_
  obtain ⟨σ2, hc1, hx⟩ := b1_some hx
  refine mm_callV3 (a := a) (ci := 12) wM_X12_put kM_X12_704 wI_X12_put wS_X12_put dX12_putText__3 (e_X12_put hst hZ hn hs hc1) (mem_obj hs (by decide)) (sh_ltn hs (by decide) hn) rfl rfl rfl (Nat.le_of_ble_eq_true rfl) (by omega) (by omega) (fun v9 S9 hq => ?_)
  obtain ⟨rfl, rfl⟩ := hq
  refine ⟨fun h => ⟨h, rfl⟩, ?_⟩
  refine mm_iload_n dX12_putText__6 rfl ?_
  refine mm_istore_n [some (.ref a), some (.int p0), some (.int p1), some (.int p0), none] dX12_putText__7 (by decide) rfl ?_
  refine e_X12_putText__L8 hst hZ hn hs ?_ _ _ _ hx
  · intro  σ32 hx
    refine mm_aload_n dX12_putText__182 rfl rfl ?_
    refine mm_bipush (v := 34) dX12_putText__183 (by decide) ?_
    obtain ⟨σ34, hc33, hx⟩ := b1_some hx
    refine mm_callV3 (a := a) (ci := 12) wM_X12_put kM_X12_704 wI_X12_put wS_X12_put dX12_putText__185 (e_X12_put hst hZ hn hs hc33) (mem_obj hs (by decide)) (sh_ltn hs (by decide) hn) rfl rfl rfl (Nat.le_of_ble_eq_true rfl) (by omega) (by omega) (fun v9 S9 hq => ?_)
    obtain ⟨rfl, rfl⟩ := hq
    refine ⟨fun h => ⟨h, rfl⟩, ?_⟩
    refine mm_vret dX12_putText__188 rfl ?_ (by omega) (by omega)
    obtain rfl := fin1 hx
    exact ⟨rfl, rfl⟩
set_option maxHeartbeats 4000000 in
set_option maxRecDepth 100000 in
theorem e_X12_putDecimal_16 {g : mm_G} {l : Launch} (hst : l.stackTraces = false) {Z : Nat → Nat → Option Nat} (hZ : HZ Z) {n : Nat} (hn : 1186 ≤ n) {z : Bool} {d : Nat} {U : Nat} {a : Nat} (hs : sh a = 12) {k5 : Int32 → Int64 → SG → Option (SG)} {k52 : Int32 → SG → Option (SG)} {v3_ : Int32} {v4_ : Int64} {σ : SG} {σ' : SG} (hk5 : ∀ (v3_ : Int32) (v4_ : Int64) (σ8 : SG), k5 v3_ v4_ σ8 = some σ' → mm_V g l RX12 "putDecimal" cX12_putDecimal 8 none [] (d + 1) 0 0 (mm_nt (fun v S' => v = none ∧ S' = (mem Z σ', n, z))) 5 [some (.ref a), none, none, some (.int v3_), some (.long v4_), none, none, none] [] (mem Z σ8, n, z) 0 0) (hk52 : ∀ (v3_ : Int32) (σ8 : SG), k52 v3_ σ8 = some σ' → mm_V g l RX12 "putDecimal" cX12_putDecimal 8 none [] (d + 1) 0 0 (mm_nt (fun v S' => v = none ∧ S' = (mem Z σ', n, z))) 52 [some (.ref a), none, none, some (.int v3_), none, none, none, none] [] (mem Z σ8, n, z) 0 0) (hx : x_X12_putDecimal_16 U a k5 k52 v3_ v4_ σ = some σ') : mm_V g l RX12 "putDecimal" cX12_putDecimal 8 none [] (d + 1) 0 0 (mm_nt (fun v S' => v = none ∧ S' = (mem Z σ', n, z))) 16 [some (.ref a), none, none, some (.int v3_), some (.long v4_), none, none, none] [] (mem Z σ, n, z) 0 0 := by
  unfold x_X12_putDecimal_16 at hx
  refine mm_lload dX12_putDecimal_16 rfl ?_
  refine mm_iconst (v := 1) dX12_putDecimal_18 (by decide) ?_
  refine mm_lushr dX12_putDecimal_19 ?_
  refine mm_ldc2 kL_X12_755 dX12_putDecimal_20 ?_
  refine mm_ldiv dX12_putDecimal_23 (by decide) ?_
  refine mm_lstore [some (.ref a), none, none, some (.int v3_), some (.long v4_), none, some (.long ((lush v4_ 1) / 5)), none] dX12_putDecimal_24 (by decide) rfl ?_
  refine mm_aload_n dX12_putDecimal_26 rfl rfl ?_
  refine s_getS (q := 1180) (r := some a) (b := a) (ci := 12) (k := 110) in_X12 rfl (by decide) rfl kF_X12_250 dX12_putDecimal_27 rfl hs (by decide) hn (by decide) rfl rfl ?_
  refine mm_iload_n dX12_putDecimal_30 rfl ?_
  refine mm_lload dX12_putDecimal_31 rfl ?_
  refine mm_ldc2 kL_X12_757 dX12_putDecimal_33 ?_
  refine mm_lload dX12_putDecimal_36 rfl ?_
  refine mm_lmul dX12_putDecimal_38 ?_
  refine mm_lsub dX12_putDecimal_39 ?_
  refine mm_l2i dX12_putDecimal_40 ?_
  obtain ⟨j4, hj5, hb6, hl7, hx⟩ := ix_some hx
  refine s_iast (a := 1180) (v := Int64.toInt32 (v4_ - (10 * ((lush v4_ 1) / 5)))) sa_1180 hn hj5 hb6 na_1180 dX12_putDecimal_41 hx (fun σ8 hx => ?_)
  refine mm_lload dX12_putDecimal_42 rfl ?_
  refine mm_lstore [some (.ref a), none, none, some (.int v3_), some (.long ((lush v4_ 1) / 5)), none, some (.long ((lush v4_ 1) / 5)), none] dX12_putDecimal_44 (by decide) rfl ?_
  refine mm_iinc (v := v3_ + 1) [some (.ref a), none, none, some (.int (v3_ + 1)), some (.long ((lush v4_ 1) / 5)), none, some (.long ((lush v4_ 1) / 5)), none] dX12_putDecimal_46 rfl rfl (by decide) rfl ?_
  refine mm_goto 5 dX12_putDecimal_49 (by decide) ?_
  refine mm_fewer [some (.ref a), none, none, some (.int (v3_ + 1)), some (.long ((lush v4_ 1) / 5)), none, none, none] (few_ok (bs := [true, false, false, true, true, false, false, false]) rfl) ?_
  exact hk5 _ _ _ hx
set_option maxHeartbeats 4000000 in
set_option maxRecDepth 100000 in
theorem e_X12_putDecimal_L5 {g : mm_G} {l : Launch} (hst : l.stackTraces = false) {Z : Nat → Nat → Option Nat} (hZ : HZ Z) {n : Nat} (hn : 1186 ≤ n) {z : Bool} {d : Nat} {U : Nat} {a : Nat} (hs : sh a = 12) {k52 : Int32 → SG → Option (SG)} {σ' : SG} (hk52 : ∀ (v3_ : Int32) (σ8 : SG), k52 v3_ σ8 = some σ' → mm_V g l RX12 "putDecimal" cX12_putDecimal 8 none [] (d + 1) 0 0 (mm_nt (fun v S' => v = none ∧ S' = (mem Z σ', n, z))) 52 [some (.ref a), none, none, some (.int v3_), none, none, none, none] [] (mem Z σ8, n, z) 0 0) : ∀ (U1 : Nat) (v3_ : Int32) (v4_ : Int64) (σ : SG), x_X12_putDecimal_L5 U a k52 U1 v3_ v4_ σ = some σ' → mm_V g l RX12 "putDecimal" cX12_putDecimal 8 none [] (d + 1) 0 0 (mm_nt (fun v S' => v = none ∧ S' = (mem Z σ', n, z))) 5 [some (.ref a), none, none, some (.int v3_), some (.long v4_), none, none, none] [] (mem Z σ, n, z) 0 0 := by
  intro U1
  induction U1 with
  | zero => intro v3_ v4_ σ hx; exact absurd hx (by simp [x_X12_putDecimal_L5])
  | succ U1 ih =>
    intro v3_ v4_ σ hx
    rw [x_X12_putDecimal_L5] at hx
    refine mm_lload dX12_putDecimal_5 rfl ?_
    refine mm_lconst (v := 0) dX12_putDecimal_7 (by decide) ?_
    refine mm_lcmp dX12_putDecimal_8 ?_
    refine b_if hx (fun h1 hx => ?_) (fun h1 hx => ?_)
    · refine mm_if_ne 16 dX12_putDecimal_9 (by decide) (fun h => absurd (lg_eq.mpr h1) h) (fun _ => ?_)
      refine mm_iload_n dX12_putDecimal_12 rfl ?_
      refine b_if hx (fun h2 hx => ?_) (fun h2 hx => ?_)
      · refine mm_if_ne 52 dX12_putDecimal_13 (by decide) (fun h => absurd h2 h) (fun _ => ?_)
        exact e_X12_putDecimal_16 hst hZ hn hs ih hk52 hx
      · refine mm_if_ne 52 dX12_putDecimal_13 (by decide) (fun _ => ?_) (fun h => absurd h h2)
        refine mm_fewer [some (.ref a), none, none, some (.int v3_), none, none, none, none] (few_ok (bs := [true, false, false, true, false, false, false, false]) rfl) ?_
        exact hk52 _ _ hx
    · refine mm_if_ne 16 dX12_putDecimal_9 (by decide) (fun _ => ?_) (fun h => absurd (lg_eq.mp h) h1)
      exact e_X12_putDecimal_16 hst hZ hn hs ih hk52 hx
set_option maxHeartbeats 4000000 in
set_option maxRecDepth 100000 in
theorem e_X12_putDecimal_L57 {g : mm_G} {l : Launch} (hst : l.stackTraces = false) {Z : Nat → Nat → Option Nat} (hZ : HZ Z) {n : Nat} (hn : 1186 ≤ n) {z : Bool} {d : Nat} {U : Nat} {a : Nat} (hs : sh a = 12) {σ' : SG} : ∀ (U1 : Nat) (v4_ : Int32) (σ : SG), x_X12_putDecimal_L57 U a U1 v4_ σ = some σ' → mm_V g l RX12 "putDecimal" cX12_putDecimal 8 none [] (d + 1) 0 0 (mm_nt (fun v S' => v = none ∧ S' = (mem Z σ', n, z))) 57 [some (.ref a), none, none, none, some (.int v4_), none, none, none] [] (mem Z σ, n, z) 0 0 := by
  intro U1
  induction U1 with
  | zero => intro v4_ σ hx; exact absurd hx (by simp [x_X12_putDecimal_L57])
  | succ U1 ih =>
    intro v4_ σ hx
    rw [x_X12_putDecimal_L57] at hx
    refine mm_iload dX12_putDecimal_57 rfl ?_
    refine b_if hx (fun h11 hx => ?_) (fun h11 hx => ?_)
    · refine mm_if_lt 82 dX12_putDecimal_59 (by decide) (fun _ => ?_) (fun h => absurd h11 h)
      refine mm_vret dX12_putDecimal_82 rfl ?_ (by omega) (by omega)
      obtain rfl := fin1 hx
      exact ⟨rfl, rfl⟩
    · refine mm_if_lt 82 dX12_putDecimal_59 (by decide) (fun h => absurd h h11) (fun _ => ?_)
      refine mm_aload_n dX12_putDecimal_62 rfl rfl ?_
      refine mm_bipush (v := 48) dX12_putDecimal_63 (by decide) ?_
      refine mm_aload_n dX12_putDecimal_65 rfl rfl ?_
      refine s_getS (q := 1180) (r := some a) (b := a) (ci := 12) (k := 110) in_X12 rfl (by decide) rfl kF_X12_250 dX12_putDecimal_66 rfl hs (by decide) hn (by decide) rfl rfl ?_
      refine mm_iload dX12_putDecimal_69 rfl ?_
      obtain ⟨j12, hj13, hb14, hl15, hx⟩ := ix_some hx
      refine s_iald (a := 1180) sa_1180 hn hj13 hb14 na_1180 dX12_putDecimal_71 ?_
      refine mm_iadd dX12_putDecimal_72 ?_
      obtain ⟨σ17, hc16, hx⟩ := b1_some hx
      refine mm_callV3 (a := a) (ci := 12) wM_X12_put kM_X12_704 wI_X12_put wS_X12_put dX12_putDecimal_73 (e_X12_put hst hZ hn hs hc16) (mem_obj hs (by decide)) (sh_ltn hs (by decide) hn) rfl rfl rfl (Nat.le_of_ble_eq_true rfl) (by omega) (by omega) (fun v9 S9 hq => ?_)
      obtain ⟨rfl, rfl⟩ := hq
      refine ⟨fun h => ⟨h, rfl⟩, ?_⟩
      refine mm_iinc (v := v4_ - 1) [some (.ref a), none, none, none, some (.int (v4_ - 1)), none, none, none] dX12_putDecimal_76 rfl (iincM1 _) (by decide) rfl ?_
      refine mm_goto 57 dX12_putDecimal_79 (by decide) ?_
      exact ih _ _ hx
set_option maxHeartbeats 4000000 in
set_option maxRecDepth 100000 in
theorem e_X12_putDecimal {g : mm_G} {l : Launch} (hst : l.stackTraces = false) {Z : Nat → Nat → Option Nat} (hZ : HZ Z) {n : Nat} (hn : 1186 ≤ n) {z : Bool} {d : Nat} {U : Nat} {a : Nat} (hs : sh a = 12) {p0 : Int64} {σ : SG} {σ' : SG} (hx : x_X12_putDecimal U a p0 σ = some σ') : mm_Cm g l yX12_putDecimal (.code yX12_putDecimal cX12_putDecimal 8 none) (d + 1) 0 0 [.ref a, .long p0] (mem Z σ, n, z) (fun v S' => v = none ∧ S' = (mem Z σ', n, z)) := by
  refine mm_Cm_of hst (by decide) (Nat.le_of_ble_eq_true rfl) ?_
  show mm_V g l RX12 "putDecimal" cX12_putDecimal 8 none [] (d + 1) 0 0 (mm_nt (fun v S' => v = none ∧ S' = (mem Z σ', n, z))) 0 [some (.ref a), some (.long p0), none, none, none, none, none, none] [] (mem Z σ, n, z) 0 0
  unfold x_X12_putDecimal at hx
  refine mm_iconst (v := 0) dX12_putDecimal_0 (by decide) ?_
  refine mm_istore_n [some (.ref a), some (.long p0), none, some (.int 0), none, none, none, none] dX12_putDecimal_1 (by decide) rfl ?_
  refine mm_lload_n dX12_putDecimal_2 rfl ?_
  refine mm_lstore [some (.ref a), some (.long p0), none, some (.int 0), some (.long p0), none, none, none] dX12_putDecimal_3 (by decide) rfl ?_
  refine mm_fewer [some (.ref a), none, none, some (.int 0), some (.long p0), none, none, none] (few_ok (bs := [true, false, false, true, true, false, false, false]) rfl) ?_
  refine e_X12_putDecimal_L5 hst hZ hn hs ?_ _ _ _ _ hx
  · intro w9 σ10 hx
    refine mm_iload_n dX12_putDecimal_52 rfl ?_
    refine mm_iconst (v := 1) dX12_putDecimal_53 (by decide) ?_
    refine mm_isub dX12_putDecimal_54 ?_
    refine mm_istore [some (.ref a), none, none, some (.int w9), some (.int (w9 - 1)), none, none, none] dX12_putDecimal_55 (by decide) rfl ?_
    refine mm_fewer [some (.ref a), none, none, none, some (.int (w9 - 1)), none, none, none] (few_ok (bs := [true, false, false, false, true, false, false, false]) rfl) ?_
    refine e_X12_putDecimal_L57 hst hZ hn hs _ _ _ hx
set_option maxHeartbeats 4000000 in
set_option maxRecDepth 100000 in
theorem e_X12_putSigned_25 {g : mm_G} {l : Launch} (hst : l.stackTraces = false) {Z : Nat → Nat → Option Nat} (hZ : HZ Z) {n : Nat} (hn : 1186 ≤ n) {z : Bool} {d : Nat} {U : Nat} {a : Nat} (hs : sh a = 12) {s0_ : Int64} {σ : SG} {σ' : SG} (hx : x_X12_putSigned_25 U a s0_ σ = some σ') : mm_V g l RX12 "putSigned" cX12_putSigned 3 none [] (d + 2) 0 0 (mm_nt (fun v S' => v = none ∧ S' = (mem Z σ', n, z))) 25 [none, none, none] [.long s0_, .ref a] (mem Z σ, n, z) 0 0 := by
  unfold x_X12_putSigned_25 at hx
  obtain ⟨σ6, hc5, hx⟩ := b1_some hx
  refine mm_callV3 (a := a) (ci := 12) wM_X12_putDecimal kM_X12_759 wI_X12_putDecimal wS_X12_putDecimal dX12_putSigned_25 (e_X12_putDecimal hst hZ hn hs hc5) (mem_obj hs (by decide)) (sh_ltn hs (by decide) hn) rfl rfl rfl (Nat.le_of_ble_eq_true rfl) (by omega) (by omega) (fun v9 S9 hq => ?_)
  obtain ⟨rfl, rfl⟩ := hq
  refine ⟨fun h => ⟨h, rfl⟩, ?_⟩
  refine mm_vret dX12_putSigned_28 rfl ?_ (by omega) (by omega)
  obtain rfl := fin1 hx
  exact ⟨rfl, rfl⟩
set_option maxHeartbeats 4000000 in
set_option maxRecDepth 100000 in
theorem e_X12_putSigned_12 {g : mm_G} {l : Launch} (hst : l.stackTraces = false) {Z : Nat → Nat → Option Nat} (hZ : HZ Z) {n : Nat} (hn : 1186 ≤ n) {z : Bool} {d : Nat} {U : Nat} {a : Nat} (hs : sh a = 12) {v1_ : Int64} {σ : SG} {σ' : SG} (hx : x_X12_putSigned_12 U a v1_ σ = some σ') : mm_V g l RX12 "putSigned" cX12_putSigned 3 none [] (d + 2) 0 0 (mm_nt (fun v S' => v = none ∧ S' = (mem Z σ', n, z))) 12 [some (.ref a), some (.long v1_), none] [] (mem Z σ, n, z) 0 0 := by
  unfold x_X12_putSigned_12 at hx
  refine mm_aload_n dX12_putSigned_12 rfl rfl ?_
  refine mm_lload_n dX12_putSigned_13 rfl ?_
  refine mm_lconst (v := 0) dX12_putSigned_14 (by decide) ?_
  refine mm_lcmp dX12_putSigned_15 ?_
  refine b_if hx (fun h4 hx => ?_) (fun h4 hx => ?_)
  · refine mm_if_ge 24 dX12_putSigned_16 (by decide) (fun h => absurd (lg_ge.mp h) (Int64.not_le.mpr h4)) (fun _ => ?_)
    refine mm_lload_n dX12_putSigned_19 rfl ?_
    refine mm_lneg dX12_putSigned_20 ?_
    refine mm_goto 25 dX12_putSigned_21 (by decide) ?_
    refine mm_fewer [none, none, none] (few_ok (bs := [false, false, false]) rfl) ?_
    exact e_X12_putSigned_25 hst hZ hn hs hx
  · refine mm_if_ge 24 dX12_putSigned_16 (by decide) (fun _ => ?_) (fun h => absurd (lg_ge.mpr (Int64.not_lt.mp h4)) h)
    refine mm_lload_n dX12_putSigned_24 rfl ?_
    refine mm_fewer [none, none, none] (few_ok (bs := [false, false, false]) rfl) ?_
    exact e_X12_putSigned_25 hst hZ hn hs hx
set_option maxHeartbeats 4000000 in
set_option maxRecDepth 100000 in
theorem e_X12_putSigned {g : mm_G} {l : Launch} (hst : l.stackTraces = false) {Z : Nat → Nat → Option Nat} (hZ : HZ Z) {n : Nat} (hn : 1186 ≤ n) {z : Bool} {d : Nat} {U : Nat} {a : Nat} (hs : sh a = 12) {p0 : Int64} {σ : SG} {σ' : SG} (hx : x_X12_putSigned U a p0 σ = some σ') : mm_Cm g l yX12_putSigned (.code yX12_putSigned cX12_putSigned 3 none) (d + 2) 0 0 [.ref a, .long p0] (mem Z σ, n, z) (fun v S' => v = none ∧ S' = (mem Z σ', n, z)) := by
  refine mm_Cm_of hst (by decide) (Nat.le_of_ble_eq_true rfl) ?_
  show mm_V g l RX12 "putSigned" cX12_putSigned 3 none [] (d + 2) 0 0 (mm_nt (fun v S' => v = none ∧ S' = (mem Z σ', n, z))) 0 [some (.ref a), some (.long p0), none] [] (mem Z σ, n, z) 0 0
  unfold x_X12_putSigned at hx
  refine mm_lload_n dX12_putSigned_0 rfl ?_
  refine mm_lconst (v := 0) dX12_putSigned_1 (by decide) ?_
  refine mm_lcmp dX12_putSigned_2 ?_
  refine b_if hx (fun h1 hx => ?_) (fun h1 hx => ?_)
  · refine mm_if_ge 12 dX12_putSigned_3 (by decide) (fun h => absurd (lg_ge.mp h) (Int64.not_le.mpr h1)) (fun _ => ?_)
    refine mm_aload_n dX12_putSigned_6 rfl rfl ?_
    refine mm_bipush (v := 45) dX12_putSigned_7 (by decide) ?_
    obtain ⟨σ3, hc2, hx⟩ := b1_some hx
    refine mm_callV3 (a := a) (ci := 12) wM_X12_put kM_X12_704 wI_X12_put wS_X12_put dX12_putSigned_9 (e_X12_put hst hZ hn hs hc2) (mem_obj hs (by decide)) (sh_ltn hs (by decide) hn) rfl rfl rfl (Nat.le_of_ble_eq_true rfl) (by omega) (by omega) (fun v9 S9 hq => ?_)
    obtain ⟨rfl, rfl⟩ := hq
    refine ⟨fun h => ⟨h, rfl⟩, ?_⟩
    exact e_X12_putSigned_12 hst hZ hn hs hx
  · refine mm_if_ge 12 dX12_putSigned_3 (by decide) (fun _ => ?_) (fun h => absurd (lg_ge.mpr (Int64.not_lt.mp h1)) h)
    exact e_X12_putSigned_12 hst hZ hn hs hx
set_option maxHeartbeats 4000000 in
set_option maxRecDepth 100000 in
theorem e_X12_putPlain_81 {g : mm_G} {l : Launch} (hst : l.stackTraces = false) {Z : Nat → Nat → Option Nat} (hZ : HZ Z) {n : Nat} (hn : 1186 ≤ n) {z : Bool} {d : Nat} {U : Nat} {a : Nat} (hs : sh a = 12) {v1_ : Int32} {σ : SG} {σ' : SG} (hx : x_X12_putPlain_81 U a v1_ σ = some σ') : mm_V g l RX12 "putPlain" cX12_putPlain 5 none [] (d + 3) 0 0 (mm_nt (fun v S' => v = none ∧ S' = (mem Z σ', n, z))) 81 [some (.ref a), some (.int v1_), none, none, none] [] (mem Z σ, n, z) 0 0 := by
  unfold x_X12_putPlain_81 at hx
  refine mm_aload_n dX12_putPlain_81 rfl rfl ?_
  refine mm_aload_n dX12_putPlain_82 rfl rfl ?_
  refine s_getS (q := 1168) (r := some a) (b := a) (ci := 12) (k := 94) in_X12 rfl (by decide) rfl kF_X12_214 dX12_putPlain_83 rfl hs (by decide) hn (by decide) rfl rfl ?_
  refine mm_iload_n dX12_putPlain_86 rfl ?_
  obtain ⟨j22, hj23, hb24, hl25, hx⟩ := ix_some hx
  refine s_iald (a := 1168) sa_1168 hn hj23 hb24 na_1168 dX12_putPlain_87 ?_
  refine mm_aload_n dX12_putPlain_88 rfl rfl ?_
  refine s_getS (q := 1169) (r := some a) (b := a) (ci := 12) (k := 95) in_X12 rfl (by decide) rfl kF_X12_217 dX12_putPlain_89 rfl hs (by decide) hn (by decide) rfl rfl ?_
  refine mm_iload_n dX12_putPlain_92 rfl ?_
  obtain ⟨j26, hj27, hb28, hl29, hx⟩ := ix_some hx
  refine s_iald (a := 1169) sa_1169 hn hj27 hb28 na_1169 dX12_putPlain_93 ?_
  obtain ⟨σ31, hc30, hx⟩ := b1_some hx
  refine mm_callV3 (a := a) (ci := 12) wM_X12_putText_ kM_X12_768 wI_X12_putText_ wS_X12_putText_ dX12_putPlain_94 (e_X12_putText_ hst hZ hn hs hc30) (mem_obj hs (by decide)) (sh_ltn hs (by decide) hn) rfl rfl rfl (Nat.le_of_ble_eq_true rfl) (by omega) (by omega) (fun v9 S9 hq => ?_)
  obtain ⟨rfl, rfl⟩ := hq
  refine ⟨fun h => ⟨h, rfl⟩, ?_⟩
  refine mm_goto 167 dX12_putPlain_97 (by decide) ?_
  refine mm_vret dX12_putPlain_167 rfl ?_ (by omega) (by omega)
  obtain rfl := fin1 hx
  exact ⟨rfl, rfl⟩
set_option maxHeartbeats 4000000 in
set_option maxRecDepth 100000 in
theorem e_X12_putPlain_127 {g : mm_G} {l : Launch} (hst : l.stackTraces = false) {Z : Nat → Nat → Option Nat} (hZ : HZ Z) {n : Nat} (hn : 1186 ≤ n) {z : Bool} {d : Nat} {U : Nat} {a : Nat} (hs : sh a = 12) {s0_ : Int64} {σ : SG} {σ' : SG} (hx : x_X12_putPlain_127 U a s0_ σ = some σ') : mm_V g l RX12 "putPlain" cX12_putPlain 5 none [] (d + 3) 0 0 (mm_nt (fun v S' => v = none ∧ S' = (mem Z σ', n, z))) 127 [none, none, none, none, none] [.long s0_, .ref a] (mem Z σ, n, z) 0 0 := by
  unfold x_X12_putPlain_127 at hx
  obtain ⟨σ40, hc39, hx⟩ := b1_some hx
  refine mm_callV3 (a := a) (ci := 12) wM_X12_putWord kM_X12_770 wI_X12_putWord wS_X12_putWord dX12_putPlain_127 (e_X12_putWord hst hZ hn hs hc39) (mem_obj hs (by decide)) (sh_ltn hs (by decide) hn) rfl rfl rfl (Nat.le_of_ble_eq_true rfl) (by omega) (by omega) (fun v9 S9 hq => ?_)
  obtain ⟨rfl, rfl⟩ := hq
  refine ⟨fun h => ⟨h, rfl⟩, ?_⟩
  refine mm_goto 167 dX12_putPlain_130 (by decide) ?_
  refine mm_vret dX12_putPlain_167 rfl ?_ (by omega) (by omega)
  obtain rfl := fin1 hx
  exact ⟨rfl, rfl⟩
set_option maxHeartbeats 4000000 in
set_option maxRecDepth 100000 in
theorem e_X12_putPlain_144 {g : mm_G} {l : Launch} (hst : l.stackTraces = false) {Z : Nat → Nat → Option Nat} (hZ : HZ Z) {n : Nat} (hn : 1186 ≤ n) {z : Bool} {d : Nat} {U : Nat} {a : Nat} (hs : sh a = 12) {v1_ : Int32} {σ : SG} {σ' : SG} (hx : x_X12_putPlain_144 U a v1_ σ = some σ') : mm_V g l RX12 "putPlain" cX12_putPlain 5 none [] (d + 3) 0 0 (mm_nt (fun v S' => v = none ∧ S' = (mem Z σ', n, z))) 144 [some (.ref a), some (.int v1_), none, none, none] [] (mem Z σ, n, z) 0 0 := by
  unfold x_X12_putPlain_144 at hx
  refine mm_aload_n dX12_putPlain_144 rfl rfl ?_
  refine mm_aload_n dX12_putPlain_145 rfl rfl ?_
  refine s_getS (q := 1167) (r := some a) (b := a) (ci := 12) (k := 93) in_X12 rfl (by decide) rfl kF_X12_211 dX12_putPlain_146 rfl hs (by decide) hn (by decide) rfl rfl ?_
  refine mm_iload_n dX12_putPlain_149 rfl ?_
  obtain ⟨j42, hj43, hb44, hl45, hx⟩ := ix_some hx
  refine s_lald (a := 1167) sa_1167 hn hj43 hb44 na_1167 dX12_putPlain_150 ?_
  obtain ⟨σ47, hc46, hx⟩ := b1_some hx
  refine mm_callV3 (a := a) (ci := 12) wM_X12_putDecimal kM_X12_759 wI_X12_putDecimal wS_X12_putDecimal dX12_putPlain_151 (e_X12_putDecimal hst hZ hn hs hc46) (mem_obj hs (by decide)) (sh_ltn hs (by decide) hn) rfl rfl rfl (Nat.le_of_ble_eq_true rfl) (by omega) (by omega) (fun v9 S9 hq => ?_)
  obtain ⟨rfl, rfl⟩ := hq
  refine ⟨fun h => ⟨h, rfl⟩, ?_⟩
  refine mm_goto 167 dX12_putPlain_154 (by decide) ?_
  refine mm_vret dX12_putPlain_167 rfl ?_ (by omega) (by omega)
  obtain rfl := fin1 hx
  exact ⟨rfl, rfl⟩
set_option maxHeartbeats 4000000 in
set_option maxRecDepth 100000 in
theorem e_X12_putPlain_40 {g : mm_G} {l : Launch} (hst : l.stackTraces = false) {Z : Nat → Nat → Option Nat} (hZ : HZ Z) {n : Nat} (hn : 1186 ≤ n) {z : Bool} {d : Nat} {U : Nat} {a : Nat} (hs : sh a = 12) {v1_ : Int32} {v3_ : Int32} {s0_ : Int32} {σ : SG} {σ' : SG} (hx : x_X12_putPlain_40 U a v1_ v3_ s0_ σ = some σ') : mm_V g l RX12 "putPlain" cX12_putPlain 5 none [] (d + 3) 0 0 (mm_nt (fun v S' => v = none ∧ S' = (mem Z σ', n, z))) 40 [some (.ref a), some (.int v1_), none, some (.int v3_), none] [.int s0_] (mem Z σ, n, z) 0 0 := by
  unfold x_X12_putPlain_40 at hx
  refine mm_istore [some (.ref a), some (.int v1_), none, some (.int v3_), some (.int s0_)] dX12_putPlain_40 (by decide) rfl ?_
  refine mm_iload dX12_putPlain_42 rfl ?_
  refine mm_iconst (v := (-1)) dX12_putPlain_44 (by decide) ?_
  refine b_if hx (fun h20 hx => ?_) (fun h20 hx => ?_)
  · refine mm_icmp_eq 69 dX12_putPlain_45 (by decide) (fun _ => ?_) (fun h => absurd h20 h)
    refine mm_iload_n dX12_putPlain_69 rfl ?_
    refine mm_bipush (v := 11) dX12_putPlain_70 (by decide) ?_
    refine b_if hx (fun h21 hx => ?_) (fun h21 hx => ?_)
    · refine mm_icmp_eq 81 dX12_putPlain_72 (by decide) (fun _ => ?_) (fun h => absurd h21 h)
      refine mm_fewer [some (.ref a), some (.int v1_), none, none, none] (few_ok (bs := [true, true, false, false, false]) rfl) ?_
      exact e_X12_putPlain_81 hst hZ hn hs hx
    · refine mm_icmp_eq 81 dX12_putPlain_72 (by decide) (fun h => absurd h h21) (fun _ => ?_)
      refine mm_iload_n dX12_putPlain_75 rfl ?_
      refine mm_bipush (v := 12) dX12_putPlain_76 (by decide) ?_
      refine b_if hx (fun h32 hx => ?_) (fun h32 hx => ?_)
      · refine mm_icmp_ne 100 dX12_putPlain_78 (by decide) (fun h => absurd h32 h) (fun _ => ?_)
        refine mm_fewer [some (.ref a), some (.int v1_), none, none, none] (few_ok (bs := [true, true, false, false, false]) rfl) ?_
        exact e_X12_putPlain_81 hst hZ hn hs hx
      · refine mm_icmp_ne 100 dX12_putPlain_78 (by decide) (fun _ => ?_) (fun h => absurd h h32)
        refine mm_iload_n dX12_putPlain_100 rfl ?_
        refine mm_bipush (v := 10) dX12_putPlain_101 (by decide) ?_
        refine b_if hx (fun h33 hx => ?_) (fun h33 hx => ?_)
        · refine mm_icmp_ne 133 dX12_putPlain_103 (by decide) (fun h => absurd h33 h) (fun _ => ?_)
          refine mm_aload_n dX12_putPlain_106 rfl rfl ?_
          refine mm_aload_n dX12_putPlain_107 rfl rfl ?_
          refine s_getS (q := 1167) (r := some a) (b := a) (ci := 12) (k := 93) in_X12 rfl (by decide) rfl kF_X12_211 dX12_putPlain_108 rfl hs (by decide) hn (by decide) rfl rfl ?_
          refine mm_iload_n dX12_putPlain_111 rfl ?_
          obtain ⟨j34, hj35, hb36, hl37, hx⟩ := ix_some hx
          refine s_lald (a := 1167) sa_1167 hn hj35 hb36 na_1167 dX12_putPlain_112 ?_
          refine mm_lconst (v := 0) dX12_putPlain_113 (by decide) ?_
          refine mm_lcmp dX12_putPlain_114 ?_
          refine b_if hx (fun h38 hx => ?_) (fun h38 hx => ?_)
          · refine mm_if_ne 124 dX12_putPlain_115 (by decide) (fun h => absurd (lg_eq.mpr h38) h) (fun _ => ?_)
            refine mm_ldc2 kL_X12_455 dX12_putPlain_118 ?_
            refine mm_goto 127 dX12_putPlain_121 (by decide) ?_
            refine mm_fewer [none, none, none, none, none] (few_ok (bs := [false, false, false, false, false]) rfl) ?_
            exact e_X12_putPlain_127 hst hZ hn hs hx
          · refine mm_if_ne 124 dX12_putPlain_115 (by decide) (fun _ => ?_) (fun h => absurd (lg_eq.mp h) h38)
            refine mm_ldc2 kL_X12_453 dX12_putPlain_124 ?_
            refine mm_fewer [none, none, none, none, none] (few_ok (bs := [false, false, false, false, false]) rfl) ?_
            exact e_X12_putPlain_127 hst hZ hn hs hx
        · refine mm_icmp_ne 133 dX12_putPlain_103 (by decide) (fun _ => ?_) (fun h => absurd h h33)
          refine mm_iload_n dX12_putPlain_133 rfl ?_
          refine mm_iconst (v := 3) dX12_putPlain_134 (by decide) ?_
          refine b_if hx (fun h41 hx => ?_) (fun h41 hx => ?_)
          · refine mm_icmp_eq 144 dX12_putPlain_135 (by decide) (fun _ => ?_) (fun h => absurd h41 h)
            refine mm_fewer [some (.ref a), some (.int v1_), none, none, none] (few_ok (bs := [true, true, false, false, false]) rfl) ?_
            exact e_X12_putPlain_144 hst hZ hn hs hx
          · refine mm_icmp_eq 144 dX12_putPlain_135 (by decide) (fun h => absurd h h41) (fun _ => ?_)
            refine mm_iload_n dX12_putPlain_138 rfl ?_
            refine mm_bipush (v := 7) dX12_putPlain_139 (by decide) ?_
            refine b_if hx (fun h48 hx => ?_) (fun h48 hx => ?_)
            · refine mm_icmp_ne 157 dX12_putPlain_141 (by decide) (fun h => absurd h48 h) (fun _ => ?_)
              refine mm_fewer [some (.ref a), some (.int v1_), none, none, none] (few_ok (bs := [true, true, false, false, false]) rfl) ?_
              exact e_X12_putPlain_144 hst hZ hn hs hx
            · refine mm_icmp_ne 157 dX12_putPlain_141 (by decide) (fun _ => ?_) (fun h => absurd h h48)
              refine mm_aload_n dX12_putPlain_157 rfl rfl ?_
              refine mm_aload_n dX12_putPlain_158 rfl rfl ?_
              refine s_getS (q := 1167) (r := some a) (b := a) (ci := 12) (k := 93) in_X12 rfl (by decide) rfl kF_X12_211 dX12_putPlain_159 rfl hs (by decide) hn (by decide) rfl rfl ?_
              refine mm_iload_n dX12_putPlain_162 rfl ?_
              obtain ⟨j49, hj50, hb51, hl52, hx⟩ := ix_some hx
              refine s_lald (a := 1167) sa_1167 hn hj50 hb51 na_1167 dX12_putPlain_163 ?_
              obtain ⟨σ54, hc53, hx⟩ := b1_some hx
              refine mm_callV3 (a := a) (ci := 12) wM_X12_putSigned kM_X12_773 wI_X12_putSigned wS_X12_putSigned dX12_putPlain_164 (e_X12_putSigned hst hZ hn hs hc53) (mem_obj hs (by decide)) (sh_ltn hs (by decide) hn) rfl rfl rfl (Nat.le_of_ble_eq_true rfl) (by omega) (by omega) (fun v9 S9 hq => ?_)
              obtain ⟨rfl, rfl⟩ := hq
              refine ⟨fun h => ⟨h, rfl⟩, ?_⟩
              refine mm_vret dX12_putPlain_167 rfl ?_ (by omega) (by omega)
              obtain rfl := fin1 hx
              exact ⟨rfl, rfl⟩
  · refine mm_icmp_eq 69 dX12_putPlain_45 (by decide) (fun h => absurd h h20) (fun _ => ?_)
    refine mm_aload_n dX12_putPlain_48 rfl rfl ?_
    refine mm_aload_n dX12_putPlain_49 rfl rfl ?_
    refine s_getS (q := 1124) (r := some a) (b := a) (ci := 12) (k := 27) in_X12 rfl (by decide) rfl kF_X12_81 dX12_putPlain_50 rfl hs (by decide) hn (by decide) rfl rfl ?_
    refine mm_iload dX12_putPlain_53 rfl ?_
    obtain ⟨j55, hj56, hb57, hl58, hx⟩ := ix_some hx
    refine s_iald (a := 1124) sa_1124 hn hj56 hb57 na_1124 dX12_putPlain_55 ?_
    refine mm_aload_n dX12_putPlain_56 rfl rfl ?_
    refine s_getS (q := 1125) (r := some a) (b := a) (ci := 12) (k := 28) in_X12 rfl (by decide) rfl kF_X12_84 dX12_putPlain_57 rfl hs (by decide) hn (by decide) rfl rfl ?_
    refine mm_iload dX12_putPlain_60 rfl ?_
    obtain ⟨j59, hj60, hb61, hl62, hx⟩ := ix_some hx
    refine s_iald (a := 1125) sa_1125 hn hj60 hb61 na_1125 dX12_putPlain_62 ?_
    obtain ⟨σ64, hc63, hx⟩ := b1_some hx
    refine mm_callV3 (a := a) (ci := 12) wM_X12_putName kM_X12_765 wI_X12_putName wS_X12_putName dX12_putPlain_63 (e_X12_putName hst hZ hn hs hc63) (mem_obj hs (by decide)) (sh_ltn hs (by decide) hn) rfl rfl rfl (Nat.le_of_ble_eq_true rfl) (by omega) (by omega) (fun v9 S9 hq => ?_)
    obtain ⟨rfl, rfl⟩ := hq
    refine ⟨fun h => ⟨h, rfl⟩, ?_⟩
    refine mm_goto 167 dX12_putPlain_66 (by decide) ?_
    refine mm_vret dX12_putPlain_167 rfl ?_ (by omega) (by omega)
    obtain rfl := fin1 hx
    exact ⟨rfl, rfl⟩
set_option maxHeartbeats 4000000 in
set_option maxRecDepth 100000 in
theorem e_X12_putPlain {g : mm_G} {l : Launch} (hst : l.stackTraces = false) {Z : Nat → Nat → Option Nat} (hZ : HZ Z) {n : Nat} (hn : 1186 ≤ n) {z : Bool} {d : Nat} {U : Nat} {a : Nat} (hs : sh a = 12) {p0 : Int32} {σ : SG} {σ' : SG} (hx : x_X12_putPlain U a p0 σ = some σ') : mm_Cm g l yX12_putPlain (.code yX12_putPlain cX12_putPlain 5 none) (d + 3) 0 0 [.ref a, .int p0] (mem Z σ, n, z) (fun v S' => v = none ∧ S' = (mem Z σ', n, z)) := by
  refine mm_Cm_of hst (by decide) (Nat.le_of_ble_eq_true rfl) ?_
  show mm_V g l RX12 "putPlain" cX12_putPlain 5 none [] (d + 3) 0 0 (mm_nt (fun v S' => v = none ∧ S' = (mem Z σ', n, z))) 0 [some (.ref a), some (.int p0), none, none, none] [] (mem Z σ, n, z) 0 0
  unfold x_X12_putPlain at hx
  refine mm_aload_n dX12_putPlain_0 rfl rfl ?_
  refine s_getS (q := 1166) (r := some a) (b := a) (ci := 12) (k := 92) in_X12 rfl (by decide) rfl kF_X12_208 dX12_putPlain_1 rfl hs (by decide) hn (by decide) rfl rfl ?_
  refine mm_iload_n dX12_putPlain_4 rfl ?_
  obtain ⟨j1, hj2, hb3, hl4, hx⟩ := ix_some hx
  refine s_iald (a := 1166) sa_1166 hn hj2 hb3 na_1166 dX12_putPlain_5 ?_
  refine mm_istore_n [some (.ref a), some (.int p0), some (.int (sI σ 1166 j1)), none, none] dX12_putPlain_6 (by decide) rfl ?_
  refine mm_aload_n dX12_putPlain_7 rfl rfl ?_
  refine s_getS (q := 1118) (r := some a) (b := a) (ci := 12) (k := 21) in_X12 rfl (by decide) rfl kF_X12_62 dX12_putPlain_8 rfl hs (by decide) hn (by decide) rfl rfl ?_
  refine mm_iload_n dX12_putPlain_11 rfl ?_
  obtain ⟨j5, hj6, hb7, hl8, hx⟩ := ix_some hx
  refine s_iald (a := 1118) sa_1118 hn hj6 hb7 na_1118 dX12_putPlain_12 ?_
  refine mm_istore_n [some (.ref a), some (.int p0), some (.int (sI σ 1166 j1)), some (.int (sI σ 1118 j5)), none] dX12_putPlain_13 (by decide) rfl ?_
  refine mm_iload_n dX12_putPlain_14 rfl ?_
  refine mm_bipush (v := 14) dX12_putPlain_15 (by decide) ?_
  refine b_if hx (fun h9 hx => ?_) (fun h9 hx => ?_)
  · refine mm_icmp_ne 39 dX12_putPlain_17 (by decide) (fun h => absurd h9 h) (fun _ => ?_)
    refine mm_aload_n dX12_putPlain_20 rfl rfl ?_
    refine mm_aload_n dX12_putPlain_21 rfl rfl ?_
    refine s_getS (q := 1119) (r := some a) (b := a) (ci := 12) (k := 22) in_X12 rfl (by decide) rfl kF_X12_65 dX12_putPlain_22 rfl hs (by decide) hn (by decide) rfl rfl ?_
    refine mm_iload_n dX12_putPlain_25 rfl ?_
    obtain ⟨j10, hj11, hb12, hl13, hx⟩ := ix_some hx
    refine s_iald (a := 1119) sa_1119 hn hj11 hb12 na_1119 dX12_putPlain_26 ?_
    refine mm_aload_n dX12_putPlain_27 rfl rfl ?_
    refine s_getS (q := 1167) (r := some a) (b := a) (ci := 12) (k := 93) in_X12 rfl (by decide) rfl kF_X12_211 dX12_putPlain_28 rfl hs (by decide) hn (by decide) rfl rfl ?_
    refine mm_iload_n dX12_putPlain_31 rfl ?_
    obtain ⟨j14, hj15, hb16, hl17, hx⟩ := ix_some hx
    refine s_lald (a := 1167) sa_1167 hn hj15 hb16 na_1167 dX12_putPlain_32 ?_
    obtain ⟨v19, hc18, hx⟩ := b1_some hx
    refine mm_callV3 (a := a) (ci := 12) wM_X12_valueNumbered kM_X12_762 wI_X12_valueNumbered wS_X12_valueNumbered dX12_putPlain_33 (e_X12_valueNumbered hst hZ hn hs hc18) (mem_obj hs (by decide)) (sh_ltn hs (by decide) hn) rfl rfl rfl (Nat.le_of_ble_eq_true rfl) (by omega) (by omega) (fun v9 S9 hq => ?_)
    obtain ⟨rfl, rfl⟩ := hq
    refine ⟨fun h => ⟨h, rfl⟩, ?_⟩
    refine mm_goto 40 dX12_putPlain_36 (by decide) ?_
    refine mm_fewer [some (.ref a), some (.int p0), none, some (.int (sI σ 1118 j5)), none] (few_ok (bs := [true, true, false, true, false]) rfl) ?_
    exact e_X12_putPlain_40 hst hZ hn hs hx
  · refine mm_icmp_ne 39 dX12_putPlain_17 (by decide) (fun _ => ?_) (fun h => absurd h h9)
    refine mm_iconst (v := (-1)) dX12_putPlain_39 (by decide) ?_
    refine mm_fewer [some (.ref a), some (.int p0), none, some (.int (sI σ 1118 j5)), none] (few_ok (bs := [true, true, false, true, false]) rfl) ?_
    exact e_X12_putPlain_40 hst hZ hn hs hx
set_option maxHeartbeats 4000000 in
set_option maxRecDepth 100000 in
theorem e_X12_printStep {g : mm_G} {l : Launch} (hst : l.stackTraces = false) {Z : Nat → Nat → Option Nat} (hZ : HZ Z) {n : Nat} (hn : 1186 ≤ n) {z : Bool} {d : Nat} {U : Nat} {a : Nat} (hs : sh a = 12) {σ : SG} {σ' : SG} (hx : x_X12_printStep U a σ = some σ') : mm_Cm g l yX12_printStep (.code yX12_printStep cX12_printStep 5 none) (d + 4) 0 0 [.ref a] (mem Z σ, n, z) (fun v S' => v = none ∧ S' = (mem Z σ', n, z)) := by
  refine mm_Cm_of hst (by decide) (Nat.le_of_ble_eq_true rfl) ?_
  show mm_V g l RX12 "printStep" cX12_printStep 5 none [] (d + 4) 0 0 (mm_nt (fun v S' => v = none ∧ S' = (mem Z σ', n, z))) 0 [some (.ref a), none, none, none, none] [] (mem Z σ, n, z) 0 0
  unfold x_X12_printStep at hx
  refine mm_aload_n dX12_printStep_0 rfl rfl ?_
  refine s_getI (r := some a) (b := a) (ci := 12) (k := 106) in_X12 rfl (by decide) rfl kF_X12_650 dX12_printStep_1 rfl hs (by decide) hn (by decide) rfl ?_
  refine mm_iconst (v := 1) dX12_printStep_4 (by decide) ?_
  refine mm_isub dX12_printStep_5 ?_
  refine mm_istore_n [some (.ref a), some (.int ((sI σ a 106) - 1)), none, none, none] dX12_printStep_6 (by decide) rfl ?_
  refine mm_aload_n dX12_printStep_7 rfl rfl ?_
  refine s_getS (q := 1176) (r := some a) (b := a) (ci := 12) (k := 102) in_X12 rfl (by decide) rfl kF_X12_238 dX12_printStep_8 rfl hs (by decide) hn (by decide) rfl rfl ?_
  refine mm_iload_n dX12_printStep_11 rfl ?_
  obtain ⟨j1, hj2, hb3, hl4, hx⟩ := ix_some hx
  refine s_iald (a := 1176) sa_1176 hn hj2 hb3 na_1176 dX12_printStep_12 ?_
  refine mm_istore_n [some (.ref a), some (.int ((sI σ a 106) - 1)), some (.int (sI σ 1176 j1)), none, none] dX12_printStep_13 (by decide) rfl ?_
  refine mm_aload_n dX12_printStep_14 rfl rfl ?_
  refine mm_aload_n dX12_printStep_15 rfl rfl ?_
  refine s_getI (r := some a) (b := a) (ci := 12) (k := 80) in_X12 rfl (by decide) rfl kF_X12_587 dX12_printStep_16 rfl hs (by decide) hn (by decide) rfl ?_
  refine mm_aload_n dX12_printStep_19 rfl rfl ?_
  refine s_getS (q := 1160) (r := some a) (b := a) (ci := 12) (k := 86) in_X12 rfl (by decide) rfl kF_X12_190 dX12_printStep_20 rfl hs (by decide) hn (by decide) rfl rfl ?_
  refine mm_iload_n dX12_printStep_23 rfl ?_
  obtain ⟨j5, hj6, hb7, hl8, hx⟩ := ix_some hx
  refine s_iald (a := 1160) sa_1160 hn hj6 hb7 na_1160 dX12_printStep_24 ?_
  refine mm_aload_n dX12_printStep_25 rfl rfl ?_
  refine s_getS (q := 1179) (r := some a) (b := a) (ci := 12) (k := 105) in_X12 rfl (by decide) rfl kF_X12_247 dX12_printStep_26 rfl hs (by decide) hn (by decide) rfl rfl ?_
  refine mm_iload_n dX12_printStep_29 rfl ?_
  obtain ⟨j9, hj10, hb11, hl12, hx⟩ := ix_some hx
  refine s_iald (a := 1179) sa_1179 hn hj10 hb11 na_1179 dX12_printStep_30 ?_
  obtain ⟨v14, hc13, hx⟩ := b1_some hx
  refine mm_callV3 (a := a) (ci := 12) wM_X12_fieldAt kM_X12_576 wI_X12_fieldAt wS_X12_fieldAt dX12_printStep_31 (e_X12_fieldAt hst hZ hn hs hc13) (mem_obj hs (by decide)) (sh_ltn hs (by decide) hn) rfl rfl rfl (Nat.le_of_ble_eq_true rfl) (by omega) (by omega) (fun v9 S9 hq => ?_)
  obtain ⟨rfl, rfl⟩ := hq
  refine ⟨fun h => ⟨h, rfl⟩, ?_⟩
  refine mm_istore_n [some (.ref a), some (.int ((sI σ a 106) - 1)), some (.int (sI σ 1176 j1)), some (.int v14), none] dX12_printStep_34 (by decide) rfl ?_
  refine mm_iload_n dX12_printStep_35 rfl ?_
  refine mm_iconst (v := (-1)) dX12_printStep_36 (by decide) ?_
  refine b_if hx (fun h15 hx => ?_) (fun h15 hx => ?_)
  · refine mm_icmp_ne 83 dX12_printStep_37 (by decide) (fun h => absurd h15 h) (fun _ => ?_)
    refine mm_aload_n dX12_printStep_40 rfl rfl ?_
    refine mm_dup dX12_printStep_41 rfl ?_
    refine s_getI (r := some a) (b := a) (ci := 12) (k := 106) in_X12 rfl (by decide) rfl kF_X12_650 dX12_printStep_42 rfl hs (by decide) hn (by decide) rfl ?_
    refine mm_iconst (v := 1) dX12_printStep_45 (by decide) ?_
    refine mm_isub dX12_printStep_46 ?_
    refine s_putI (v := (sI σ a 106) - 1) (r := some a) (b := a) (ci := 12) (k := 106) in_X12 rfl (by decide) rfl tyX12_ok nmX12 rfl kF_X12_650 dX12_printStep_47 (mm_fit_int _) rfl hs (by decide) hn (by decide) rfl hx (fun σ16 hx => ?_)
    refine mm_aload_n dX12_printStep_50 rfl rfl ?_
    refine s_getI (r := some a) (b := a) (ci := 12) (k := 106) in_X12 rfl (by decide) rfl kF_X12_650 dX12_printStep_51 rfl hs (by decide) hn (by decide) rfl ?_
    refine b_if hx (fun h17 hx => ?_) (fun h17 hx => ?_)
    · refine mm_if_ne 58 dX12_printStep_54 (by decide) (fun h => absurd h17 h) (fun _ => ?_)
      refine mm_vret dX12_printStep_57 rfl ?_ (by omega) (by omega)
      obtain rfl := fin1 hx
      exact ⟨rfl, rfl⟩
    · refine mm_if_ne 58 dX12_printStep_54 (by decide) (fun _ => ?_) (fun h => absurd h h17)
      refine mm_aload_n dX12_printStep_58 rfl rfl ?_
      refine mm_iconst (v := 2) dX12_printStep_59 (by decide) ?_
      refine mm_aload_n dX12_printStep_60 rfl rfl ?_
      refine s_getI (r := some a) (b := a) (ci := 12) (k := 106) in_X12 rfl (by decide) rfl kF_X12_650 dX12_printStep_61 rfl hs (by decide) hn (by decide) rfl ?_
      refine mm_iconst (v := 1) dX12_printStep_64 (by decide) ?_
      refine mm_isub dX12_printStep_65 ?_
      refine mm_imul dX12_printStep_66 ?_
      obtain ⟨σ19, hc18, hx⟩ := b1_some hx
      refine mm_callV3 (a := a) (ci := 12) wM_X12_blanks kM_X12_776 wI_X12_blanks wS_X12_blanks dX12_printStep_67 (e_X12_blanks hst hZ hn hs hc18) (mem_obj hs (by decide)) (sh_ltn hs (by decide) hn) rfl rfl rfl (Nat.le_of_ble_eq_true rfl) (by omega) (by omega) (fun v9 S9 hq => ?_)
      obtain ⟨rfl, rfl⟩ := hq
      refine ⟨fun h => ⟨h, rfl⟩, ?_⟩
      refine mm_aload_n dX12_printStep_70 rfl rfl ?_
      refine mm_bipush (v := 125) dX12_printStep_71 (by decide) ?_
      obtain ⟨σ21, hc20, hx⟩ := b1_some hx
      refine mm_callV3 (a := a) (ci := 12) wM_X12_put kM_X12_704 wI_X12_put wS_X12_put dX12_printStep_73 (e_X12_put hst hZ hn hs hc20) (mem_obj hs (by decide)) (sh_ltn hs (by decide) hn) rfl rfl rfl (Nat.le_of_ble_eq_true rfl) (by omega) (by omega) (fun v9 S9 hq => ?_)
      obtain ⟨rfl, rfl⟩ := hq
      refine ⟨fun h => ⟨h, rfl⟩, ?_⟩
      refine mm_aload_n dX12_printStep_76 rfl rfl ?_
      refine mm_bipush (v := 10) dX12_printStep_77 (by decide) ?_
      obtain ⟨σ23, hc22, hx⟩ := b1_some hx
      refine mm_callV3 (a := a) (ci := 12) wM_X12_put kM_X12_704 wI_X12_put wS_X12_put dX12_printStep_79 (e_X12_put hst hZ hn hs hc22) (mem_obj hs (by decide)) (sh_ltn hs (by decide) hn) rfl rfl rfl (Nat.le_of_ble_eq_true rfl) (by omega) (by omega) (fun v9 S9 hq => ?_)
      obtain ⟨rfl, rfl⟩ := hq
      refine ⟨fun h => ⟨h, rfl⟩, ?_⟩
      refine mm_vret dX12_printStep_82 rfl ?_ (by omega) (by omega)
      obtain rfl := fin1 hx
      exact ⟨rfl, rfl⟩
  · refine mm_icmp_ne 83 dX12_printStep_37 (by decide) (fun _ => ?_) (fun h => absurd h h15)
    refine mm_aload_n dX12_printStep_83 rfl rfl ?_
    refine mm_iload_n dX12_printStep_84 rfl ?_
    refine mm_iload_n dX12_printStep_85 rfl ?_
    refine mm_aload_n dX12_printStep_86 rfl rfl ?_
    refine s_getS (q := 1178) (r := some a) (b := a) (ci := 12) (k := 104) in_X12 rfl (by decide) rfl kF_X12_244 dX12_printStep_87 rfl hs (by decide) hn (by decide) rfl rfl ?_
    refine mm_iload_n dX12_printStep_90 rfl ?_
    obtain ⟨j24, hj25, hb26, hl27, hx⟩ := ix_some hx
    refine s_iald (a := 1178) sa_1178 hn hj25 hb26 na_1178 dX12_printStep_91 ?_
    obtain ⟨v29, hc28, hx⟩ := b1_some hx
    refine mm_callV3 (a := a) (ci := 12) wM_X12_nextRow kM_X12_737 wI_X12_nextRow wS_X12_nextRow dX12_printStep_92 (e_X12_nextRow hst hZ hn hs hc28) (mem_obj hs (by decide)) (sh_ltn hs (by decide) hn) rfl rfl rfl (Nat.le_of_ble_eq_true rfl) (by omega) (by omega) (fun v9 S9 hq => ?_)
    obtain ⟨rfl, rfl⟩ := hq
    refine ⟨fun h => ⟨h, rfl⟩, ?_⟩
    refine mm_istore [some (.ref a), some (.int ((sI σ a 106) - 1)), some (.int (sI σ 1176 j1)), some (.int v14), some (.int v29)] dX12_printStep_95 (by decide) rfl ?_
    refine mm_iload dX12_printStep_97 rfl ?_
    refine mm_iconst (v := (-1)) dX12_printStep_99 (by decide) ?_
    refine b_if hx (fun h30 hx => ?_) (fun h30 hx => ?_)
    · refine mm_icmp_ne 121 dX12_printStep_100 (by decide) (fun h => absurd h30 h) (fun _ => ?_)
      refine mm_aload_n dX12_printStep_103 rfl rfl ?_
      refine s_getS (q := 1179) (r := some a) (b := a) (ci := 12) (k := 105) in_X12 rfl (by decide) rfl kF_X12_247 dX12_printStep_104 rfl hs (by decide) hn (by decide) rfl rfl ?_
      refine mm_iload_n dX12_printStep_107 rfl ?_
      refine mm_dup2 dX12_printStep_108 rfl rfl ?_
      obtain ⟨j31, hj32, hb33, hl34, hx⟩ := ix_some hx
      refine s_iald (a := 1179) sa_1179 hn hj32 hb33 na_1179 dX12_printStep_109 ?_
      refine mm_iconst (v := 1) dX12_printStep_110 (by decide) ?_
      refine mm_iadd dX12_printStep_111 ?_
      obtain ⟨j35, hj36, hb37, hl38, hx⟩ := ix_some hx
      refine s_iast (a := 1179) (v := (sI σ 1179 j31) + 1) sa_1179 hn hj36 hb37 na_1179 dX12_printStep_112 hx (fun σ39 hx => ?_)
      refine mm_aload_n dX12_printStep_113 rfl rfl ?_
      refine s_getS (q := 1178) (r := some a) (b := a) (ci := 12) (k := 104) in_X12 rfl (by decide) rfl kF_X12_244 dX12_printStep_114 rfl hs (by decide) hn (by decide) rfl rfl ?_
      refine mm_iload_n dX12_printStep_117 rfl ?_
      refine mm_iconst (v := 0) dX12_printStep_118 (by decide) ?_
      obtain ⟨j40, hj41, hb42, hl43, hx⟩ := ix_some hx
      refine s_iast (a := 1178) (v := 0) sa_1178 hn hj41 hb42 na_1178 dX12_printStep_119 hx (fun σ44 hx => ?_)
      refine mm_vret dX12_printStep_120 rfl ?_ (by omega) (by omega)
      obtain rfl := fin1 hx
      exact ⟨rfl, rfl⟩
    · refine mm_icmp_ne 121 dX12_printStep_100 (by decide) (fun _ => ?_) (fun h => absurd h h30)
      refine mm_aload_n dX12_printStep_121 rfl rfl ?_
      refine s_getS (q := 1178) (r := some a) (b := a) (ci := 12) (k := 104) in_X12 rfl (by decide) rfl kF_X12_244 dX12_printStep_122 rfl hs (by decide) hn (by decide) rfl rfl ?_
      refine mm_iload_n dX12_printStep_125 rfl ?_
      refine mm_iload dX12_printStep_126 rfl ?_
      refine mm_iconst (v := 1) dX12_printStep_128 (by decide) ?_
      refine mm_iadd dX12_printStep_129 ?_
      obtain ⟨j45, hj46, hb47, hl48, hx⟩ := ix_some hx
      refine s_iast (a := 1178) (v := v29 + 1) sa_1178 hn hj46 hb47 na_1178 dX12_printStep_130 hx (fun σ49 hx => ?_)
      refine mm_aload_n dX12_printStep_131 rfl rfl ?_
      refine mm_iconst (v := 2) dX12_printStep_132 (by decide) ?_
      refine mm_iload_n dX12_printStep_133 rfl ?_
      refine mm_imul dX12_printStep_134 ?_
      obtain ⟨σ51, hc50, hx⟩ := b1_some hx
      refine mm_callV3 (a := a) (ci := 12) wM_X12_blanks kM_X12_776 wI_X12_blanks wS_X12_blanks dX12_printStep_135 (e_X12_blanks hst hZ hn hs hc50) (mem_obj hs (by decide)) (sh_ltn hs (by decide) hn) rfl rfl rfl (Nat.le_of_ble_eq_true rfl) (by omega) (by omega) (fun v9 S9 hq => ?_)
      obtain ⟨rfl, rfl⟩ := hq
      refine ⟨fun h => ⟨h, rfl⟩, ?_⟩
      refine mm_aload_n dX12_printStep_138 rfl rfl ?_
      refine mm_aload_n dX12_printStep_139 rfl rfl ?_
      refine s_getS (q := 1115) (r := some a) (b := a) (ci := 12) (k := 18) in_X12 rfl (by decide) rfl kF_X12_53 dX12_printStep_140 rfl hs (by decide) hn (by decide) rfl rfl ?_
      refine mm_iload_n dX12_printStep_143 rfl ?_
      obtain ⟨j52, hj53, hb54, hl55, hx⟩ := ix_some hx
      refine s_iald (a := 1115) sa_1115 hn hj53 hb54 na_1115 dX12_printStep_144 ?_
      refine mm_aload_n dX12_printStep_145 rfl rfl ?_
      refine s_getS (q := 1116) (r := some a) (b := a) (ci := 12) (k := 19) in_X12 rfl (by decide) rfl kF_X12_56 dX12_printStep_146 rfl hs (by decide) hn (by decide) rfl rfl ?_
      refine mm_iload_n dX12_printStep_149 rfl ?_
      obtain ⟨j56, hj57, hb58, hl59, hx⟩ := ix_some hx
      refine s_iald (a := 1116) sa_1116 hn hj57 hb58 na_1116 dX12_printStep_150 ?_
      obtain ⟨σ61, hc60, hx⟩ := b1_some hx
      refine mm_callV3 (a := a) (ci := 12) wM_X12_putName kM_X12_765 wI_X12_putName wS_X12_putName dX12_printStep_151 (e_X12_putName hst hZ hn hs hc60) (mem_obj hs (by decide)) (sh_ltn hs (by decide) hn) rfl rfl rfl (Nat.le_of_ble_eq_true rfl) (by omega) (by omega) (fun v9 S9 hq => ?_)
      obtain ⟨rfl, rfl⟩ := hq
      refine ⟨fun h => ⟨h, rfl⟩, ?_⟩
      refine mm_aload_n dX12_printStep_154 rfl rfl ?_
      refine s_getS (q := 1118) (r := some a) (b := a) (ci := 12) (k := 21) in_X12 rfl (by decide) rfl kF_X12_62 dX12_printStep_155 rfl hs (by decide) hn (by decide) rfl rfl ?_
      refine mm_iload_n dX12_printStep_158 rfl ?_
      obtain ⟨j62, hj63, hb64, hl65, hx⟩ := ix_some hx
      refine s_iald (a := 1118) sa_1118 hn hj63 hb64 na_1118 dX12_printStep_159 ?_
      refine mm_bipush (v := 13) dX12_printStep_160 (by decide) ?_
      refine b_if hx (fun h66 hx => ?_) (fun h66 hx => ?_)
      · refine mm_icmp_ne 190 dX12_printStep_162 (by decide) (fun h => absurd h66 h) (fun _ => ?_)
        refine mm_aload_n dX12_printStep_165 rfl rfl ?_
        refine mm_ldc2 kL_X12_779 dX12_printStep_166 ?_
        obtain ⟨σ68, hc67, hx⟩ := b1_some hx
        refine mm_callV3 (a := a) (ci := 12) wM_X12_putWord kM_X12_770 wI_X12_putWord wS_X12_putWord dX12_printStep_169 (e_X12_putWord hst hZ hn hs hc67) (mem_obj hs (by decide)) (sh_ltn hs (by decide) hn) rfl rfl rfl (Nat.le_of_ble_eq_true rfl) (by omega) (by omega) (fun v9 S9 hq => ?_)
        obtain ⟨rfl, rfl⟩ := hq
        refine ⟨fun h => ⟨h, rfl⟩, ?_⟩
        refine mm_aload_n dX12_printStep_172 rfl rfl ?_
        refine mm_bipush (v := 10) dX12_printStep_173 (by decide) ?_
        obtain ⟨σ70, hc69, hx⟩ := b1_some hx
        refine mm_callV3 (a := a) (ci := 12) wM_X12_put kM_X12_704 wI_X12_put wS_X12_put dX12_printStep_175 (e_X12_put hst hZ hn hs hc69) (mem_obj hs (by decide)) (sh_ltn hs (by decide) hn) rfl rfl rfl (Nat.le_of_ble_eq_true rfl) (by omega) (by omega) (fun v9 S9 hq => ?_)
        obtain ⟨rfl, rfl⟩ := hq
        refine ⟨fun h => ⟨h, rfl⟩, ?_⟩
        refine mm_aload_n dX12_printStep_178 rfl rfl ?_
        refine mm_aload_n dX12_printStep_179 rfl rfl ?_
        refine s_getS (q := 1170) (r := some a) (b := a) (ci := 12) (k := 96) in_X12 rfl (by decide) rfl kF_X12_220 dX12_printStep_180 rfl hs (by decide) hn (by decide) rfl rfl ?_
        refine mm_iload dX12_printStep_183 rfl ?_
        obtain ⟨j71, hj72, hb73, hl74, hx⟩ := ix_some hx
        refine s_iald (a := 1170) sa_1170 hn hj72 hb73 na_1170 dX12_printStep_185 ?_
        obtain ⟨σ76, hc75, hx⟩ := b1_some hx
        refine mm_callV3 (a := a) (ci := 12) wM_X12_goInto kM_X12_743 wI_X12_goInto wS_X12_goInto dX12_printStep_186 (e_X12_goInto hst hZ hn hs hc75) (mem_obj hs (by decide)) (sh_ltn hs (by decide) hn) rfl rfl rfl (Nat.le_of_ble_eq_true rfl) (by omega) (by omega) (fun v9 S9 hq => ?_)
        obtain ⟨rfl, rfl⟩ := hq
        refine ⟨fun h => ⟨h, rfl⟩, ?_⟩
        refine mm_vret dX12_printStep_189 rfl ?_ (by omega) (by omega)
        obtain rfl := fin1 hx
        exact ⟨rfl, rfl⟩
      · refine mm_icmp_ne 190 dX12_printStep_162 (by decide) (fun _ => ?_) (fun h => absurd h h66)
        refine mm_aload_n dX12_printStep_190 rfl rfl ?_
        refine mm_ldc2 kL_X12_781 dX12_printStep_191 ?_
        obtain ⟨σ78, hc77, hx⟩ := b1_some hx
        refine mm_callV3 (a := a) (ci := 12) wM_X12_putWord kM_X12_770 wI_X12_putWord wS_X12_putWord dX12_printStep_194 (e_X12_putWord hst hZ hn hs hc77) (mem_obj hs (by decide)) (sh_ltn hs (by decide) hn) rfl rfl rfl (Nat.le_of_ble_eq_true rfl) (by omega) (by omega) (fun v9 S9 hq => ?_)
        obtain ⟨rfl, rfl⟩ := hq
        refine ⟨fun h => ⟨h, rfl⟩, ?_⟩
        refine mm_aload_n dX12_printStep_197 rfl rfl ?_
        refine mm_iload dX12_printStep_198 rfl ?_
        obtain ⟨σ80, hc79, hx⟩ := b1_some hx
        refine mm_callV3 (a := a) (ci := 12) wM_X12_putPlain kM_X12_783 wI_X12_putPlain wS_X12_putPlain dX12_printStep_200 (e_X12_putPlain hst hZ hn hs hc79) (mem_obj hs (by decide)) (sh_ltn hs (by decide) hn) rfl rfl rfl (Nat.le_of_ble_eq_true rfl) (by omega) (by omega) (fun v9 S9 hq => ?_)
        obtain ⟨rfl, rfl⟩ := hq
        refine ⟨fun h => ⟨h, rfl⟩, ?_⟩
        refine mm_aload_n dX12_printStep_203 rfl rfl ?_
        refine mm_bipush (v := 10) dX12_printStep_204 (by decide) ?_
        obtain ⟨σ82, hc81, hx⟩ := b1_some hx
        refine mm_callV3 (a := a) (ci := 12) wM_X12_put kM_X12_704 wI_X12_put wS_X12_put dX12_printStep_206 (e_X12_put hst hZ hn hs hc81) (mem_obj hs (by decide)) (sh_ltn hs (by decide) hn) rfl rfl rfl (Nat.le_of_ble_eq_true rfl) (by omega) (by omega) (fun v9 S9 hq => ?_)
        obtain ⟨rfl, rfl⟩ := hq
        refine ⟨fun h => ⟨h, rfl⟩, ?_⟩
        refine mm_vret dX12_printStep_209 rfl ?_ (by omega) (by omega)
        obtain rfl := fin1 hx
        exact ⟨rfl, rfl⟩
set_option maxHeartbeats 4000000 in
set_option maxRecDepth 100000 in
theorem e_X12_print_L39 {g : mm_G} {l : Launch} (hst : l.stackTraces = false) {Z : Nat → Nat → Option Nat} (hZ : HZ Z) {n : Nat} (hn : 1186 ≤ n) {z : Bool} {d : Nat} {U : Nat} {a : Nat} (hs : sh a = 12) {k53 : SG → Option (Int32 × SG)} {r : Int32} {σ' : SG} (hk53 : ∀ (σ8 : SG), k53 σ8 = some (r, σ') → mm_V g l RX12 "print" cX12_print 1 (some .int) [] (d + 5) 0 0 (mm_nt (fun v S' => v = some (.int r) ∧ S' = (mem Z σ', n, z))) 53 [some (.ref a)] [] (mem Z σ8, n, z) 0 0) : ∀ (U1 : Nat) (σ : SG), x_X12_print_L39 U a k53 U1 σ = some (r, σ') → mm_V g l RX12 "print" cX12_print 1 (some .int) [] (d + 5) 0 0 (mm_nt (fun v S' => v = some (.int r) ∧ S' = (mem Z σ', n, z))) 39 [some (.ref a)] [] (mem Z σ, n, z) 0 0 := by
  intro U1
  induction U1 with
  | zero => intro σ hx; exact absurd hx (by simp [x_X12_print_L39])
  | succ U1 ih =>
    intro σ hx
    rw [x_X12_print_L39] at hx
    refine mm_aload_n dX12_print_39 rfl rfl ?_
    refine s_getI (r := some a) (b := a) (ci := 12) (k := 106) in_X12 rfl (by decide) rfl kF_X12_650 dX12_print_40 rfl hs (by decide) hn (by decide) rfl ?_
    refine b_if hx (fun h9 hx => ?_) (fun h9 hx => ?_)
    · refine mm_if_le 53 dX12_print_43 (by decide) (fun h => absurd h (Int32.not_le.mpr h9)) (fun _ => ?_)
      refine mm_aload_n dX12_print_46 rfl rfl ?_
      obtain ⟨σ11, hc10, hx⟩ := b1_some hx
      refine mm_callV3 (a := a) (ci := 12) wM_X12_printStep kM_X12_786 wI_X12_printStep wS_X12_printStep dX12_print_47 (e_X12_printStep hst hZ hn hs hc10) (mem_obj hs (by decide)) (sh_ltn hs (by decide) hn) rfl rfl rfl (Nat.le_of_ble_eq_true rfl) (by omega) (by omega) (fun v9 S9 hq => ?_)
      obtain ⟨rfl, rfl⟩ := hq
      refine ⟨fun h => ⟨h, rfl⟩, ?_⟩
      refine mm_goto 39 dX12_print_50 (by decide) ?_
      exact ih  _ hx
    · refine mm_if_le 53 dX12_print_43 (by decide) (fun _ => ?_) (fun h => absurd (Int32.not_lt.mp h9) h)
      exact hk53  _ hx
set_option maxHeartbeats 4000000 in
set_option maxRecDepth 100000 in
theorem e_X12_print_17 {g : mm_G} {l : Launch} (hst : l.stackTraces = false) {Z : Nat → Nat → Option Nat} (hZ : HZ Z) {n : Nat} (hn : 1186 ≤ n) {z : Bool} {d : Nat} {U : Nat} {a : Nat} (hs : sh a = 12) {s0_ : Int32} {σ : SG} {r : Int32} {σ' : SG} (hx : x_X12_print_17 U a s0_ σ = some (r, σ')) : mm_V g l RX12 "print" cX12_print 1 (some .int) [] (d + 5) 0 0 (mm_nt (fun v S' => v = some (.int r) ∧ S' = (mem Z σ', n, z))) 17 [some (.ref a)] [.int s0_, .ref a] (mem Z σ, n, z) 0 0 := by
  unfold x_X12_print_17 at hx
  refine s_putI (v := s0_) (r := some a) (b := a) (ci := 12) (k := 5) in_X12 rfl (by decide) rfl tyX12_ok nmX12 rfl kF_X12_265 dX12_print_17 (mm_fit_int _) rfl hs (by decide) hn (by decide) rfl hx (fun σ4 hx => ?_)
  refine mm_aload_n dX12_print_20 rfl rfl ?_
  refine s_getI (r := some a) (b := a) (ci := 12) (k := 5) in_X12 rfl (by decide) rfl kF_X12_265 dX12_print_21 rfl hs (by decide) hn (by decide) rfl ?_
  refine b_if hx (fun h5 hx => ?_) (fun h5 hx => ?_)
  · refine mm_if_eq 29 dX12_print_24 (by decide) (fun _ => ?_) (fun h => absurd h5 h)
    refine mm_aload_n dX12_print_29 rfl rfl ?_
    refine mm_iconst (v := 0) dX12_print_30 (by decide) ?_
    refine s_putI (v := 0) (r := some a) (b := a) (ci := 12) (k := 106) in_X12 rfl (by decide) rfl tyX12_ok nmX12 rfl kF_X12_650 dX12_print_31 (mm_fit_int _) rfl hs (by decide) hn (by decide) rfl hx (fun σ6 hx => ?_)
    refine mm_aload_n dX12_print_34 rfl rfl ?_
    refine mm_iconst (v := 0) dX12_print_35 (by decide) ?_
    obtain ⟨σ8, hc7, hx⟩ := b1_some hx
    refine mm_callV3 (a := a) (ci := 12) wM_X12_goInto kM_X12_743 wI_X12_goInto wS_X12_goInto dX12_print_36 (e_X12_goInto hst hZ hn hs hc7) (mem_obj hs (by decide)) (sh_ltn hs (by decide) hn) rfl rfl rfl (Nat.le_of_ble_eq_true rfl) (by omega) (by omega) (fun v9 S9 hq => ?_)
    obtain ⟨rfl, rfl⟩ := hq
    refine ⟨fun h => ⟨h, rfl⟩, ?_⟩
    refine e_X12_print_L39 hst hZ hn hs ?_ _ _ hx
    · intro  σ12 hx
      refine mm_aload_n dX12_print_53 rfl rfl ?_
      refine s_getI (r := some a) (b := a) (ci := 12) (k := 4) in_X12 rfl (by decide) rfl kF_X12_697 dX12_print_54 rfl hs (by decide) hn (by decide) rfl ?_
      refine b_if hx (fun h13 hx => ?_) (fun h13 hx => ?_)
      · refine mm_if_eq 69 dX12_print_57 (by decide) (fun _ => ?_) (fun h => absurd h13 h)
        refine mm_aload_n dX12_print_69 rfl rfl ?_
        refine s_getI (r := some a) (b := a) (ci := 12) (k := 3) in_X12 rfl (by decide) rfl kF_X12_271 dX12_print_70 rfl hs (by decide) hn (by decide) rfl ?_
        refine mm_iret dX12_print_73 rfl rfl ?_ (by omega) (by omega)
        obtain ⟨rfl, rfl⟩ := fin2 hx
        exact ⟨rfl, rfl⟩
      · refine mm_if_eq 69 dX12_print_57 (by decide) (fun h => absurd h h13) (fun _ => ?_)
        refine mm_aload_n dX12_print_60 rfl rfl ?_
        obtain ⟨σ15, hc14, hx⟩ := b1_some hx
        refine mm_callV3 (a := a) (ci := 12) wM_X12_emptyOut kM_X12_746 wI_X12_emptyOut wS_X12_emptyOut dX12_print_61 (e_X12_emptyOut hst hZ hn hs hc14) (mem_obj hs (by decide)) (sh_ltn hs (by decide) hn) rfl rfl rfl (Nat.le_of_ble_eq_true rfl) (by omega) (by omega) (fun v9 S9 hq => ?_)
        obtain ⟨rfl, rfl⟩ := hq
        refine ⟨fun h => ⟨h, rfl⟩, ?_⟩
        refine mm_aload_n dX12_print_64 rfl rfl ?_
        refine mm_iconst (v := 2) dX12_print_65 (by decide) ?_
        refine s_putI (v := 2) (r := some a) (b := a) (ci := 12) (k := 5) in_X12 rfl (by decide) rfl tyX12_ok nmX12 rfl kF_X12_265 dX12_print_66 (mm_fit_int _) rfl hs (by decide) hn (by decide) rfl hx (fun σ16 hx => ?_)
        refine mm_aload_n dX12_print_69 rfl rfl ?_
        refine s_getI (r := some a) (b := a) (ci := 12) (k := 3) in_X12 rfl (by decide) rfl kF_X12_271 dX12_print_70 rfl hs (by decide) hn (by decide) rfl ?_
        refine mm_iret dX12_print_73 rfl rfl ?_ (by omega) (by omega)
        obtain ⟨rfl, rfl⟩ := fin2 hx
        exact ⟨rfl, rfl⟩
  · refine mm_if_eq 29 dX12_print_24 (by decide) (fun h => absurd h h5) (fun _ => ?_)
    refine mm_iconst (v := 0) dX12_print_27 (by decide) ?_
    refine mm_iret dX12_print_28 rfl rfl ?_ (by omega) (by omega)
    obtain ⟨rfl, rfl⟩ := fin2 hx
    exact ⟨rfl, rfl⟩
set_option maxHeartbeats 4000000 in
set_option maxRecDepth 100000 in
theorem e_X12_print {g : mm_G} {l : Launch} (hst : l.stackTraces = false) {Z : Nat → Nat → Option Nat} (hZ : HZ Z) {n : Nat} (hn : 1186 ≤ n) {z : Bool} {d : Nat} {U : Nat} {a : Nat} (hs : sh a = 12) {σ : SG} {r : Int32} {σ' : SG} (hx : x_X12_print U a σ = some (r, σ')) : mm_Cm g l yX12_print (.code yX12_print cX12_print 1 (some .int)) (d + 5) 0 0 [.ref a] (mem Z σ, n, z) (fun v S' => v = some (.int r) ∧ S' = (mem Z σ', n, z)) := by
  refine mm_Cm_of hst (by decide) (Nat.le_of_ble_eq_true rfl) ?_
  show mm_V g l RX12 "print" cX12_print 1 (some .int) [] (d + 5) 0 0 (mm_nt (fun v S' => v = some (.int r) ∧ S' = (mem Z σ', n, z))) 0 [some (.ref a)] [] (mem Z σ, n, z) 0 0
  unfold x_X12_print at hx
  refine mm_aload_n dX12_print_0 rfl rfl ?_
  obtain ⟨σ2, hc1, hx⟩ := b1_some hx
  refine mm_callV3 (a := a) (ci := 12) wM_X12_emptyOut kM_X12_746 wI_X12_emptyOut wS_X12_emptyOut dX12_print_1 (e_X12_emptyOut hst hZ hn hs hc1) (mem_obj hs (by decide)) (sh_ltn hs (by decide) hn) rfl rfl rfl (Nat.le_of_ble_eq_true rfl) (by omega) (by omega) (fun v9 S9 hq => ?_)
  obtain ⟨rfl, rfl⟩ := hq
  refine ⟨fun h => ⟨h, rfl⟩, ?_⟩
  refine mm_aload_n dX12_print_4 rfl rfl ?_
  refine mm_aload_n dX12_print_5 rfl rfl ?_
  refine s_getI (r := some a) (b := a) (ci := 12) (k := 79) in_X12 rfl (by decide) rfl kF_X12_551 dX12_print_6 rfl hs (by decide) hn (by decide) rfl ?_
  refine b_if hx (fun h3 hx => ?_) (fun h3 hx => ?_)
  · refine mm_if_eq 16 dX12_print_9 (by decide) (fun _ => ?_) (fun h => absurd h3 h)
    refine mm_iconst (v := 1) dX12_print_16 (by decide) ?_
    exact e_X12_print_17 hst hZ hn hs hx
  · refine mm_if_eq 16 dX12_print_9 (by decide) (fun h => absurd h h3) (fun _ => ?_)
    refine mm_iconst (v := 0) dX12_print_12 (by decide) ?_
    refine mm_goto 17 dX12_print_13 (by decide) ?_
    exact e_X12_print_17 hst hZ hn hs hx
set_option maxHeartbeats 4000000 in
set_option maxRecDepth 100000 in
theorem e_X12_thrown {g : mm_G} {l : Launch} (hst : l.stackTraces = false) {Z : Nat → Nat → Option Nat} (hZ : HZ Z) {n : Nat} (hn : 1186 ≤ n) {z : Bool} {d : Nat} {a : Nat} (hs : sh a = 12) {σ : SG} {r : Int32} (hx : x_X12_thrown a σ = some r) : mm_Cm g l yX12_thrown (.code yX12_thrown cX12_thrown 1 (some .int)) (d) 0 0 [.ref a] (mem Z σ, n, z) (fun v S' => v = some (.int r) ∧ S' = (mem Z σ, n, z)) := by
  refine mm_Cm_of hst (by decide) (Nat.le_of_ble_eq_true rfl) ?_
  show mm_V g l RX12 "thrown" cX12_thrown 1 (some .int) [] (d) 0 0 (mm_nt (fun v S' => v = some (.int r) ∧ S' = (mem Z σ, n, z))) 0 [some (.ref a)] [] (mem Z σ, n, z) 0 0
  unfold x_X12_thrown at hx
  refine mm_aload_n dX12_thrown_0 rfl rfl ?_
  refine s_getI (r := some a) (b := a) (ci := 12) (k := 5) in_X12 rfl (by decide) rfl kF_X12_265 dX12_thrown_1 rfl hs (by decide) hn (by decide) rfl ?_
  refine mm_iret dX12_thrown_4 rfl rfl ?_ (by omega) (by omega)
  obtain rfl := fin1 hx
  exact ⟨rfl, rfl⟩
set_option maxHeartbeats 4000000 in
set_option maxRecDepth 100000 in
theorem e_X12_turn_L30 {g : mm_G} {l : Launch} (hst : l.stackTraces = false) {Z : Nat → Nat → Option Nat} (hZ : HZ Z) {n : Nat} (hn : 1186 ≤ n) {z : Bool} {d : Nat} {U : Nat} {a : Nat} (hs : sh a = 12) {k56 : SG → Option (Int32 × SG)} {r : Int32} {σ' : SG} (hk56 : ∀ (σ8 : SG), k56 σ8 = some (r, σ') → mm_V g l RX12 "turn" cX12_turn 2 (some .int) [] (d) 0 0 (mm_nt (fun v S' => v = some (.int r) ∧ S' = (mem Z σ', n, z))) 56 [some (.ref a), none] [] (mem Z σ8, n, z) 0 0) : ∀ (U1 : Nat) (v1_ : Int32) (σ : SG), x_X12_turn_L30 U a k56 U1 v1_ σ = some (r, σ') → mm_V g l RX12 "turn" cX12_turn 2 (some .int) [] (d) 0 0 (mm_nt (fun v S' => v = some (.int r) ∧ S' = (mem Z σ', n, z))) 30 [some (.ref a), some (.int v1_)] [] (mem Z σ, n, z) 0 0 := by
  intro U1
  induction U1 with
  | zero => intro v1_ σ hx; exact absurd hx (by simp [x_X12_turn_L30])
  | succ U1 ih =>
    intro v1_ σ hx
    rw [x_X12_turn_L30] at hx
    refine mm_iload_n dX12_turn_30 rfl ?_
    refine mm_aload_n dX12_turn_31 rfl rfl ?_
    refine s_getI (r := some a) (b := a) (ci := 12) (k := 3) in_X12 rfl (by decide) rfl kF_X12_271 dX12_turn_32 rfl hs (by decide) hn (by decide) rfl ?_
    refine b_if hx (fun h4 hx => ?_) (fun h4 hx => ?_)
    · refine mm_icmp_ge 56 dX12_turn_35 (by decide) (fun h => absurd h (Int32.not_le.mpr h4)) (fun _ => ?_)
      refine mm_aload_n dX12_turn_38 rfl rfl ?_
      refine s_getS (q := 1102) (r := some a) (b := a) (ci := 12) (k := 0) in_X12 rfl (by decide) rfl kF_X12_7 dX12_turn_39 rfl hs (by decide) hn (by decide) rfl rfl ?_
      refine mm_iload_n dX12_turn_42 rfl ?_
      refine mm_aload_n dX12_turn_43 rfl rfl ?_
      refine s_getS (q := 1103) (r := some a) (b := a) (ci := 12) (k := 2) in_X12 rfl (by decide) rfl kF_X12_13 dX12_turn_44 rfl hs (by decide) hn (by decide) rfl rfl ?_
      refine mm_iload_n dX12_turn_47 rfl ?_
      obtain ⟨j5, hj6, hb7, hl8, hx⟩ := ix_some hx
      refine s_iald (a := 1103) sa_1103 hn hj6 hb7 na_1103 dX12_turn_48 ?_
      obtain ⟨j9, hj10, hb11, hl12, hx⟩ := ix_some hx
      refine s_iast (a := 1102) (v := sI σ 1103 j5) sa_1102 hn hj10 hb11 na_1102 dX12_turn_49 hx (fun σ13 hx => ?_)
      refine mm_iinc (v := v1_ + 1) [some (.ref a), some (.int (v1_ + 1))] dX12_turn_50 rfl rfl (by decide) rfl ?_
      refine mm_goto 30 dX12_turn_53 (by decide) ?_
      exact ih _ _ hx
    · refine mm_icmp_ge 56 dX12_turn_35 (by decide) (fun _ => ?_) (fun h => absurd (Int32.not_lt.mp h4) h)
      refine mm_fewer [some (.ref a), none] (few_ok (bs := [true, false]) rfl) ?_
      exact hk56  _ hx
set_option maxHeartbeats 4000000 in
set_option maxRecDepth 100000 in
theorem e_X12_turn_16 {g : mm_G} {l : Launch} (hst : l.stackTraces = false) {Z : Nat → Nat → Option Nat} (hZ : HZ Z) {n : Nat} (hn : 1186 ≤ n) {z : Bool} {d : Nat} {U : Nat} {a : Nat} (hs : sh a = 12) {s0_ : Int32} {σ : SG} {r : Int32} {σ' : SG} (hx : x_X12_turn_16 U a s0_ σ = some (r, σ')) : mm_V g l RX12 "turn" cX12_turn 2 (some .int) [] (d) 0 0 (mm_nt (fun v S' => v = some (.int r) ∧ S' = (mem Z σ', n, z))) 16 [some (.ref a), none] [.int s0_, .ref a] (mem Z σ, n, z) 0 0 := by
  unfold x_X12_turn_16 at hx
  refine s_putI (v := s0_) (r := some a) (b := a) (ci := 12) (k := 5) in_X12 rfl (by decide) rfl tyX12_ok nmX12 rfl kF_X12_265 dX12_turn_16 (mm_fit_int _) rfl hs (by decide) hn (by decide) rfl hx (fun σ2 hx => ?_)
  refine mm_aload_n dX12_turn_19 rfl rfl ?_
  refine s_getI (r := some a) (b := a) (ci := 12) (k := 5) in_X12 rfl (by decide) rfl kF_X12_265 dX12_turn_20 rfl hs (by decide) hn (by decide) rfl ?_
  refine b_if hx (fun h3 hx => ?_) (fun h3 hx => ?_)
  · refine mm_if_eq 28 dX12_turn_23 (by decide) (fun _ => ?_) (fun h => absurd h3 h)
    refine mm_iconst (v := 0) dX12_turn_28 (by decide) ?_
    refine mm_istore_n [some (.ref a), some (.int 0)] dX12_turn_29 (by decide) rfl ?_
    refine e_X12_turn_L30 hst hZ hn hs ?_ _ _ _ hx
    · intro  σ14 hx
      refine mm_aload_n dX12_turn_56 rfl rfl ?_
      refine mm_aload_n dX12_turn_57 rfl rfl ?_
      refine s_getI (r := some a) (b := a) (ci := 12) (k := 3) in_X12 rfl (by decide) rfl kF_X12_271 dX12_turn_58 rfl hs (by decide) hn (by decide) rfl ?_
      refine s_putI (v := sI σ14 a 3) (r := some a) (b := a) (ci := 12) (k := 1) in_X12 rfl (by decide) rfl tyX12_ok nmX12 rfl kF_X12_268 dX12_turn_61 (mm_fit_int _) rfl hs (by decide) hn (by decide) rfl hx (fun σ15 hx => ?_)
      refine mm_aload_n dX12_turn_64 rfl rfl ?_
      refine s_getI (r := some a) (b := a) (ci := 12) (k := 1) in_X12 rfl (by decide) rfl kF_X12_268 dX12_turn_65 rfl hs (by decide) hn (by decide) rfl ?_
      refine mm_iret dX12_turn_68 rfl rfl ?_ (by omega) (by omega)
      obtain ⟨rfl, rfl⟩ := fin2 hx
      exact ⟨rfl, rfl⟩
  · refine mm_if_eq 28 dX12_turn_23 (by decide) (fun h => absurd h h3) (fun _ => ?_)
    refine mm_iconst (v := 0) dX12_turn_26 (by decide) ?_
    refine mm_iret dX12_turn_27 rfl rfl ?_ (by omega) (by omega)
    obtain ⟨rfl, rfl⟩ := fin2 hx
    exact ⟨rfl, rfl⟩
set_option maxHeartbeats 4000000 in
set_option maxRecDepth 100000 in
theorem e_X12_turn {g : mm_G} {l : Launch} (hst : l.stackTraces = false) {Z : Nat → Nat → Option Nat} (hZ : HZ Z) {n : Nat} (hn : 1186 ≤ n) {z : Bool} {d : Nat} {U : Nat} {a : Nat} (hs : sh a = 12) {σ : SG} {r : Int32} {σ' : SG} (hx : x_X12_turn U a σ = some (r, σ')) : mm_Cm g l yX12_turn (.code yX12_turn cX12_turn 2 (some .int)) (d) 0 0 [.ref a] (mem Z σ, n, z) (fun v S' => v = some (.int r) ∧ S' = (mem Z σ', n, z)) := by
  refine mm_Cm_of hst (by decide) (Nat.le_of_ble_eq_true rfl) ?_
  show mm_V g l RX12 "turn" cX12_turn 2 (some .int) [] (d) 0 0 (mm_nt (fun v S' => v = some (.int r) ∧ S' = (mem Z σ', n, z))) 0 [some (.ref a), none] [] (mem Z σ, n, z) 0 0
  unfold x_X12_turn at hx
  refine mm_aload_n dX12_turn_0 rfl rfl ?_
  refine mm_aload_n dX12_turn_1 rfl rfl ?_
  refine s_getI (r := some a) (b := a) (ci := 12) (k := 3) in_X12 rfl (by decide) rfl kF_X12_271 dX12_turn_2 rfl hs (by decide) hn (by decide) rfl ?_
  refine mm_sipush (v := 700) dX12_turn_5 (by decide) ?_
  refine b_if hx (fun h1 hx => ?_) (fun h1 hx => ?_)
  · refine mm_icmp_le 15 dX12_turn_8 (by decide) (fun h => absurd h (Int32.not_le.mpr h1)) (fun _ => ?_)
    refine mm_iconst (v := 1) dX12_turn_11 (by decide) ?_
    refine mm_goto 16 dX12_turn_12 (by decide) ?_
    exact e_X12_turn_16 hst hZ hn hs hx
  · refine mm_icmp_le 15 dX12_turn_8 (by decide) (fun _ => ?_) (fun h => absurd (Int32.not_lt.mp h1) h)
    refine mm_iconst (v := 0) dX12_turn_15 (by decide) ?_
    exact e_X12_turn_16 hst hZ hn hs hx
