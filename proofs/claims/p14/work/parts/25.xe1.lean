set_option maxHeartbeats 4000000 in
set_option maxRecDepth 100000 in
theorem e_X12_above_22 {g : mm_G} {l : Launch} (hst : l.stackTraces = false) {Z : Nat → Nat → Option Nat} (hZ : HZ Z) {n : Nat} (hn : 1186 ≤ n) {z : Bool} {d : Nat} {v0_ : Int64} {v2_ : Int64} {s0_ : Int32} {s1_ : Int32} {σ : SG} {r : Int32} (hx : x_X12_above_22 v0_ v2_ s0_ s1_ σ = some r) : mm_V g l RX12 "above" cX12_above 4 (some .boolean) [] (d) 0 0 (mm_nt (fun v S' => v = some (.int r) ∧ S' = (mem Z σ, n, z))) 22 [some (.long v0_), none, some (.long v2_), none] [.int s0_, .int s1_] (mem Z σ, n, z) 0 0 := by
  unfold x_X12_above_22 at hx
  refine b_if hx (fun h3 hx => ?_) (fun h3 hx => ?_)
  · refine mm_icmp_ne 39 dX12_above_22 (by decide) (fun h => absurd h3 h) (fun _ => ?_)
    refine mm_lload_n dX12_above_25 rfl ?_
    refine mm_lload_n dX12_above_26 rfl ?_
    refine mm_lcmp dX12_above_27 ?_
    refine b_if hx (fun h4 hx => ?_) (fun h4 hx => ?_)
    · refine mm_if_le 35 dX12_above_28 (by decide) (fun h => absurd (lg_le.mp h) (Int64.not_le.mpr h4)) (fun _ => ?_)
      refine mm_iconst (v := 1) dX12_above_31 (by decide) ?_
      refine mm_goto 50 dX12_above_32 (by decide) ?_
      refine mm_iret dX12_above_50 rfl rfl ?_ (by omega) (by omega)
      obtain rfl := fin1 hx
      exact ⟨rfl, rfl⟩
    · refine mm_if_le 35 dX12_above_28 (by decide) (fun _ => ?_) (fun h => absurd (lg_le.mpr (Int64.not_lt.mp h4)) h)
      refine mm_iconst (v := 0) dX12_above_35 (by decide) ?_
      refine mm_goto 50 dX12_above_36 (by decide) ?_
      refine mm_iret dX12_above_50 rfl rfl ?_ (by omega) (by omega)
      obtain rfl := fin1 hx
      exact ⟨rfl, rfl⟩
  · refine mm_icmp_ne 39 dX12_above_22 (by decide) (fun _ => ?_) (fun h => absurd h h3)
    refine mm_lload_n dX12_above_39 rfl ?_
    refine mm_lconst (v := 0) dX12_above_40 (by decide) ?_
    refine mm_lcmp dX12_above_41 ?_
    refine b_if hx (fun h5 hx => ?_) (fun h5 hx => ?_)
    · refine mm_if_ge 49 dX12_above_42 (by decide) (fun h => absurd (lg_ge.mp h) (Int64.not_le.mpr h5)) (fun _ => ?_)
      refine mm_iconst (v := 1) dX12_above_45 (by decide) ?_
      refine mm_goto 50 dX12_above_46 (by decide) ?_
      refine mm_iret dX12_above_50 rfl rfl ?_ (by omega) (by omega)
      obtain rfl := fin1 hx
      exact ⟨rfl, rfl⟩
    · refine mm_if_ge 49 dX12_above_42 (by decide) (fun _ => ?_) (fun h => absurd (lg_ge.mpr (Int64.not_lt.mp h5)) h)
      refine mm_iconst (v := 0) dX12_above_49 (by decide) ?_
      refine mm_iret dX12_above_50 rfl rfl ?_ (by omega) (by omega)
      obtain rfl := fin1 hx
      exact ⟨rfl, rfl⟩
set_option maxHeartbeats 4000000 in
set_option maxRecDepth 100000 in
theorem e_X12_above_11 {g : mm_G} {l : Launch} (hst : l.stackTraces = false) {Z : Nat → Nat → Option Nat} (hZ : HZ Z) {n : Nat} (hn : 1186 ≤ n) {z : Bool} {d : Nat} {v0_ : Int64} {v2_ : Int64} {s0_ : Int32} {σ : SG} {r : Int32} (hx : x_X12_above_11 v0_ v2_ s0_ σ = some r) : mm_V g l RX12 "above" cX12_above 4 (some .boolean) [] (d) 0 0 (mm_nt (fun v S' => v = some (.int r) ∧ S' = (mem Z σ, n, z))) 11 [some (.long v0_), none, some (.long v2_), none] [.int s0_] (mem Z σ, n, z) 0 0 := by
  unfold x_X12_above_11 at hx
  refine mm_lload_n dX12_above_11 rfl ?_
  refine mm_lconst (v := 0) dX12_above_12 (by decide) ?_
  refine mm_lcmp dX12_above_13 ?_
  refine b_if hx (fun h2 hx => ?_) (fun h2 hx => ?_)
  · refine mm_if_ge 21 dX12_above_14 (by decide) (fun h => absurd (lg_ge.mp h) (Int64.not_le.mpr h2)) (fun _ => ?_)
    refine mm_iconst (v := 1) dX12_above_17 (by decide) ?_
    refine mm_goto 22 dX12_above_18 (by decide) ?_
    exact e_X12_above_22 hst hZ hn hx
  · refine mm_if_ge 21 dX12_above_14 (by decide) (fun _ => ?_) (fun h => absurd (lg_ge.mpr (Int64.not_lt.mp h2)) h)
    refine mm_iconst (v := 0) dX12_above_21 (by decide) ?_
    exact e_X12_above_22 hst hZ hn hx
set_option maxHeartbeats 4000000 in
set_option maxRecDepth 100000 in
theorem e_X12_above {g : mm_G} {l : Launch} (hst : l.stackTraces = false) {Z : Nat → Nat → Option Nat} (hZ : HZ Z) {n : Nat} (hn : 1186 ≤ n) {z : Bool} {d : Nat} {p0 : Int64} {p1 : Int64} {σ : SG} {r : Int32} (hx : x_X12_above p0 p1 σ = some r) : mm_Cm g l yX12_above (.code yX12_above cX12_above 4 (some .boolean)) (d) 0 0 [.long p0, .long p1] (mem Z σ, n, z) (fun v S' => v = some (.int r) ∧ S' = (mem Z σ, n, z)) := by
  refine mm_Cm_of hst (by decide) (Nat.le_of_ble_eq_true rfl) ?_
  show mm_V g l RX12 "above" cX12_above 4 (some .boolean) [] (d) 0 0 (mm_nt (fun v S' => v = some (.int r) ∧ S' = (mem Z σ, n, z))) 0 [some (.long p0), none, some (.long p1), none] [] (mem Z σ, n, z) 0 0
  unfold x_X12_above at hx
  refine mm_lload_n dX12_above_0 rfl ?_
  refine mm_lconst (v := 0) dX12_above_1 (by decide) ?_
  refine mm_lcmp dX12_above_2 ?_
  refine b_if hx (fun h1 hx => ?_) (fun h1 hx => ?_)
  · refine mm_if_ge 10 dX12_above_3 (by decide) (fun h => absurd (lg_ge.mp h) (Int64.not_le.mpr h1)) (fun _ => ?_)
    refine mm_iconst (v := 1) dX12_above_6 (by decide) ?_
    refine mm_goto 11 dX12_above_7 (by decide) ?_
    exact e_X12_above_11 hst hZ hn hx
  · refine mm_if_ge 10 dX12_above_3 (by decide) (fun _ => ?_) (fun h => absurd (lg_ge.mpr (Int64.not_lt.mp h1)) h)
    refine mm_iconst (v := 0) dX12_above_10 (by decide) ?_
    exact e_X12_above_11 hst hZ hn hx
set_option maxHeartbeats 4000000 in
set_option maxRecDepth 100000 in
theorem e_X12_addNode {g : mm_G} {l : Launch} (hst : l.stackTraces = false) {Z : Nat → Nat → Option Nat} (hZ : HZ Z) {n : Nat} (hn : 1186 ≤ n) {z : Bool} {d : Nat} {a : Nat} (hs : sh a = 12) {p0 : Int32} {p1 : Int32} {p2 : Int32} {σ : SG} {r : Int32} {σ' : SG} (hx : x_X12_addNode a p0 p1 p2 σ = some (r, σ')) : mm_Cm g l yX12_addNode (.code yX12_addNode cX12_addNode 5 (some .int)) (d) 0 0 [.ref a, .int p0, .int p1, .int p2] (mem Z σ, n, z) (fun v S' => v = some (.int r) ∧ S' = (mem Z σ', n, z)) := by
  refine mm_Cm_of hst (by decide) (Nat.le_of_ble_eq_true rfl) ?_
  show mm_V g l RX12 "addNode" cX12_addNode 5 (some .int) [] (d) 0 0 (mm_nt (fun v S' => v = some (.int r) ∧ S' = (mem Z σ', n, z))) 0 [some (.ref a), some (.int p0), some (.int p1), some (.int p2), none] [] (mem Z σ, n, z) 0 0
  unfold x_X12_addNode at hx
  refine mm_aload_n dX12_addNode_0 rfl rfl ?_
  refine s_getI (r := some a) (b := a) (ci := 12) (k := 81) in_X12 rfl (by decide) rfl kF_X12_593 dX12_addNode_1 rfl hs (by decide) hn (by decide) rfl ?_
  refine mm_istore [some (.ref a), some (.int p0), some (.int p1), some (.int p2), some (.int (sI σ a 81))] dX12_addNode_4 (by decide) rfl ?_
  refine mm_aload_n dX12_addNode_6 rfl rfl ?_
  refine mm_dup dX12_addNode_7 rfl ?_
  refine s_getI (r := some a) (b := a) (ci := 12) (k := 81) in_X12 rfl (by decide) rfl kF_X12_593 dX12_addNode_8 rfl hs (by decide) hn (by decide) rfl ?_
  refine mm_iconst (v := 1) dX12_addNode_11 (by decide) ?_
  refine mm_iadd dX12_addNode_12 ?_
  refine s_putI (v := (sI σ a 81) + 1) (r := some a) (b := a) (ci := 12) (k := 81) in_X12 rfl (by decide) rfl tyX12_ok nmX12 rfl kF_X12_593 dX12_addNode_13 (mm_fit_int _) rfl hs (by decide) hn (by decide) rfl hx (fun σ1 hx => ?_)
  refine mm_aload_n dX12_addNode_16 rfl rfl ?_
  refine s_getS (q := 1160) (r := some a) (b := a) (ci := 12) (k := 86) in_X12 rfl (by decide) rfl kF_X12_190 dX12_addNode_17 rfl hs (by decide) hn (by decide) rfl rfl ?_
  refine mm_iload dX12_addNode_20 rfl ?_
  refine mm_iload_n dX12_addNode_22 rfl ?_
  obtain ⟨j2, hj3, hb4, hl5, hx⟩ := ix_some hx
  refine s_iast (a := 1160) (v := p0) sa_1160 hn hj3 hb4 na_1160 dX12_addNode_23 hx (fun σ6 hx => ?_)
  refine mm_aload_n dX12_addNode_24 rfl rfl ?_
  refine s_getS (q := 1161) (r := some a) (b := a) (ci := 12) (k := 87) in_X12 rfl (by decide) rfl kF_X12_193 dX12_addNode_25 rfl hs (by decide) hn (by decide) rfl rfl ?_
  refine mm_iload dX12_addNode_28 rfl ?_
  refine mm_iload_n dX12_addNode_30 rfl ?_
  obtain ⟨j7, hj8, hb9, hl10, hx⟩ := ix_some hx
  refine s_iast (a := 1161) (v := p1) sa_1161 hn hj8 hb9 na_1161 dX12_addNode_31 hx (fun σ11 hx => ?_)
  refine mm_aload_n dX12_addNode_32 rfl rfl ?_
  refine s_getS (q := 1162) (r := some a) (b := a) (ci := 12) (k := 88) in_X12 rfl (by decide) rfl kF_X12_196 dX12_addNode_33 rfl hs (by decide) hn (by decide) rfl rfl ?_
  refine mm_iload dX12_addNode_36 rfl ?_
  refine mm_iload_n dX12_addNode_38 rfl ?_
  obtain ⟨j12, hj13, hb14, hl15, hx⟩ := ix_some hx
  refine s_iast (a := 1162) (v := p2) sa_1162 hn hj13 hb14 na_1162 dX12_addNode_39 hx (fun σ16 hx => ?_)
  refine mm_iload_n dX12_addNode_40 rfl ?_
  refine mm_aload_n dX12_addNode_41 rfl rfl ?_
  refine s_getI (r := some a) (b := a) (ci := 12) (k := 85) in_X12 rfl (by decide) rfl kF_X12_605 dX12_addNode_42 rfl hs (by decide) hn (by decide) rfl ?_
  refine b_if hx (fun h17 hx => ?_) (fun h17 hx => ?_)
  · refine mm_icmp_le 53 dX12_addNode_45 (by decide) (fun h => absurd h (Int32.not_le.mpr h17)) (fun _ => ?_)
    refine mm_aload_n dX12_addNode_48 rfl rfl ?_
    refine mm_iconst (v := 1) dX12_addNode_49 (by decide) ?_
    refine s_putI (v := 1) (r := some a) (b := a) (ci := 12) (k := 107) in_X12 rfl (by decide) rfl tyX12_ok nmX12 rfl kF_X12_590 dX12_addNode_50 mm_fit_z1 rfl hs (by decide) hn (by decide) rfl hx (fun σ18 hx => ?_)
    refine mm_iload dX12_addNode_53 rfl ?_
    refine mm_iret dX12_addNode_55 rfl rfl ?_ (by omega) (by omega)
    obtain ⟨rfl, rfl⟩ := fin2 hx
    exact ⟨rfl, rfl⟩
  · refine mm_icmp_le 53 dX12_addNode_45 (by decide) (fun _ => ?_) (fun h => absurd (Int32.not_lt.mp h17) h)
    refine mm_iload dX12_addNode_53 rfl ?_
    refine mm_iret dX12_addNode_55 rfl rfl ?_ (by omega) (by omega)
    obtain ⟨rfl, rfl⟩ := fin2 hx
    exact ⟨rfl, rfl⟩
set_option maxHeartbeats 4000000 in
set_option maxRecDepth 100000 in
theorem e_X12_addRow {g : mm_G} {l : Launch} (hst : l.stackTraces = false) {Z : Nat → Nat → Option Nat} (hZ : HZ Z) {n : Nat} (hn : 1186 ≤ n) {z : Bool} {d : Nat} {a : Nat} (hs : sh a = 12) {p0 : Int32} {p1 : Int32} {σ : SG} {r : Int32} {σ' : SG} (hx : x_X12_addRow a p0 p1 σ = some (r, σ')) : mm_Cm g l yX12_addRow (.code yX12_addRow cX12_addRow 4 (some .int)) (d) 0 0 [.ref a, .int p0, .int p1] (mem Z σ, n, z) (fun v S' => v = some (.int r) ∧ S' = (mem Z σ', n, z)) := by
  refine mm_Cm_of hst (by decide) (Nat.le_of_ble_eq_true rfl) ?_
  show mm_V g l RX12 "addRow" cX12_addRow 4 (some .int) [] (d) 0 0 (mm_nt (fun v S' => v = some (.int r) ∧ S' = (mem Z σ', n, z))) 0 [some (.ref a), some (.int p0), some (.int p1), none] [] (mem Z σ, n, z) 0 0
  unfold x_X12_addRow at hx
  refine mm_aload_n dX12_addRow_0 rfl rfl ?_
  refine s_getI (r := some a) (b := a) (ci := 12) (k := 82) in_X12 rfl (by decide) rfl kF_X12_596 dX12_addRow_1 rfl hs (by decide) hn (by decide) rfl ?_
  refine mm_istore_n [some (.ref a), some (.int p0), some (.int p1), some (.int (sI σ a 82))] dX12_addRow_4 (by decide) rfl ?_
  refine mm_aload_n dX12_addRow_5 rfl rfl ?_
  refine mm_dup dX12_addRow_6 rfl ?_
  refine s_getI (r := some a) (b := a) (ci := 12) (k := 82) in_X12 rfl (by decide) rfl kF_X12_596 dX12_addRow_7 rfl hs (by decide) hn (by decide) rfl ?_
  refine mm_iconst (v := 1) dX12_addRow_10 (by decide) ?_
  refine mm_iadd dX12_addRow_11 ?_
  refine s_putI (v := (sI σ a 82) + 1) (r := some a) (b := a) (ci := 12) (k := 82) in_X12 rfl (by decide) rfl tyX12_ok nmX12 rfl kF_X12_596 dX12_addRow_12 (mm_fit_int _) rfl hs (by decide) hn (by decide) rfl hx (fun σ1 hx => ?_)
  refine mm_aload_n dX12_addRow_15 rfl rfl ?_
  refine s_getS (q := 1165) (r := some a) (b := a) (ci := 12) (k := 91) in_X12 rfl (by decide) rfl kF_X12_205 dX12_addRow_16 rfl hs (by decide) hn (by decide) rfl rfl ?_
  refine mm_iload_n dX12_addRow_19 rfl ?_
  refine mm_iload_n dX12_addRow_20 rfl ?_
  obtain ⟨j2, hj3, hb4, hl5, hx⟩ := ix_some hx
  refine s_iast (a := 1165) (v := p0) sa_1165 hn hj3 hb4 na_1165 dX12_addRow_21 hx (fun σ6 hx => ?_)
  refine mm_aload_n dX12_addRow_22 rfl rfl ?_
  refine s_getS (q := 1166) (r := some a) (b := a) (ci := 12) (k := 92) in_X12 rfl (by decide) rfl kF_X12_208 dX12_addRow_23 rfl hs (by decide) hn (by decide) rfl rfl ?_
  refine mm_iload_n dX12_addRow_26 rfl ?_
  refine mm_iload_n dX12_addRow_27 rfl ?_
  obtain ⟨j7, hj8, hb9, hl10, hx⟩ := ix_some hx
  refine s_iast (a := 1166) (v := p1) sa_1166 hn hj8 hb9 na_1166 dX12_addRow_28 hx (fun σ11 hx => ?_)
  refine mm_aload_n dX12_addRow_29 rfl rfl ?_
  refine s_getS (q := 1167) (r := some a) (b := a) (ci := 12) (k := 93) in_X12 rfl (by decide) rfl kF_X12_211 dX12_addRow_30 rfl hs (by decide) hn (by decide) rfl rfl ?_
  refine mm_iload_n dX12_addRow_33 rfl ?_
  refine mm_lconst (v := 0) dX12_addRow_34 (by decide) ?_
  obtain ⟨j12, hj13, hb14, hl15, hx⟩ := ix_some hx
  refine s_last (a := 1167) (v := 0) sa_1167 hn hj13 hb14 na_1167 dX12_addRow_35 hx (fun σ16 hx => ?_)
  refine mm_aload_n dX12_addRow_36 rfl rfl ?_
  refine s_getS (q := 1168) (r := some a) (b := a) (ci := 12) (k := 94) in_X12 rfl (by decide) rfl kF_X12_214 dX12_addRow_37 rfl hs (by decide) hn (by decide) rfl rfl ?_
  refine mm_iload_n dX12_addRow_40 rfl ?_
  refine mm_iconst (v := 0) dX12_addRow_41 (by decide) ?_
  obtain ⟨j17, hj18, hb19, hl20, hx⟩ := ix_some hx
  refine s_iast (a := 1168) (v := 0) sa_1168 hn hj18 hb19 na_1168 dX12_addRow_42 hx (fun σ21 hx => ?_)
  refine mm_aload_n dX12_addRow_43 rfl rfl ?_
  refine s_getS (q := 1169) (r := some a) (b := a) (ci := 12) (k := 95) in_X12 rfl (by decide) rfl kF_X12_217 dX12_addRow_44 rfl hs (by decide) hn (by decide) rfl rfl ?_
  refine mm_iload_n dX12_addRow_47 rfl ?_
  refine mm_iconst (v := 0) dX12_addRow_48 (by decide) ?_
  obtain ⟨j22, hj23, hb24, hl25, hx⟩ := ix_some hx
  refine s_iast (a := 1169) (v := 0) sa_1169 hn hj23 hb24 na_1169 dX12_addRow_49 hx (fun σ26 hx => ?_)
  refine mm_aload_n dX12_addRow_50 rfl rfl ?_
  refine s_getS (q := 1170) (r := some a) (b := a) (ci := 12) (k := 96) in_X12 rfl (by decide) rfl kF_X12_220 dX12_addRow_51 rfl hs (by decide) hn (by decide) rfl rfl ?_
  refine mm_iload_n dX12_addRow_54 rfl ?_
  refine mm_iconst (v := (-1)) dX12_addRow_55 (by decide) ?_
  obtain ⟨j27, hj28, hb29, hl30, hx⟩ := ix_some hx
  refine s_iast (a := 1170) (v := (-1)) sa_1170 hn hj28 hb29 na_1170 dX12_addRow_56 hx (fun σ31 hx => ?_)
  refine mm_aload_n dX12_addRow_57 rfl rfl ?_
  refine s_getS (q := 1171) (r := some a) (b := a) (ci := 12) (k := 97) in_X12 rfl (by decide) rfl kF_X12_223 dX12_addRow_58 rfl hs (by decide) hn (by decide) rfl rfl ?_
  refine mm_iload_n dX12_addRow_61 rfl ?_
  refine mm_iconst (v := 1) dX12_addRow_62 (by decide) ?_
  obtain ⟨j32, hj33, hb34, hl35, hx⟩ := ix_some hx
  refine s_zast (a := 1171) (v := 1) sa_1171 hn hj33 hb34 na_1171 dX12_addRow_63 hx (fun σ36 hx => ?_)
  refine mm_iload_n dX12_addRow_64 rfl ?_
  refine mm_iret dX12_addRow_65 rfl rfl ?_ (by omega) (by omega)
  obtain ⟨rfl, rfl⟩ := fin2 hx
  exact ⟨rfl, rfl⟩
set_option maxHeartbeats 4000000 in
set_option maxRecDepth 100000 in
theorem e_X12_addUnknown_L48 {g : mm_G} {l : Launch} (hst : l.stackTraces = false) {Z : Nat → Nat → Option Nat} (hZ : HZ Z) {n : Nat} (hn : 1186 ≤ n) {z : Bool} {d : Nat} {U : Nat} {a : Nat} (hs : sh a = 12) {v3_ : Int32} {σ' : SG} : ∀ (U1 : Nat) (v4_ : Int32) (σ : SG), x_X12_addUnknown_L48 U a v3_ U1 v4_ σ = some σ' → mm_V g l RX12 "addUnknown" cX12_addUnknown 5 none [] (d) 0 0 (mm_nt (fun v S' => v = none ∧ S' = (mem Z σ', n, z))) 48 [some (.ref a), none, none, some (.int v3_), some (.int v4_)] [] (mem Z σ, n, z) 0 0 := by
  intro U1
  induction U1 with
  | zero => intro v4_ σ hx; exact absurd hx (by simp [x_X12_addUnknown_L48])
  | succ U1 ih =>
    intro v4_ σ hx
    rw [x_X12_addUnknown_L48] at hx
    refine mm_iload dX12_addUnknown_48 rfl ?_
    refine mm_iload_n dX12_addUnknown_50 rfl ?_
    refine b_if hx (fun h17 hx => ?_) (fun h17 hx => ?_)
    · refine mm_icmp_ge 86 dX12_addUnknown_51 (by decide) (fun h => absurd h (Int32.not_le.mpr h17)) (fun _ => ?_)
      refine mm_aload_n dX12_addUnknown_54 rfl rfl ?_
      refine s_getS (q := 1175) (r := some a) (b := a) (ci := 12) (k := 101) in_X12 rfl (by decide) rfl kF_X12_235 dX12_addUnknown_55 rfl hs (by decide) hn (by decide) rfl rfl ?_
      refine mm_aload_n dX12_addUnknown_58 rfl rfl ?_
      refine s_getI (r := some a) (b := a) (ci := 12) (k := 84) in_X12 rfl (by decide) rfl kF_X12_602 dX12_addUnknown_59 rfl hs (by decide) hn (by decide) rfl ?_
      refine mm_aload_n dX12_addUnknown_62 rfl rfl ?_
      refine s_getS (q := 1102) (r := some a) (b := a) (ci := 12) (k := 0) in_X12 rfl (by decide) rfl kF_X12_7 dX12_addUnknown_63 rfl hs (by decide) hn (by decide) rfl rfl ?_
      refine mm_iload dX12_addUnknown_66 rfl ?_
      obtain ⟨j18, hj19, hb20, hl21, hx⟩ := ix_some hx
      refine s_iald (a := 1102) sa_1102 hn hj19 hb20 na_1102 dX12_addUnknown_68 ?_
      obtain ⟨j22, hj23, hb24, hl25, hx⟩ := ix_some hx
      refine s_iast (a := 1175) (v := sI σ 1102 j18) sa_1175 hn hj23 hb24 na_1175 dX12_addUnknown_69 hx (fun σ26 hx => ?_)
      refine mm_aload_n dX12_addUnknown_70 rfl rfl ?_
      refine mm_dup dX12_addUnknown_71 rfl ?_
      refine s_getI (r := some a) (b := a) (ci := 12) (k := 84) in_X12 rfl (by decide) rfl kF_X12_602 dX12_addUnknown_72 rfl hs (by decide) hn (by decide) rfl ?_
      refine mm_iconst (v := 1) dX12_addUnknown_75 (by decide) ?_
      refine mm_iadd dX12_addUnknown_76 ?_
      refine s_putI (v := (sI σ26 a 84) + 1) (r := some a) (b := a) (ci := 12) (k := 84) in_X12 rfl (by decide) rfl tyX12_ok nmX12 rfl kF_X12_602 dX12_addUnknown_77 (mm_fit_int _) rfl hs (by decide) hn (by decide) rfl hx (fun σ27 hx => ?_)
      refine mm_iinc (v := v4_ + 1) [some (.ref a), none, none, some (.int v3_), some (.int (v4_ + 1))] dX12_addUnknown_80 rfl rfl (by decide) rfl ?_
      refine mm_goto 48 dX12_addUnknown_83 (by decide) ?_
      exact ih _ _ hx
    · refine mm_icmp_ge 86 dX12_addUnknown_51 (by decide) (fun _ => ?_) (fun h => absurd (Int32.not_lt.mp h17) h)
      refine mm_vret dX12_addUnknown_86 rfl ?_ (by omega) (by omega)
      obtain rfl := fin1 hx
      exact ⟨rfl, rfl⟩
set_option maxHeartbeats 4000000 in
set_option maxRecDepth 100000 in
theorem e_X12_addUnknown {g : mm_G} {l : Launch} (hst : l.stackTraces = false) {Z : Nat → Nat → Option Nat} (hZ : HZ Z) {n : Nat} (hn : 1186 ≤ n) {z : Bool} {d : Nat} {U : Nat} {a : Nat} (hs : sh a = 12) {p0 : Int32} {p1 : Int32} {p2 : Int32} {σ : SG} {σ' : SG} (hx : x_X12_addUnknown U a p0 p1 p2 σ = some σ') : mm_Cm g l yX12_addUnknown (.code yX12_addUnknown cX12_addUnknown 5 none) (d) 0 0 [.ref a, .int p0, .int p1, .int p2] (mem Z σ, n, z) (fun v S' => v = none ∧ S' = (mem Z σ', n, z)) := by
  refine mm_Cm_of hst (by decide) (Nat.le_of_ble_eq_true rfl) ?_
  show mm_V g l RX12 "addUnknown" cX12_addUnknown 5 none [] (d) 0 0 (mm_nt (fun v S' => v = none ∧ S' = (mem Z σ', n, z))) 0 [some (.ref a), some (.int p0), some (.int p1), some (.int p2), none] [] (mem Z σ, n, z) 0 0
  unfold x_X12_addUnknown at hx
  refine mm_aload_n dX12_addUnknown_0 rfl rfl ?_
  refine s_getS (q := 1172) (r := some a) (b := a) (ci := 12) (k := 98) in_X12 rfl (by decide) rfl kF_X12_226 dX12_addUnknown_1 rfl hs (by decide) hn (by decide) rfl rfl ?_
  refine mm_aload_n dX12_addUnknown_4 rfl rfl ?_
  refine s_getI (r := some a) (b := a) (ci := 12) (k := 83) in_X12 rfl (by decide) rfl kF_X12_599 dX12_addUnknown_5 rfl hs (by decide) hn (by decide) rfl ?_
  refine mm_iload_n dX12_addUnknown_8 rfl ?_
  obtain ⟨j1, hj2, hb3, hl4, hx⟩ := ix_some hx
  refine s_iast (a := 1172) (v := p0) sa_1172 hn hj2 hb3 na_1172 dX12_addUnknown_9 hx (fun σ5 hx => ?_)
  refine mm_aload_n dX12_addUnknown_10 rfl rfl ?_
  refine s_getS (q := 1173) (r := some a) (b := a) (ci := 12) (k := 99) in_X12 rfl (by decide) rfl kF_X12_229 dX12_addUnknown_11 rfl hs (by decide) hn (by decide) rfl rfl ?_
  refine mm_aload_n dX12_addUnknown_14 rfl rfl ?_
  refine s_getI (r := some a) (b := a) (ci := 12) (k := 83) in_X12 rfl (by decide) rfl kF_X12_599 dX12_addUnknown_15 rfl hs (by decide) hn (by decide) rfl ?_
  refine mm_aload_n dX12_addUnknown_18 rfl rfl ?_
  refine s_getI (r := some a) (b := a) (ci := 12) (k := 84) in_X12 rfl (by decide) rfl kF_X12_602 dX12_addUnknown_19 rfl hs (by decide) hn (by decide) rfl ?_
  obtain ⟨j6, hj7, hb8, hl9, hx⟩ := ix_some hx
  refine s_iast (a := 1173) (v := sI σ5 a 84) sa_1173 hn hj7 hb8 na_1173 dX12_addUnknown_22 hx (fun σ10 hx => ?_)
  refine mm_aload_n dX12_addUnknown_23 rfl rfl ?_
  refine s_getS (q := 1174) (r := some a) (b := a) (ci := 12) (k := 100) in_X12 rfl (by decide) rfl kF_X12_232 dX12_addUnknown_24 rfl hs (by decide) hn (by decide) rfl rfl ?_
  refine mm_aload_n dX12_addUnknown_27 rfl rfl ?_
  refine s_getI (r := some a) (b := a) (ci := 12) (k := 83) in_X12 rfl (by decide) rfl kF_X12_599 dX12_addUnknown_28 rfl hs (by decide) hn (by decide) rfl ?_
  refine mm_iload_n dX12_addUnknown_31 rfl ?_
  refine mm_iload_n dX12_addUnknown_32 rfl ?_
  refine mm_isub dX12_addUnknown_33 ?_
  obtain ⟨j11, hj12, hb13, hl14, hx⟩ := ix_some hx
  refine s_iast (a := 1174) (v := p2 - p1) sa_1174 hn hj12 hb13 na_1174 dX12_addUnknown_34 hx (fun σ15 hx => ?_)
  refine mm_aload_n dX12_addUnknown_35 rfl rfl ?_
  refine mm_dup dX12_addUnknown_36 rfl ?_
  refine s_getI (r := some a) (b := a) (ci := 12) (k := 83) in_X12 rfl (by decide) rfl kF_X12_599 dX12_addUnknown_37 rfl hs (by decide) hn (by decide) rfl ?_
  refine mm_iconst (v := 1) dX12_addUnknown_40 (by decide) ?_
  refine mm_iadd dX12_addUnknown_41 ?_
  refine s_putI (v := (sI σ15 a 83) + 1) (r := some a) (b := a) (ci := 12) (k := 83) in_X12 rfl (by decide) rfl tyX12_ok nmX12 rfl kF_X12_599 dX12_addUnknown_42 (mm_fit_int _) rfl hs (by decide) hn (by decide) rfl hx (fun σ16 hx => ?_)
  refine mm_iload_n dX12_addUnknown_45 rfl ?_
  refine mm_istore [some (.ref a), some (.int p0), some (.int p1), some (.int p2), some (.int p1)] dX12_addUnknown_46 (by decide) rfl ?_
  refine mm_fewer [some (.ref a), none, none, some (.int p2), some (.int p1)] (few_ok (bs := [true, false, false, true, true]) rfl) ?_
  refine e_X12_addUnknown_L48 hst hZ hn hs _ _ _ hx
set_option maxHeartbeats 4000000 in
set_option maxRecDepth 100000 in
theorem e_X12_byteAt {g : mm_G} {l : Launch} (hst : l.stackTraces = false) {Z : Nat → Nat → Option Nat} (hZ : HZ Z) {n : Nat} (hn : 1186 ≤ n) {z : Bool} {d : Nat} {a : Nat} (hs : sh a = 12) {p0 : Int32} {σ : SG} {r : Int32} (hx : x_X12_byteAt a p0 σ = some r) : mm_Cm g l yX12_byteAt (.code yX12_byteAt cX12_byteAt 2 (some .int)) (d) 0 0 [.ref a, .int p0] (mem Z σ, n, z) (fun v S' => v = some (.int r) ∧ S' = (mem Z σ, n, z)) := by
  refine mm_Cm_of hst (by decide) (Nat.le_of_ble_eq_true rfl) ?_
  show mm_V g l RX12 "byteAt" cX12_byteAt 2 (some .int) [] (d) 0 0 (mm_nt (fun v S' => v = some (.int r) ∧ S' = (mem Z σ, n, z))) 0 [some (.ref a), some (.int p0)] [] (mem Z σ, n, z) 0 0
  unfold x_X12_byteAt at hx
  refine mm_iload_n dX12_byteAt_0 rfl ?_
  refine mm_aload_n dX12_byteAt_1 rfl rfl ?_
  refine s_getI (r := some a) (b := a) (ci := 12) (k := 73) in_X12 rfl (by decide) rfl kF_X12_274 dX12_byteAt_2 rfl hs (by decide) hn (by decide) rfl ?_
  refine b_if hx (fun h1 hx => ?_) (fun h1 hx => ?_)
  · refine mm_icmp_ge 17 dX12_byteAt_5 (by decide) (fun h => absurd h (Int32.not_le.mpr h1)) (fun _ => ?_)
    refine mm_aload_n dX12_byteAt_8 rfl rfl ?_
    refine s_getS (q := 1102) (r := some a) (b := a) (ci := 12) (k := 0) in_X12 rfl (by decide) rfl kF_X12_7 dX12_byteAt_9 rfl hs (by decide) hn (by decide) rfl rfl ?_
    refine mm_iload_n dX12_byteAt_12 rfl ?_
    obtain ⟨j2, hj3, hb4, hl5, hx⟩ := ix_some hx
    refine s_iald (a := 1102) sa_1102 hn hj3 hb4 na_1102 dX12_byteAt_13 ?_
    refine mm_goto 18 dX12_byteAt_14 (by decide) ?_
    refine mm_iret dX12_byteAt_18 rfl rfl ?_ (by omega) (by omega)
    obtain rfl := fin1 hx
    exact ⟨rfl, rfl⟩
  · refine mm_icmp_ge 17 dX12_byteAt_5 (by decide) (fun _ => ?_) (fun h => absurd (Int32.not_lt.mp h1) h)
    refine mm_iconst (v := (-1)) dX12_byteAt_17 (by decide) ?_
    refine mm_iret dX12_byteAt_18 rfl rfl ?_ (by omega) (by omega)
    obtain rfl := fin1 hx
    exact ⟨rfl, rfl⟩
set_option maxHeartbeats 4000000 in
set_option maxRecDepth 100000 in
theorem e_X12_isBlank {g : mm_G} {l : Launch} (hst : l.stackTraces = false) {Z : Nat → Nat → Option Nat} (hZ : HZ Z) {n : Nat} (hn : 1186 ≤ n) {z : Bool} {d : Nat} {p0 : Int32} {σ : SG} {r : Int32} (hx : x_X12_isBlank p0 = some r) : mm_Cm g l yX12_isBlank (.code yX12_isBlank cX12_isBlank 1 (some .boolean)) (d) 0 0 [.int p0] (mem Z σ, n, z) (fun v S' => v = some (.int r) ∧ S' = (mem Z σ, n, z)) := by
  refine mm_Cm_of hst (by decide) (Nat.le_of_ble_eq_true rfl) ?_
  show mm_V g l RX12 "isBlank" cX12_isBlank 1 (some .boolean) [] (d) 0 0 (mm_nt (fun v S' => v = some (.int r) ∧ S' = (mem Z σ, n, z))) 0 [some (.int p0)] [] (mem Z σ, n, z) 0 0
  unfold x_X12_isBlank at hx
  refine mm_iload_n dX12_isBlank_0 rfl ?_
  refine mm_bipush (v := 9) dX12_isBlank_1 (by decide) ?_
  refine b_if hx (fun h1 hx => ?_) (fun h1 hx => ?_)
  · refine mm_icmp_eq 24 dX12_isBlank_3 (by decide) (fun _ => ?_) (fun h => absurd h1 h)
    refine mm_iconst (v := 1) dX12_isBlank_24 (by decide) ?_
    refine mm_goto 29 dX12_isBlank_25 (by decide) ?_
    refine mm_iret dX12_isBlank_29 rfl rfl ?_ (by omega) (by omega)
    obtain rfl := fin1 hx
    exact ⟨rfl, rfl⟩
  · refine mm_icmp_eq 24 dX12_isBlank_3 (by decide) (fun h => absurd h h1) (fun _ => ?_)
    refine mm_iload_n dX12_isBlank_6 rfl ?_
    refine mm_bipush (v := 10) dX12_isBlank_7 (by decide) ?_
    refine b_if hx (fun h2 hx => ?_) (fun h2 hx => ?_)
    · refine mm_icmp_eq 24 dX12_isBlank_9 (by decide) (fun _ => ?_) (fun h => absurd h2 h)
      refine mm_iconst (v := 1) dX12_isBlank_24 (by decide) ?_
      refine mm_goto 29 dX12_isBlank_25 (by decide) ?_
      refine mm_iret dX12_isBlank_29 rfl rfl ?_ (by omega) (by omega)
      obtain rfl := fin1 hx
      exact ⟨rfl, rfl⟩
    · refine mm_icmp_eq 24 dX12_isBlank_9 (by decide) (fun h => absurd h h2) (fun _ => ?_)
      refine mm_iload_n dX12_isBlank_12 rfl ?_
      refine mm_bipush (v := 13) dX12_isBlank_13 (by decide) ?_
      refine b_if hx (fun h3 hx => ?_) (fun h3 hx => ?_)
      · refine mm_icmp_eq 24 dX12_isBlank_15 (by decide) (fun _ => ?_) (fun h => absurd h3 h)
        refine mm_iconst (v := 1) dX12_isBlank_24 (by decide) ?_
        refine mm_goto 29 dX12_isBlank_25 (by decide) ?_
        refine mm_iret dX12_isBlank_29 rfl rfl ?_ (by omega) (by omega)
        obtain rfl := fin1 hx
        exact ⟨rfl, rfl⟩
      · refine mm_icmp_eq 24 dX12_isBlank_15 (by decide) (fun h => absurd h h3) (fun _ => ?_)
        refine mm_iload_n dX12_isBlank_18 rfl ?_
        refine mm_bipush (v := 32) dX12_isBlank_19 (by decide) ?_
        refine b_if hx (fun h4 hx => ?_) (fun h4 hx => ?_)
        · refine mm_icmp_ne 28 dX12_isBlank_21 (by decide) (fun h => absurd h4 h) (fun _ => ?_)
          refine mm_iconst (v := 1) dX12_isBlank_24 (by decide) ?_
          refine mm_goto 29 dX12_isBlank_25 (by decide) ?_
          refine mm_iret dX12_isBlank_29 rfl rfl ?_ (by omega) (by omega)
          obtain rfl := fin1 hx
          exact ⟨rfl, rfl⟩
        · refine mm_icmp_ne 28 dX12_isBlank_21 (by decide) (fun _ => ?_) (fun h => absurd h h4)
          refine mm_iconst (v := 0) dX12_isBlank_28 (by decide) ?_
          refine mm_iret dX12_isBlank_29 rfl rfl ?_ (by omega) (by omega)
          obtain rfl := fin1 hx
          exact ⟨rfl, rfl⟩
set_option maxHeartbeats 4000000 in
set_option maxRecDepth 100000 in
theorem e_X12_behindComment_L28 {g : mm_G} {l : Launch} (hst : l.stackTraces = false) {Z : Nat → Nat → Option Nat} (hZ : HZ Z) {n : Nat} (hn : 1186 ≤ n) {z : Bool} {d : Nat} {U : Nat} {a : Nat} (hs : sh a = 12) {σ : SG} {r : Int32} {σ' : SG} : ∀ (U1 : Nat) (v2_ : Int32), x_X12_behindComment_L28 U a σ U1 v2_ = some (r, σ') → mm_V g l RX12 "behindComment" cX12_behindComment 3 (some .int) [] (d + 1) 0 0 (mm_nt (fun v S' => v = some (.int r) ∧ S' = (mem Z σ', n, z))) 28 [some (.ref a), none, some (.int v2_)] [] (mem Z σ, n, z) 0 0 := by
  intro U1
  induction U1 with
  | zero => intro v2_ hx; exact absurd hx (by simp [x_X12_behindComment_L28])
  | succ U1 ih =>
    intro v2_ hx
    rw [x_X12_behindComment_L28] at hx
    refine mm_iload_n dX12_behindComment_28 rfl ?_
    refine mm_aload_n dX12_behindComment_29 rfl rfl ?_
    refine s_getI (r := some a) (b := a) (ci := 12) (k := 73) in_X12 rfl (by decide) rfl kF_X12_274 dX12_behindComment_30 rfl hs (by decide) hn (by decide) rfl ?_
    refine b_if hx (fun h7 hx => ?_) (fun h7 hx => ?_)
    · refine mm_icmp_ge 52 dX12_behindComment_33 (by decide) (fun h => absurd h (Int32.not_le.mpr h7)) (fun _ => ?_)
      refine mm_aload_n dX12_behindComment_36 rfl rfl ?_
      refine mm_iload_n dX12_behindComment_37 rfl ?_
      obtain ⟨v9, hc8, hx⟩ := b1_some hx
      refine mm_callV3 (a := a) (ci := 12) wM_X12_byteAt kM_X12_284 wI_X12_byteAt wS_X12_byteAt dX12_behindComment_38 (e_X12_byteAt hst hZ hn hs hc8) (mem_obj hs (by decide)) (sh_ltn hs (by decide) hn) rfl rfl rfl (Nat.le_of_ble_eq_true rfl) (by omega) (by omega) (fun v9 S9 hq => ?_)
      obtain ⟨rfl, rfl⟩ := hq
      refine ⟨fun h => ⟨h, rfl⟩, ?_⟩
      refine mm_bipush (v := 10) dX12_behindComment_41 (by decide) ?_
      refine b_if hx (fun h10 hx => ?_) (fun h10 hx => ?_)
      · refine mm_icmp_eq 52 dX12_behindComment_43 (by decide) (fun _ => ?_) (fun h => absurd h10 h)
        refine mm_iload_n dX12_behindComment_52 rfl ?_
        refine mm_iret dX12_behindComment_53 rfl rfl ?_ (by omega) (by omega)
        obtain ⟨rfl, rfl⟩ := fin2 hx
        exact ⟨rfl, rfl⟩
      · refine mm_icmp_eq 52 dX12_behindComment_43 (by decide) (fun h => absurd h h10) (fun _ => ?_)
        refine mm_iinc (v := v2_ + 1) [some (.ref a), none, some (.int (v2_ + 1))] dX12_behindComment_46 rfl rfl (by decide) rfl ?_
        refine mm_goto 28 dX12_behindComment_49 (by decide) ?_
        exact ih _ hx
    · refine mm_icmp_ge 52 dX12_behindComment_33 (by decide) (fun _ => ?_) (fun h => absurd (Int32.not_lt.mp h7) h)
      refine mm_iload_n dX12_behindComment_52 rfl ?_
      refine mm_iret dX12_behindComment_53 rfl rfl ?_ (by omega) (by omega)
      obtain ⟨rfl, rfl⟩ := fin2 hx
      exact ⟨rfl, rfl⟩
set_option maxHeartbeats 4000000 in
set_option maxRecDepth 100000 in
theorem e_X12_behindComment_100 {g : mm_G} {l : Launch} (hst : l.stackTraces = false) {Z : Nat → Nat → Option Nat} (hZ : HZ Z) {n : Nat} (hn : 1186 ≤ n) {z : Bool} {d : Nat} {U : Nat} {a : Nat} (hs : sh a = 12) {k68 : Int32 → Option (Int32 × SG)} {k106 : Int32 → Option (Int32 × SG)} {v2_ : Int32} {σ : SG} {r : Int32} {σ' : SG} (hk68 : ∀ (v2_ : Int32), k68 v2_ = some (r, σ') → mm_V g l RX12 "behindComment" cX12_behindComment 3 (some .int) [] (d + 1) 0 0 (mm_nt (fun v S' => v = some (.int r) ∧ S' = (mem Z σ', n, z))) 68 [some (.ref a), none, some (.int v2_)] [] (mem Z σ, n, z) 0 0) (hk106 : ∀ (v2_ : Int32), k106 v2_ = some (r, σ') → mm_V g l RX12 "behindComment" cX12_behindComment 3 (some .int) [] (d + 1) 0 0 (mm_nt (fun v S' => v = some (.int r) ∧ S' = (mem Z σ', n, z))) 106 [some (.ref a), none, some (.int v2_)] [] (mem Z σ, n, z) 0 0) (hx : x_X12_behindComment_100 U a k68 k106 v2_ σ = some (r, σ')) : mm_V g l RX12 "behindComment" cX12_behindComment 3 (some .int) [] (d + 1) 0 0 (mm_nt (fun v S' => v = some (.int r) ∧ S' = (mem Z σ', n, z))) 100 [some (.ref a), none, some (.int v2_)] [] (mem Z σ, n, z) 0 0 := by
  unfold x_X12_behindComment_100 at hx
  refine mm_iinc (v := v2_ + 1) [some (.ref a), none, some (.int (v2_ + 1))] dX12_behindComment_100 rfl rfl (by decide) rfl ?_
  refine mm_goto 68 dX12_behindComment_103 (by decide) ?_
  exact hk68 _ hx
set_option maxHeartbeats 4000000 in
set_option maxRecDepth 100000 in
theorem e_X12_behindComment_L68 {g : mm_G} {l : Launch} (hst : l.stackTraces = false) {Z : Nat → Nat → Option Nat} (hZ : HZ Z) {n : Nat} (hn : 1186 ≤ n) {z : Bool} {d : Nat} {U : Nat} {a : Nat} (hs : sh a = 12) {k106 : Int32 → Option (Int32 × SG)} {σ : SG} {r : Int32} {σ' : SG} (hk106 : ∀ (v2_ : Int32), k106 v2_ = some (r, σ') → mm_V g l RX12 "behindComment" cX12_behindComment 3 (some .int) [] (d + 1) 0 0 (mm_nt (fun v S' => v = some (.int r) ∧ S' = (mem Z σ', n, z))) 106 [some (.ref a), none, some (.int v2_)] [] (mem Z σ, n, z) 0 0) : ∀ (U1 : Nat) (v2_ : Int32), x_X12_behindComment_L68 U a k106 σ U1 v2_ = some (r, σ') → mm_V g l RX12 "behindComment" cX12_behindComment 3 (some .int) [] (d + 1) 0 0 (mm_nt (fun v S' => v = some (.int r) ∧ S' = (mem Z σ', n, z))) 68 [some (.ref a), none, some (.int v2_)] [] (mem Z σ, n, z) 0 0 := by
  intro U1
  induction U1 with
  | zero => intro v2_ hx; exact absurd hx (by simp [x_X12_behindComment_L68])
  | succ U1 ih =>
    intro v2_ hx
    rw [x_X12_behindComment_L68] at hx
    refine mm_iload_n dX12_behindComment_68 rfl ?_
    refine mm_iconst (v := 1) dX12_behindComment_69 (by decide) ?_
    refine mm_iadd dX12_behindComment_70 ?_
    refine mm_aload_n dX12_behindComment_71 rfl rfl ?_
    refine s_getI (r := some a) (b := a) (ci := 12) (k := 73) in_X12 rfl (by decide) rfl kF_X12_274 dX12_behindComment_72 rfl hs (by decide) hn (by decide) rfl ?_
    refine b_if hx (fun h14 hx => ?_) (fun h14 hx => ?_)
    · refine mm_icmp_ge 106 dX12_behindComment_75 (by decide) (fun h => absurd h (Int32.not_le.mpr h14)) (fun _ => ?_)
      refine mm_aload_n dX12_behindComment_78 rfl rfl ?_
      refine mm_iload_n dX12_behindComment_79 rfl ?_
      obtain ⟨v16, hc15, hx⟩ := b1_some hx
      refine mm_callV3 (a := a) (ci := 12) wM_X12_byteAt kM_X12_284 wI_X12_byteAt wS_X12_byteAt dX12_behindComment_80 (e_X12_byteAt hst hZ hn hs hc15) (mem_obj hs (by decide)) (sh_ltn hs (by decide) hn) rfl rfl rfl (Nat.le_of_ble_eq_true rfl) (by omega) (by omega) (fun v9 S9 hq => ?_)
      obtain ⟨rfl, rfl⟩ := hq
      refine ⟨fun h => ⟨h, rfl⟩, ?_⟩
      refine mm_bipush (v := 42) dX12_behindComment_83 (by decide) ?_
      refine b_if hx (fun h17 hx => ?_) (fun h17 hx => ?_)
      · refine mm_icmp_ne 100 dX12_behindComment_85 (by decide) (fun h => absurd h17 h) (fun _ => ?_)
        refine mm_aload_n dX12_behindComment_88 rfl rfl ?_
        refine mm_iload_n dX12_behindComment_89 rfl ?_
        refine mm_iconst (v := 1) dX12_behindComment_90 (by decide) ?_
        refine mm_iadd dX12_behindComment_91 ?_
        obtain ⟨v19, hc18, hx⟩ := b1_some hx
        refine mm_callV3 (a := a) (ci := 12) wM_X12_byteAt kM_X12_284 wI_X12_byteAt wS_X12_byteAt dX12_behindComment_92 (e_X12_byteAt hst hZ hn hs hc18) (mem_obj hs (by decide)) (sh_ltn hs (by decide) hn) rfl rfl rfl (Nat.le_of_ble_eq_true rfl) (by omega) (by omega) (fun v9 S9 hq => ?_)
        obtain ⟨rfl, rfl⟩ := hq
        refine ⟨fun h => ⟨h, rfl⟩, ?_⟩
        refine mm_bipush (v := 47) dX12_behindComment_95 (by decide) ?_
        refine b_if hx (fun h20 hx => ?_) (fun h20 hx => ?_)
        · refine mm_icmp_eq 106 dX12_behindComment_97 (by decide) (fun _ => ?_) (fun h => absurd h20 h)
          exact hk106 _ hx
        · refine mm_icmp_eq 106 dX12_behindComment_97 (by decide) (fun h => absurd h h20) (fun _ => ?_)
          exact e_X12_behindComment_100 hst hZ hn hs ih hk106 hx
      · refine mm_icmp_ne 100 dX12_behindComment_85 (by decide) (fun _ => ?_) (fun h => absurd h h17)
        exact e_X12_behindComment_100 hst hZ hn hs ih hk106 hx
    · refine mm_icmp_ge 106 dX12_behindComment_75 (by decide) (fun _ => ?_) (fun h => absurd (Int32.not_lt.mp h14) h)
      exact hk106 _ hx
set_option maxHeartbeats 4000000 in
set_option maxRecDepth 100000 in
theorem e_X12_behindComment_121 {g : mm_G} {l : Launch} (hst : l.stackTraces = false) {Z : Nat → Nat → Option Nat} (hZ : HZ Z) {n : Nat} (hn : 1186 ≤ n) {z : Bool} {d : Nat} {U : Nat} {a : Nat} (hs : sh a = 12) {v2_ : Int32} {σ : SG} {r : Int32} {σ' : SG} (hx : x_X12_behindComment_121 U a v2_ σ = some (r, σ')) : mm_V g l RX12 "behindComment" cX12_behindComment 3 (some .int) [] (d + 1) 0 0 (mm_nt (fun v S' => v = some (.int r) ∧ S' = (mem Z σ', n, z))) 121 [some (.ref a), none, some (.int v2_)] [] (mem Z σ, n, z) 0 0 := by
  unfold x_X12_behindComment_121 at hx
  refine mm_iload_n dX12_behindComment_121 rfl ?_
  refine mm_iconst (v := 1) dX12_behindComment_122 (by decide) ?_
  refine mm_iadd dX12_behindComment_123 ?_
  refine mm_aload_n dX12_behindComment_124 rfl rfl ?_
  refine s_getI (r := some a) (b := a) (ci := 12) (k := 73) in_X12 rfl (by decide) rfl kF_X12_274 dX12_behindComment_125 rfl hs (by decide) hn (by decide) rfl ?_
  refine b_if hx (fun h23 hx => ?_) (fun h23 hx => ?_)
  · refine mm_icmp_ge 137 dX12_behindComment_128 (by decide) (fun h => absurd h (Int32.not_le.mpr h23)) (fun _ => ?_)
    refine mm_iload_n dX12_behindComment_131 rfl ?_
    refine mm_iconst (v := 2) dX12_behindComment_132 (by decide) ?_
    refine mm_iadd dX12_behindComment_133 ?_
    refine mm_goto 141 dX12_behindComment_134 (by decide) ?_
    refine mm_iret dX12_behindComment_141 rfl rfl ?_ (by omega) (by omega)
    obtain ⟨rfl, rfl⟩ := fin2 hx
    exact ⟨rfl, rfl⟩
  · refine mm_icmp_ge 137 dX12_behindComment_128 (by decide) (fun _ => ?_) (fun h => absurd (Int32.not_lt.mp h23) h)
    refine mm_aload_n dX12_behindComment_137 rfl rfl ?_
    refine s_getI (r := some a) (b := a) (ci := 12) (k := 73) in_X12 rfl (by decide) rfl kF_X12_274 dX12_behindComment_138 rfl hs (by decide) hn (by decide) rfl ?_
    refine mm_iret dX12_behindComment_141 rfl rfl ?_ (by omega) (by omega)
    obtain ⟨rfl, rfl⟩ := fin2 hx
    exact ⟨rfl, rfl⟩
set_option maxHeartbeats 4000000 in
set_option maxRecDepth 100000 in
theorem e_X12_behindComment_106 {g : mm_G} {l : Launch} (hst : l.stackTraces = false) {Z : Nat → Nat → Option Nat} (hZ : HZ Z) {n : Nat} (hn : 1186 ≤ n) {z : Bool} {d : Nat} {U : Nat} {a : Nat} (hs : sh a = 12) {v2_ : Int32} {σ : SG} {r : Int32} {σ' : SG} (hx : x_X12_behindComment_106 U a v2_ σ = some (r, σ')) : mm_V g l RX12 "behindComment" cX12_behindComment 3 (some .int) [] (d + 1) 0 0 (mm_nt (fun v S' => v = some (.int r) ∧ S' = (mem Z σ', n, z))) 106 [some (.ref a), none, some (.int v2_)] [] (mem Z σ, n, z) 0 0 := by
  unfold x_X12_behindComment_106 at hx
  refine mm_iload_n dX12_behindComment_106 rfl ?_
  refine mm_iconst (v := 1) dX12_behindComment_107 (by decide) ?_
  refine mm_iadd dX12_behindComment_108 ?_
  refine mm_aload_n dX12_behindComment_109 rfl rfl ?_
  refine s_getI (r := some a) (b := a) (ci := 12) (k := 73) in_X12 rfl (by decide) rfl kF_X12_274 dX12_behindComment_110 rfl hs (by decide) hn (by decide) rfl ?_
  refine b_if hx (fun h22 hx => ?_) (fun h22 hx => ?_)
  · refine mm_icmp_lt 121 dX12_behindComment_113 (by decide) (fun _ => ?_) (fun h => absurd h22 h)
    exact e_X12_behindComment_121 hst hZ hn hs hx
  · refine mm_icmp_lt 121 dX12_behindComment_113 (by decide) (fun h => absurd h h22) (fun _ => ?_)
    refine mm_aload_n dX12_behindComment_116 rfl rfl ?_
    refine mm_iconst (v := 1) dX12_behindComment_117 (by decide) ?_
    refine s_putI (v := 1) (r := some a) (b := a) (ci := 12) (k := 76) in_X12 rfl (by decide) rfl tyX12_ok nmX12 rfl kF_X12_288 dX12_behindComment_118 mm_fit_z1 rfl hs (by decide) hn (by decide) rfl hx (fun σ24 hx => ?_)
    exact e_X12_behindComment_121 hst hZ hn hs hx
set_option maxHeartbeats 4000000 in
set_option maxRecDepth 100000 in
theorem e_X12_behindComment {g : mm_G} {l : Launch} (hst : l.stackTraces = false) {Z : Nat → Nat → Option Nat} (hZ : HZ Z) {n : Nat} (hn : 1186 ≤ n) {z : Bool} {d : Nat} {U : Nat} {a : Nat} (hs : sh a = 12) {p0 : Int32} {σ : SG} {r : Int32} {σ' : SG} (hx : x_X12_behindComment U a p0 σ = some (r, σ')) : mm_Cm g l yX12_behindComment (.code yX12_behindComment cX12_behindComment 3 (some .int)) (d + 1) 0 0 [.ref a, .int p0] (mem Z σ, n, z) (fun v S' => v = some (.int r) ∧ S' = (mem Z σ', n, z)) := by
  refine mm_Cm_of hst (by decide) (Nat.le_of_ble_eq_true rfl) ?_
  show mm_V g l RX12 "behindComment" cX12_behindComment 3 (some .int) [] (d + 1) 0 0 (mm_nt (fun v S' => v = some (.int r) ∧ S' = (mem Z σ', n, z))) 0 [some (.ref a), some (.int p0), none] [] (mem Z σ, n, z) 0 0
  unfold x_X12_behindComment at hx
  refine mm_aload_n dX12_behindComment_0 rfl rfl ?_
  refine mm_iload_n dX12_behindComment_1 rfl ?_
  obtain ⟨v2, hc1, hx⟩ := b1_some hx
  refine mm_callV3 (a := a) (ci := 12) wM_X12_byteAt kM_X12_284 wI_X12_byteAt wS_X12_byteAt dX12_behindComment_2 (e_X12_byteAt hst hZ hn hs hc1) (mem_obj hs (by decide)) (sh_ltn hs (by decide) hn) rfl rfl rfl (Nat.le_of_ble_eq_true rfl) (by omega) (by omega) (fun v9 S9 hq => ?_)
  obtain ⟨rfl, rfl⟩ := hq
  refine ⟨fun h => ⟨h, rfl⟩, ?_⟩
  refine mm_bipush (v := 47) dX12_behindComment_5 (by decide) ?_
  refine b_if hx (fun h3 hx => ?_) (fun h3 hx => ?_)
  · refine mm_icmp_eq 12 dX12_behindComment_7 (by decide) (fun _ => ?_) (fun h => absurd h3 h)
    refine mm_iload_n dX12_behindComment_12 rfl ?_
    refine mm_iconst (v := 2) dX12_behindComment_13 (by decide) ?_
    refine mm_iadd dX12_behindComment_14 ?_
    refine mm_istore_n [some (.ref a), some (.int p0), some (.int (p0 + 2))] dX12_behindComment_15 (by decide) rfl ?_
    refine mm_aload_n dX12_behindComment_16 rfl rfl ?_
    refine mm_iload_n dX12_behindComment_17 rfl ?_
    refine mm_iconst (v := 1) dX12_behindComment_18 (by decide) ?_
    refine mm_iadd dX12_behindComment_19 ?_
    obtain ⟨v5, hc4, hx⟩ := b1_some hx
    refine mm_callV3 (a := a) (ci := 12) wM_X12_byteAt kM_X12_284 wI_X12_byteAt wS_X12_byteAt dX12_behindComment_20 (e_X12_byteAt hst hZ hn hs hc4) (mem_obj hs (by decide)) (sh_ltn hs (by decide) hn) rfl rfl rfl (Nat.le_of_ble_eq_true rfl) (by omega) (by omega) (fun v9 S9 hq => ?_)
    obtain ⟨rfl, rfl⟩ := hq
    refine ⟨fun h => ⟨h, rfl⟩, ?_⟩
    refine mm_bipush (v := 47) dX12_behindComment_23 (by decide) ?_
    refine b_if hx (fun h6 hx => ?_) (fun h6 hx => ?_)
    · refine mm_icmp_ne 54 dX12_behindComment_25 (by decide) (fun h => absurd h6 h) (fun _ => ?_)
      refine mm_fewer [some (.ref a), none, some (.int (p0 + 2))] (few_ok (bs := [true, false, true]) rfl) ?_
      refine e_X12_behindComment_L28 hst hZ hn hs _ _ hx
    · refine mm_icmp_ne 54 dX12_behindComment_25 (by decide) (fun _ => ?_) (fun h => absurd h h6)
      refine mm_aload_n dX12_behindComment_54 rfl rfl ?_
      refine mm_iload_n dX12_behindComment_55 rfl ?_
      refine mm_iconst (v := 1) dX12_behindComment_56 (by decide) ?_
      refine mm_iadd dX12_behindComment_57 ?_
      obtain ⟨v12, hc11, hx⟩ := b1_some hx
      refine mm_callV3 (a := a) (ci := 12) wM_X12_byteAt kM_X12_284 wI_X12_byteAt wS_X12_byteAt dX12_behindComment_58 (e_X12_byteAt hst hZ hn hs hc11) (mem_obj hs (by decide)) (sh_ltn hs (by decide) hn) rfl rfl rfl (Nat.le_of_ble_eq_true rfl) (by omega) (by omega) (fun v9 S9 hq => ?_)
      obtain ⟨rfl, rfl⟩ := hq
      refine ⟨fun h => ⟨h, rfl⟩, ?_⟩
      refine mm_bipush (v := 42) dX12_behindComment_61 (by decide) ?_
      refine b_if hx (fun h13 hx => ?_) (fun h13 hx => ?_)
      · refine mm_icmp_eq 68 dX12_behindComment_63 (by decide) (fun _ => ?_) (fun h => absurd h13 h)
        refine mm_fewer [some (.ref a), none, some (.int (p0 + 2))] (few_ok (bs := [true, false, true]) rfl) ?_
        refine e_X12_behindComment_L68 hst hZ hn hs ?_ _ _ hx
        · intro w21 hx
          exact e_X12_behindComment_106 hst hZ hn hs hx
      · refine mm_icmp_eq 68 dX12_behindComment_63 (by decide) (fun h => absurd h h13) (fun _ => ?_)
        refine mm_iload_n dX12_behindComment_66 rfl ?_
        refine mm_iret dX12_behindComment_67 rfl rfl ?_ (by omega) (by omega)
        obtain ⟨rfl, rfl⟩ := fin2 hx
        exact ⟨rfl, rfl⟩
  · refine mm_icmp_eq 12 dX12_behindComment_7 (by decide) (fun h => absurd h h3) (fun _ => ?_)
    refine mm_iload_n dX12_behindComment_10 rfl ?_
    refine mm_iret dX12_behindComment_11 rfl rfl ?_ (by omega) (by omega)
    obtain ⟨rfl, rfl⟩ := fin2 hx
    exact ⟨rfl, rfl⟩
set_option maxHeartbeats 4000000 in
set_option maxRecDepth 100000 in
theorem e_X12_behindBlanks_43 {g : mm_G} {l : Launch} (hst : l.stackTraces = false) {Z : Nat → Nat → Option Nat} (hZ : HZ Z) {n : Nat} (hn : 1186 ≤ n) {z : Bool} {d : Nat} {U : Nat} {a : Nat} (hs : sh a = 12) {k4 : Int32 → Int32 → SG → Option (Int32 × SG)} {v4_ : Int32} {s0_ : Int32} {σ : SG} {r : Int32} {σ' : SG} (hk4 : ∀ (v2_ : Int32) (v3_ : Int32) (σ8 : SG), k4 v2_ v3_ σ8 = some (r, σ') → mm_V g l RX12 "behindBlanks" cX12_behindBlanks 5 (some .int) [] (d + 2) 0 0 (mm_nt (fun v S' => v = some (.int r) ∧ S' = (mem Z σ', n, z))) 4 [some (.ref a), none, some (.int v2_), some (.int v3_), none] [] (mem Z σ8, n, z) 0 0) (hx : x_X12_behindBlanks_43 U a k4 v4_ s0_ σ = some (r, σ')) : mm_V g l RX12 "behindBlanks" cX12_behindBlanks 5 (some .int) [] (d + 2) 0 0 (mm_nt (fun v S' => v = some (.int r) ∧ S' = (mem Z σ', n, z))) 43 [some (.ref a), none, none, none, some (.int v4_)] [.int s0_] (mem Z σ, n, z) 0 0 := by
  unfold x_X12_behindBlanks_43 at hx
  refine mm_istore_n [some (.ref a), none, none, some (.int s0_), some (.int v4_)] dX12_behindBlanks_43 (by decide) rfl ?_
  refine mm_iload dX12_behindBlanks_44 rfl ?_
  refine mm_istore_n [some (.ref a), none, some (.int v4_), some (.int s0_), some (.int v4_)] dX12_behindBlanks_46 (by decide) rfl ?_
  refine mm_goto 4 dX12_behindBlanks_47 (by decide) ?_
  refine mm_fewer [some (.ref a), none, some (.int v4_), some (.int s0_), none] (few_ok (bs := [true, false, true, true, false]) rfl) ?_
  exact hk4 _ _ _ hx
set_option maxHeartbeats 4000000 in
set_option maxRecDepth 100000 in
theorem e_X12_behindBlanks_30 {g : mm_G} {l : Launch} (hst : l.stackTraces = false) {Z : Nat → Nat → Option Nat} (hZ : HZ Z) {n : Nat} (hn : 1186 ≤ n) {z : Bool} {d : Nat} {U : Nat} {a : Nat} (hs : sh a = 12) {k4 : Int32 → Int32 → SG → Option (Int32 × SG)} {v2_ : Int32} {s0_ : Int32} {σ : SG} {r : Int32} {σ' : SG} (hk4 : ∀ (v2_ : Int32) (v3_ : Int32) (σ8 : SG), k4 v2_ v3_ σ8 = some (r, σ') → mm_V g l RX12 "behindBlanks" cX12_behindBlanks 5 (some .int) [] (d + 2) 0 0 (mm_nt (fun v S' => v = some (.int r) ∧ S' = (mem Z σ', n, z))) 4 [some (.ref a), none, some (.int v2_), some (.int v3_), none] [] (mem Z σ8, n, z) 0 0) (hx : x_X12_behindBlanks_30 U a k4 v2_ s0_ σ = some (r, σ')) : mm_V g l RX12 "behindBlanks" cX12_behindBlanks 5 (some .int) [] (d + 2) 0 0 (mm_nt (fun v S' => v = some (.int r) ∧ S' = (mem Z σ', n, z))) 30 [some (.ref a), none, some (.int v2_), none, none] [.int s0_] (mem Z σ, n, z) 0 0 := by
  unfold x_X12_behindBlanks_30 at hx
  refine mm_istore [some (.ref a), none, some (.int v2_), none, some (.int s0_)] dX12_behindBlanks_30 (by decide) rfl ?_
  refine mm_iload dX12_behindBlanks_32 rfl ?_
  refine mm_iload_n dX12_behindBlanks_34 rfl ?_
  refine b_if hx (fun h10 hx => ?_) (fun h10 hx => ?_)
  · refine mm_icmp_le 42 dX12_behindBlanks_35 (by decide) (fun h => absurd h (Int32.not_le.mpr h10)) (fun _ => ?_)
    refine mm_iconst (v := 1) dX12_behindBlanks_38 (by decide) ?_
    refine mm_goto 43 dX12_behindBlanks_39 (by decide) ?_
    refine mm_fewer [some (.ref a), none, none, none, some (.int s0_)] (few_ok (bs := [true, false, false, false, true]) rfl) ?_
    exact e_X12_behindBlanks_43 hst hZ hn hs hk4 hx
  · refine mm_icmp_le 42 dX12_behindBlanks_35 (by decide) (fun _ => ?_) (fun h => absurd (Int32.not_lt.mp h10) h)
    refine mm_iconst (v := 0) dX12_behindBlanks_42 (by decide) ?_
    refine mm_fewer [some (.ref a), none, none, none, some (.int s0_)] (few_ok (bs := [true, false, false, false, true]) rfl) ?_
    exact e_X12_behindBlanks_43 hst hZ hn hs hk4 hx
set_option maxHeartbeats 4000000 in
set_option maxRecDepth 100000 in
theorem e_X12_behindBlanks_L4 {g : mm_G} {l : Launch} (hst : l.stackTraces = false) {Z : Nat → Nat → Option Nat} (hZ : HZ Z) {n : Nat} (hn : 1186 ≤ n) {z : Bool} {d : Nat} {U : Nat} {a : Nat} (hs : sh a = 12) {r : Int32} {σ' : SG} : ∀ (U1 : Nat) (v2_ : Int32) (v3_ : Int32) (σ : SG), x_X12_behindBlanks_L4 U a U1 v2_ v3_ σ = some (r, σ') → mm_V g l RX12 "behindBlanks" cX12_behindBlanks 5 (some .int) [] (d + 2) 0 0 (mm_nt (fun v S' => v = some (.int r) ∧ S' = (mem Z σ', n, z))) 4 [some (.ref a), none, some (.int v2_), some (.int v3_), none] [] (mem Z σ, n, z) 0 0 := by
  intro U1
  induction U1 with
  | zero => intro v2_ v3_ σ hx; exact absurd hx (by simp [x_X12_behindBlanks_L4])
  | succ U1 ih =>
    intro v2_ v3_ σ hx
    rw [x_X12_behindBlanks_L4] at hx
    refine mm_iload_n dX12_behindBlanks_4 rfl ?_
    refine b_if hx (fun h1 hx => ?_) (fun h1 hx => ?_)
    · refine mm_if_eq 50 dX12_behindBlanks_5 (by decide) (fun _ => ?_) (fun h => absurd h1 h)
      refine mm_iload_n dX12_behindBlanks_50 rfl ?_
      refine mm_iret dX12_behindBlanks_51 rfl rfl ?_ (by omega) (by omega)
      obtain ⟨rfl, rfl⟩ := fin2 hx
      exact ⟨rfl, rfl⟩
    · refine mm_if_eq 50 dX12_behindBlanks_5 (by decide) (fun h => absurd h h1) (fun _ => ?_)
      refine mm_aload_n dX12_behindBlanks_8 rfl rfl ?_
      refine mm_iload_n dX12_behindBlanks_9 rfl ?_
      obtain ⟨v3, hc2, hx⟩ := b1_some hx
      refine mm_callV3 (a := a) (ci := 12) wM_X12_byteAt kM_X12_284 wI_X12_byteAt wS_X12_byteAt dX12_behindBlanks_10 (e_X12_byteAt hst hZ hn hs hc2) (mem_obj hs (by decide)) (sh_ltn hs (by decide) hn) rfl rfl rfl (Nat.le_of_ble_eq_true rfl) (by omega) (by omega) (fun v9 S9 hq => ?_)
      obtain ⟨rfl, rfl⟩ := hq
      refine ⟨fun h => ⟨h, rfl⟩, ?_⟩
      obtain ⟨v5, hc4, hx⟩ := b1_some hx
      refine mm_callS wM_X12_isBlank kM_X12_292 wT_X12_isBlank dX12_behindBlanks_13 (e_X12_isBlank hst hZ hn hc4) rfl rfl (Nat.le_of_ble_eq_true rfl) (by omega) (by omega) (fun v9 S9 hq => ?_)
      obtain ⟨rfl, rfl⟩ := hq
      refine ⟨fun h => ⟨h, rfl⟩, ?_⟩
      refine b_if hx (fun h6 hx => ?_) (fun h6 hx => ?_)
      · refine mm_if_eq 25 dX12_behindBlanks_16 (by decide) (fun _ => ?_) (fun h => absurd h6 h)
        refine mm_aload_n dX12_behindBlanks_25 rfl rfl ?_
        refine mm_iload_n dX12_behindBlanks_26 rfl ?_
        obtain ⟨v8, σ9, hc7, hx⟩ := b2_some hx
        refine mm_callV3 (a := a) (ci := 12) wM_X12_behindComment kM_X12_295 wI_X12_behindComment wS_X12_behindComment dX12_behindBlanks_27 (e_X12_behindComment hst hZ hn hs hc7) (mem_obj hs (by decide)) (sh_ltn hs (by decide) hn) rfl rfl rfl (Nat.le_of_ble_eq_true rfl) (by omega) (by omega) (fun v9 S9 hq => ?_)
        obtain ⟨rfl, rfl⟩ := hq
        refine ⟨fun h => ⟨h, rfl⟩, ?_⟩
        refine mm_fewer [some (.ref a), none, some (.int v2_), none, none] (few_ok (bs := [true, false, true, false, false]) rfl) ?_
        exact e_X12_behindBlanks_30 hst hZ hn hs ih hx
      · refine mm_if_eq 25 dX12_behindBlanks_16 (by decide) (fun h => absurd h h6) (fun _ => ?_)
        refine mm_iload_n dX12_behindBlanks_19 rfl ?_
        refine mm_iconst (v := 1) dX12_behindBlanks_20 (by decide) ?_
        refine mm_iadd dX12_behindBlanks_21 ?_
        refine mm_goto 30 dX12_behindBlanks_22 (by decide) ?_
        refine mm_fewer [some (.ref a), none, some (.int v2_), none, none] (few_ok (bs := [true, false, true, false, false]) rfl) ?_
        exact e_X12_behindBlanks_30 hst hZ hn hs ih hx
set_option maxHeartbeats 4000000 in
set_option maxRecDepth 100000 in
theorem e_X12_behindBlanks {g : mm_G} {l : Launch} (hst : l.stackTraces = false) {Z : Nat → Nat → Option Nat} (hZ : HZ Z) {n : Nat} (hn : 1186 ≤ n) {z : Bool} {d : Nat} {U : Nat} {a : Nat} (hs : sh a = 12) {p0 : Int32} {σ : SG} {r : Int32} {σ' : SG} (hx : x_X12_behindBlanks U a p0 σ = some (r, σ')) : mm_Cm g l yX12_behindBlanks (.code yX12_behindBlanks cX12_behindBlanks 5 (some .int)) (d + 2) 0 0 [.ref a, .int p0] (mem Z σ, n, z) (fun v S' => v = some (.int r) ∧ S' = (mem Z σ', n, z)) := by
  refine mm_Cm_of hst (by decide) (Nat.le_of_ble_eq_true rfl) ?_
  show mm_V g l RX12 "behindBlanks" cX12_behindBlanks 5 (some .int) [] (d + 2) 0 0 (mm_nt (fun v S' => v = some (.int r) ∧ S' = (mem Z σ', n, z))) 0 [some (.ref a), some (.int p0), none, none, none] [] (mem Z σ, n, z) 0 0
  unfold x_X12_behindBlanks at hx
  refine mm_iload_n dX12_behindBlanks_0 rfl ?_
  refine mm_istore_n [some (.ref a), some (.int p0), some (.int p0), none, none] dX12_behindBlanks_1 (by decide) rfl ?_
  refine mm_iconst (v := 1) dX12_behindBlanks_2 (by decide) ?_
  refine mm_istore_n [some (.ref a), some (.int p0), some (.int p0), some (.int 1), none] dX12_behindBlanks_3 (by decide) rfl ?_
  refine mm_fewer [some (.ref a), none, some (.int p0), some (.int 1), none] (few_ok (bs := [true, false, true, true, false]) rfl) ?_
  refine e_X12_behindBlanks_L4 hst hZ hn hs _ _ _ _ hx
set_option maxHeartbeats 4000000 in
set_option maxRecDepth 100000 in
theorem e_X12_isLetter_12 {g : mm_G} {l : Launch} (hst : l.stackTraces = false) {Z : Nat → Nat → Option Nat} (hZ : HZ Z) {n : Nat} (hn : 1186 ≤ n) {z : Bool} {d : Nat} {v0_ : Int32} {σ : SG} {r : Int32} (hx : x_X12_isLetter_12 v0_ σ = some r) : mm_V g l RX12 "isLetter" cX12_isLetter 1 (some .boolean) [] (d) 0 0 (mm_nt (fun v S' => v = some (.int r) ∧ S' = (mem Z σ, n, z))) 12 [some (.int v0_)] [] (mem Z σ, n, z) 0 0 := by
  unfold x_X12_isLetter_12 at hx
  refine mm_iload_n dX12_isLetter_12 rfl ?_
  refine mm_bipush (v := 65) dX12_isLetter_13 (by decide) ?_
  refine b_if hx (fun h2 hx => ?_) (fun h2 hx => ?_)
  · refine mm_icmp_lt 28 dX12_isLetter_15 (by decide) (fun _ => ?_) (fun h => absurd h2 h)
    refine mm_iconst (v := 0) dX12_isLetter_28 (by decide) ?_
    refine mm_iret dX12_isLetter_29 rfl rfl ?_ (by omega) (by omega)
    obtain rfl := fin1 hx
    exact ⟨rfl, rfl⟩
  · refine mm_icmp_lt 28 dX12_isLetter_15 (by decide) (fun h => absurd h h2) (fun _ => ?_)
    refine mm_iload_n dX12_isLetter_18 rfl ?_
    refine mm_bipush (v := 90) dX12_isLetter_19 (by decide) ?_
    refine b_if hx (fun h3 hx => ?_) (fun h3 hx => ?_)
    · refine mm_icmp_gt 28 dX12_isLetter_21 (by decide) (fun _ => ?_) (fun h => absurd h3 h)
      refine mm_iconst (v := 0) dX12_isLetter_28 (by decide) ?_
      refine mm_iret dX12_isLetter_29 rfl rfl ?_ (by omega) (by omega)
      obtain rfl := fin1 hx
      exact ⟨rfl, rfl⟩
    · refine mm_icmp_gt 28 dX12_isLetter_21 (by decide) (fun h => absurd h h3) (fun _ => ?_)
      refine mm_iconst (v := 1) dX12_isLetter_24 (by decide) ?_
      refine mm_goto 29 dX12_isLetter_25 (by decide) ?_
      refine mm_iret dX12_isLetter_29 rfl rfl ?_ (by omega) (by omega)
      obtain rfl := fin1 hx
      exact ⟨rfl, rfl⟩
set_option maxHeartbeats 4000000 in
set_option maxRecDepth 100000 in
theorem e_X12_isLetter {g : mm_G} {l : Launch} (hst : l.stackTraces = false) {Z : Nat → Nat → Option Nat} (hZ : HZ Z) {n : Nat} (hn : 1186 ≤ n) {z : Bool} {d : Nat} {p0 : Int32} {σ : SG} {r : Int32} (hx : x_X12_isLetter p0 σ = some r) : mm_Cm g l yX12_isLetter (.code yX12_isLetter cX12_isLetter 1 (some .boolean)) (d) 0 0 [.int p0] (mem Z σ, n, z) (fun v S' => v = some (.int r) ∧ S' = (mem Z σ, n, z)) := by
  refine mm_Cm_of hst (by decide) (Nat.le_of_ble_eq_true rfl) ?_
  show mm_V g l RX12 "isLetter" cX12_isLetter 1 (some .boolean) [] (d) 0 0 (mm_nt (fun v S' => v = some (.int r) ∧ S' = (mem Z σ, n, z))) 0 [some (.int p0)] [] (mem Z σ, n, z) 0 0
  unfold x_X12_isLetter at hx
  refine mm_iload_n dX12_isLetter_0 rfl ?_
  refine mm_bipush (v := 97) dX12_isLetter_1 (by decide) ?_
  refine b_if hx (fun h1 hx => ?_) (fun h1 hx => ?_)
  · refine mm_icmp_lt 12 dX12_isLetter_3 (by decide) (fun _ => ?_) (fun h => absurd h1 h)
    exact e_X12_isLetter_12 hst hZ hn hx
  · refine mm_icmp_lt 12 dX12_isLetter_3 (by decide) (fun h => absurd h h1) (fun _ => ?_)
    refine mm_iload_n dX12_isLetter_6 rfl ?_
    refine mm_bipush (v := 122) dX12_isLetter_7 (by decide) ?_
    refine b_if hx (fun h4 hx => ?_) (fun h4 hx => ?_)
    · refine mm_icmp_le 24 dX12_isLetter_9 (by decide) (fun h => absurd h (Int32.not_le.mpr h4)) (fun _ => ?_)
      exact e_X12_isLetter_12 hst hZ hn hx
    · refine mm_icmp_le 24 dX12_isLetter_9 (by decide) (fun _ => ?_) (fun h => absurd (Int32.not_lt.mp h4) h)
      refine mm_iconst (v := 1) dX12_isLetter_24 (by decide) ?_
      refine mm_goto 29 dX12_isLetter_25 (by decide) ?_
      refine mm_iret dX12_isLetter_29 rfl rfl ?_ (by omega) (by omega)
      obtain rfl := fin1 hx
      exact ⟨rfl, rfl⟩
set_option maxHeartbeats 4000000 in
set_option maxRecDepth 100000 in
theorem e_X12_isDigit {g : mm_G} {l : Launch} (hst : l.stackTraces = false) {Z : Nat → Nat → Option Nat} (hZ : HZ Z) {n : Nat} (hn : 1186 ≤ n) {z : Bool} {d : Nat} {p0 : Int32} {σ : SG} {r : Int32} (hx : x_X12_isDigit p0 = some r) : mm_Cm g l yX12_isDigit (.code yX12_isDigit cX12_isDigit 1 (some .boolean)) (d) 0 0 [.int p0] (mem Z σ, n, z) (fun v S' => v = some (.int r) ∧ S' = (mem Z σ, n, z)) := by
  refine mm_Cm_of hst (by decide) (Nat.le_of_ble_eq_true rfl) ?_
  show mm_V g l RX12 "isDigit" cX12_isDigit 1 (some .boolean) [] (d) 0 0 (mm_nt (fun v S' => v = some (.int r) ∧ S' = (mem Z σ, n, z))) 0 [some (.int p0)] [] (mem Z σ, n, z) 0 0
  unfold x_X12_isDigit at hx
  refine mm_iload_n dX12_isDigit_0 rfl ?_
  refine mm_bipush (v := 48) dX12_isDigit_1 (by decide) ?_
  refine b_if hx (fun h1 hx => ?_) (fun h1 hx => ?_)
  · refine mm_icmp_lt 16 dX12_isDigit_3 (by decide) (fun _ => ?_) (fun h => absurd h1 h)
    refine mm_iconst (v := 0) dX12_isDigit_16 (by decide) ?_
    refine mm_iret dX12_isDigit_17 rfl rfl ?_ (by omega) (by omega)
    obtain rfl := fin1 hx
    exact ⟨rfl, rfl⟩
  · refine mm_icmp_lt 16 dX12_isDigit_3 (by decide) (fun h => absurd h h1) (fun _ => ?_)
    refine mm_iload_n dX12_isDigit_6 rfl ?_
    refine mm_bipush (v := 57) dX12_isDigit_7 (by decide) ?_
    refine b_if hx (fun h2 hx => ?_) (fun h2 hx => ?_)
    · refine mm_icmp_gt 16 dX12_isDigit_9 (by decide) (fun _ => ?_) (fun h => absurd h2 h)
      refine mm_iconst (v := 0) dX12_isDigit_16 (by decide) ?_
      refine mm_iret dX12_isDigit_17 rfl rfl ?_ (by omega) (by omega)
      obtain rfl := fin1 hx
      exact ⟨rfl, rfl⟩
    · refine mm_icmp_gt 16 dX12_isDigit_9 (by decide) (fun h => absurd h h2) (fun _ => ?_)
      refine mm_iconst (v := 1) dX12_isDigit_12 (by decide) ?_
      refine mm_goto 17 dX12_isDigit_13 (by decide) ?_
      refine mm_iret dX12_isDigit_17 rfl rfl ?_ (by omega) (by omega)
      obtain rfl := fin1 hx
      exact ⟨rfl, rfl⟩
set_option maxHeartbeats 4000000 in
set_option maxRecDepth 100000 in
theorem e_X12_isPart {g : mm_G} {l : Launch} (hst : l.stackTraces = false) {Z : Nat → Nat → Option Nat} (hZ : HZ Z) {n : Nat} (hn : 1186 ≤ n) {z : Bool} {d : Nat} {p0 : Int32} {σ : SG} {r : Int32} (hx : x_X12_isPart p0 σ = some r) : mm_Cm g l yX12_isPart (.code yX12_isPart cX12_isPart 1 (some .boolean)) (d + 1) 0 0 [.int p0] (mem Z σ, n, z) (fun v S' => v = some (.int r) ∧ S' = (mem Z σ, n, z)) := by
  refine mm_Cm_of hst (by decide) (Nat.le_of_ble_eq_true rfl) ?_
  show mm_V g l RX12 "isPart" cX12_isPart 1 (some .boolean) [] (d + 1) 0 0 (mm_nt (fun v S' => v = some (.int r) ∧ S' = (mem Z σ, n, z))) 0 [some (.int p0)] [] (mem Z σ, n, z) 0 0
  unfold x_X12_isPart at hx
  refine mm_iload_n dX12_isPart_0 rfl ?_
  obtain ⟨v2, hc1, hx⟩ := b1_some hx
  refine mm_callS wM_X12_isLetter kM_X12_277 wT_X12_isLetter dX12_isPart_1 (e_X12_isLetter hst hZ hn hc1) rfl rfl (Nat.le_of_ble_eq_true rfl) (by omega) (by omega) (fun v9 S9 hq => ?_)
  obtain ⟨rfl, rfl⟩ := hq
  refine ⟨fun h => ⟨h, rfl⟩, ?_⟩
  refine b_if hx (fun h3 hx => ?_) (fun h3 hx => ?_)
  · refine mm_if_ne 20 dX12_isPart_4 (by decide) (fun h => absurd h3 h) (fun _ => ?_)
    refine mm_iload_n dX12_isPart_7 rfl ?_
    obtain ⟨v5, hc4, hx⟩ := b1_some hx
    refine mm_callS wM_X12_isDigit kM_X12_281 wT_X12_isDigit dX12_isPart_8 (e_X12_isDigit hst hZ hn hc4) rfl rfl (Nat.le_of_ble_eq_true rfl) (by omega) (by omega) (fun v9 S9 hq => ?_)
    obtain ⟨rfl, rfl⟩ := hq
    refine ⟨fun h => ⟨h, rfl⟩, ?_⟩
    refine b_if hx (fun h6 hx => ?_) (fun h6 hx => ?_)
    · refine mm_if_ne 20 dX12_isPart_11 (by decide) (fun h => absurd h6 h) (fun _ => ?_)
      refine mm_iload_n dX12_isPart_14 rfl ?_
      refine mm_bipush (v := 95) dX12_isPart_15 (by decide) ?_
      refine b_if hx (fun h7 hx => ?_) (fun h7 hx => ?_)
      · refine mm_icmp_ne 24 dX12_isPart_17 (by decide) (fun h => absurd h7 h) (fun _ => ?_)
        refine mm_iconst (v := 1) dX12_isPart_20 (by decide) ?_
        refine mm_goto 25 dX12_isPart_21 (by decide) ?_
        refine mm_iret dX12_isPart_25 rfl rfl ?_ (by omega) (by omega)
        obtain rfl := fin1 hx
        exact ⟨rfl, rfl⟩
      · refine mm_icmp_ne 24 dX12_isPart_17 (by decide) (fun _ => ?_) (fun h => absurd h h7)
        refine mm_iconst (v := 0) dX12_isPart_24 (by decide) ?_
        refine mm_iret dX12_isPart_25 rfl rfl ?_ (by omega) (by omega)
        obtain rfl := fin1 hx
        exact ⟨rfl, rfl⟩
    · refine mm_if_ne 20 dX12_isPart_11 (by decide) (fun _ => ?_) (fun h => absurd h h6)
      refine mm_iconst (v := 1) dX12_isPart_20 (by decide) ?_
      refine mm_goto 25 dX12_isPart_21 (by decide) ?_
      refine mm_iret dX12_isPart_25 rfl rfl ?_ (by omega) (by omega)
      obtain rfl := fin1 hx
      exact ⟨rfl, rfl⟩
  · refine mm_if_ne 20 dX12_isPart_4 (by decide) (fun _ => ?_) (fun h => absurd h h3)
    refine mm_iconst (v := 1) dX12_isPart_20 (by decide) ?_
    refine mm_goto 25 dX12_isPart_21 (by decide) ?_
    refine mm_iret dX12_isPart_25 rfl rfl ?_ (by omega) (by omega)
    obtain rfl := fin1 hx
    exact ⟨rfl, rfl⟩
set_option maxHeartbeats 4000000 in
set_option maxRecDepth 100000 in
theorem e_X12_sixteenth_36 {g : mm_G} {l : Launch} (hst : l.stackTraces = false) {Z : Nat → Nat → Option Nat} (hZ : HZ Z) {n : Nat} (hn : 1186 ≤ n) {z : Bool} {d : Nat} {v0_ : Int32} {σ : SG} {r : Int32} (hx : x_X12_sixteenth_36 v0_ σ = some r) : mm_V g l RX12 "sixteenth" cX12_sixteenth 1 (some .int) [] (d + 1) 0 0 (mm_nt (fun v S' => v = some (.int r) ∧ S' = (mem Z σ, n, z))) 36 [some (.int v0_)] [] (mem Z σ, n, z) 0 0 := by
  unfold x_X12_sixteenth_36 at hx
  refine mm_iload_n dX12_sixteenth_36 rfl ?_
  refine mm_bipush (v := 65) dX12_sixteenth_37 (by decide) ?_
  refine b_if hx (fun h5 hx => ?_) (fun h5 hx => ?_)
  · refine mm_icmp_lt 58 dX12_sixteenth_39 (by decide) (fun _ => ?_) (fun h => absurd h5 h)
    refine mm_iconst (v := (-1)) dX12_sixteenth_58 (by decide) ?_
    refine mm_iret dX12_sixteenth_59 rfl rfl ?_ (by omega) (by omega)
    obtain rfl := fin1 hx
    exact ⟨rfl, rfl⟩
  · refine mm_icmp_lt 58 dX12_sixteenth_39 (by decide) (fun h => absurd h h5) (fun _ => ?_)
    refine mm_iload_n dX12_sixteenth_42 rfl ?_
    refine mm_bipush (v := 70) dX12_sixteenth_43 (by decide) ?_
    refine b_if hx (fun h6 hx => ?_) (fun h6 hx => ?_)
    · refine mm_icmp_gt 58 dX12_sixteenth_45 (by decide) (fun _ => ?_) (fun h => absurd h6 h)
      refine mm_iconst (v := (-1)) dX12_sixteenth_58 (by decide) ?_
      refine mm_iret dX12_sixteenth_59 rfl rfl ?_ (by omega) (by omega)
      obtain rfl := fin1 hx
      exact ⟨rfl, rfl⟩
    · refine mm_icmp_gt 58 dX12_sixteenth_45 (by decide) (fun h => absurd h h6) (fun _ => ?_)
      refine mm_iload_n dX12_sixteenth_48 rfl ?_
      refine mm_bipush (v := 65) dX12_sixteenth_49 (by decide) ?_
      refine mm_isub dX12_sixteenth_51 ?_
      refine mm_bipush (v := 10) dX12_sixteenth_52 (by decide) ?_
      refine mm_iadd dX12_sixteenth_54 ?_
      refine mm_goto 59 dX12_sixteenth_55 (by decide) ?_
      refine mm_iret dX12_sixteenth_59 rfl rfl ?_ (by omega) (by omega)
      obtain rfl := fin1 hx
      exact ⟨rfl, rfl⟩
set_option maxHeartbeats 4000000 in
set_option maxRecDepth 100000 in
theorem e_X12_sixteenth {g : mm_G} {l : Launch} (hst : l.stackTraces = false) {Z : Nat → Nat → Option Nat} (hZ : HZ Z) {n : Nat} (hn : 1186 ≤ n) {z : Bool} {d : Nat} {p0 : Int32} {σ : SG} {r : Int32} (hx : x_X12_sixteenth p0 σ = some r) : mm_Cm g l yX12_sixteenth (.code yX12_sixteenth cX12_sixteenth 1 (some .int)) (d + 1) 0 0 [.int p0] (mem Z σ, n, z) (fun v S' => v = some (.int r) ∧ S' = (mem Z σ, n, z)) := by
  refine mm_Cm_of hst (by decide) (Nat.le_of_ble_eq_true rfl) ?_
  show mm_V g l RX12 "sixteenth" cX12_sixteenth 1 (some .int) [] (d + 1) 0 0 (mm_nt (fun v S' => v = some (.int r) ∧ S' = (mem Z σ, n, z))) 0 [some (.int p0)] [] (mem Z σ, n, z) 0 0
  unfold x_X12_sixteenth at hx
  refine mm_iload_n dX12_sixteenth_0 rfl ?_
  obtain ⟨v2, hc1, hx⟩ := b1_some hx
  refine mm_callS wM_X12_isDigit kM_X12_281 wT_X12_isDigit dX12_sixteenth_1 (e_X12_isDigit hst hZ hn hc1) rfl rfl (Nat.le_of_ble_eq_true rfl) (by omega) (by omega) (fun v9 S9 hq => ?_)
  obtain ⟨rfl, rfl⟩ := hq
  refine ⟨fun h => ⟨h, rfl⟩, ?_⟩
  refine b_if hx (fun h3 hx => ?_) (fun h3 hx => ?_)
  · refine mm_if_eq 14 dX12_sixteenth_4 (by decide) (fun _ => ?_) (fun h => absurd h3 h)
    refine mm_iload_n dX12_sixteenth_14 rfl ?_
    refine mm_bipush (v := 97) dX12_sixteenth_15 (by decide) ?_
    refine b_if hx (fun h4 hx => ?_) (fun h4 hx => ?_)
    · refine mm_icmp_lt 36 dX12_sixteenth_17 (by decide) (fun _ => ?_) (fun h => absurd h4 h)
      exact e_X12_sixteenth_36 hst hZ hn hx
    · refine mm_icmp_lt 36 dX12_sixteenth_17 (by decide) (fun h => absurd h h4) (fun _ => ?_)
      refine mm_iload_n dX12_sixteenth_20 rfl ?_
      refine mm_bipush (v := 102) dX12_sixteenth_21 (by decide) ?_
      refine b_if hx (fun h7 hx => ?_) (fun h7 hx => ?_)
      · refine mm_icmp_gt 36 dX12_sixteenth_23 (by decide) (fun _ => ?_) (fun h => absurd h7 h)
        exact e_X12_sixteenth_36 hst hZ hn hx
      · refine mm_icmp_gt 36 dX12_sixteenth_23 (by decide) (fun h => absurd h h7) (fun _ => ?_)
        refine mm_iload_n dX12_sixteenth_26 rfl ?_
        refine mm_bipush (v := 97) dX12_sixteenth_27 (by decide) ?_
        refine mm_isub dX12_sixteenth_29 ?_
        refine mm_bipush (v := 10) dX12_sixteenth_30 (by decide) ?_
        refine mm_iadd dX12_sixteenth_32 ?_
        refine mm_goto 59 dX12_sixteenth_33 (by decide) ?_
        refine mm_iret dX12_sixteenth_59 rfl rfl ?_ (by omega) (by omega)
        obtain rfl := fin1 hx
        exact ⟨rfl, rfl⟩
  · refine mm_if_eq 14 dX12_sixteenth_4 (by decide) (fun h => absurd h h3) (fun _ => ?_)
    refine mm_iload_n dX12_sixteenth_7 rfl ?_
    refine mm_bipush (v := 48) dX12_sixteenth_8 (by decide) ?_
    refine mm_isub dX12_sixteenth_10 ?_
    refine mm_goto 59 dX12_sixteenth_11 (by decide) ?_
    refine mm_iret dX12_sixteenth_59 rfl rfl ?_ (by omega) (by omega)
    obtain rfl := fin1 hx
    exact ⟨rfl, rfl⟩
set_option maxHeartbeats 4000000 in
set_option maxRecDepth 100000 in
theorem e_X12_readNumber_123 {g : mm_G} {l : Launch} (hst : l.stackTraces = false) {Z : Nat → Nat → Option Nat} (hZ : HZ Z) {n : Nat} (hn : 1186 ≤ n) {z : Bool} {d : Nat} {U : Nat} {a : Nat} (hs : sh a = 12) {k52 : Int32 → SG → Option (SG)} {k129 : Int32 → SG → Option (SG)} {v1_ : Int32} {v2_ : Int32} {v3_ : Int32} {σ : SG} {σ' : SG} (hk52 : ∀ (v1_ : Int32) (σ8 : SG), k52 v1_ σ8 = some σ' → mm_V g l RX12 "readNumber" cX12_readNumber 4 none [] (d + 2) 0 0 (mm_nt (fun v S' => v = none ∧ S' = (mem Z σ', n, z))) 52 [some (.ref a), some (.int v1_), some (.int v2_), some (.int v3_)] [] (mem Z σ8, n, z) 0 0) (hk129 : ∀ (v1_ : Int32) (σ8 : SG), k129 v1_ σ8 = some σ' → mm_V g l RX12 "readNumber" cX12_readNumber 4 none [] (d + 2) 0 0 (mm_nt (fun v S' => v = none ∧ S' = (mem Z σ', n, z))) 129 [some (.ref a), some (.int v1_), some (.int v2_), some (.int v3_)] [] (mem Z σ8, n, z) 0 0) (hx : x_X12_readNumber_123 U a k52 k129 v1_ v2_ v3_ σ = some σ') : mm_V g l RX12 "readNumber" cX12_readNumber 4 none [] (d + 2) 0 0 (mm_nt (fun v S' => v = none ∧ S' = (mem Z σ', n, z))) 123 [some (.ref a), some (.int v1_), some (.int v2_), some (.int v3_)] [] (mem Z σ, n, z) 0 0 := by
  unfold x_X12_readNumber_123 at hx
  refine mm_iinc (v := v1_ + 1) [some (.ref a), some (.int (v1_ + 1)), some (.int v2_), some (.int v3_)] dX12_readNumber_123 rfl rfl (by decide) rfl ?_
  refine mm_goto 52 dX12_readNumber_126 (by decide) ?_
  exact hk52 _ _ hx
set_option maxHeartbeats 4000000 in
set_option maxRecDepth 100000 in
theorem e_X12_readNumber_108 {g : mm_G} {l : Launch} (hst : l.stackTraces = false) {Z : Nat → Nat → Option Nat} (hZ : HZ Z) {n : Nat} (hn : 1186 ≤ n) {z : Bool} {d : Nat} {U : Nat} {a : Nat} (hs : sh a = 12) {k52 : Int32 → SG → Option (SG)} {k129 : Int32 → SG → Option (SG)} {v1_ : Int32} {v2_ : Int32} {v3_ : Int32} {s0_ : Int32} {s1_ : Int64} {σ : SG} {σ' : SG} (hk52 : ∀ (v1_ : Int32) (σ8 : SG), k52 v1_ σ8 = some σ' → mm_V g l RX12 "readNumber" cX12_readNumber 4 none [] (d + 2) 0 0 (mm_nt (fun v S' => v = none ∧ S' = (mem Z σ', n, z))) 52 [some (.ref a), some (.int v1_), some (.int v2_), some (.int v3_)] [] (mem Z σ8, n, z) 0 0) (hk129 : ∀ (v1_ : Int32) (σ8 : SG), k129 v1_ σ8 = some σ' → mm_V g l RX12 "readNumber" cX12_readNumber 4 none [] (d + 2) 0 0 (mm_nt (fun v S' => v = none ∧ S' = (mem Z σ', n, z))) 129 [some (.ref a), some (.int v1_), some (.int v2_), some (.int v3_)] [] (mem Z σ8, n, z) 0 0) (hx : x_X12_readNumber_108 U a k52 k129 v1_ v2_ v3_ s0_ s1_ σ = some σ') : mm_V g l RX12 "readNumber" cX12_readNumber 4 none [] (d + 2) 0 0 (mm_nt (fun v S' => v = none ∧ S' = (mem Z σ', n, z))) 108 [some (.ref a), some (.int v1_), some (.int v2_), some (.int v3_)] [.int s0_, .long s1_, .ref a] (mem Z σ, n, z) 0 0 := by
  unfold x_X12_readNumber_108 at hx
  refine mm_i2l dX12_readNumber_108 ?_
  refine mm_lmul dX12_readNumber_109 ?_
  refine mm_aload_n dX12_readNumber_110 rfl rfl ?_
  refine mm_iload_n dX12_readNumber_111 rfl ?_
  obtain ⟨v19, hc18, hx⟩ := b1_some hx
  refine mm_callV3 (a := a) (ci := 12) wM_X12_byteAt kM_X12_284 wI_X12_byteAt wS_X12_byteAt dX12_readNumber_112 (e_X12_byteAt hst hZ hn hs hc18) (mem_obj hs (by decide)) (sh_ltn hs (by decide) hn) rfl rfl rfl (Nat.le_of_ble_eq_true rfl) (by omega) (by omega) (fun v9 S9 hq => ?_)
  obtain ⟨rfl, rfl⟩ := hq
  refine ⟨fun h => ⟨h, rfl⟩, ?_⟩
  obtain ⟨v21, hc20, hx⟩ := b1_some hx
  refine mm_callS wM_X12_sixteenth kM_X12_308 wT_X12_sixteenth dX12_readNumber_115 (e_X12_sixteenth hst hZ hn hc20) rfl rfl (Nat.le_of_ble_eq_true rfl) (by omega) (by omega) (fun v9 S9 hq => ?_)
  obtain ⟨rfl, rfl⟩ := hq
  refine ⟨fun h => ⟨h, rfl⟩, ?_⟩
  refine mm_i2l dX12_readNumber_118 ?_
  refine mm_ladd dX12_readNumber_119 ?_
  refine s_putL (v := (s1_ * (Int32.toInt64 s0_)) + (Int32.toInt64 v21)) (r := some a) (b := a) (ci := 12) (k := 77) in_X12 rfl (by decide) rfl tyX12_ok nmX12 rfl kF_X12_301 dX12_readNumber_120 (mm_fit_long _) rfl hs (by decide) hn (by decide) rfl hx (fun σ22 hx => ?_)
  exact e_X12_readNumber_123 hst hZ hn hs hk52 hk129 hx
set_option maxHeartbeats 4000000 in
set_option maxRecDepth 100000 in
theorem e_X12_readNumber_81 {g : mm_G} {l : Launch} (hst : l.stackTraces = false) {Z : Nat → Nat → Option Nat} (hZ : HZ Z) {n : Nat} (hn : 1186 ≤ n) {z : Bool} {d : Nat} {U : Nat} {a : Nat} (hs : sh a = 12) {k52 : Int32 → SG → Option (SG)} {k129 : Int32 → SG → Option (SG)} {v1_ : Int32} {v2_ : Int32} {v3_ : Int32} {σ : SG} {σ' : SG} (hk52 : ∀ (v1_ : Int32) (σ8 : SG), k52 v1_ σ8 = some σ' → mm_V g l RX12 "readNumber" cX12_readNumber 4 none [] (d + 2) 0 0 (mm_nt (fun v S' => v = none ∧ S' = (mem Z σ', n, z))) 52 [some (.ref a), some (.int v1_), some (.int v2_), some (.int v3_)] [] (mem Z σ8, n, z) 0 0) (hk129 : ∀ (v1_ : Int32) (σ8 : SG), k129 v1_ σ8 = some σ' → mm_V g l RX12 "readNumber" cX12_readNumber 4 none [] (d + 2) 0 0 (mm_nt (fun v S' => v = none ∧ S' = (mem Z σ', n, z))) 129 [some (.ref a), some (.int v1_), some (.int v2_), some (.int v3_)] [] (mem Z σ8, n, z) 0 0) (hx : x_X12_readNumber_81 U a k52 k129 v1_ v2_ v3_ σ = some σ') : mm_V g l RX12 "readNumber" cX12_readNumber 4 none [] (d + 2) 0 0 (mm_nt (fun v S' => v = none ∧ S' = (mem Z σ', n, z))) 81 [some (.ref a), some (.int v1_), some (.int v2_), some (.int v3_)] [] (mem Z σ, n, z) 0 0 := by
  unfold x_X12_readNumber_81 at hx
  refine mm_aload_n dX12_readNumber_81 rfl rfl ?_
  refine s_getL (r := some a) (b := a) (ci := 12) (k := 77) in_X12 rfl (by decide) rfl kF_X12_301 dX12_readNumber_82 rfl hs (by decide) hn (by decide) rfl ?_
  refine mm_ldc2 kL_X12_311 dX12_readNumber_85 ?_
  refine mm_lcmp dX12_readNumber_88 ?_
  refine b_if hx (fun h16 hx => ?_) (fun h16 hx => ?_)
  · refine mm_if_ge 123 dX12_readNumber_89 (by decide) (fun h => absurd (lg_ge.mp h) (Int64.not_le.mpr h16)) (fun _ => ?_)
    refine mm_aload_n dX12_readNumber_92 rfl rfl ?_
    refine mm_aload_n dX12_readNumber_93 rfl rfl ?_
    refine s_getL (r := some a) (b := a) (ci := 12) (k := 77) in_X12 rfl (by decide) rfl kF_X12_301 dX12_readNumber_94 rfl hs (by decide) hn (by decide) rfl ?_
    refine mm_iload_n dX12_readNumber_97 rfl ?_
    refine b_if hx (fun h17 hx => ?_) (fun h17 hx => ?_)
    · refine mm_if_eq 106 dX12_readNumber_98 (by decide) (fun _ => ?_) (fun h => absurd h17 h)
      refine mm_bipush (v := 10) dX12_readNumber_106 (by decide) ?_
      exact e_X12_readNumber_108 hst hZ hn hs hk52 hk129 hx
    · refine mm_if_eq 106 dX12_readNumber_98 (by decide) (fun h => absurd h h17) (fun _ => ?_)
      refine mm_bipush (v := 16) dX12_readNumber_101 (by decide) ?_
      refine mm_goto 108 dX12_readNumber_103 (by decide) ?_
      exact e_X12_readNumber_108 hst hZ hn hs hk52 hk129 hx
  · refine mm_if_ge 123 dX12_readNumber_89 (by decide) (fun _ => ?_) (fun h => absurd (lg_ge.mpr (Int64.not_lt.mp h16)) h)
    exact e_X12_readNumber_123 hst hZ hn hs hk52 hk129 hx
set_option maxHeartbeats 4000000 in
set_option maxRecDepth 100000 in
theorem e_X12_readNumber_L52 {g : mm_G} {l : Launch} (hst : l.stackTraces = false) {Z : Nat → Nat → Option Nat} (hZ : HZ Z) {n : Nat} (hn : 1186 ≤ n) {z : Bool} {d : Nat} {U : Nat} {a : Nat} (hs : sh a = 12) {k129 : Int32 → SG → Option (SG)} {v2_ : Int32} {v3_ : Int32} {σ' : SG} (hk129 : ∀ (v1_ : Int32) (σ8 : SG), k129 v1_ σ8 = some σ' → mm_V g l RX12 "readNumber" cX12_readNumber 4 none [] (d + 2) 0 0 (mm_nt (fun v S' => v = none ∧ S' = (mem Z σ', n, z))) 129 [some (.ref a), some (.int v1_), some (.int v2_), some (.int v3_)] [] (mem Z σ8, n, z) 0 0) : ∀ (U1 : Nat) (v1_ : Int32) (σ : SG), x_X12_readNumber_L52 U a k129 v2_ v3_ U1 v1_ σ = some σ' → mm_V g l RX12 "readNumber" cX12_readNumber 4 none [] (d + 2) 0 0 (mm_nt (fun v S' => v = none ∧ S' = (mem Z σ', n, z))) 52 [some (.ref a), some (.int v1_), some (.int v2_), some (.int v3_)] [] (mem Z σ, n, z) 0 0 := by
  intro U1
  induction U1 with
  | zero => intro v1_ σ hx; exact absurd hx (by simp [x_X12_readNumber_L52])
  | succ U1 ih =>
    intro v1_ σ hx
    rw [x_X12_readNumber_L52] at hx
    refine mm_iload_n dX12_readNumber_52 rfl ?_
    refine b_if hx (fun h10 hx => ?_) (fun h10 hx => ?_)
    · refine mm_if_eq 70 dX12_readNumber_53 (by decide) (fun _ => ?_) (fun h => absurd h10 h)
      refine mm_aload_n dX12_readNumber_70 rfl rfl ?_
      refine mm_iload_n dX12_readNumber_71 rfl ?_
      obtain ⟨v12, hc11, hx⟩ := b1_some hx
      refine mm_callV3 (a := a) (ci := 12) wM_X12_byteAt kM_X12_284 wI_X12_byteAt wS_X12_byteAt dX12_readNumber_72 (e_X12_byteAt hst hZ hn hs hc11) (mem_obj hs (by decide)) (sh_ltn hs (by decide) hn) rfl rfl rfl (Nat.le_of_ble_eq_true rfl) (by omega) (by omega) (fun v9 S9 hq => ?_)
      obtain ⟨rfl, rfl⟩ := hq
      refine ⟨fun h => ⟨h, rfl⟩, ?_⟩
      obtain ⟨v14, hc13, hx⟩ := b1_some hx
      refine mm_callS wM_X12_isDigit kM_X12_281 wT_X12_isDigit dX12_readNumber_75 (e_X12_isDigit hst hZ hn hc13) rfl rfl (Nat.le_of_ble_eq_true rfl) (by omega) (by omega) (fun v9 S9 hq => ?_)
      obtain ⟨rfl, rfl⟩ := hq
      refine ⟨fun h => ⟨h, rfl⟩, ?_⟩
      refine b_if hx (fun h15 hx => ?_) (fun h15 hx => ?_)
      · refine mm_if_eq 129 dX12_readNumber_78 (by decide) (fun _ => ?_) (fun h => absurd h15 h)
        exact hk129 _ _ hx
      · refine mm_if_eq 129 dX12_readNumber_78 (by decide) (fun h => absurd h h15) (fun _ => ?_)
        exact e_X12_readNumber_81 hst hZ hn hs ih hk129 hx
    · refine mm_if_eq 70 dX12_readNumber_53 (by decide) (fun h => absurd h h10) (fun _ => ?_)
      refine mm_aload_n dX12_readNumber_56 rfl rfl ?_
      refine mm_iload_n dX12_readNumber_57 rfl ?_
      obtain ⟨v24, hc23, hx⟩ := b1_some hx
      refine mm_callV3 (a := a) (ci := 12) wM_X12_byteAt kM_X12_284 wI_X12_byteAt wS_X12_byteAt dX12_readNumber_58 (e_X12_byteAt hst hZ hn hs hc23) (mem_obj hs (by decide)) (sh_ltn hs (by decide) hn) rfl rfl rfl (Nat.le_of_ble_eq_true rfl) (by omega) (by omega) (fun v9 S9 hq => ?_)
      obtain ⟨rfl, rfl⟩ := hq
      refine ⟨fun h => ⟨h, rfl⟩, ?_⟩
      obtain ⟨v26, hc25, hx⟩ := b1_some hx
      refine mm_callS wM_X12_sixteenth kM_X12_308 wT_X12_sixteenth dX12_readNumber_61 (e_X12_sixteenth hst hZ hn hc25) rfl rfl (Nat.le_of_ble_eq_true rfl) (by omega) (by omega) (fun v9 S9 hq => ?_)
      obtain ⟨rfl, rfl⟩ := hq
      refine ⟨fun h => ⟨h, rfl⟩, ?_⟩
      refine b_if hx (fun h27 hx => ?_) (fun h27 hx => ?_)
      · refine mm_if_lt 129 dX12_readNumber_64 (by decide) (fun _ => ?_) (fun h => absurd h27 h)
        exact hk129 _ _ hx
      · refine mm_if_lt 129 dX12_readNumber_64 (by decide) (fun h => absurd h h27) (fun _ => ?_)
        refine mm_goto 81 dX12_readNumber_67 (by decide) ?_
        exact e_X12_readNumber_81 hst hZ hn hs ih hk129 hx
set_option maxHeartbeats 4000000 in
set_option maxRecDepth 100000 in
theorem e_X12_readNumber_177 {g : mm_G} {l : Launch} (hst : l.stackTraces = false) {Z : Nat → Nat → Option Nat} (hZ : HZ Z) {n : Nat} (hn : 1186 ≤ n) {z : Bool} {d : Nat} {U : Nat} {a : Nat} (hs : sh a = 12) {v1_ : Int32} {σ : SG} {σ' : SG} (hx : x_X12_readNumber_177 U a v1_ σ = some σ') : mm_V g l RX12 "readNumber" cX12_readNumber 4 none [] (d + 2) 0 0 (mm_nt (fun v S' => v = none ∧ S' = (mem Z σ', n, z))) 177 [some (.ref a), some (.int v1_), none, none] [] (mem Z σ, n, z) 0 0 := by
  unfold x_X12_readNumber_177 at hx
  refine mm_aload_n dX12_readNumber_177 rfl rfl ?_
  refine mm_iload_n dX12_readNumber_178 rfl ?_
  refine s_putI (v := v1_) (r := some a) (b := a) (ci := 12) (k := 72) in_X12 rfl (by decide) rfl tyX12_ok nmX12 rfl kF_X12_316 dX12_readNumber_179 (mm_fit_int _) rfl hs (by decide) hn (by decide) rfl hx (fun σ32 hx => ?_)
  refine mm_vret dX12_readNumber_182 rfl ?_ (by omega) (by omega)
  obtain rfl := fin1 hx
  exact ⟨rfl, rfl⟩
set_option maxHeartbeats 4000000 in
set_option maxRecDepth 100000 in
theorem e_X12_readNumber_172 {g : mm_G} {l : Launch} (hst : l.stackTraces = false) {Z : Nat → Nat → Option Nat} (hZ : HZ Z) {n : Nat} (hn : 1186 ≤ n) {z : Bool} {d : Nat} {U : Nat} {a : Nat} (hs : sh a = 12) {v1_ : Int32} {σ : SG} {σ' : SG} (hx : x_X12_readNumber_172 U a v1_ σ = some σ') : mm_V g l RX12 "readNumber" cX12_readNumber 4 none [] (d + 2) 0 0 (mm_nt (fun v S' => v = none ∧ S' = (mem Z σ', n, z))) 172 [some (.ref a), some (.int v1_), none, none] [] (mem Z σ, n, z) 0 0 := by
  unfold x_X12_readNumber_172 at hx
  refine mm_aload_n dX12_readNumber_172 rfl rfl ?_
  refine mm_iconst (v := 5) dX12_readNumber_173 (by decide) ?_
  refine s_putI (v := 5) (r := some a) (b := a) (ci := 12) (k := 70) in_X12 rfl (by decide) rfl tyX12_ok nmX12 rfl kF_X12_298 dX12_readNumber_174 (mm_fit_int _) rfl hs (by decide) hn (by decide) rfl hx (fun σ31 hx => ?_)
  exact e_X12_readNumber_177 hst hZ hn hs hx
set_option maxHeartbeats 4000000 in
set_option maxRecDepth 100000 in
theorem e_X12_readNumber_129 {g : mm_G} {l : Launch} (hst : l.stackTraces = false) {Z : Nat → Nat → Option Nat} (hZ : HZ Z) {n : Nat} (hn : 1186 ≤ n) {z : Bool} {d : Nat} {U : Nat} {a : Nat} (hs : sh a = 12) {v1_ : Int32} {v2_ : Int32} {v3_ : Int32} {σ : SG} {σ' : SG} (hx : x_X12_readNumber_129 U a v1_ v2_ v3_ σ = some σ') : mm_V g l RX12 "readNumber" cX12_readNumber 4 none [] (d + 2) 0 0 (mm_nt (fun v S' => v = none ∧ S' = (mem Z σ', n, z))) 129 [some (.ref a), some (.int v1_), some (.int v2_), some (.int v3_)] [] (mem Z σ, n, z) 0 0 := by
  unfold x_X12_readNumber_129 at hx
  refine mm_iload_n dX12_readNumber_129 rfl ?_
  refine mm_iload_n dX12_readNumber_130 rfl ?_
  refine b_if hx (fun h30 hx => ?_) (fun h30 hx => ?_)
  · refine mm_icmp_eq 172 dX12_readNumber_131 (by decide) (fun _ => ?_) (fun h => absurd h30 h)
    refine mm_fewer [some (.ref a), some (.int v1_), none, none] (few_ok (bs := [true, true, false, false]) rfl) ?_
    exact e_X12_readNumber_172 hst hZ hn hs hx
  · refine mm_icmp_eq 172 dX12_readNumber_131 (by decide) (fun h => absurd h h30) (fun _ => ?_)
    refine mm_aload_n dX12_readNumber_134 rfl rfl ?_
    refine mm_iload_n dX12_readNumber_135 rfl ?_
    obtain ⟨v34, hc33, hx⟩ := b1_some hx
    refine mm_callV3 (a := a) (ci := 12) wM_X12_byteAt kM_X12_284 wI_X12_byteAt wS_X12_byteAt dX12_readNumber_136 (e_X12_byteAt hst hZ hn hs hc33) (mem_obj hs (by decide)) (sh_ltn hs (by decide) hn) rfl rfl rfl (Nat.le_of_ble_eq_true rfl) (by omega) (by omega) (fun v9 S9 hq => ?_)
    obtain ⟨rfl, rfl⟩ := hq
    refine ⟨fun h => ⟨h, rfl⟩, ?_⟩
    obtain ⟨v36, hc35, hx⟩ := b1_some hx
    refine mm_callS wM_X12_isPart kM_X12_313 wT_X12_isPart dX12_readNumber_139 (e_X12_isPart hst hZ hn hc35) rfl rfl (Nat.le_of_ble_eq_true rfl) (by omega) (by omega) (fun v9 S9 hq => ?_)
    obtain ⟨rfl, rfl⟩ := hq
    refine ⟨fun h => ⟨h, rfl⟩, ?_⟩
    refine b_if hx (fun h37 hx => ?_) (fun h37 hx => ?_)
    · refine mm_if_ne 172 dX12_readNumber_142 (by decide) (fun h => absurd h37 h) (fun _ => ?_)
      refine mm_iload_n dX12_readNumber_145 rfl ?_
      refine b_if hx (fun h38 hx => ?_) (fun h38 hx => ?_)
      · refine mm_if_ne 177 dX12_readNumber_146 (by decide) (fun h => absurd h38 h) (fun _ => ?_)
        refine mm_aload_n dX12_readNumber_149 rfl rfl ?_
        refine mm_aload_n dX12_readNumber_150 rfl rfl ?_
        refine s_getI (r := some a) (b := a) (ci := 12) (k := 71) in_X12 rfl (by decide) rfl kF_X12_305 dX12_readNumber_151 rfl hs (by decide) hn (by decide) rfl ?_
        obtain ⟨v40, hc39, hx⟩ := b1_some hx
        refine mm_callV3 (a := a) (ci := 12) wM_X12_byteAt kM_X12_284 wI_X12_byteAt wS_X12_byteAt dX12_readNumber_154 (e_X12_byteAt hst hZ hn hs hc39) (mem_obj hs (by decide)) (sh_ltn hs (by decide) hn) rfl rfl rfl (Nat.le_of_ble_eq_true rfl) (by omega) (by omega) (fun v9 S9 hq => ?_)
        obtain ⟨rfl, rfl⟩ := hq
        refine ⟨fun h => ⟨h, rfl⟩, ?_⟩
        refine mm_bipush (v := 48) dX12_readNumber_157 (by decide) ?_
        refine b_if hx (fun h41 hx => ?_) (fun h41 hx => ?_)
        · refine mm_icmp_ne 177 dX12_readNumber_159 (by decide) (fun h => absurd h41 h) (fun _ => ?_)
          refine mm_iload_n dX12_readNumber_162 rfl ?_
          refine mm_aload_n dX12_readNumber_163 rfl rfl ?_
          refine s_getI (r := some a) (b := a) (ci := 12) (k := 71) in_X12 rfl (by decide) rfl kF_X12_305 dX12_readNumber_164 rfl hs (by decide) hn (by decide) rfl ?_
          refine mm_iconst (v := 1) dX12_readNumber_167 (by decide) ?_
          refine mm_iadd dX12_readNumber_168 ?_
          refine b_if hx (fun h42 hx => ?_) (fun h42 hx => ?_)
          · refine mm_icmp_le 177 dX12_readNumber_169 (by decide) (fun h => absurd h (Int32.not_le.mpr h42)) (fun _ => ?_)
            refine mm_fewer [some (.ref a), some (.int v1_), none, none] (few_ok (bs := [true, true, false, false]) rfl) ?_
            exact e_X12_readNumber_172 hst hZ hn hs hx
          · refine mm_icmp_le 177 dX12_readNumber_169 (by decide) (fun _ => ?_) (fun h => absurd (Int32.not_lt.mp h42) h)
            refine mm_fewer [some (.ref a), some (.int v1_), none, none] (few_ok (bs := [true, true, false, false]) rfl) ?_
            exact e_X12_readNumber_177 hst hZ hn hs hx
        · refine mm_icmp_ne 177 dX12_readNumber_159 (by decide) (fun _ => ?_) (fun h => absurd h h41)
          refine mm_fewer [some (.ref a), some (.int v1_), none, none] (few_ok (bs := [true, true, false, false]) rfl) ?_
          exact e_X12_readNumber_177 hst hZ hn hs hx
      · refine mm_if_ne 177 dX12_readNumber_146 (by decide) (fun _ => ?_) (fun h => absurd h h38)
        refine mm_fewer [some (.ref a), some (.int v1_), none, none] (few_ok (bs := [true, true, false, false]) rfl) ?_
        exact e_X12_readNumber_177 hst hZ hn hs hx
    · refine mm_if_ne 172 dX12_readNumber_142 (by decide) (fun _ => ?_) (fun h => absurd h h37)
      refine mm_fewer [some (.ref a), some (.int v1_), none, none] (few_ok (bs := [true, true, false, false]) rfl) ?_
      exact e_X12_readNumber_172 hst hZ hn hs hx
set_option maxHeartbeats 4000000 in
set_option maxRecDepth 100000 in
theorem e_X12_readNumber_50 {g : mm_G} {l : Launch} (hst : l.stackTraces = false) {Z : Nat → Nat → Option Nat} (hZ : HZ Z) {n : Nat} (hn : 1186 ≤ n) {z : Bool} {d : Nat} {U : Nat} {a : Nat} (hs : sh a = 12) {v1_ : Int32} {v2_ : Int32} {σ : SG} {σ' : SG} (hx : x_X12_readNumber_50 U a v1_ v2_ σ = some σ') : mm_V g l RX12 "readNumber" cX12_readNumber 4 none [] (d + 2) 0 0 (mm_nt (fun v S' => v = none ∧ S' = (mem Z σ', n, z))) 50 [some (.ref a), some (.int v1_), some (.int v2_), none] [] (mem Z σ, n, z) 0 0 := by
  unfold x_X12_readNumber_50 at hx
  refine mm_iload_n dX12_readNumber_50 rfl ?_
  refine mm_istore_n [some (.ref a), some (.int v1_), some (.int v2_), some (.int v1_)] dX12_readNumber_51 (by decide) rfl ?_
  refine e_X12_readNumber_L52 hst hZ hn hs ?_ _ _ _ hx
  · intro w28 σ29 hx
    exact e_X12_readNumber_129 hst hZ hn hs hx
set_option maxHeartbeats 4000000 in
set_option maxRecDepth 100000 in
theorem e_X12_readNumber_42 {g : mm_G} {l : Launch} (hst : l.stackTraces = false) {Z : Nat → Nat → Option Nat} (hZ : HZ Z) {n : Nat} (hn : 1186 ≤ n) {z : Bool} {d : Nat} {U : Nat} {a : Nat} (hs : sh a = 12) {v1_ : Int32} {s0_ : Int32} {σ : SG} {σ' : SG} (hx : x_X12_readNumber_42 U a v1_ s0_ σ = some σ') : mm_V g l RX12 "readNumber" cX12_readNumber 4 none [] (d + 2) 0 0 (mm_nt (fun v S' => v = none ∧ S' = (mem Z σ', n, z))) 42 [some (.ref a), some (.int v1_), none, none] [.int s0_] (mem Z σ, n, z) 0 0 := by
  unfold x_X12_readNumber_42 at hx
  refine mm_istore_n [some (.ref a), some (.int v1_), some (.int s0_), none] dX12_readNumber_42 (by decide) rfl ?_
  refine mm_iload_n dX12_readNumber_43 rfl ?_
  refine b_if hx (fun h9 hx => ?_) (fun h9 hx => ?_)
  · refine mm_if_eq 50 dX12_readNumber_44 (by decide) (fun _ => ?_) (fun h => absurd h9 h)
    exact e_X12_readNumber_50 hst hZ hn hs hx
  · refine mm_if_eq 50 dX12_readNumber_44 (by decide) (fun h => absurd h h9) (fun _ => ?_)
    refine mm_iinc (v := v1_ + 2) [some (.ref a), some (.int (v1_ + 2)), some (.int s0_), none] dX12_readNumber_47 rfl rfl (by decide) rfl ?_
    exact e_X12_readNumber_50 hst hZ hn hs hx
set_option maxHeartbeats 4000000 in
set_option maxRecDepth 100000 in
theorem e_X12_readNumber_41 {g : mm_G} {l : Launch} (hst : l.stackTraces = false) {Z : Nat → Nat → Option Nat} (hZ : HZ Z) {n : Nat} (hn : 1186 ≤ n) {z : Bool} {d : Nat} {U : Nat} {a : Nat} (hs : sh a = 12) {v1_ : Int32} {σ : SG} {σ' : SG} (hx : x_X12_readNumber_41 U a v1_ σ = some σ') : mm_V g l RX12 "readNumber" cX12_readNumber 4 none [] (d + 2) 0 0 (mm_nt (fun v S' => v = none ∧ S' = (mem Z σ', n, z))) 41 [some (.ref a), some (.int v1_), none, none] [] (mem Z σ, n, z) 0 0 := by
  unfold x_X12_readNumber_41 at hx
  refine mm_iconst (v := 0) dX12_readNumber_41 (by decide) ?_
  exact e_X12_readNumber_42 hst hZ hn hs hx
set_option maxHeartbeats 4000000 in
set_option maxRecDepth 100000 in
theorem e_X12_readNumber {g : mm_G} {l : Launch} (hst : l.stackTraces = false) {Z : Nat → Nat → Option Nat} (hZ : HZ Z) {n : Nat} (hn : 1186 ≤ n) {z : Bool} {d : Nat} {U : Nat} {a : Nat} (hs : sh a = 12) {σ : SG} {σ' : SG} (hx : x_X12_readNumber U a σ = some σ') : mm_Cm g l yX12_readNumber (.code yX12_readNumber cX12_readNumber 4 none) (d + 2) 0 0 [.ref a] (mem Z σ, n, z) (fun v S' => v = none ∧ S' = (mem Z σ', n, z)) := by
  refine mm_Cm_of hst (by decide) (Nat.le_of_ble_eq_true rfl) ?_
  show mm_V g l RX12 "readNumber" cX12_readNumber 4 none [] (d + 2) 0 0 (mm_nt (fun v S' => v = none ∧ S' = (mem Z σ', n, z))) 0 [some (.ref a), none, none, none] [] (mem Z σ, n, z) 0 0
  unfold x_X12_readNumber at hx
  refine mm_aload_n dX12_readNumber_0 rfl rfl ?_
  refine mm_iconst (v := 2) dX12_readNumber_1 (by decide) ?_
  refine s_putI (v := 2) (r := some a) (b := a) (ci := 12) (k := 70) in_X12 rfl (by decide) rfl tyX12_ok nmX12 rfl kF_X12_298 dX12_readNumber_2 (mm_fit_int _) rfl hs (by decide) hn (by decide) rfl hx (fun σ1 hx => ?_)
  refine mm_aload_n dX12_readNumber_5 rfl rfl ?_
  refine mm_lconst (v := 0) dX12_readNumber_6 (by decide) ?_
  refine s_putL (v := 0) (r := some a) (b := a) (ci := 12) (k := 77) in_X12 rfl (by decide) rfl tyX12_ok nmX12 rfl kF_X12_301 dX12_readNumber_7 (mm_fit_long _) rfl hs (by decide) hn (by decide) rfl hx (fun σ2 hx => ?_)
  refine mm_aload_n dX12_readNumber_10 rfl rfl ?_
  refine s_getI (r := some a) (b := a) (ci := 12) (k := 71) in_X12 rfl (by decide) rfl kF_X12_305 dX12_readNumber_11 rfl hs (by decide) hn (by decide) rfl ?_
  refine mm_istore_n [some (.ref a), some (.int (sI σ2 a 71)), none, none] dX12_readNumber_14 (by decide) rfl ?_
  refine mm_aload_n dX12_readNumber_15 rfl rfl ?_
  refine mm_iload_n dX12_readNumber_16 rfl ?_
  obtain ⟨v4, hc3, hx⟩ := b1_some hx
  refine mm_callV3 (a := a) (ci := 12) wM_X12_byteAt kM_X12_284 wI_X12_byteAt wS_X12_byteAt dX12_readNumber_17 (e_X12_byteAt hst hZ hn hs hc3) (mem_obj hs (by decide)) (sh_ltn hs (by decide) hn) rfl rfl rfl (Nat.le_of_ble_eq_true rfl) (by omega) (by omega) (fun v9 S9 hq => ?_)
  obtain ⟨rfl, rfl⟩ := hq
  refine ⟨fun h => ⟨h, rfl⟩, ?_⟩
  refine mm_bipush (v := 48) dX12_readNumber_20 (by decide) ?_
  refine b_if hx (fun h5 hx => ?_) (fun h5 hx => ?_)
  · refine mm_icmp_ne 41 dX12_readNumber_22 (by decide) (fun h => absurd h5 h) (fun _ => ?_)
    refine mm_aload_n dX12_readNumber_25 rfl rfl ?_
    refine mm_iload_n dX12_readNumber_26 rfl ?_
    refine mm_iconst (v := 1) dX12_readNumber_27 (by decide) ?_
    refine mm_iadd dX12_readNumber_28 ?_
    obtain ⟨v7, hc6, hx⟩ := b1_some hx
    refine mm_callV3 (a := a) (ci := 12) wM_X12_byteAt kM_X12_284 wI_X12_byteAt wS_X12_byteAt dX12_readNumber_29 (e_X12_byteAt hst hZ hn hs hc6) (mem_obj hs (by decide)) (sh_ltn hs (by decide) hn) rfl rfl rfl (Nat.le_of_ble_eq_true rfl) (by omega) (by omega) (fun v9 S9 hq => ?_)
    obtain ⟨rfl, rfl⟩ := hq
    refine ⟨fun h => ⟨h, rfl⟩, ?_⟩
    refine mm_bipush (v := 120) dX12_readNumber_32 (by decide) ?_
    refine b_if hx (fun h8 hx => ?_) (fun h8 hx => ?_)
    · refine mm_icmp_ne 41 dX12_readNumber_34 (by decide) (fun h => absurd h8 h) (fun _ => ?_)
      refine mm_iconst (v := 1) dX12_readNumber_37 (by decide) ?_
      refine mm_goto 42 dX12_readNumber_38 (by decide) ?_
      exact e_X12_readNumber_42 hst hZ hn hs hx
    · refine mm_icmp_ne 41 dX12_readNumber_34 (by decide) (fun _ => ?_) (fun h => absurd h h8)
      exact e_X12_readNumber_41 hst hZ hn hs hx
  · refine mm_icmp_ne 41 dX12_readNumber_22 (by decide) (fun _ => ?_) (fun h => absurd h h5)
    exact e_X12_readNumber_41 hst hZ hn hs hx
set_option maxHeartbeats 4000000 in
set_option maxRecDepth 100000 in
theorem e_X12_readText_L7 {g : mm_G} {l : Launch} (hst : l.stackTraces = false) {Z : Nat → Nat → Option Nat} (hZ : HZ Z) {n : Nat} (hn : 1186 ≤ n) {z : Bool} {d : Nat} {U : Nat} {a : Nat} (hs : sh a = 12) {k53 : Int32 → Option (SG)} {σ : SG} {σ' : SG} (hk53 : ∀ (v1_ : Int32), k53 v1_ = some σ' → mm_V g l RX12 "readText" cX12_readText 2 none [] (d + 1) 0 0 (mm_nt (fun v S' => v = none ∧ S' = (mem Z σ', n, z))) 53 [some (.ref a), some (.int v1_)] [] (mem Z σ, n, z) 0 0) : ∀ (U1 : Nat) (v1_ : Int32), x_X12_readText_L7 U a k53 σ U1 v1_ = some σ' → mm_V g l RX12 "readText" cX12_readText 2 none [] (d + 1) 0 0 (mm_nt (fun v S' => v = none ∧ S' = (mem Z σ', n, z))) 7 [some (.ref a), some (.int v1_)] [] (mem Z σ, n, z) 0 0 := by
  intro U1
  induction U1 with
  | zero => intro v1_ hx; exact absurd hx (by simp [x_X12_readText_L7])
  | succ U1 ih =>
    intro v1_ hx
    rw [x_X12_readText_L7] at hx
    refine mm_aload_n dX12_readText_7 rfl rfl ?_
    refine mm_iload_n dX12_readText_8 rfl ?_
    obtain ⟨v2, hc1, hx⟩ := b1_some hx
    refine mm_callV3 (a := a) (ci := 12) wM_X12_byteAt kM_X12_284 wI_X12_byteAt wS_X12_byteAt dX12_readText_9 (e_X12_byteAt hst hZ hn hs hc1) (mem_obj hs (by decide)) (sh_ltn hs (by decide) hn) rfl rfl rfl (Nat.le_of_ble_eq_true rfl) (by omega) (by omega) (fun v9 S9 hq => ?_)
    obtain ⟨rfl, rfl⟩ := hq
    refine ⟨fun h => ⟨h, rfl⟩, ?_⟩
    refine mm_bipush (v := 32) dX12_readText_12 (by decide) ?_
    refine b_if hx (fun h3 hx => ?_) (fun h3 hx => ?_)
    · refine mm_icmp_lt 53 dX12_readText_14 (by decide) (fun _ => ?_) (fun h => absurd h3 h)
      exact hk53 _ hx
    · refine mm_icmp_lt 53 dX12_readText_14 (by decide) (fun h => absurd h h3) (fun _ => ?_)
      refine mm_aload_n dX12_readText_17 rfl rfl ?_
      refine mm_iload_n dX12_readText_18 rfl ?_
      obtain ⟨v5, hc4, hx⟩ := b1_some hx
      refine mm_callV3 (a := a) (ci := 12) wM_X12_byteAt kM_X12_284 wI_X12_byteAt wS_X12_byteAt dX12_readText_19 (e_X12_byteAt hst hZ hn hs hc4) (mem_obj hs (by decide)) (sh_ltn hs (by decide) hn) rfl rfl rfl (Nat.le_of_ble_eq_true rfl) (by omega) (by omega) (fun v9 S9 hq => ?_)
      obtain ⟨rfl, rfl⟩ := hq
      refine ⟨fun h => ⟨h, rfl⟩, ?_⟩
      refine mm_bipush (v := 126) dX12_readText_22 (by decide) ?_
      refine b_if hx (fun h6 hx => ?_) (fun h6 hx => ?_)
      · refine mm_icmp_gt 53 dX12_readText_24 (by decide) (fun _ => ?_) (fun h => absurd h6 h)
        exact hk53 _ hx
      · refine mm_icmp_gt 53 dX12_readText_24 (by decide) (fun h => absurd h h6) (fun _ => ?_)
        refine mm_aload_n dX12_readText_27 rfl rfl ?_
        refine mm_iload_n dX12_readText_28 rfl ?_
        obtain ⟨v8, hc7, hx⟩ := b1_some hx
        refine mm_callV3 (a := a) (ci := 12) wM_X12_byteAt kM_X12_284 wI_X12_byteAt wS_X12_byteAt dX12_readText_29 (e_X12_byteAt hst hZ hn hs hc7) (mem_obj hs (by decide)) (sh_ltn hs (by decide) hn) rfl rfl rfl (Nat.le_of_ble_eq_true rfl) (by omega) (by omega) (fun v9 S9 hq => ?_)
        obtain ⟨rfl, rfl⟩ := hq
        refine ⟨fun h => ⟨h, rfl⟩, ?_⟩
        refine mm_bipush (v := 34) dX12_readText_32 (by decide) ?_
        refine b_if hx (fun h9 hx => ?_) (fun h9 hx => ?_)
        · refine mm_icmp_eq 53 dX12_readText_34 (by decide) (fun _ => ?_) (fun h => absurd h9 h)
          exact hk53 _ hx
        · refine mm_icmp_eq 53 dX12_readText_34 (by decide) (fun h => absurd h h9) (fun _ => ?_)
          refine mm_aload_n dX12_readText_37 rfl rfl ?_
          refine mm_iload_n dX12_readText_38 rfl ?_
          obtain ⟨v11, hc10, hx⟩ := b1_some hx
          refine mm_callV3 (a := a) (ci := 12) wM_X12_byteAt kM_X12_284 wI_X12_byteAt wS_X12_byteAt dX12_readText_39 (e_X12_byteAt hst hZ hn hs hc10) (mem_obj hs (by decide)) (sh_ltn hs (by decide) hn) rfl rfl rfl (Nat.le_of_ble_eq_true rfl) (by omega) (by omega) (fun v9 S9 hq => ?_)
          obtain ⟨rfl, rfl⟩ := hq
          refine ⟨fun h => ⟨h, rfl⟩, ?_⟩
          refine mm_bipush (v := 92) dX12_readText_42 (by decide) ?_
          refine b_if hx (fun h12 hx => ?_) (fun h12 hx => ?_)
          · refine mm_icmp_eq 53 dX12_readText_44 (by decide) (fun _ => ?_) (fun h => absurd h12 h)
            exact hk53 _ hx
          · refine mm_icmp_eq 53 dX12_readText_44 (by decide) (fun h => absurd h h12) (fun _ => ?_)
            refine mm_iinc (v := v1_ + 1) [some (.ref a), some (.int (v1_ + 1))] dX12_readText_47 rfl rfl (by decide) rfl ?_
            refine mm_goto 7 dX12_readText_50 (by decide) ?_
            exact ih _ hx
set_option maxHeartbeats 4000000 in
set_option maxRecDepth 100000 in
theorem e_X12_readText_69 {g : mm_G} {l : Launch} (hst : l.stackTraces = false) {Z : Nat → Nat → Option Nat} (hZ : HZ Z) {n : Nat} (hn : 1186 ≤ n) {z : Bool} {d : Nat} {U : Nat} {a : Nat} (hs : sh a = 12) {v1_ : Int32} {s0_ : Int32} {σ : SG} {σ' : SG} (hx : x_X12_readText_69 U a v1_ s0_ σ = some σ') : mm_V g l RX12 "readText" cX12_readText 2 none [] (d + 1) 0 0 (mm_nt (fun v S' => v = none ∧ S' = (mem Z σ', n, z))) 69 [some (.ref a), some (.int v1_)] [.int s0_, .ref a] (mem Z σ, n, z) 0 0 := by
  unfold x_X12_readText_69 at hx
  refine s_putI (v := s0_) (r := some a) (b := a) (ci := 12) (k := 70) in_X12 rfl (by decide) rfl tyX12_ok nmX12 rfl kF_X12_298 dX12_readText_69 (mm_fit_int _) rfl hs (by decide) hn (by decide) rfl hx (fun σ17 hx => ?_)
  refine mm_aload_n dX12_readText_72 rfl rfl ?_
  refine mm_iload_n dX12_readText_73 rfl ?_
  refine mm_iconst (v := 1) dX12_readText_74 (by decide) ?_
  refine mm_iadd dX12_readText_75 ?_
  refine s_putI (v := v1_ + 1) (r := some a) (b := a) (ci := 12) (k := 72) in_X12 rfl (by decide) rfl tyX12_ok nmX12 rfl kF_X12_316 dX12_readText_76 (mm_fit_int _) rfl hs (by decide) hn (by decide) rfl hx (fun σ18 hx => ?_)
  refine mm_vret dX12_readText_79 rfl ?_ (by omega) (by omega)
  obtain rfl := fin1 hx
  exact ⟨rfl, rfl⟩
set_option maxHeartbeats 4000000 in
set_option maxRecDepth 100000 in
theorem e_X12_readText_53 {g : mm_G} {l : Launch} (hst : l.stackTraces = false) {Z : Nat → Nat → Option Nat} (hZ : HZ Z) {n : Nat} (hn : 1186 ≤ n) {z : Bool} {d : Nat} {U : Nat} {a : Nat} (hs : sh a = 12) {v1_ : Int32} {σ : SG} {σ' : SG} (hx : x_X12_readText_53 U a v1_ σ = some σ') : mm_V g l RX12 "readText" cX12_readText 2 none [] (d + 1) 0 0 (mm_nt (fun v S' => v = none ∧ S' = (mem Z σ', n, z))) 53 [some (.ref a), some (.int v1_)] [] (mem Z σ, n, z) 0 0 := by
  unfold x_X12_readText_53 at hx
  refine mm_aload_n dX12_readText_53 rfl rfl ?_
  refine mm_aload_n dX12_readText_54 rfl rfl ?_
  refine mm_iload_n dX12_readText_55 rfl ?_
  obtain ⟨v15, hc14, hx⟩ := b1_some hx
  refine mm_callV3 (a := a) (ci := 12) wM_X12_byteAt kM_X12_284 wI_X12_byteAt wS_X12_byteAt dX12_readText_56 (e_X12_byteAt hst hZ hn hs hc14) (mem_obj hs (by decide)) (sh_ltn hs (by decide) hn) rfl rfl rfl (Nat.le_of_ble_eq_true rfl) (by omega) (by omega) (fun v9 S9 hq => ?_)
  obtain ⟨rfl, rfl⟩ := hq
  refine ⟨fun h => ⟨h, rfl⟩, ?_⟩
  refine mm_bipush (v := 34) dX12_readText_59 (by decide) ?_
  refine b_if hx (fun h16 hx => ?_) (fun h16 hx => ?_)
  · refine mm_icmp_ne 68 dX12_readText_61 (by decide) (fun h => absurd h16 h) (fun _ => ?_)
    refine mm_iconst (v := 3) dX12_readText_64 (by decide) ?_
    refine mm_goto 69 dX12_readText_65 (by decide) ?_
    exact e_X12_readText_69 hst hZ hn hs hx
  · refine mm_icmp_ne 68 dX12_readText_61 (by decide) (fun _ => ?_) (fun h => absurd h h16)
    refine mm_iconst (v := 5) dX12_readText_68 (by decide) ?_
    exact e_X12_readText_69 hst hZ hn hs hx
set_option maxHeartbeats 4000000 in
set_option maxRecDepth 100000 in
theorem e_X12_readText {g : mm_G} {l : Launch} (hst : l.stackTraces = false) {Z : Nat → Nat → Option Nat} (hZ : HZ Z) {n : Nat} (hn : 1186 ≤ n) {z : Bool} {d : Nat} {U : Nat} {a : Nat} (hs : sh a = 12) {σ : SG} {σ' : SG} (hx : x_X12_readText U a σ = some σ') : mm_Cm g l yX12_readText (.code yX12_readText cX12_readText 2 none) (d + 1) 0 0 [.ref a] (mem Z σ, n, z) (fun v S' => v = none ∧ S' = (mem Z σ', n, z)) := by
  refine mm_Cm_of hst (by decide) (Nat.le_of_ble_eq_true rfl) ?_
  show mm_V g l RX12 "readText" cX12_readText 2 none [] (d + 1) 0 0 (mm_nt (fun v S' => v = none ∧ S' = (mem Z σ', n, z))) 0 [some (.ref a), none] [] (mem Z σ, n, z) 0 0
  unfold x_X12_readText at hx
  refine mm_aload_n dX12_readText_0 rfl rfl ?_
  refine s_getI (r := some a) (b := a) (ci := 12) (k := 71) in_X12 rfl (by decide) rfl kF_X12_305 dX12_readText_1 rfl hs (by decide) hn (by decide) rfl ?_
  refine mm_iconst (v := 1) dX12_readText_4 (by decide) ?_
  refine mm_iadd dX12_readText_5 ?_
  refine mm_istore_n [some (.ref a), some (.int ((sI σ a 71) + 1))] dX12_readText_6 (by decide) rfl ?_
  refine e_X12_readText_L7 hst hZ hn hs ?_ _ _ hx
  · intro w13 hx
    exact e_X12_readText_53 hst hZ hn hs hx
set_option maxHeartbeats 4000000 in
set_option maxRecDepth 100000 in
theorem e_X12_look_L65 {g : mm_G} {l : Launch} (hst : l.stackTraces = false) {Z : Nat → Nat → Option Nat} (hZ : HZ Z) {n : Nat} (hn : 1186 ≤ n) {z : Bool} {d : Nat} {U : Nat} {a : Nat} (hs : sh a = 12) {σ' : SG} : ∀ (U1 : Nat) (σ : SG), x_X12_look_L65 U a U1 σ = some σ' → mm_V g l RX12 "look" cX12_look 3 none [] (d + 3) 0 0 (mm_nt (fun v S' => v = none ∧ S' = (mem Z σ', n, z))) 65 [some (.ref a), none, none] [] (mem Z σ, n, z) 0 0 := by
  intro U1
  induction U1 with
  | zero => intro σ hx; exact absurd hx (by simp [x_X12_look_L65])
  | succ U1 ih =>
    intro σ hx
    rw [x_X12_look_L65] at hx
    refine mm_aload_n dX12_look_65 rfl rfl ?_
    refine mm_aload_n dX12_look_66 rfl rfl ?_
    refine s_getI (r := some a) (b := a) (ci := 12) (k := 72) in_X12 rfl (by decide) rfl kF_X12_316 dX12_look_67 rfl hs (by decide) hn (by decide) rfl ?_
    obtain ⟨v24, hc23, hx⟩ := b1_some hx
    refine mm_callV3 (a := a) (ci := 12) wM_X12_byteAt kM_X12_284 wI_X12_byteAt wS_X12_byteAt dX12_look_70 (e_X12_byteAt hst hZ hn hs hc23) (mem_obj hs (by decide)) (sh_ltn hs (by decide) hn) rfl rfl rfl (Nat.le_of_ble_eq_true rfl) (by omega) (by omega) (fun v9 S9 hq => ?_)
    obtain ⟨rfl, rfl⟩ := hq
    refine ⟨fun h => ⟨h, rfl⟩, ?_⟩
    obtain ⟨v26, hc25, hx⟩ := b1_some hx
    refine mm_callS wM_X12_isPart kM_X12_313 wT_X12_isPart dX12_look_73 (e_X12_isPart hst hZ hn hc25) rfl rfl (Nat.le_of_ble_eq_true rfl) (by omega) (by omega) (fun v9 S9 hq => ?_)
    obtain ⟨rfl, rfl⟩ := hq
    refine ⟨fun h => ⟨h, rfl⟩, ?_⟩
    refine b_if hx (fun h27 hx => ?_) (fun h27 hx => ?_)
    · refine mm_if_eq 116 dX12_look_76 (by decide) (fun _ => ?_) (fun h => absurd h27 h)
      refine mm_vret dX12_look_116 rfl ?_ (by omega) (by omega)
      obtain rfl := fin1 hx
      exact ⟨rfl, rfl⟩
    · refine mm_if_eq 116 dX12_look_76 (by decide) (fun h => absurd h h27) (fun _ => ?_)
      refine mm_aload_n dX12_look_79 rfl rfl ?_
      refine mm_dup dX12_look_80 rfl ?_
      refine s_getI (r := some a) (b := a) (ci := 12) (k := 72) in_X12 rfl (by decide) rfl kF_X12_316 dX12_look_81 rfl hs (by decide) hn (by decide) rfl ?_
      refine mm_iconst (v := 1) dX12_look_84 (by decide) ?_
      refine mm_iadd dX12_look_85 ?_
      refine s_putI (v := (sI σ a 72) + 1) (r := some a) (b := a) (ci := 12) (k := 72) in_X12 rfl (by decide) rfl tyX12_ok nmX12 rfl kF_X12_316 dX12_look_86 (mm_fit_int _) rfl hs (by decide) hn (by decide) rfl hx (fun σ28 hx => ?_)
      refine mm_goto 65 dX12_look_89 (by decide) ?_
      exact ih  _ hx
set_option maxHeartbeats 4000000 in
set_option maxRecDepth 100000 in
theorem e_X12_look_50 {g : mm_G} {l : Launch} (hst : l.stackTraces = false) {Z : Nat → Nat → Option Nat} (hZ : HZ Z) {n : Nat} (hn : 1186 ≤ n) {z : Bool} {d : Nat} {U : Nat} {a : Nat} (hs : sh a = 12) {v2_ : Int32} {s0_ : Int32} {σ : SG} {σ' : SG} (hx : x_X12_look_50 U a v2_ s0_ σ = some σ') : mm_V g l RX12 "look" cX12_look 3 none [] (d + 3) 0 0 (mm_nt (fun v S' => v = none ∧ S' = (mem Z σ', n, z))) 50 [some (.ref a), none, some (.int v2_)] [.int s0_, .ref a] (mem Z σ, n, z) 0 0 := by
  unfold x_X12_look_50 at hx
  refine s_putI (v := s0_) (r := some a) (b := a) (ci := 12) (k := 70) in_X12 rfl (by decide) rfl tyX12_ok nmX12 rfl kF_X12_298 dX12_look_50 (mm_fit_int _) rfl hs (by decide) hn (by decide) rfl hx (fun σ10 hx => ?_)
  refine mm_iload_n dX12_look_53 rfl ?_
  obtain ⟨v12, hc11, hx⟩ := b1_some hx
  refine mm_callS wM_X12_isLetter kM_X12_277 wT_X12_isLetter dX12_look_54 (e_X12_isLetter hst hZ hn hc11) rfl rfl (Nat.le_of_ble_eq_true rfl) (by omega) (by omega) (fun v9 S9 hq => ?_)
  obtain ⟨rfl, rfl⟩ := hq
  refine ⟨fun h => ⟨h, rfl⟩, ?_⟩
  refine b_if hx (fun h13 hx => ?_) (fun h13 hx => ?_)
  · refine mm_if_eq 92 dX12_look_57 (by decide) (fun _ => ?_) (fun h => absurd h13 h)
    refine mm_iload_n dX12_look_92 rfl ?_
    obtain ⟨v15, hc14, hx⟩ := b1_some hx
    refine mm_callS wM_X12_isDigit kM_X12_281 wT_X12_isDigit dX12_look_93 (e_X12_isDigit hst hZ hn hc14) rfl rfl (Nat.le_of_ble_eq_true rfl) (by omega) (by omega) (fun v9 S9 hq => ?_)
    obtain ⟨rfl, rfl⟩ := hq
    refine ⟨fun h => ⟨h, rfl⟩, ?_⟩
    refine b_if hx (fun h16 hx => ?_) (fun h16 hx => ?_)
    · refine mm_if_eq 106 dX12_look_96 (by decide) (fun _ => ?_) (fun h => absurd h16 h)
      refine mm_iload_n dX12_look_106 rfl ?_
      refine mm_bipush (v := 34) dX12_look_107 (by decide) ?_
      refine b_if hx (fun h17 hx => ?_) (fun h17 hx => ?_)
      · refine mm_icmp_ne 116 dX12_look_109 (by decide) (fun h => absurd h17 h) (fun _ => ?_)
        refine mm_aload_n dX12_look_112 rfl rfl ?_
        obtain ⟨σ19, hc18, hx⟩ := b1_some hx
        refine mm_callV3 (a := a) (ci := 12) wM_X12_readText kM_X12_325 wI_X12_readText wS_X12_readText dX12_look_113 (e_X12_readText hst hZ hn hs hc18) (mem_obj hs (by decide)) (sh_ltn hs (by decide) hn) rfl rfl rfl (Nat.le_of_ble_eq_true rfl) (by omega) (by omega) (fun v9 S9 hq => ?_)
        obtain ⟨rfl, rfl⟩ := hq
        refine ⟨fun h => ⟨h, rfl⟩, ?_⟩
        refine mm_vret dX12_look_116 rfl ?_ (by omega) (by omega)
        obtain rfl := fin1 hx
        exact ⟨rfl, rfl⟩
      · refine mm_icmp_ne 116 dX12_look_109 (by decide) (fun _ => ?_) (fun h => absurd h h17)
        refine mm_vret dX12_look_116 rfl ?_ (by omega) (by omega)
        obtain rfl := fin1 hx
        exact ⟨rfl, rfl⟩
    · refine mm_if_eq 106 dX12_look_96 (by decide) (fun h => absurd h h16) (fun _ => ?_)
      refine mm_aload_n dX12_look_99 rfl rfl ?_
      obtain ⟨σ21, hc20, hx⟩ := b1_some hx
      refine mm_callV3 (a := a) (ci := 12) wM_X12_readNumber kM_X12_322 wI_X12_readNumber wS_X12_readNumber dX12_look_100 (e_X12_readNumber hst hZ hn hs hc20) (mem_obj hs (by decide)) (sh_ltn hs (by decide) hn) rfl rfl rfl (Nat.le_of_ble_eq_true rfl) (by omega) (by omega) (fun v9 S9 hq => ?_)
      obtain ⟨rfl, rfl⟩ := hq
      refine ⟨fun h => ⟨h, rfl⟩, ?_⟩
      refine mm_goto 116 dX12_look_103 (by decide) ?_
      refine mm_vret dX12_look_116 rfl ?_ (by omega) (by omega)
      obtain rfl := fin1 hx
      exact ⟨rfl, rfl⟩
  · refine mm_if_eq 92 dX12_look_57 (by decide) (fun h => absurd h h13) (fun _ => ?_)
    refine mm_aload_n dX12_look_60 rfl rfl ?_
    refine mm_iconst (v := 1) dX12_look_61 (by decide) ?_
    refine s_putI (v := 1) (r := some a) (b := a) (ci := 12) (k := 70) in_X12 rfl (by decide) rfl tyX12_ok nmX12 rfl kF_X12_298 dX12_look_62 (mm_fit_int _) rfl hs (by decide) hn (by decide) rfl hx (fun σ22 hx => ?_)
    refine mm_fewer [some (.ref a), none, none] (few_ok (bs := [true, false, false]) rfl) ?_
    refine e_X12_look_L65 hst hZ hn hs _ _ hx
set_option maxHeartbeats 4000000 in
set_option maxRecDepth 100000 in
theorem e_X12_look {g : mm_G} {l : Launch} (hst : l.stackTraces = false) {Z : Nat → Nat → Option Nat} (hZ : HZ Z) {n : Nat} (hn : 1186 ≤ n) {z : Bool} {d : Nat} {U : Nat} {a : Nat} (hs : sh a = 12) {p0 : Int32} {σ : SG} {σ' : SG} (hx : x_X12_look U a p0 σ = some σ') : mm_Cm g l yX12_look (.code yX12_look cX12_look 3 none) (d + 3) 0 0 [.ref a, .int p0] (mem Z σ, n, z) (fun v S' => v = none ∧ S' = (mem Z σ', n, z)) := by
  refine mm_Cm_of hst (by decide) (Nat.le_of_ble_eq_true rfl) ?_
  show mm_V g l RX12 "look" cX12_look 3 none [] (d + 3) 0 0 (mm_nt (fun v S' => v = none ∧ S' = (mem Z σ', n, z))) 0 [some (.ref a), some (.int p0), none] [] (mem Z σ, n, z) 0 0
  unfold x_X12_look at hx
  refine mm_aload_n dX12_look_0 rfl rfl ?_
  refine mm_aload_n dX12_look_1 rfl rfl ?_
  refine mm_iload_n dX12_look_2 rfl ?_
  obtain ⟨v2, σ3, hc1, hx⟩ := b2_some hx
  refine mm_callV3 (a := a) (ci := 12) wM_X12_behindBlanks kM_X12_319 wI_X12_behindBlanks wS_X12_behindBlanks dX12_look_3 (e_X12_behindBlanks hst hZ hn hs hc1) (mem_obj hs (by decide)) (sh_ltn hs (by decide) hn) rfl rfl rfl (Nat.le_of_ble_eq_true rfl) (by omega) (by omega) (fun v9 S9 hq => ?_)
  obtain ⟨rfl, rfl⟩ := hq
  refine ⟨fun h => ⟨h, rfl⟩, ?_⟩
  refine s_putI (v := v2) (r := some a) (b := a) (ci := 12) (k := 71) in_X12 rfl (by decide) rfl tyX12_ok nmX12 rfl kF_X12_305 dX12_look_6 (mm_fit_int _) rfl hs (by decide) hn (by decide) rfl hx (fun σ4 hx => ?_)
  refine mm_aload_n dX12_look_9 rfl rfl ?_
  refine mm_aload_n dX12_look_10 rfl rfl ?_
  refine s_getI (r := some a) (b := a) (ci := 12) (k := 71) in_X12 rfl (by decide) rfl kF_X12_305 dX12_look_11 rfl hs (by decide) hn (by decide) rfl ?_
  obtain ⟨v6, hc5, hx⟩ := b1_some hx
  refine mm_callV3 (a := a) (ci := 12) wM_X12_byteAt kM_X12_284 wI_X12_byteAt wS_X12_byteAt dX12_look_14 (e_X12_byteAt hst hZ hn hs hc5) (mem_obj hs (by decide)) (sh_ltn hs (by decide) hn) rfl rfl rfl (Nat.le_of_ble_eq_true rfl) (by omega) (by omega) (fun v9 S9 hq => ?_)
  obtain ⟨rfl, rfl⟩ := hq
  refine ⟨fun h => ⟨h, rfl⟩, ?_⟩
  refine mm_istore_n [some (.ref a), some (.int p0), some (.int v6)] dX12_look_17 (by decide) rfl ?_
  refine mm_aload_n dX12_look_18 rfl rfl ?_
  refine mm_aload_n dX12_look_19 rfl rfl ?_
  refine s_getI (r := some a) (b := a) (ci := 12) (k := 71) in_X12 rfl (by decide) rfl kF_X12_305 dX12_look_20 rfl hs (by decide) hn (by decide) rfl ?_
  refine mm_iconst (v := 1) dX12_look_23 (by decide) ?_
  refine mm_iadd dX12_look_24 ?_
  refine s_putI (v := (sI σ4 a 71) + 1) (r := some a) (b := a) (ci := 12) (k := 72) in_X12 rfl (by decide) rfl tyX12_ok nmX12 rfl kF_X12_316 dX12_look_25 (mm_fit_int _) rfl hs (by decide) hn (by decide) rfl hx (fun σ7 hx => ?_)
  refine mm_aload_n dX12_look_28 rfl rfl ?_
  refine mm_iload_n dX12_look_29 rfl ?_
  refine mm_iconst (v := (-1)) dX12_look_30 (by decide) ?_
  refine b_if hx (fun h8 hx => ?_) (fun h8 hx => ?_)
  · refine mm_icmp_eq 38 dX12_look_31 (by decide) (fun _ => ?_) (fun h => absurd h8 h)
    refine mm_aload_n dX12_look_38 rfl rfl ?_
    refine s_getI (r := some a) (b := a) (ci := 12) (k := 76) in_X12 rfl (by decide) rfl kF_X12_288 dX12_look_39 rfl hs (by decide) hn (by decide) rfl ?_
    refine b_if hx (fun h9 hx => ?_) (fun h9 hx => ?_)
    · refine mm_if_eq 49 dX12_look_42 (by decide) (fun _ => ?_) (fun h => absurd h9 h)
      refine mm_iconst (v := 0) dX12_look_49 (by decide) ?_
      refine mm_fewer [some (.ref a), none, some (.int v6)] (few_ok (bs := [true, false, true]) rfl) ?_
      exact e_X12_look_50 hst hZ hn hs hx
    · refine mm_if_eq 49 dX12_look_42 (by decide) (fun h => absurd h h9) (fun _ => ?_)
      refine mm_iconst (v := 5) dX12_look_45 (by decide) ?_
      refine mm_goto 50 dX12_look_46 (by decide) ?_
      refine mm_fewer [some (.ref a), none, some (.int v6)] (few_ok (bs := [true, false, true]) rfl) ?_
      exact e_X12_look_50 hst hZ hn hs hx
  · refine mm_icmp_eq 38 dX12_look_31 (by decide) (fun h => absurd h h8) (fun _ => ?_)
    refine mm_iconst (v := 4) dX12_look_34 (by decide) ?_
    refine mm_goto 50 dX12_look_35 (by decide) ?_
    refine mm_fewer [some (.ref a), none, some (.int v6)] (few_ok (bs := [true, false, true]) rfl) ?_
    exact e_X12_look_50 hst hZ hn hs hx
set_option maxHeartbeats 4000000 in
set_option maxRecDepth 100000 in
theorem e_X12_next {g : mm_G} {l : Launch} (hst : l.stackTraces = false) {Z : Nat → Nat → Option Nat} (hZ : HZ Z) {n : Nat} (hn : 1186 ≤ n) {z : Bool} {d : Nat} {U : Nat} {a : Nat} (hs : sh a = 12) {σ : SG} {σ' : SG} (hx : x_X12_next U a σ = some σ') : mm_Cm g l yX12_next (.code yX12_next cX12_next 1 none) (d + 4) 0 0 [.ref a] (mem Z σ, n, z) (fun v S' => v = none ∧ S' = (mem Z σ', n, z)) := by
  refine mm_Cm_of hst (by decide) (Nat.le_of_ble_eq_true rfl) ?_
  show mm_V g l RX12 "next" cX12_next 1 none [] (d + 4) 0 0 (mm_nt (fun v S' => v = none ∧ S' = (mem Z σ', n, z))) 0 [some (.ref a)] [] (mem Z σ, n, z) 0 0
  unfold x_X12_next at hx
  refine mm_aload_n dX12_next_0 rfl rfl ?_
  refine mm_aload_n dX12_next_1 rfl rfl ?_
  refine s_getI (r := some a) (b := a) (ci := 12) (k := 72) in_X12 rfl (by decide) rfl kF_X12_316 dX12_next_2 rfl hs (by decide) hn (by decide) rfl ?_
  obtain ⟨σ2, hc1, hx⟩ := b1_some hx
  refine mm_callV3 (a := a) (ci := 12) wM_X12_look kM_X12_350 wI_X12_look wS_X12_look dX12_next_5 (e_X12_look hst hZ hn hs hc1) (mem_obj hs (by decide)) (sh_ltn hs (by decide) hn) rfl rfl rfl (Nat.le_of_ble_eq_true rfl) (by omega) (by omega) (fun v9 S9 hq => ?_)
  obtain ⟨rfl, rfl⟩ := hq
  refine ⟨fun h => ⟨h, rfl⟩, ?_⟩
  refine mm_vret dX12_next_8 rfl ?_ (by omega) (by omega)
  obtain rfl := fin1 hx
  exact ⟨rfl, rfl⟩
set_option maxHeartbeats 4000000 in
set_option maxRecDepth 100000 in
theorem e_X12_fail {g : mm_G} {l : Launch} (hst : l.stackTraces = false) {Z : Nat → Nat → Option Nat} (hZ : HZ Z) {n : Nat} (hn : 1186 ≤ n) {z : Bool} {d : Nat} {a : Nat} (hs : sh a = 12) {p0 : Int32} {p1 : Int32} {σ : SG} {σ' : SG} (hx : x_X12_fail a p0 p1 σ = some σ') : mm_Cm g l yX12_fail (.code yX12_fail cX12_fail 3 none) (d) 0 0 [.ref a, .int p0, .int p1] (mem Z σ, n, z) (fun v S' => v = none ∧ S' = (mem Z σ', n, z)) := by
  refine mm_Cm_of hst (by decide) (Nat.le_of_ble_eq_true rfl) ?_
  show mm_V g l RX12 "fail" cX12_fail 3 none [] (d) 0 0 (mm_nt (fun v S' => v = none ∧ S' = (mem Z σ', n, z))) 0 [some (.ref a), some (.int p0), some (.int p1)] [] (mem Z σ, n, z) 0 0
  unfold x_X12_fail at hx
  refine mm_aload_n dX12_fail_0 rfl rfl ?_
  refine s_getI (r := some a) (b := a) (ci := 12) (k := 74) in_X12 rfl (by decide) rfl kF_X12_328 dX12_fail_1 rfl hs (by decide) hn (by decide) rfl ?_
  refine b_if hx (fun h1 hx => ?_) (fun h1 hx => ?_)
  · refine mm_if_eq 8 dX12_fail_4 (by decide) (fun _ => ?_) (fun h => absurd h1 h)
    refine mm_aload_n dX12_fail_8 rfl rfl ?_
    refine mm_iload_n dX12_fail_9 rfl ?_
    refine s_putI (v := p0) (r := some a) (b := a) (ci := 12) (k := 74) in_X12 rfl (by decide) rfl tyX12_ok nmX12 rfl kF_X12_328 dX12_fail_10 (mm_fit_int _) rfl hs (by decide) hn (by decide) rfl hx (fun σ2 hx => ?_)
    refine mm_aload_n dX12_fail_13 rfl rfl ?_
    refine mm_iload_n dX12_fail_14 rfl ?_
    refine s_putI (v := p1) (r := some a) (b := a) (ci := 12) (k := 75) in_X12 rfl (by decide) rfl tyX12_ok nmX12 rfl kF_X12_331 dX12_fail_15 (mm_fit_int _) rfl hs (by decide) hn (by decide) rfl hx (fun σ3 hx => ?_)
    refine mm_vret dX12_fail_18 rfl ?_ (by omega) (by omega)
    obtain rfl := fin1 hx
    exact ⟨rfl, rfl⟩
  · refine mm_if_eq 8 dX12_fail_4 (by decide) (fun h => absurd h h1) (fun _ => ?_)
    refine mm_vret dX12_fail_7 rfl ?_ (by omega) (by omega)
    obtain rfl := fin1 hx
    exact ⟨rfl, rfl⟩
set_option maxHeartbeats 4000000 in
set_option maxRecDepth 100000 in
theorem e_X12_declare {g : mm_G} {l : Launch} (hst : l.stackTraces = false) {Z : Nat → Nat → Option Nat} (hZ : HZ Z) {n : Nat} (hn : 1186 ≤ n) {z : Bool} {d : Nat} {U : Nat} {a : Nat} (hs : sh a = 12) {p0 : Int32} {σ : SG} {σ' : SG} (hx : x_X12_declare U a p0 σ = some σ') : mm_Cm g l yX12_declare (.code yX12_declare cX12_declare 2 none) (d + 5) 0 0 [.ref a, .int p0] (mem Z σ, n, z) (fun v S' => v = none ∧ S' = (mem Z σ', n, z)) := by
  refine mm_Cm_of hst (by decide) (Nat.le_of_ble_eq_true rfl) ?_
  show mm_V g l RX12 "declare" cX12_declare 2 none [] (d + 5) 0 0 (mm_nt (fun v S' => v = none ∧ S' = (mem Z σ', n, z))) 0 [some (.ref a), some (.int p0)] [] (mem Z σ, n, z) 0 0
  unfold x_X12_declare at hx
  refine mm_aload_n dX12_declare_0 rfl rfl ?_
  refine s_getI (r := some a) (b := a) (ci := 12) (k := 74) in_X12 rfl (by decide) rfl kF_X12_328 dX12_declare_1 rfl hs (by decide) hn (by decide) rfl ?_
  refine b_if hx (fun h1 hx => ?_) (fun h1 hx => ?_)
  · refine mm_if_eq 8 dX12_declare_4 (by decide) (fun _ => ?_) (fun h => absurd h1 h)
    refine mm_aload_n dX12_declare_8 rfl rfl ?_
    refine s_getI (r := some a) (b := a) (ci := 12) (k := 70) in_X12 rfl (by decide) rfl kF_X12_298 dX12_declare_9 rfl hs (by decide) hn (by decide) rfl ?_
    refine mm_iconst (v := 1) dX12_declare_12 (by decide) ?_
    refine b_if hx (fun h2 hx => ?_) (fun h2 hx => ?_)
    · refine mm_icmp_eq 26 dX12_declare_13 (by decide) (fun _ => ?_) (fun h => absurd h2 h)
      refine mm_aload_n dX12_declare_26 rfl rfl ?_
      refine s_getS (q := 1156) (r := some a) (b := a) (ci := 12) (k := 67) in_X12 rfl (by decide) rfl kF_X12_178 dX12_declare_27 rfl hs (by decide) hn (by decide) rfl rfl ?_
      refine mm_aload_n dX12_declare_30 rfl rfl ?_
      refine s_getI (r := some a) (b := a) (ci := 12) (k := 38) in_X12 rfl (by decide) rfl kF_X12_394 dX12_declare_31 rfl hs (by decide) hn (by decide) rfl ?_
      refine mm_iload_n dX12_declare_34 rfl ?_
      obtain ⟨j3, hj4, hb5, hl6, hx⟩ := ix_some hx
      refine s_iast (a := 1156) (v := p0) sa_1156 hn hj4 hb5 na_1156 dX12_declare_35 hx (fun σ7 hx => ?_)
      refine mm_aload_n dX12_declare_36 rfl rfl ?_
      refine s_getS (q := 1157) (r := some a) (b := a) (ci := 12) (k := 68) in_X12 rfl (by decide) rfl kF_X12_181 dX12_declare_37 rfl hs (by decide) hn (by decide) rfl rfl ?_
      refine mm_aload_n dX12_declare_40 rfl rfl ?_
      refine s_getI (r := some a) (b := a) (ci := 12) (k := 38) in_X12 rfl (by decide) rfl kF_X12_394 dX12_declare_41 rfl hs (by decide) hn (by decide) rfl ?_
      refine mm_aload_n dX12_declare_44 rfl rfl ?_
      refine s_getI (r := some a) (b := a) (ci := 12) (k := 71) in_X12 rfl (by decide) rfl kF_X12_305 dX12_declare_45 rfl hs (by decide) hn (by decide) rfl ?_
      obtain ⟨j8, hj9, hb10, hl11, hx⟩ := ix_some hx
      refine s_iast (a := 1157) (v := sI σ7 a 71) sa_1157 hn hj9 hb10 na_1157 dX12_declare_48 hx (fun σ12 hx => ?_)
      refine mm_aload_n dX12_declare_49 rfl rfl ?_
      refine s_getS (q := 1158) (r := some a) (b := a) (ci := 12) (k := 69) in_X12 rfl (by decide) rfl kF_X12_184 dX12_declare_50 rfl hs (by decide) hn (by decide) rfl rfl ?_
      refine mm_aload_n dX12_declare_53 rfl rfl ?_
      refine s_getI (r := some a) (b := a) (ci := 12) (k := 38) in_X12 rfl (by decide) rfl kF_X12_394 dX12_declare_54 rfl hs (by decide) hn (by decide) rfl ?_
      refine mm_aload_n dX12_declare_57 rfl rfl ?_
      refine s_getI (r := some a) (b := a) (ci := 12) (k := 72) in_X12 rfl (by decide) rfl kF_X12_316 dX12_declare_58 rfl hs (by decide) hn (by decide) rfl ?_
      refine mm_aload_n dX12_declare_61 rfl rfl ?_
      refine s_getI (r := some a) (b := a) (ci := 12) (k := 71) in_X12 rfl (by decide) rfl kF_X12_305 dX12_declare_62 rfl hs (by decide) hn (by decide) rfl ?_
      refine mm_isub dX12_declare_65 ?_
      obtain ⟨j13, hj14, hb15, hl16, hx⟩ := ix_some hx
      refine s_iast (a := 1158) (v := (sI σ12 a 72) - (sI σ12 a 71)) sa_1158 hn hj14 hb15 na_1158 dX12_declare_66 hx (fun σ17 hx => ?_)
      refine mm_aload_n dX12_declare_67 rfl rfl ?_
      refine mm_dup dX12_declare_68 rfl ?_
      refine s_getI (r := some a) (b := a) (ci := 12) (k := 38) in_X12 rfl (by decide) rfl kF_X12_394 dX12_declare_69 rfl hs (by decide) hn (by decide) rfl ?_
      refine mm_iconst (v := 1) dX12_declare_72 (by decide) ?_
      refine mm_iadd dX12_declare_73 ?_
      refine s_putI (v := (sI σ17 a 38) + 1) (r := some a) (b := a) (ci := 12) (k := 38) in_X12 rfl (by decide) rfl tyX12_ok nmX12 rfl kF_X12_394 dX12_declare_74 (mm_fit_int _) rfl hs (by decide) hn (by decide) rfl hx (fun σ18 hx => ?_)
      refine mm_aload_n dX12_declare_77 rfl rfl ?_
      obtain ⟨σ20, hc19, hx⟩ := b1_some hx
      refine mm_callV3 (a := a) (ci := 12) wM_X12_next kM_X12_357 wI_X12_next wS_X12_next dX12_declare_78 (e_X12_next hst hZ hn hs hc19) (mem_obj hs (by decide)) (sh_ltn hs (by decide) hn) rfl rfl rfl (Nat.le_of_ble_eq_true rfl) (by omega) (by omega) (fun v9 S9 hq => ?_)
      obtain ⟨rfl, rfl⟩ := hq
      refine ⟨fun h => ⟨h, rfl⟩, ?_⟩
      refine mm_vret dX12_declare_81 rfl ?_ (by omega) (by omega)
      obtain rfl := fin1 hx
      exact ⟨rfl, rfl⟩
    · refine mm_icmp_eq 26 dX12_declare_13 (by decide) (fun h => absurd h h2) (fun _ => ?_)
      refine mm_aload_n dX12_declare_16 rfl rfl ?_
      refine mm_iconst (v := 1) dX12_declare_17 (by decide) ?_
      refine mm_aload_n dX12_declare_18 rfl rfl ?_
      refine s_getI (r := some a) (b := a) (ci := 12) (k := 71) in_X12 rfl (by decide) rfl kF_X12_305 dX12_declare_19 rfl hs (by decide) hn (by decide) rfl ?_
      obtain ⟨σ22, hc21, hx⟩ := b1_some hx
      refine mm_callV3 (a := a) (ci := 12) wM_X12_fail kM_X12_360 wI_X12_fail wS_X12_fail dX12_declare_22 (e_X12_fail hst hZ hn hs hc21) (mem_obj hs (by decide)) (sh_ltn hs (by decide) hn) rfl rfl rfl (Nat.le_of_ble_eq_true rfl) (by omega) (by omega) (fun v9 S9 hq => ?_)
      obtain ⟨rfl, rfl⟩ := hq
      refine ⟨fun h => ⟨h, rfl⟩, ?_⟩
      refine mm_vret dX12_declare_25 rfl ?_ (by omega) (by omega)
      obtain rfl := fin1 hx
      exact ⟨rfl, rfl⟩
  · refine mm_if_eq 8 dX12_declare_4 (by decide) (fun h => absurd h h1) (fun _ => ?_)
    refine mm_vret dX12_declare_7 rfl ?_ (by omega) (by omega)
    obtain rfl := fin1 hx
    exact ⟨rfl, rfl⟩
set_option maxHeartbeats 4000000 in
set_option maxRecDepth 100000 in
theorem e_X12_lastAt {g : mm_G} {l : Launch} (hst : l.stackTraces = false) {Z : Nat → Nat → Option Nat} (hZ : HZ Z) {n : Nat} (hn : 1186 ≤ n) {z : Bool} {d : Nat} {a : Nat} (hs : sh a = 12) {σ : SG} {r : Int32} (hx : x_X12_lastAt a σ = some r) : mm_Cm g l yX12_lastAt (.code yX12_lastAt cX12_lastAt 1 (some .int)) (d) 0 0 [.ref a] (mem Z σ, n, z) (fun v S' => v = some (.int r) ∧ S' = (mem Z σ, n, z)) := by
  refine mm_Cm_of hst (by decide) (Nat.le_of_ble_eq_true rfl) ?_
  show mm_V g l RX12 "lastAt" cX12_lastAt 1 (some .int) [] (d) 0 0 (mm_nt (fun v S' => v = some (.int r) ∧ S' = (mem Z σ, n, z))) 0 [some (.ref a)] [] (mem Z σ, n, z) 0 0
  unfold x_X12_lastAt at hx
  refine mm_aload_n dX12_lastAt_0 rfl rfl ?_
  refine s_getI (r := some a) (b := a) (ci := 12) (k := 38) in_X12 rfl (by decide) rfl kF_X12_394 dX12_lastAt_1 rfl hs (by decide) hn (by decide) rfl ?_
  refine b_if hx (fun h1 hx => ?_) (fun h1 hx => ?_)
  · refine mm_if_ne 11 dX12_lastAt_4 (by decide) (fun h => absurd h1 h) (fun _ => ?_)
    refine mm_iconst (v := 0) dX12_lastAt_7 (by decide) ?_
    refine mm_goto 22 dX12_lastAt_8 (by decide) ?_
    refine mm_iret dX12_lastAt_22 rfl rfl ?_ (by omega) (by omega)
    obtain rfl := fin1 hx
    exact ⟨rfl, rfl⟩
  · refine mm_if_ne 11 dX12_lastAt_4 (by decide) (fun _ => ?_) (fun h => absurd h h1)
    refine mm_aload_n dX12_lastAt_11 rfl rfl ?_
    refine s_getS (q := 1157) (r := some a) (b := a) (ci := 12) (k := 68) in_X12 rfl (by decide) rfl kF_X12_181 dX12_lastAt_12 rfl hs (by decide) hn (by decide) rfl rfl ?_
    refine mm_aload_n dX12_lastAt_15 rfl rfl ?_
    refine s_getI (r := some a) (b := a) (ci := 12) (k := 38) in_X12 rfl (by decide) rfl kF_X12_394 dX12_lastAt_16 rfl hs (by decide) hn (by decide) rfl ?_
    refine mm_iconst (v := 1) dX12_lastAt_19 (by decide) ?_
    refine mm_isub dX12_lastAt_20 ?_
    obtain ⟨j2, hj3, hb4, hl5, hx⟩ := ix_some hx
    refine s_iald (a := 1157) sa_1157 hn hj3 hb4 na_1157 dX12_lastAt_21 ?_
    refine mm_iret dX12_lastAt_22 rfl rfl ?_ (by omega) (by omega)
    obtain rfl := fin1 hx
    exact ⟨rfl, rfl⟩
set_option maxHeartbeats 4000000 in
set_option maxRecDepth 100000 in
theorem e_X12_lastLong {g : mm_G} {l : Launch} (hst : l.stackTraces = false) {Z : Nat → Nat → Option Nat} (hZ : HZ Z) {n : Nat} (hn : 1186 ≤ n) {z : Bool} {d : Nat} {a : Nat} (hs : sh a = 12) {σ : SG} {r : Int32} (hx : x_X12_lastLong a σ = some r) : mm_Cm g l yX12_lastLong (.code yX12_lastLong cX12_lastLong 1 (some .int)) (d) 0 0 [.ref a] (mem Z σ, n, z) (fun v S' => v = some (.int r) ∧ S' = (mem Z σ, n, z)) := by
  refine mm_Cm_of hst (by decide) (Nat.le_of_ble_eq_true rfl) ?_
  show mm_V g l RX12 "lastLong" cX12_lastLong 1 (some .int) [] (d) 0 0 (mm_nt (fun v S' => v = some (.int r) ∧ S' = (mem Z σ, n, z))) 0 [some (.ref a)] [] (mem Z σ, n, z) 0 0
  unfold x_X12_lastLong at hx
  refine mm_aload_n dX12_lastLong_0 rfl rfl ?_
  refine s_getI (r := some a) (b := a) (ci := 12) (k := 38) in_X12 rfl (by decide) rfl kF_X12_394 dX12_lastLong_1 rfl hs (by decide) hn (by decide) rfl ?_
  refine b_if hx (fun h1 hx => ?_) (fun h1 hx => ?_)
  · refine mm_if_ne 11 dX12_lastLong_4 (by decide) (fun h => absurd h1 h) (fun _ => ?_)
    refine mm_iconst (v := 0) dX12_lastLong_7 (by decide) ?_
    refine mm_goto 22 dX12_lastLong_8 (by decide) ?_
    refine mm_iret dX12_lastLong_22 rfl rfl ?_ (by omega) (by omega)
    obtain rfl := fin1 hx
    exact ⟨rfl, rfl⟩
  · refine mm_if_ne 11 dX12_lastLong_4 (by decide) (fun _ => ?_) (fun h => absurd h h1)
    refine mm_aload_n dX12_lastLong_11 rfl rfl ?_
    refine s_getS (q := 1158) (r := some a) (b := a) (ci := 12) (k := 69) in_X12 rfl (by decide) rfl kF_X12_184 dX12_lastLong_12 rfl hs (by decide) hn (by decide) rfl rfl ?_
    refine mm_aload_n dX12_lastLong_15 rfl rfl ?_
    refine s_getI (r := some a) (b := a) (ci := 12) (k := 38) in_X12 rfl (by decide) rfl kF_X12_394 dX12_lastLong_16 rfl hs (by decide) hn (by decide) rfl ?_
    refine mm_iconst (v := 1) dX12_lastLong_19 (by decide) ?_
    refine mm_isub dX12_lastLong_20 ?_
    obtain ⟨j2, hj3, hb4, hl5, hx⟩ := ix_some hx
    refine s_iald (a := 1158) sa_1158 hn hj3 hb4 na_1158 dX12_lastLong_21 ?_
    refine mm_iret dX12_lastLong_22 rfl rfl ?_ (by omega) (by omega)
    obtain rfl := fin1 hx
    exact ⟨rfl, rfl⟩
set_option maxHeartbeats 4000000 in
set_option maxRecDepth 100000 in
theorem e_X12_isSign {g : mm_G} {l : Launch} (hst : l.stackTraces = false) {Z : Nat → Nat → Option Nat} (hZ : HZ Z) {n : Nat} (hn : 1186 ≤ n) {z : Bool} {d : Nat} {a : Nat} (hs : sh a = 12) {p0 : Int32} {σ : SG} {r : Int32} (hx : x_X12_isSign a p0 σ = some r) : mm_Cm g l yX12_isSign (.code yX12_isSign cX12_isSign 2 (some .boolean)) (d) 0 0 [.ref a, .int p0] (mem Z σ, n, z) (fun v S' => v = some (.int r) ∧ S' = (mem Z σ, n, z)) := by
  refine mm_Cm_of hst (by decide) (Nat.le_of_ble_eq_true rfl) ?_
  show mm_V g l RX12 "isSign" cX12_isSign 2 (some .boolean) [] (d) 0 0 (mm_nt (fun v S' => v = some (.int r) ∧ S' = (mem Z σ, n, z))) 0 [some (.ref a), some (.int p0)] [] (mem Z σ, n, z) 0 0
  unfold x_X12_isSign at hx
  refine mm_aload_n dX12_isSign_0 rfl rfl ?_
  refine s_getI (r := some a) (b := a) (ci := 12) (k := 70) in_X12 rfl (by decide) rfl kF_X12_298 dX12_isSign_1 rfl hs (by decide) hn (by decide) rfl ?_
  refine mm_iconst (v := 4) dX12_isSign_4 (by decide) ?_
  refine b_if hx (fun h1 hx => ?_) (fun h1 hx => ?_)
  · refine mm_icmp_ne 25 dX12_isSign_5 (by decide) (fun h => absurd h1 h) (fun _ => ?_)
    refine mm_aload_n dX12_isSign_8 rfl rfl ?_
    refine s_getS (q := 1102) (r := some a) (b := a) (ci := 12) (k := 0) in_X12 rfl (by decide) rfl kF_X12_7 dX12_isSign_9 rfl hs (by decide) hn (by decide) rfl rfl ?_
    refine mm_aload_n dX12_isSign_12 rfl rfl ?_
    refine s_getI (r := some a) (b := a) (ci := 12) (k := 71) in_X12 rfl (by decide) rfl kF_X12_305 dX12_isSign_13 rfl hs (by decide) hn (by decide) rfl ?_
    obtain ⟨j2, hj3, hb4, hl5, hx⟩ := ix_some hx
    refine s_iald (a := 1102) sa_1102 hn hj3 hb4 na_1102 dX12_isSign_16 ?_
    refine mm_iload_n dX12_isSign_17 rfl ?_
    refine b_if hx (fun h6 hx => ?_) (fun h6 hx => ?_)
    · refine mm_icmp_ne 25 dX12_isSign_18 (by decide) (fun h => absurd h6 h) (fun _ => ?_)
      refine mm_iconst (v := 1) dX12_isSign_21 (by decide) ?_
      refine mm_goto 26 dX12_isSign_22 (by decide) ?_
      refine mm_iret dX12_isSign_26 rfl rfl ?_ (by omega) (by omega)
      obtain rfl := fin1 hx
      exact ⟨rfl, rfl⟩
    · refine mm_icmp_ne 25 dX12_isSign_18 (by decide) (fun _ => ?_) (fun h => absurd h h6)
      refine mm_iconst (v := 0) dX12_isSign_25 (by decide) ?_
      refine mm_iret dX12_isSign_26 rfl rfl ?_ (by omega) (by omega)
      obtain rfl := fin1 hx
      exact ⟨rfl, rfl⟩
  · refine mm_icmp_ne 25 dX12_isSign_5 (by decide) (fun _ => ?_) (fun h => absurd h h1)
    refine mm_iconst (v := 0) dX12_isSign_25 (by decide) ?_
    refine mm_iret dX12_isSign_26 rfl rfl ?_ (by omega) (by omega)
    obtain rfl := fin1 hx
    exact ⟨rfl, rfl⟩
set_option maxHeartbeats 4000000 in
set_option maxRecDepth 100000 in
theorem e_X12_takeSign {g : mm_G} {l : Launch} (hst : l.stackTraces = false) {Z : Nat → Nat → Option Nat} (hZ : HZ Z) {n : Nat} (hn : 1186 ≤ n) {z : Bool} {d : Nat} {U : Nat} {a : Nat} (hs : sh a = 12) {p0 : Int32} {σ : SG} {σ' : SG} (hx : x_X12_takeSign U a p0 σ = some σ') : mm_Cm g l yX12_takeSign (.code yX12_takeSign cX12_takeSign 2 none) (d + 5) 0 0 [.ref a, .int p0] (mem Z σ, n, z) (fun v S' => v = none ∧ S' = (mem Z σ', n, z)) := by
  refine mm_Cm_of hst (by decide) (Nat.le_of_ble_eq_true rfl) ?_
  show mm_V g l RX12 "takeSign" cX12_takeSign 2 none [] (d + 5) 0 0 (mm_nt (fun v S' => v = none ∧ S' = (mem Z σ', n, z))) 0 [some (.ref a), some (.int p0)] [] (mem Z σ, n, z) 0 0
  unfold x_X12_takeSign at hx
  refine mm_aload_n dX12_takeSign_0 rfl rfl ?_
  refine s_getI (r := some a) (b := a) (ci := 12) (k := 74) in_X12 rfl (by decide) rfl kF_X12_328 dX12_takeSign_1 rfl hs (by decide) hn (by decide) rfl ?_
  refine b_if hx (fun h1 hx => ?_) (fun h1 hx => ?_)
  · refine mm_if_eq 8 dX12_takeSign_4 (by decide) (fun _ => ?_) (fun h => absurd h1 h)
    refine mm_aload_n dX12_takeSign_8 rfl rfl ?_
    refine mm_iload_n dX12_takeSign_9 rfl ?_
    obtain ⟨v3, hc2, hx⟩ := b1_some hx
    refine mm_callV3 (a := a) (ci := 12) wM_X12_isSign kM_X12_354 wI_X12_isSign wS_X12_isSign dX12_takeSign_10 (e_X12_isSign hst hZ hn hs hc2) (mem_obj hs (by decide)) (sh_ltn hs (by decide) hn) rfl rfl rfl (Nat.le_of_ble_eq_true rfl) (by omega) (by omega) (fun v9 S9 hq => ?_)
    obtain ⟨rfl, rfl⟩ := hq
    refine ⟨fun h => ⟨h, rfl⟩, ?_⟩
    refine b_if hx (fun h4 hx => ?_) (fun h4 hx => ?_)
    · refine mm_if_eq 23 dX12_takeSign_13 (by decide) (fun _ => ?_) (fun h => absurd h4 h)
      refine mm_aload_n dX12_takeSign_23 rfl rfl ?_
      refine mm_iconst (v := 1) dX12_takeSign_24 (by decide) ?_
      refine mm_aload_n dX12_takeSign_25 rfl rfl ?_
      refine s_getI (r := some a) (b := a) (ci := 12) (k := 71) in_X12 rfl (by decide) rfl kF_X12_305 dX12_takeSign_26 rfl hs (by decide) hn (by decide) rfl ?_
      obtain ⟨σ6, hc5, hx⟩ := b1_some hx
      refine mm_callV3 (a := a) (ci := 12) wM_X12_fail kM_X12_360 wI_X12_fail wS_X12_fail dX12_takeSign_29 (e_X12_fail hst hZ hn hs hc5) (mem_obj hs (by decide)) (sh_ltn hs (by decide) hn) rfl rfl rfl (Nat.le_of_ble_eq_true rfl) (by omega) (by omega) (fun v9 S9 hq => ?_)
      obtain ⟨rfl, rfl⟩ := hq
      refine ⟨fun h => ⟨h, rfl⟩, ?_⟩
      refine mm_vret dX12_takeSign_32 rfl ?_ (by omega) (by omega)
      obtain rfl := fin1 hx
      exact ⟨rfl, rfl⟩
    · refine mm_if_eq 23 dX12_takeSign_13 (by decide) (fun h => absurd h h4) (fun _ => ?_)
      refine mm_aload_n dX12_takeSign_16 rfl rfl ?_
      obtain ⟨σ8, hc7, hx⟩ := b1_some hx
      refine mm_callV3 (a := a) (ci := 12) wM_X12_next kM_X12_357 wI_X12_next wS_X12_next dX12_takeSign_17 (e_X12_next hst hZ hn hs hc7) (mem_obj hs (by decide)) (sh_ltn hs (by decide) hn) rfl rfl rfl (Nat.le_of_ble_eq_true rfl) (by omega) (by omega) (fun v9 S9 hq => ?_)
      obtain ⟨rfl, rfl⟩ := hq
      refine ⟨fun h => ⟨h, rfl⟩, ?_⟩
      refine mm_goto 32 dX12_takeSign_20 (by decide) ?_
      refine mm_vret dX12_takeSign_32 rfl ?_ (by omega) (by omega)
      obtain rfl := fin1 hx
      exact ⟨rfl, rfl⟩
  · refine mm_if_eq 8 dX12_takeSign_4 (by decide) (fun h => absurd h h1) (fun _ => ?_)
    refine mm_vret dX12_takeSign_7 rfl ?_ (by omega) (by omega)
    obtain rfl := fin1 hx
    exact ⟨rfl, rfl⟩
set_option maxHeartbeats 4000000 in
set_option maxRecDepth 100000 in
theorem e_X12_beginMessage_16 {g : mm_G} {l : Launch} (hst : l.stackTraces = false) {Z : Nat → Nat → Option Nat} (hZ : HZ Z) {n : Nat} (hn : 1186 ≤ n) {z : Bool} {d : Nat} {U : Nat} {a : Nat} (hs : sh a = 12) {v1_ : Int32} {s0_ : Int32} {σ : SG} {r : Int32} {σ' : SG} (hx : x_X12_beginMessage_16 U a v1_ s0_ σ = some (r, σ')) : mm_V g l RX12 "beginMessage" cX12_beginMessage 3 (some .int) [] (d + 6) 0 0 (mm_nt (fun v S' => v = some (.int r) ∧ S' = (mem Z σ', n, z))) 16 [some (.ref a), some (.int v1_), none] [.int s0_] (mem Z σ, n, z) 0 0 := by
  unfold x_X12_beginMessage_16 at hx
  refine mm_istore_n [some (.ref a), some (.int v1_), some (.int s0_)] dX12_beginMessage_16 (by decide) rfl ?_
  refine mm_aload_n dX12_beginMessage_17 rfl rfl ?_
  obtain ⟨σ3, hc2, hx⟩ := b1_some hx
  refine mm_callV3 (a := a) (ci := 12) wM_X12_next kM_X12_357 wI_X12_next wS_X12_next dX12_beginMessage_18 (e_X12_next hst hZ hn hs hc2) (mem_obj hs (by decide)) (sh_ltn hs (by decide) hn) rfl rfl rfl (Nat.le_of_ble_eq_true rfl) (by omega) (by omega) (fun v9 S9 hq => ?_)
  obtain ⟨rfl, rfl⟩ := hq
  refine ⟨fun h => ⟨h, rfl⟩, ?_⟩
  refine mm_aload_n dX12_beginMessage_21 rfl rfl ?_
  refine mm_iload_n dX12_beginMessage_22 rfl ?_
  obtain ⟨σ5, hc4, hx⟩ := b1_some hx
  refine mm_callV3 (a := a) (ci := 12) wM_X12_declare kM_X12_463 wI_X12_declare wS_X12_declare dX12_beginMessage_23 (e_X12_declare hst hZ hn hs hc4) (mem_obj hs (by decide)) (sh_ltn hs (by decide) hn) rfl rfl rfl (Nat.le_of_ble_eq_true rfl) (by omega) (by omega) (fun v9 S9 hq => ?_)
  obtain ⟨rfl, rfl⟩ := hq
  refine ⟨fun h => ⟨h, rfl⟩, ?_⟩
  refine mm_aload_n dX12_beginMessage_26 rfl rfl ?_
  refine s_getS (q := 1128) (r := some a) (b := a) (ci := 12) (k := 39) in_X12 rfl (by decide) rfl kF_X12_93 dX12_beginMessage_27 rfl hs (by decide) hn (by decide) rfl rfl ?_
  refine mm_aload_n dX12_beginMessage_30 rfl rfl ?_
  refine s_getI (r := some a) (b := a) (ci := 12) (k := 32) in_X12 rfl (by decide) rfl kF_X12_493 dX12_beginMessage_31 rfl hs (by decide) hn (by decide) rfl ?_
  refine mm_iload_n dX12_beginMessage_34 rfl ?_
  obtain ⟨j6, hj7, hb8, hl9, hx⟩ := ix_some hx
  refine s_iast (a := 1128) (v := s0_) sa_1128 hn hj7 hb8 na_1128 dX12_beginMessage_35 hx (fun σ10 hx => ?_)
  refine mm_aload_n dX12_beginMessage_36 rfl rfl ?_
  refine s_getS (q := 1129) (r := some a) (b := a) (ci := 12) (k := 40) in_X12 rfl (by decide) rfl kF_X12_96 dX12_beginMessage_37 rfl hs (by decide) hn (by decide) rfl rfl ?_
  refine mm_aload_n dX12_beginMessage_40 rfl rfl ?_
  refine s_getI (r := some a) (b := a) (ci := 12) (k := 32) in_X12 rfl (by decide) rfl kF_X12_493 dX12_beginMessage_41 rfl hs (by decide) hn (by decide) rfl ?_
  refine mm_aload_n dX12_beginMessage_44 rfl rfl ?_
  obtain ⟨v12, hc11, hx⟩ := b1_some hx
  refine mm_callV3 (a := a) (ci := 12) wM_X12_lastAt kM_X12_466 wI_X12_lastAt wS_X12_lastAt dX12_beginMessage_45 (e_X12_lastAt hst hZ hn hs hc11) (mem_obj hs (by decide)) (sh_ltn hs (by decide) hn) rfl rfl rfl (Nat.le_of_ble_eq_true rfl) (by omega) (by omega) (fun v9 S9 hq => ?_)
  obtain ⟨rfl, rfl⟩ := hq
  refine ⟨fun h => ⟨h, rfl⟩, ?_⟩
  obtain ⟨j13, hj14, hb15, hl16, hx⟩ := ix_some hx
  refine s_iast (a := 1129) (v := v12) sa_1129 hn hj14 hb15 na_1129 dX12_beginMessage_48 hx (fun σ17 hx => ?_)
  refine mm_aload_n dX12_beginMessage_49 rfl rfl ?_
  refine s_getS (q := 1130) (r := some a) (b := a) (ci := 12) (k := 41) in_X12 rfl (by decide) rfl kF_X12_99 dX12_beginMessage_50 rfl hs (by decide) hn (by decide) rfl rfl ?_
  refine mm_aload_n dX12_beginMessage_53 rfl rfl ?_
  refine s_getI (r := some a) (b := a) (ci := 12) (k := 32) in_X12 rfl (by decide) rfl kF_X12_493 dX12_beginMessage_54 rfl hs (by decide) hn (by decide) rfl ?_
  refine mm_aload_n dX12_beginMessage_57 rfl rfl ?_
  obtain ⟨v19, hc18, hx⟩ := b1_some hx
  refine mm_callV3 (a := a) (ci := 12) wM_X12_lastLong kM_X12_469 wI_X12_lastLong wS_X12_lastLong dX12_beginMessage_58 (e_X12_lastLong hst hZ hn hs hc18) (mem_obj hs (by decide)) (sh_ltn hs (by decide) hn) rfl rfl rfl (Nat.le_of_ble_eq_true rfl) (by omega) (by omega) (fun v9 S9 hq => ?_)
  obtain ⟨rfl, rfl⟩ := hq
  refine ⟨fun h => ⟨h, rfl⟩, ?_⟩
  obtain ⟨j20, hj21, hb22, hl23, hx⟩ := ix_some hx
  refine s_iast (a := 1130) (v := v19) sa_1130 hn hj21 hb22 na_1130 dX12_beginMessage_61 hx (fun σ24 hx => ?_)
  refine mm_aload_n dX12_beginMessage_62 rfl rfl ?_
  refine s_getS (q := 1159) (r := some a) (b := a) (ci := 12) (k := 78) in_X12 rfl (by decide) rfl kF_X12_187 dX12_beginMessage_63 rfl hs (by decide) hn (by decide) rfl rfl ?_
  refine mm_iload_n dX12_beginMessage_66 rfl ?_
  refine mm_aload_n dX12_beginMessage_67 rfl rfl ?_
  refine s_getI (r := some a) (b := a) (ci := 12) (k := 32) in_X12 rfl (by decide) rfl kF_X12_493 dX12_beginMessage_68 rfl hs (by decide) hn (by decide) rfl ?_
  obtain ⟨j25, hj26, hb27, hl28, hx⟩ := ix_some hx
  refine s_iast (a := 1159) (v := sI σ24 a 32) sa_1159 hn hj26 hb27 na_1159 dX12_beginMessage_71 hx (fun σ29 hx => ?_)
  refine mm_aload_n dX12_beginMessage_72 rfl rfl ?_
  refine mm_dup dX12_beginMessage_73 rfl ?_
  refine s_getI (r := some a) (b := a) (ci := 12) (k := 32) in_X12 rfl (by decide) rfl kF_X12_493 dX12_beginMessage_74 rfl hs (by decide) hn (by decide) rfl ?_
  refine mm_iconst (v := 1) dX12_beginMessage_77 (by decide) ?_
  refine mm_iadd dX12_beginMessage_78 ?_
  refine s_putI (v := (sI σ29 a 32) + 1) (r := some a) (b := a) (ci := 12) (k := 32) in_X12 rfl (by decide) rfl tyX12_ok nmX12 rfl kF_X12_493 dX12_beginMessage_79 (mm_fit_int _) rfl hs (by decide) hn (by decide) rfl hx (fun σ30 hx => ?_)
  refine mm_aload_n dX12_beginMessage_82 rfl rfl ?_
  refine mm_bipush (v := 123) dX12_beginMessage_83 (by decide) ?_
  obtain ⟨σ32, hc31, hx⟩ := b1_some hx
  refine mm_callV3 (a := a) (ci := 12) wM_X12_takeSign kM_X12_450 wI_X12_takeSign wS_X12_takeSign dX12_beginMessage_85 (e_X12_takeSign hst hZ hn hs hc31) (mem_obj hs (by decide)) (sh_ltn hs (by decide) hn) rfl rfl rfl (Nat.le_of_ble_eq_true rfl) (by omega) (by omega) (fun v9 S9 hq => ?_)
  obtain ⟨rfl, rfl⟩ := hq
  refine ⟨fun h => ⟨h, rfl⟩, ?_⟩
  refine mm_iload_n dX12_beginMessage_88 rfl ?_
  refine mm_iconst (v := 1) dX12_beginMessage_89 (by decide) ?_
  refine mm_iadd dX12_beginMessage_90 ?_
  refine mm_iret dX12_beginMessage_91 rfl rfl ?_ (by omega) (by omega)
  obtain ⟨rfl, rfl⟩ := fin2 hx
  exact ⟨rfl, rfl⟩
set_option maxHeartbeats 4000000 in
set_option maxRecDepth 100000 in
theorem e_X12_beginMessage {g : mm_G} {l : Launch} (hst : l.stackTraces = false) {Z : Nat → Nat → Option Nat} (hZ : HZ Z) {n : Nat} (hn : 1186 ≤ n) {z : Bool} {d : Nat} {U : Nat} {a : Nat} (hs : sh a = 12) {p0 : Int32} {σ : SG} {r : Int32} {σ' : SG} (hx : x_X12_beginMessage U a p0 σ = some (r, σ')) : mm_Cm g l yX12_beginMessage (.code yX12_beginMessage cX12_beginMessage 3 (some .int)) (d + 6) 0 0 [.ref a, .int p0] (mem Z σ, n, z) (fun v S' => v = some (.int r) ∧ S' = (mem Z σ', n, z)) := by
  refine mm_Cm_of hst (by decide) (Nat.le_of_ble_eq_true rfl) ?_
  show mm_V g l RX12 "beginMessage" cX12_beginMessage 3 (some .int) [] (d + 6) 0 0 (mm_nt (fun v S' => v = some (.int r) ∧ S' = (mem Z σ', n, z))) 0 [some (.ref a), some (.int p0), none] [] (mem Z σ, n, z) 0 0
  unfold x_X12_beginMessage at hx
  refine mm_iload_n dX12_beginMessage_0 rfl ?_
  refine b_if hx (fun h1 hx => ?_) (fun h1 hx => ?_)
  · refine mm_if_ne 8 dX12_beginMessage_1 (by decide) (fun h => absurd h1 h) (fun _ => ?_)
    refine mm_iconst (v := (-1)) dX12_beginMessage_4 (by decide) ?_
    refine mm_goto 16 dX12_beginMessage_5 (by decide) ?_
    exact e_X12_beginMessage_16 hst hZ hn hs hx
  · refine mm_if_ne 8 dX12_beginMessage_1 (by decide) (fun _ => ?_) (fun h => absurd h h1)
    refine mm_aload_n dX12_beginMessage_8 rfl rfl ?_
    refine s_getS (q := 1159) (r := some a) (b := a) (ci := 12) (k := 78) in_X12 rfl (by decide) rfl kF_X12_187 dX12_beginMessage_9 rfl hs (by decide) hn (by decide) rfl rfl ?_
    refine mm_iload_n dX12_beginMessage_12 rfl ?_
    refine mm_iconst (v := 1) dX12_beginMessage_13 (by decide) ?_
    refine mm_isub dX12_beginMessage_14 ?_
    obtain ⟨j33, hj34, hb35, hl36, hx⟩ := ix_some hx
    refine s_iald (a := 1159) sa_1159 hn hj34 hb35 na_1159 dX12_beginMessage_15 ?_
    exact e_X12_beginMessage_16 hst hZ hn hs hx
set_option maxHeartbeats 4000000 in
set_option maxRecDepth 100000 in
theorem e_X12_beginValue {g : mm_G} {l : Launch} (hst : l.stackTraces = false) {Z : Nat → Nat → Option Nat} (hZ : HZ Z) {n : Nat} (hn : 1186 ≤ n) {z : Bool} {d : Nat} {a : Nat} (hs : sh a = 12) {p0 : Int32} {p1 : Int32} {p2 : Int32} {σ : SG} {σ' : SG} (hx : x_X12_beginValue a p0 p1 p2 σ = some σ') : mm_Cm g l yX12_beginValue (.code yX12_beginValue cX12_beginValue 4 none) (d + 1) 0 0 [.ref a, .int p0, .int p1, .int p2] (mem Z σ, n, z) (fun v S' => v = none ∧ S' = (mem Z σ', n, z)) := by
  refine mm_Cm_of hst (by decide) (Nat.le_of_ble_eq_true rfl) ?_
  show mm_V g l RX12 "beginValue" cX12_beginValue 4 none [] (d + 1) 0 0 (mm_nt (fun v S' => v = none ∧ S' = (mem Z σ', n, z))) 0 [some (.ref a), some (.int p0), some (.int p1), some (.int p2)] [] (mem Z σ, n, z) 0 0
  unfold x_X12_beginValue at hx
  refine mm_aload_n dX12_beginValue_0 rfl rfl ?_
  refine mm_iload_n dX12_beginValue_1 rfl ?_
  refine s_putI (v := p0) (r := some a) (b := a) (ci := 12) (k := 80) in_X12 rfl (by decide) rfl tyX12_ok nmX12 rfl kF_X12_587 dX12_beginValue_2 (mm_fit_int _) rfl hs (by decide) hn (by decide) rfl hx (fun σ1 hx => ?_)
  refine mm_aload_n dX12_beginValue_5 rfl rfl ?_
  refine mm_iconst (v := 0) dX12_beginValue_6 (by decide) ?_
  refine s_putI (v := 0) (r := some a) (b := a) (ci := 12) (k := 79) in_X12 rfl (by decide) rfl tyX12_ok nmX12 rfl kF_X12_551 dX12_beginValue_7 mm_fit_z0 rfl hs (by decide) hn (by decide) rfl hx (fun σ2 hx => ?_)
  refine mm_aload_n dX12_beginValue_10 rfl rfl ?_
  refine mm_iconst (v := 0) dX12_beginValue_11 (by decide) ?_
  refine s_putI (v := 0) (r := some a) (b := a) (ci := 12) (k := 107) in_X12 rfl (by decide) rfl tyX12_ok nmX12 rfl kF_X12_590 dX12_beginValue_12 mm_fit_z0 rfl hs (by decide) hn (by decide) rfl hx (fun σ3 hx => ?_)
  refine mm_aload_n dX12_beginValue_15 rfl rfl ?_
  refine mm_iconst (v := 0) dX12_beginValue_16 (by decide) ?_
  refine s_putI (v := 0) (r := some a) (b := a) (ci := 12) (k := 81) in_X12 rfl (by decide) rfl tyX12_ok nmX12 rfl kF_X12_593 dX12_beginValue_17 (mm_fit_int _) rfl hs (by decide) hn (by decide) rfl hx (fun σ4 hx => ?_)
  refine mm_aload_n dX12_beginValue_20 rfl rfl ?_
  refine mm_iconst (v := 0) dX12_beginValue_21 (by decide) ?_
  refine s_putI (v := 0) (r := some a) (b := a) (ci := 12) (k := 82) in_X12 rfl (by decide) rfl tyX12_ok nmX12 rfl kF_X12_596 dX12_beginValue_22 (mm_fit_int _) rfl hs (by decide) hn (by decide) rfl hx (fun σ5 hx => ?_)
  refine mm_aload_n dX12_beginValue_25 rfl rfl ?_
  refine mm_iconst (v := 0) dX12_beginValue_26 (by decide) ?_
  refine s_putI (v := 0) (r := some a) (b := a) (ci := 12) (k := 83) in_X12 rfl (by decide) rfl tyX12_ok nmX12 rfl kF_X12_599 dX12_beginValue_27 (mm_fit_int _) rfl hs (by decide) hn (by decide) rfl hx (fun σ6 hx => ?_)
  refine mm_aload_n dX12_beginValue_30 rfl rfl ?_
  refine mm_iconst (v := 0) dX12_beginValue_31 (by decide) ?_
  refine s_putI (v := 0) (r := some a) (b := a) (ci := 12) (k := 84) in_X12 rfl (by decide) rfl tyX12_ok nmX12 rfl kF_X12_602 dX12_beginValue_32 (mm_fit_int _) rfl hs (by decide) hn (by decide) rfl hx (fun σ7 hx => ?_)
  refine mm_aload_n dX12_beginValue_35 rfl rfl ?_
  refine mm_iload_n dX12_beginValue_36 rfl ?_
  refine s_putI (v := p2) (r := some a) (b := a) (ci := 12) (k := 85) in_X12 rfl (by decide) rfl tyX12_ok nmX12 rfl kF_X12_605 dX12_beginValue_37 (mm_fit_int _) rfl hs (by decide) hn (by decide) rfl hx (fun σ8 hx => ?_)
  refine mm_aload_n dX12_beginValue_40 rfl rfl ?_
  refine mm_iload_n dX12_beginValue_41 rfl ?_
  refine mm_iconst (v := (-1)) dX12_beginValue_42 (by decide) ?_
  refine mm_iconst (v := 1) dX12_beginValue_43 (by decide) ?_
  obtain ⟨v10, σ11, hc9, hx⟩ := b2_some hx
  refine mm_callV3 (a := a) (ci := 12) wM_X12_addNode kM_X12_608 wI_X12_addNode wS_X12_addNode dX12_beginValue_44 (e_X12_addNode hst hZ hn hs hc9) (mem_obj hs (by decide)) (sh_ltn hs (by decide) hn) rfl rfl rfl (Nat.le_of_ble_eq_true rfl) (by omega) (by omega) (fun v9 S9 hq => ?_)
  obtain ⟨rfl, rfl⟩ := hq
  refine ⟨fun h => ⟨h, rfl⟩, ?_⟩
  refine mm_pop dX12_beginValue_47 rfl ?_
  refine mm_vret dX12_beginValue_48 rfl ?_ (by omega) (by omega)
  obtain rfl := fin1 hx
  exact ⟨rfl, rfl⟩
set_option maxHeartbeats 4000000 in
set_option maxRecDepth 100000 in
theorem e_X12_isSchema {g : mm_G} {l : Launch} (hst : l.stackTraces = false) {Z : Nat → Nat → Option Nat} (hZ : HZ Z) {n : Nat} (hn : 1186 ≤ n) {z : Bool} {d : Nat} {p0 : Int32} {σ : SG} {r : Int32} (hx : x_X12_isSchema p0 = some r) : mm_Cm g l yX12_isSchema (.code yX12_isSchema cX12_isSchema 1 (some .boolean)) (d) 0 0 [.int p0] (mem Z σ, n, z) (fun v S' => v = some (.int r) ∧ S' = (mem Z σ, n, z)) := by
  refine mm_Cm_of hst (by decide) (Nat.le_of_ble_eq_true rfl) ?_
  show mm_V g l RX12 "isSchema" cX12_isSchema 1 (some .boolean) [] (d) 0 0 (mm_nt (fun v S' => v = some (.int r) ∧ S' = (mem Z σ, n, z))) 0 [some (.int p0)] [] (mem Z σ, n, z) 0 0
  unfold x_X12_isSchema at hx
  refine mm_iload_n dX12_isSchema_0 rfl ?_
  refine b_if hx (fun h1 hx => ?_) (fun h1 hx => ?_)
  · refine mm_if_eq 9 dX12_isSchema_1 (by decide) (fun _ => ?_) (fun h => absurd h1 h)
    refine mm_iconst (v := 1) dX12_isSchema_9 (by decide) ?_
    refine mm_goto 14 dX12_isSchema_10 (by decide) ?_
    refine mm_iret dX12_isSchema_14 rfl rfl ?_ (by omega) (by omega)
    obtain rfl := fin1 hx
    exact ⟨rfl, rfl⟩
  · refine mm_if_eq 9 dX12_isSchema_1 (by decide) (fun h => absurd h h1) (fun _ => ?_)
    refine mm_iload_n dX12_isSchema_4 rfl ?_
    refine mm_iconst (v := 1) dX12_isSchema_5 (by decide) ?_
    refine b_if hx (fun h2 hx => ?_) (fun h2 hx => ?_)
    · refine mm_icmp_ne 13 dX12_isSchema_6 (by decide) (fun h => absurd h2 h) (fun _ => ?_)
      refine mm_iconst (v := 1) dX12_isSchema_9 (by decide) ?_
      refine mm_goto 14 dX12_isSchema_10 (by decide) ?_
      refine mm_iret dX12_isSchema_14 rfl rfl ?_ (by omega) (by omega)
      obtain rfl := fin1 hx
      exact ⟨rfl, rfl⟩
    · refine mm_icmp_ne 13 dX12_isSchema_6 (by decide) (fun _ => ?_) (fun h => absurd h h2)
      refine mm_iconst (v := 0) dX12_isSchema_13 (by decide) ?_
      refine mm_iret dX12_isSchema_14 rfl rfl ?_ (by omega) (by omega)
      obtain rfl := fin1 hx
      exact ⟨rfl, rfl⟩
set_option maxHeartbeats 4000000 in
set_option maxRecDepth 100000 in
theorem e_X12_isMessage {g : mm_G} {l : Launch} (hst : l.stackTraces = false) {Z : Nat → Nat → Option Nat} (hZ : HZ Z) {n : Nat} (hn : 1186 ≤ n) {z : Bool} {d : Nat} {a : Nat} (hs : sh a = 12) {p0 : Int32} {p1 : Int32} {σ : SG} {r : Int32} (hx : x_X12_isMessage a p0 p1 σ = some r) : mm_Cm g l yX12_isMessage (.code yX12_isMessage cX12_isMessage 3 (some .boolean)) (d + 1) 0 0 [.ref a, .int p0, .int p1] (mem Z σ, n, z) (fun v S' => v = some (.int r) ∧ S' = (mem Z σ, n, z)) := by
  refine mm_Cm_of hst (by decide) (Nat.le_of_ble_eq_true rfl) ?_
  show mm_V g l RX12 "isMessage" cX12_isMessage 3 (some .boolean) [] (d + 1) 0 0 (mm_nt (fun v S' => v = some (.int r) ∧ S' = (mem Z σ, n, z))) 0 [some (.ref a), some (.int p0), some (.int p1)] [] (mem Z σ, n, z) 0 0
  unfold x_X12_isMessage at hx
  refine mm_iload_n dX12_isMessage_0 rfl ?_
  obtain ⟨v2, hc1, hx⟩ := b1_some hx
  refine mm_callS wM_X12_isSchema kM_X12_548 wT_X12_isSchema dX12_isMessage_1 (e_X12_isSchema hst hZ hn hc1) rfl rfl (Nat.le_of_ble_eq_true rfl) (by omega) (by omega) (fun v9 S9 hq => ?_)
  obtain ⟨rfl, rfl⟩ := hq
  refine ⟨fun h => ⟨h, rfl⟩, ?_⟩
  refine b_if hx (fun h3 hx => ?_) (fun h3 hx => ?_)
  · refine mm_if_eq 25 dX12_isMessage_4 (by decide) (fun _ => ?_) (fun h => absurd h3 h)
    refine mm_iconst (v := 0) dX12_isMessage_25 (by decide) ?_
    refine mm_iret dX12_isMessage_26 rfl rfl ?_ (by omega) (by omega)
    obtain rfl := fin1 hx
    exact ⟨rfl, rfl⟩
  · refine mm_if_eq 25 dX12_isMessage_4 (by decide) (fun h => absurd h h3) (fun _ => ?_)
    refine mm_iload_n dX12_isMessage_7 rfl ?_
    refine b_if hx (fun h4 hx => ?_) (fun h4 hx => ?_)
    · refine mm_if_lt 25 dX12_isMessage_8 (by decide) (fun _ => ?_) (fun h => absurd h4 h)
      refine mm_iconst (v := 0) dX12_isMessage_25 (by decide) ?_
      refine mm_iret dX12_isMessage_26 rfl rfl ?_ (by omega) (by omega)
      obtain rfl := fin1 hx
      exact ⟨rfl, rfl⟩
    · refine mm_if_lt 25 dX12_isMessage_8 (by decide) (fun h => absurd h h4) (fun _ => ?_)
      refine mm_iload_n dX12_isMessage_11 rfl ?_
      refine mm_aload_n dX12_isMessage_12 rfl rfl ?_
      refine s_getS (q := 1104) (r := some a) (b := a) (ci := 12) (k := 7) in_X12 rfl (by decide) rfl kF_X12_20 dX12_isMessage_13 rfl hs (by decide) hn (by decide) rfl rfl ?_
      refine mm_iload_n dX12_isMessage_16 rfl ?_
      obtain ⟨j5, hj6, hb7, hl8, hx⟩ := ix_some hx
      refine s_iald (a := 1104) sa_1104 hn hj6 hb7 na_1104 dX12_isMessage_17 ?_
      refine b_if hx (fun h9 hx => ?_) (fun h9 hx => ?_)
      · refine mm_icmp_ge 25 dX12_isMessage_18 (by decide) (fun h => absurd h (Int32.not_le.mpr h9)) (fun _ => ?_)
        refine mm_iconst (v := 1) dX12_isMessage_21 (by decide) ?_
        refine mm_goto 26 dX12_isMessage_22 (by decide) ?_
        refine mm_iret dX12_isMessage_26 rfl rfl ?_ (by omega) (by omega)
        obtain rfl := fin1 hx
        exact ⟨rfl, rfl⟩
      · refine mm_icmp_ge 25 dX12_isMessage_18 (by decide) (fun _ => ?_) (fun h => absurd (Int32.not_lt.mp h9) h)
        refine mm_iconst (v := 0) dX12_isMessage_25 (by decide) ?_
        refine mm_iret dX12_isMessage_26 rfl rfl ?_ (by omega) (by omega)
        obtain rfl := fin1 hx
        exact ⟨rfl, rfl⟩
set_option maxHeartbeats 4000000 in
set_option maxRecDepth 100000 in
theorem e_X12_begins_44 {g : mm_G} {l : Launch} (hst : l.stackTraces = false) {Z : Nat → Nat → Option Nat} (hZ : HZ Z) {n : Nat} (hn : 1186 ≤ n) {z : Bool} {d : Nat} {a : Nat} (hs : sh a = 12) {v1_ : Int32} {v2_ : Int32} {v3_ : Int32} {s0_ : Int32} {σ : SG} {r : Int32} {σ' : SG} (hx : x_X12_begins_44 a v1_ v2_ v3_ s0_ σ = some (r, σ')) : mm_V g l RX12 "begins" cX12_begins 4 (some .boolean) [] (d + 2) 0 0 (mm_nt (fun v S' => v = some (.int r) ∧ S' = (mem Z σ', n, z))) 44 [some (.ref a), some (.int v1_), some (.int v2_), some (.int v3_)] [.int s0_, .ref a] (mem Z σ, n, z) 0 0 := by
  unfold x_X12_begins_44 at hx
  refine s_putI (v := s0_) (r := some a) (b := a) (ci := 12) (k := 5) in_X12 rfl (by decide) rfl tyX12_ok nmX12 rfl kF_X12_265 dX12_begins_44 (mm_fit_int _) rfl hs (by decide) hn (by decide) rfl hx (fun σ7 hx => ?_)
  refine mm_aload_n dX12_begins_47 rfl rfl ?_
  refine s_getI (r := some a) (b := a) (ci := 12) (k := 5) in_X12 rfl (by decide) rfl kF_X12_265 dX12_begins_48 rfl hs (by decide) hn (by decide) rfl ?_
  refine b_if hx (fun h8 hx => ?_) (fun h8 hx => ?_)
  · refine mm_if_eq 56 dX12_begins_51 (by decide) (fun _ => ?_) (fun h => absurd h8 h)
    refine mm_aload_n dX12_begins_56 rfl rfl ?_
    refine mm_iload_n dX12_begins_57 rfl ?_
    refine mm_iload_n dX12_begins_58 rfl ?_
    refine mm_iload_n dX12_begins_59 rfl ?_
    obtain ⟨σ10, hc9, hx⟩ := b1_some hx
    refine mm_callV3 (a := a) (ci := 12) wM_X12_beginValue kM_X12_685 wI_X12_beginValue wS_X12_beginValue dX12_begins_60 (e_X12_beginValue hst hZ hn hs hc9) (mem_obj hs (by decide)) (sh_ltn hs (by decide) hn) rfl rfl rfl (Nat.le_of_ble_eq_true rfl) (by omega) (by omega) (fun v9 S9 hq => ?_)
    obtain ⟨rfl, rfl⟩ := hq
    refine ⟨fun h => ⟨h, rfl⟩, ?_⟩
    refine mm_iconst (v := 1) dX12_begins_63 (by decide) ?_
    refine mm_iret dX12_begins_64 rfl rfl ?_ (by omega) (by omega)
    obtain ⟨rfl, rfl⟩ := fin2 hx
    exact ⟨rfl, rfl⟩
  · refine mm_if_eq 56 dX12_begins_51 (by decide) (fun h => absurd h h8) (fun _ => ?_)
    refine mm_iconst (v := 0) dX12_begins_54 (by decide) ?_
    refine mm_iret dX12_begins_55 rfl rfl ?_ (by omega) (by omega)
    obtain ⟨rfl, rfl⟩ := fin2 hx
    exact ⟨rfl, rfl⟩
set_option maxHeartbeats 4000000 in
set_option maxRecDepth 100000 in
theorem e_X12_begins_43 {g : mm_G} {l : Launch} (hst : l.stackTraces = false) {Z : Nat → Nat → Option Nat} (hZ : HZ Z) {n : Nat} (hn : 1186 ≤ n) {z : Bool} {d : Nat} {a : Nat} (hs : sh a = 12) {v1_ : Int32} {v2_ : Int32} {v3_ : Int32} {σ : SG} {r : Int32} {σ' : SG} (hx : x_X12_begins_43 a v1_ v2_ v3_ σ = some (r, σ')) : mm_V g l RX12 "begins" cX12_begins 4 (some .boolean) [] (d + 2) 0 0 (mm_nt (fun v S' => v = some (.int r) ∧ S' = (mem Z σ', n, z))) 43 [some (.ref a), some (.int v1_), some (.int v2_), some (.int v3_)] [.ref a] (mem Z σ, n, z) 0 0 := by
  unfold x_X12_begins_43 at hx
  refine mm_iconst (v := 1) dX12_begins_43 (by decide) ?_
  exact e_X12_begins_44 hst hZ hn hs hx
set_option maxHeartbeats 4000000 in
set_option maxRecDepth 100000 in
theorem e_X12_begins {g : mm_G} {l : Launch} (hst : l.stackTraces = false) {Z : Nat → Nat → Option Nat} (hZ : HZ Z) {n : Nat} (hn : 1186 ≤ n) {z : Bool} {d : Nat} {a : Nat} (hs : sh a = 12) {p0 : Int32} {p1 : Int32} {p2 : Int32} {σ : SG} {r : Int32} {σ' : SG} (hx : x_X12_begins a p0 p1 p2 σ = some (r, σ')) : mm_Cm g l yX12_begins (.code yX12_begins cX12_begins 4 (some .boolean)) (d + 2) 0 0 [.ref a, .int p0, .int p1, .int p2] (mem Z σ, n, z) (fun v S' => v = some (.int r) ∧ S' = (mem Z σ', n, z)) := by
  refine mm_Cm_of hst (by decide) (Nat.le_of_ble_eq_true rfl) ?_
  show mm_V g l RX12 "begins" cX12_begins 4 (some .boolean) [] (d + 2) 0 0 (mm_nt (fun v S' => v = some (.int r) ∧ S' = (mem Z σ', n, z))) 0 [some (.ref a), some (.int p0), some (.int p1), some (.int p2)] [] (mem Z σ, n, z) 0 0
  unfold x_X12_begins at hx
  refine mm_aload_n dX12_begins_0 rfl rfl ?_
  refine mm_aload_n dX12_begins_1 rfl rfl ?_
  refine s_getI (r := some a) (b := a) (ci := 12) (k := 1) in_X12 rfl (by decide) rfl kF_X12_268 dX12_begins_2 rfl hs (by decide) hn (by decide) rfl ?_
  refine s_putI (v := sI σ a 1) (r := some a) (b := a) (ci := 12) (k := 73) in_X12 rfl (by decide) rfl tyX12_ok nmX12 rfl kF_X12_274 dX12_begins_5 (mm_fit_int _) rfl hs (by decide) hn (by decide) rfl hx (fun σ1 hx => ?_)
  refine mm_aload_n dX12_begins_8 rfl rfl ?_
  refine mm_iconst (v := 0) dX12_begins_9 (by decide) ?_
  refine s_putI (v := 0) (r := some a) (b := a) (ci := 12) (k := 1) in_X12 rfl (by decide) rfl tyX12_ok nmX12 rfl kF_X12_268 dX12_begins_10 (mm_fit_int _) rfl hs (by decide) hn (by decide) rfl hx (fun σ2 hx => ?_)
  refine mm_aload_n dX12_begins_13 rfl rfl ?_
  refine mm_iconst (v := 0) dX12_begins_14 (by decide) ?_
  refine s_putI (v := 0) (r := some a) (b := a) (ci := 12) (k := 79) in_X12 rfl (by decide) rfl tyX12_ok nmX12 rfl kF_X12_551 dX12_begins_15 mm_fit_z0 rfl hs (by decide) hn (by decide) rfl hx (fun σ3 hx => ?_)
  refine mm_aload_n dX12_begins_18 rfl rfl ?_
  refine mm_aload_n dX12_begins_19 rfl rfl ?_
  refine mm_iload_n dX12_begins_20 rfl ?_
  refine mm_iload_n dX12_begins_21 rfl ?_
  obtain ⟨v5, hc4, hx⟩ := b1_some hx
  refine mm_callV3 (a := a) (ci := 12) wM_X12_isMessage kM_X12_572 wI_X12_isMessage wS_X12_isMessage dX12_begins_22 (e_X12_isMessage hst hZ hn hs hc4) (mem_obj hs (by decide)) (sh_ltn hs (by decide) hn) rfl rfl rfl (Nat.le_of_ble_eq_true rfl) (by omega) (by omega) (fun v9 S9 hq => ?_)
  obtain ⟨rfl, rfl⟩ := hq
  refine ⟨fun h => ⟨h, rfl⟩, ?_⟩
  refine b_if hx (fun h6 hx => ?_) (fun h6 hx => ?_)
  · refine mm_if_eq 43 dX12_begins_25 (by decide) (fun _ => ?_) (fun h => absurd h6 h)
    exact e_X12_begins_43 hst hZ hn hs hx
  · refine mm_if_eq 43 dX12_begins_25 (by decide) (fun h => absurd h h6) (fun _ => ?_)
    refine mm_iload_n dX12_begins_28 rfl ?_
    refine mm_iconst (v := 1) dX12_begins_29 (by decide) ?_
    refine b_if hx (fun h11 hx => ?_) (fun h11 hx => ?_)
    · refine mm_icmp_lt 43 dX12_begins_30 (by decide) (fun _ => ?_) (fun h => absurd h11 h)
      exact e_X12_begins_43 hst hZ hn hs hx
    · refine mm_icmp_lt 43 dX12_begins_30 (by decide) (fun h => absurd h h11) (fun _ => ?_)
      refine mm_iload_n dX12_begins_33 rfl ?_
      refine mm_bipush (v := 20) dX12_begins_34 (by decide) ?_
      refine b_if hx (fun h12 hx => ?_) (fun h12 hx => ?_)
      · refine mm_icmp_gt 43 dX12_begins_36 (by decide) (fun _ => ?_) (fun h => absurd h12 h)
        exact e_X12_begins_43 hst hZ hn hs hx
      · refine mm_icmp_gt 43 dX12_begins_36 (by decide) (fun h => absurd h h12) (fun _ => ?_)
        refine mm_iconst (v := 0) dX12_begins_39 (by decide) ?_
        refine mm_goto 44 dX12_begins_40 (by decide) ?_
        exact e_X12_begins_44 hst hZ hn hs hx
set_option maxHeartbeats 4000000 in
set_option maxRecDepth 100000 in
theorem e_X12_put {g : mm_G} {l : Launch} (hst : l.stackTraces = false) {Z : Nat → Nat → Option Nat} (hZ : HZ Z) {n : Nat} (hn : 1186 ≤ n) {z : Bool} {d : Nat} {a : Nat} (hs : sh a = 12) {p0 : Int32} {σ : SG} {σ' : SG} (hx : x_X12_put a p0 σ = some σ') : mm_Cm g l yX12_put (.code yX12_put cX12_put 2 none) (d) 0 0 [.ref a, .int p0] (mem Z σ, n, z) (fun v S' => v = none ∧ S' = (mem Z σ', n, z)) := by
  refine mm_Cm_of hst (by decide) (Nat.le_of_ble_eq_true rfl) ?_
  show mm_V g l RX12 "put" cX12_put 2 none [] (d) 0 0 (mm_nt (fun v S' => v = none ∧ S' = (mem Z σ', n, z))) 0 [some (.ref a), some (.int p0)] [] (mem Z σ, n, z) 0 0
  unfold x_X12_put at hx
  refine mm_aload_n dX12_put_0 rfl rfl ?_
  refine s_getI (r := some a) (b := a) (ci := 12) (k := 3) in_X12 rfl (by decide) rfl kF_X12_271 dX12_put_1 rfl hs (by decide) hn (by decide) rfl ?_
  refine mm_sipush (v := 4000) dX12_put_4 (by decide) ?_
  refine b_if hx (fun h1 hx => ?_) (fun h1 hx => ?_)
  · refine mm_icmp_ne 18 dX12_put_7 (by decide) (fun h => absurd h1 h) (fun _ => ?_)
    refine mm_aload_n dX12_put_10 rfl rfl ?_
    refine mm_iconst (v := 1) dX12_put_11 (by decide) ?_
    refine s_putI (v := 1) (r := some a) (b := a) (ci := 12) (k := 4) in_X12 rfl (by decide) rfl tyX12_ok nmX12 rfl kF_X12_697 dX12_put_12 mm_fit_z1 rfl hs (by decide) hn (by decide) rfl hx (fun σ2 hx => ?_)
    refine mm_goto 38 dX12_put_15 (by decide) ?_
    refine mm_vret dX12_put_38 rfl ?_ (by omega) (by omega)
    obtain rfl := fin1 hx
    exact ⟨rfl, rfl⟩
  · refine mm_icmp_ne 18 dX12_put_7 (by decide) (fun _ => ?_) (fun h => absurd h h1)
    refine mm_aload_n dX12_put_18 rfl rfl ?_
    refine s_getS (q := 1103) (r := some a) (b := a) (ci := 12) (k := 2) in_X12 rfl (by decide) rfl kF_X12_13 dX12_put_19 rfl hs (by decide) hn (by decide) rfl rfl ?_
    refine mm_aload_n dX12_put_22 rfl rfl ?_
    refine s_getI (r := some a) (b := a) (ci := 12) (k := 3) in_X12 rfl (by decide) rfl kF_X12_271 dX12_put_23 rfl hs (by decide) hn (by decide) rfl ?_
    refine mm_iload_n dX12_put_26 rfl ?_
    obtain ⟨j3, hj4, hb5, hl6, hx⟩ := ix_some hx
    refine s_iast (a := 1103) (v := p0) sa_1103 hn hj4 hb5 na_1103 dX12_put_27 hx (fun σ7 hx => ?_)
    refine mm_aload_n dX12_put_28 rfl rfl ?_
    refine mm_dup dX12_put_29 rfl ?_
    refine s_getI (r := some a) (b := a) (ci := 12) (k := 3) in_X12 rfl (by decide) rfl kF_X12_271 dX12_put_30 rfl hs (by decide) hn (by decide) rfl ?_
    refine mm_iconst (v := 1) dX12_put_33 (by decide) ?_
    refine mm_iadd dX12_put_34 ?_
    refine s_putI (v := (sI σ7 a 3) + 1) (r := some a) (b := a) (ci := 12) (k := 3) in_X12 rfl (by decide) rfl tyX12_ok nmX12 rfl kF_X12_271 dX12_put_35 (mm_fit_int _) rfl hs (by decide) hn (by decide) rfl hx (fun σ8 hx => ?_)
    refine mm_vret dX12_put_38 rfl ?_ (by omega) (by omega)
    obtain rfl := fin1 hx
    exact ⟨rfl, rfl⟩
set_option maxHeartbeats 4000000 in
set_option maxRecDepth 100000 in
theorem e_X12_blanks_L2 {g : mm_G} {l : Launch} (hst : l.stackTraces = false) {Z : Nat → Nat → Option Nat} (hZ : HZ Z) {n : Nat} (hn : 1186 ≤ n) {z : Bool} {d : Nat} {U : Nat} {a : Nat} (hs : sh a = 12) {v1_ : Int32} {σ' : SG} : ∀ (U1 : Nat) (v2_ : Int32) (σ : SG), x_X12_blanks_L2 U a v1_ U1 v2_ σ = some σ' → mm_V g l RX12 "blanks" cX12_blanks 3 none [] (d + 1) 0 0 (mm_nt (fun v S' => v = none ∧ S' = (mem Z σ', n, z))) 2 [some (.ref a), some (.int v1_), some (.int v2_)] [] (mem Z σ, n, z) 0 0 := by
  intro U1
  induction U1 with
  | zero => intro v2_ σ hx; exact absurd hx (by simp [x_X12_blanks_L2])
  | succ U1 ih =>
    intro v2_ σ hx
    rw [x_X12_blanks_L2] at hx
    refine mm_iload_n dX12_blanks_2 rfl ?_
    refine mm_iload_n dX12_blanks_3 rfl ?_
    refine b_if hx (fun h1 hx => ?_) (fun h1 hx => ?_)
    · refine mm_icmp_ge 19 dX12_blanks_4 (by decide) (fun h => absurd h (Int32.not_le.mpr h1)) (fun _ => ?_)
      refine mm_aload_n dX12_blanks_7 rfl rfl ?_
      refine mm_bipush (v := 32) dX12_blanks_8 (by decide) ?_
      obtain ⟨σ3, hc2, hx⟩ := b1_some hx
      refine mm_callV3 (a := a) (ci := 12) wM_X12_put kM_X12_704 wI_X12_put wS_X12_put dX12_blanks_10 (e_X12_put hst hZ hn hs hc2) (mem_obj hs (by decide)) (sh_ltn hs (by decide) hn) rfl rfl rfl (Nat.le_of_ble_eq_true rfl) (by omega) (by omega) (fun v9 S9 hq => ?_)
      obtain ⟨rfl, rfl⟩ := hq
      refine ⟨fun h => ⟨h, rfl⟩, ?_⟩
      refine mm_iinc (v := v2_ + 1) [some (.ref a), some (.int v1_), some (.int (v2_ + 1))] dX12_blanks_13 rfl rfl (by decide) rfl ?_
      refine mm_goto 2 dX12_blanks_16 (by decide) ?_
      exact ih _ _ hx
    · refine mm_icmp_ge 19 dX12_blanks_4 (by decide) (fun _ => ?_) (fun h => absurd (Int32.not_lt.mp h1) h)
      refine mm_vret dX12_blanks_19 rfl ?_ (by omega) (by omega)
      obtain rfl := fin1 hx
      exact ⟨rfl, rfl⟩
set_option maxHeartbeats 4000000 in
set_option maxRecDepth 100000 in
theorem e_X12_blanks {g : mm_G} {l : Launch} (hst : l.stackTraces = false) {Z : Nat → Nat → Option Nat} (hZ : HZ Z) {n : Nat} (hn : 1186 ≤ n) {z : Bool} {d : Nat} {U : Nat} {a : Nat} (hs : sh a = 12) {p0 : Int32} {σ : SG} {σ' : SG} (hx : x_X12_blanks U a p0 σ = some σ') : mm_Cm g l yX12_blanks (.code yX12_blanks cX12_blanks 3 none) (d + 1) 0 0 [.ref a, .int p0] (mem Z σ, n, z) (fun v S' => v = none ∧ S' = (mem Z σ', n, z)) := by
  refine mm_Cm_of hst (by decide) (Nat.le_of_ble_eq_true rfl) ?_
  show mm_V g l RX12 "blanks" cX12_blanks 3 none [] (d + 1) 0 0 (mm_nt (fun v S' => v = none ∧ S' = (mem Z σ', n, z))) 0 [some (.ref a), some (.int p0), none] [] (mem Z σ, n, z) 0 0
  unfold x_X12_blanks at hx
  refine mm_iconst (v := 0) dX12_blanks_0 (by decide) ?_
  refine mm_istore_n [some (.ref a), some (.int p0), some (.int 0)] dX12_blanks_1 (by decide) rfl ?_
  refine e_X12_blanks_L2 hst hZ hn hs _ _ _ hx
set_option maxHeartbeats 4000000 in
set_option maxRecDepth 100000 in
theorem e_X12_emptyOut {g : mm_G} {l : Launch} (hst : l.stackTraces = false) {Z : Nat → Nat → Option Nat} (hZ : HZ Z) {n : Nat} (hn : 1186 ≤ n) {z : Bool} {d : Nat} {a : Nat} (hs : sh a = 12) {σ : SG} {σ' : SG} (hx : x_X12_emptyOut a σ = some σ') : mm_Cm g l yX12_emptyOut (.code yX12_emptyOut cX12_emptyOut 1 none) (d) 0 0 [.ref a] (mem Z σ, n, z) (fun v S' => v = none ∧ S' = (mem Z σ', n, z)) := by
  refine mm_Cm_of hst (by decide) (Nat.le_of_ble_eq_true rfl) ?_
  show mm_V g l RX12 "emptyOut" cX12_emptyOut 1 none [] (d) 0 0 (mm_nt (fun v S' => v = none ∧ S' = (mem Z σ', n, z))) 0 [some (.ref a)] [] (mem Z σ, n, z) 0 0
  unfold x_X12_emptyOut at hx
  refine mm_aload_n dX12_emptyOut_0 rfl rfl ?_
  refine mm_iconst (v := 0) dX12_emptyOut_1 (by decide) ?_
  refine s_putI (v := 0) (r := some a) (b := a) (ci := 12) (k := 3) in_X12 rfl (by decide) rfl tyX12_ok nmX12 rfl kF_X12_271 dX12_emptyOut_2 (mm_fit_int _) rfl hs (by decide) hn (by decide) rfl hx (fun σ1 hx => ?_)
  refine mm_aload_n dX12_emptyOut_5 rfl rfl ?_
  refine mm_iconst (v := 0) dX12_emptyOut_6 (by decide) ?_
  refine s_putI (v := 0) (r := some a) (b := a) (ci := 12) (k := 4) in_X12 rfl (by decide) rfl tyX12_ok nmX12 rfl kF_X12_697 dX12_emptyOut_7 mm_fit_z0 rfl hs (by decide) hn (by decide) rfl hx (fun σ2 hx => ?_)
  refine mm_vret dX12_emptyOut_10 rfl ?_ (by omega) (by omega)
  obtain rfl := fin1 hx
  exact ⟨rfl, rfl⟩
set_option maxHeartbeats 4000000 in
set_option maxRecDepth 100000 in
theorem e_X12_open {g : mm_G} {l : Launch} (hst : l.stackTraces = false) {Z : Nat → Nat → Option Nat} (hZ : HZ Z) {n : Nat} (hn : 1186 ≤ n) {z : Bool} {d : Nat} {a : Nat} (hs : sh a = 12) {p0 : Int32} {p1 : Int32} {σ : SG} {σ' : SG} (hx : x_X12_open a p0 p1 σ = some σ') : mm_Cm g l yX12_open (.code yX12_open cX12_open 3 none) (d) 0 0 [.ref a, .int p0, .int p1] (mem Z σ, n, z) (fun v S' => v = none ∧ S' = (mem Z σ', n, z)) := by
  refine mm_Cm_of hst (by decide) (Nat.le_of_ble_eq_true rfl) ?_
  show mm_V g l RX12 "open" cX12_open 3 none [] (d) 0 0 (mm_nt (fun v S' => v = none ∧ S' = (mem Z σ', n, z))) 0 [some (.ref a), some (.int p0), some (.int p1)] [] (mem Z σ, n, z) 0 0
  unfold x_X12_open at hx
  refine mm_aload_n dX12_open_0 rfl rfl ?_
  refine s_getS (q := 1181) (r := some a) (b := a) (ci := 12) (k := 111) in_X12 rfl (by decide) rfl kF_X12_253 dX12_open_1 rfl hs (by decide) hn (by decide) rfl rfl ?_
  refine mm_bipush (v := 16) dX12_open_4 (by decide) ?_
  refine mm_iload_n dX12_open_6 rfl ?_
  refine mm_imul dX12_open_7 ?_
  refine mm_iload_n dX12_open_8 rfl ?_
  refine mm_iadd dX12_open_9 ?_
  refine mm_iconst (v := 1) dX12_open_10 (by decide) ?_
  obtain ⟨j1, hj2, hb3, hl4, hx⟩ := ix_some hx
  refine s_zast (a := 1181) (v := 1) sa_1181 hn hj2 hb3 na_1181 dX12_open_11 hx (fun σ5 hx => ?_)
  refine mm_aload_n dX12_open_12 rfl rfl ?_
  refine s_getS (q := 1182) (r := some a) (b := a) (ci := 12) (k := 112) in_X12 rfl (by decide) rfl kF_X12_256 dX12_open_13 rfl hs (by decide) hn (by decide) rfl rfl ?_
  refine mm_aload_n dX12_open_16 rfl rfl ?_
  refine s_getI (r := some a) (b := a) (ci := 12) (k := 106) in_X12 rfl (by decide) rfl kF_X12_650 dX12_open_17 rfl hs (by decide) hn (by decide) rfl ?_
  refine mm_iload_n dX12_open_20 rfl ?_
  obtain ⟨j6, hj7, hb8, hl9, hx⟩ := ix_some hx
  refine s_iast (a := 1182) (v := p0) sa_1182 hn hj7 hb8 na_1182 dX12_open_21 hx (fun σ10 hx => ?_)
  refine mm_aload_n dX12_open_22 rfl rfl ?_
  refine s_getS (q := 1183) (r := some a) (b := a) (ci := 12) (k := 113) in_X12 rfl (by decide) rfl kF_X12_259 dX12_open_23 rfl hs (by decide) hn (by decide) rfl rfl ?_
  refine mm_aload_n dX12_open_26 rfl rfl ?_
  refine s_getI (r := some a) (b := a) (ci := 12) (k := 106) in_X12 rfl (by decide) rfl kF_X12_650 dX12_open_27 rfl hs (by decide) hn (by decide) rfl ?_
  refine mm_iload_n dX12_open_30 rfl ?_
  obtain ⟨j11, hj12, hb13, hl14, hx⟩ := ix_some hx
  refine s_iast (a := 1183) (v := p1) sa_1183 hn hj12 hb13 na_1183 dX12_open_31 hx (fun σ15 hx => ?_)
  refine mm_aload_n dX12_open_32 rfl rfl ?_
  refine s_getS (q := 1184) (r := some a) (b := a) (ci := 12) (k := 114) in_X12 rfl (by decide) rfl kF_X12_262 dX12_open_33 rfl hs (by decide) hn (by decide) rfl rfl ?_
  refine mm_aload_n dX12_open_36 rfl rfl ?_
  refine s_getI (r := some a) (b := a) (ci := 12) (k := 106) in_X12 rfl (by decide) rfl kF_X12_650 dX12_open_37 rfl hs (by decide) hn (by decide) rfl ?_
  refine mm_iconst (v := 0) dX12_open_40 (by decide) ?_
  obtain ⟨j16, hj17, hb18, hl19, hx⟩ := ix_some hx
  refine s_iast (a := 1184) (v := 0) sa_1184 hn hj17 hb18 na_1184 dX12_open_41 hx (fun σ20 hx => ?_)
  refine mm_aload_n dX12_open_42 rfl rfl ?_
  refine mm_dup dX12_open_43 rfl ?_
  refine s_getI (r := some a) (b := a) (ci := 12) (k := 106) in_X12 rfl (by decide) rfl kF_X12_650 dX12_open_44 rfl hs (by decide) hn (by decide) rfl ?_
  refine mm_iconst (v := 1) dX12_open_47 (by decide) ?_
  refine mm_iadd dX12_open_48 ?_
  refine s_putI (v := (sI σ20 a 106) + 1) (r := some a) (b := a) (ci := 12) (k := 106) in_X12 rfl (by decide) rfl tyX12_ok nmX12 rfl kF_X12_650 dX12_open_49 (mm_fit_int _) rfl hs (by decide) hn (by decide) rfl hx (fun σ21 hx => ?_)
  refine mm_vret dX12_open_52 rfl ?_ (by omega) (by omega)
  obtain rfl := fin1 hx
  exact ⟨rfl, rfl⟩
set_option maxHeartbeats 4000000 in
set_option maxRecDepth 100000 in
theorem e_X12_fieldAt_89 {g : mm_G} {l : Launch} (hst : l.stackTraces = false) {Z : Nat → Nat → Option Nat} (hZ : HZ Z) {n : Nat} (hn : 1186 ≤ n) {z : Bool} {d : Nat} {U : Nat} {a : Nat} (hs : sh a = 12) {k42 : Int32 → Int32 → Option (Int32)} {k95 : Int32 → Option (Int32)} {v1_ : Int32} {v2_ : Int32} {v3_ : Int32} {v4_ : Int32} {v5_ : Int32} {v6_ : Int32} {σ : SG} {r : Int32} (hk42 : ∀ (v5_ : Int32) (v6_ : Int32), k42 v5_ v6_ = some r → mm_V g l RX12 "fieldAt" cX12_fieldAt 7 (some .int) [] (d) 0 0 (mm_nt (fun v S' => v = some (.int r) ∧ S' = (mem Z σ, n, z))) 42 [some (.ref a), some (.int v1_), some (.int v2_), some (.int v3_), some (.int v4_), some (.int v5_), some (.int v6_)] [] (mem Z σ, n, z) 0 0) (hk95 : ∀ (v5_ : Int32), k95 v5_ = some r → mm_V g l RX12 "fieldAt" cX12_fieldAt 7 (some .int) [] (d) 0 0 (mm_nt (fun v S' => v = some (.int r) ∧ S' = (mem Z σ, n, z))) 95 [some (.ref a), some (.int v1_), some (.int v2_), some (.int v3_), some (.int v4_), some (.int v5_), none] [] (mem Z σ, n, z) 0 0) (hx : x_X12_fieldAt_89 U a k42 k95 v1_ v2_ v3_ v4_ v5_ v6_ σ = some r) : mm_V g l RX12 "fieldAt" cX12_fieldAt 7 (some .int) [] (d) 0 0 (mm_nt (fun v S' => v = some (.int r) ∧ S' = (mem Z σ, n, z))) 89 [some (.ref a), some (.int v1_), some (.int v2_), some (.int v3_), some (.int v4_), some (.int v5_), some (.int v6_)] [] (mem Z σ, n, z) 0 0 := by
  unfold x_X12_fieldAt_89 at hx
  refine mm_iinc (v := v6_ + 1) [some (.ref a), some (.int v1_), some (.int v2_), some (.int v3_), some (.int v4_), some (.int v5_), some (.int (v6_ + 1))] dX12_fieldAt_89 rfl rfl (by decide) rfl ?_
  refine mm_goto 42 dX12_fieldAt_92 (by decide) ?_
  exact hk42 _ _ hx
set_option maxHeartbeats 4000000 in
set_option maxRecDepth 100000 in
theorem e_X12_fieldAt_L42 {g : mm_G} {l : Launch} (hst : l.stackTraces = false) {Z : Nat → Nat → Option Nat} (hZ : HZ Z) {n : Nat} (hn : 1186 ≤ n) {z : Bool} {d : Nat} {U : Nat} {a : Nat} (hs : sh a = 12) {k95 : Int32 → Option (Int32)} {v1_ : Int32} {v2_ : Int32} {v3_ : Int32} {v4_ : Int32} {σ : SG} {r : Int32} (hk95 : ∀ (v5_ : Int32), k95 v5_ = some r → mm_V g l RX12 "fieldAt" cX12_fieldAt 7 (some .int) [] (d) 0 0 (mm_nt (fun v S' => v = some (.int r) ∧ S' = (mem Z σ, n, z))) 95 [some (.ref a), some (.int v1_), some (.int v2_), some (.int v3_), some (.int v4_), some (.int v5_), none] [] (mem Z σ, n, z) 0 0) : ∀ (U1 : Nat) (v5_ : Int32) (v6_ : Int32), x_X12_fieldAt_L42 U a k95 v1_ v2_ v3_ v4_ σ U1 v5_ v6_ = some r → mm_V g l RX12 "fieldAt" cX12_fieldAt 7 (some .int) [] (d) 0 0 (mm_nt (fun v S' => v = some (.int r) ∧ S' = (mem Z σ, n, z))) 42 [some (.ref a), some (.int v1_), some (.int v2_), some (.int v3_), some (.int v4_), some (.int v5_), some (.int v6_)] [] (mem Z σ, n, z) 0 0 := by
  intro U1
  induction U1 with
  | zero => intro v5_ v6_ hx; exact absurd hx (by simp [x_X12_fieldAt_L42])
  | succ U1 ih =>
    intro v5_ v6_ hx
    rw [x_X12_fieldAt_L42] at hx
    refine mm_iload dX12_fieldAt_42 rfl ?_
    refine mm_bipush (v := 60) dX12_fieldAt_44 (by decide) ?_
    refine mm_iload_n dX12_fieldAt_46 rfl ?_
    refine mm_imul dX12_fieldAt_47 ?_
    refine mm_aload_n dX12_fieldAt_48 rfl rfl ?_
    refine s_getS (q := 1106) (r := some a) (b := a) (ci := 12) (k := 9) in_X12 rfl (by decide) rfl kF_X12_26 dX12_fieldAt_49 rfl hs (by decide) hn (by decide) rfl rfl ?_
    refine mm_iload_n dX12_fieldAt_52 rfl ?_
    obtain ⟨j11, hj12, hb13, hl14, hx⟩ := ix_some hx
    refine s_iald (a := 1106) sa_1106 hn hj12 hb13 na_1106 dX12_fieldAt_53 ?_
    refine mm_iadd dX12_fieldAt_54 ?_
    refine b_if hx (fun h15 hx => ?_) (fun h15 hx => ?_)
    · refine mm_icmp_ge 95 dX12_fieldAt_55 (by decide) (fun h => absurd h (Int32.not_le.mpr h15)) (fun _ => ?_)
      refine mm_aload_n dX12_fieldAt_58 rfl rfl ?_
      refine s_getS (q := 1114) (r := some a) (b := a) (ci := 12) (k := 17) in_X12 rfl (by decide) rfl kF_X12_50 dX12_fieldAt_59 rfl hs (by decide) hn (by decide) rfl rfl ?_
      refine mm_iload dX12_fieldAt_62 rfl ?_
      obtain ⟨j16, hj17, hb18, hl19, hx⟩ := ix_some hx
      refine s_iald (a := 1114) sa_1114 hn hj17 hb18 na_1114 dX12_fieldAt_64 ?_
      refine mm_iload_n dX12_fieldAt_65 rfl ?_
      refine b_if hx (fun h20 hx => ?_) (fun h20 hx => ?_)
      · refine mm_icmp_ne 89 dX12_fieldAt_66 (by decide) (fun h => absurd h20 h) (fun _ => ?_)
        refine mm_aload_n dX12_fieldAt_69 rfl rfl ?_
        refine s_getS (q := 1117) (r := some a) (b := a) (ci := 12) (k := 20) in_X12 rfl (by decide) rfl kF_X12_59 dX12_fieldAt_70 rfl hs (by decide) hn (by decide) rfl rfl ?_
        refine mm_iload dX12_fieldAt_73 rfl ?_
        obtain ⟨j21, hj22, hb23, hl24, hx⟩ := ix_some hx
        refine s_iald (a := 1117) sa_1117 hn hj22 hb23 na_1117 dX12_fieldAt_75 ?_
        refine mm_aload_n dX12_fieldAt_76 rfl rfl ?_
        refine s_getS (q := 1117) (r := some a) (b := a) (ci := 12) (k := 20) in_X12 rfl (by decide) rfl kF_X12_59 dX12_fieldAt_77 rfl hs (by decide) hn (by decide) rfl rfl ?_
        refine mm_iload dX12_fieldAt_80 rfl ?_
        obtain ⟨j25, hj26, hb27, hl28, hx⟩ := ix_some hx
        refine s_iald (a := 1117) sa_1117 hn hj26 hb27 na_1117 dX12_fieldAt_82 ?_
        refine b_if hx (fun h29 hx => ?_) (fun h29 hx => ?_)
        · refine mm_icmp_ge 89 dX12_fieldAt_83 (by decide) (fun h => absurd h (Int32.not_le.mpr h29)) (fun _ => ?_)
          refine mm_iinc (v := v5_ + 1) [some (.ref a), some (.int v1_), some (.int v2_), some (.int v3_), some (.int v4_), some (.int (v5_ + 1)), some (.int v6_)] dX12_fieldAt_86 rfl rfl (by decide) rfl ?_
          exact e_X12_fieldAt_89 hst hZ hn hs ih hk95 hx
        · refine mm_icmp_ge 89 dX12_fieldAt_83 (by decide) (fun _ => ?_) (fun h => absurd (Int32.not_lt.mp h29) h)
          exact e_X12_fieldAt_89 hst hZ hn hs ih hk95 hx
      · refine mm_icmp_ne 89 dX12_fieldAt_66 (by decide) (fun _ => ?_) (fun h => absurd h h20)
        exact e_X12_fieldAt_89 hst hZ hn hs ih hk95 hx
    · refine mm_icmp_ge 95 dX12_fieldAt_55 (by decide) (fun _ => ?_) (fun h => absurd (Int32.not_lt.mp h15) h)
      refine mm_fewer [some (.ref a), some (.int v1_), some (.int v2_), some (.int v3_), some (.int v4_), some (.int v5_), none] (few_ok (bs := [true, true, true, true, true, true, false]) rfl) ?_
      exact hk95 _ hx
set_option maxHeartbeats 4000000 in
set_option maxRecDepth 100000 in
theorem e_X12_fieldAt_104 {g : mm_G} {l : Launch} (hst : l.stackTraces = false) {Z : Nat → Nat → Option Nat} (hZ : HZ Z) {n : Nat} (hn : 1186 ≤ n) {z : Bool} {d : Nat} {U : Nat} {a : Nat} (hs : sh a = 12) {k6 : Int32 → Option (Int32)} {v1_ : Int32} {v2_ : Int32} {v3_ : Int32} {v4_ : Int32} {σ : SG} {r : Int32} (hk6 : ∀ (v4_ : Int32), k6 v4_ = some r → mm_V g l RX12 "fieldAt" cX12_fieldAt 7 (some .int) [] (d) 0 0 (mm_nt (fun v S' => v = some (.int r) ∧ S' = (mem Z σ, n, z))) 6 [some (.ref a), some (.int v1_), some (.int v2_), some (.int v3_), some (.int v4_), none, none] [] (mem Z σ, n, z) 0 0) (hx : x_X12_fieldAt_104 U a k6 v1_ v2_ v3_ v4_ σ = some r) : mm_V g l RX12 "fieldAt" cX12_fieldAt 7 (some .int) [] (d) 0 0 (mm_nt (fun v S' => v = some (.int r) ∧ S' = (mem Z σ, n, z))) 104 [some (.ref a), some (.int v1_), some (.int v2_), some (.int v3_), some (.int v4_), none, none] [] (mem Z σ, n, z) 0 0 := by
  unfold x_X12_fieldAt_104 at hx
  refine mm_iinc (v := v4_ + 1) [some (.ref a), some (.int v1_), some (.int v2_), some (.int v3_), some (.int (v4_ + 1)), none, none] dX12_fieldAt_104 rfl rfl (by decide) rfl ?_
  refine mm_goto 6 dX12_fieldAt_107 (by decide) ?_
  exact hk6 _ hx
set_option maxHeartbeats 4000000 in
set_option maxRecDepth 100000 in
theorem e_X12_fieldAt_L6 {g : mm_G} {l : Launch} (hst : l.stackTraces = false) {Z : Nat → Nat → Option Nat} (hZ : HZ Z) {n : Nat} (hn : 1186 ≤ n) {z : Bool} {d : Nat} {U : Nat} {a : Nat} (hs : sh a = 12) {v1_ : Int32} {v2_ : Int32} {v3_ : Int32} {σ : SG} {r : Int32} : ∀ (U1 : Nat) (v4_ : Int32), x_X12_fieldAt_L6 U a v1_ v2_ v3_ σ U1 v4_ = some r → mm_V g l RX12 "fieldAt" cX12_fieldAt 7 (some .int) [] (d) 0 0 (mm_nt (fun v S' => v = some (.int r) ∧ S' = (mem Z σ, n, z))) 6 [some (.ref a), some (.int v1_), some (.int v2_), some (.int v3_), some (.int v4_), none, none] [] (mem Z σ, n, z) 0 0 := by
  intro U1
  induction U1 with
  | zero => intro v4_ hx; exact absurd hx (by simp [x_X12_fieldAt_L6])
  | succ U1 ih =>
    intro v4_ hx
    rw [x_X12_fieldAt_L6] at hx
    refine mm_iload dX12_fieldAt_6 rfl ?_
    refine mm_bipush (v := 60) dX12_fieldAt_8 (by decide) ?_
    refine mm_iload_n dX12_fieldAt_10 rfl ?_
    refine mm_imul dX12_fieldAt_11 ?_
    refine mm_aload_n dX12_fieldAt_12 rfl rfl ?_
    refine s_getS (q := 1106) (r := some a) (b := a) (ci := 12) (k := 9) in_X12 rfl (by decide) rfl kF_X12_26 dX12_fieldAt_13 rfl hs (by decide) hn (by decide) rfl rfl ?_
    refine mm_iload_n dX12_fieldAt_16 rfl ?_
    obtain ⟨j1, hj2, hb3, hl4, hx⟩ := ix_some hx
    refine s_iald (a := 1106) sa_1106 hn hj2 hb3 na_1106 dX12_fieldAt_17 ?_
    refine mm_iadd dX12_fieldAt_18 ?_
    refine b_if hx (fun h5 hx => ?_) (fun h5 hx => ?_)
    · refine mm_icmp_ge 110 dX12_fieldAt_19 (by decide) (fun h => absurd h (Int32.not_le.mpr h5)) (fun _ => ?_)
      refine mm_aload_n dX12_fieldAt_22 rfl rfl ?_
      refine s_getS (q := 1114) (r := some a) (b := a) (ci := 12) (k := 17) in_X12 rfl (by decide) rfl kF_X12_50 dX12_fieldAt_23 rfl hs (by decide) hn (by decide) rfl rfl ?_
      refine mm_iload dX12_fieldAt_26 rfl ?_
      obtain ⟨j6, hj7, hb8, hl9, hx⟩ := ix_some hx
      refine s_iald (a := 1114) sa_1114 hn hj7 hb8 na_1114 dX12_fieldAt_28 ?_
      refine mm_iload_n dX12_fieldAt_29 rfl ?_
      refine b_if hx (fun h10 hx => ?_) (fun h10 hx => ?_)
      · refine mm_icmp_ne 104 dX12_fieldAt_30 (by decide) (fun h => absurd h10 h) (fun _ => ?_)
        refine mm_iconst (v := 0) dX12_fieldAt_33 (by decide) ?_
        refine mm_istore [some (.ref a), some (.int v1_), some (.int v2_), some (.int v3_), some (.int v4_), some (.int 0), none] dX12_fieldAt_34 (by decide) rfl ?_
        refine mm_bipush (v := 60) dX12_fieldAt_36 (by decide) ?_
        refine mm_iload_n dX12_fieldAt_38 rfl ?_
        refine mm_imul dX12_fieldAt_39 ?_
        refine mm_istore [some (.ref a), some (.int v1_), some (.int v2_), some (.int v3_), some (.int v4_), some (.int 0), some (.int (60 * v1_))] dX12_fieldAt_40 (by decide) rfl ?_
        refine e_X12_fieldAt_L42 hst hZ hn hs ?_ _ _ _ hx
        · intro w30 hx
          refine mm_iload dX12_fieldAt_95 rfl ?_
          refine mm_iload_n dX12_fieldAt_97 rfl ?_
          refine b_if hx (fun h31 hx => ?_) (fun h31 hx => ?_)
          · refine mm_icmp_ne 104 dX12_fieldAt_98 (by decide) (fun h => absurd h31 h) (fun _ => ?_)
            refine mm_iload dX12_fieldAt_101 rfl ?_
            refine mm_iret dX12_fieldAt_103 rfl rfl ?_ (by omega) (by omega)
            obtain rfl := fin1 hx
            exact ⟨rfl, rfl⟩
          · refine mm_icmp_ne 104 dX12_fieldAt_98 (by decide) (fun _ => ?_) (fun h => absurd h h31)
            refine mm_fewer [some (.ref a), some (.int v1_), some (.int v2_), some (.int v3_), some (.int v4_), none, none] (few_ok (bs := [true, true, true, true, true, false, false]) rfl) ?_
            exact e_X12_fieldAt_104 hst hZ hn hs ih hx
      · refine mm_icmp_ne 104 dX12_fieldAt_30 (by decide) (fun _ => ?_) (fun h => absurd h h10)
        exact e_X12_fieldAt_104 hst hZ hn hs ih hx
    · refine mm_icmp_ge 110 dX12_fieldAt_19 (by decide) (fun _ => ?_) (fun h => absurd (Int32.not_lt.mp h5) h)
      refine mm_iconst (v := (-1)) dX12_fieldAt_110 (by decide) ?_
      refine mm_iret dX12_fieldAt_111 rfl rfl ?_ (by omega) (by omega)
      obtain rfl := fin1 hx
      exact ⟨rfl, rfl⟩
set_option maxHeartbeats 4000000 in
set_option maxRecDepth 100000 in
theorem e_X12_fieldAt {g : mm_G} {l : Launch} (hst : l.stackTraces = false) {Z : Nat → Nat → Option Nat} (hZ : HZ Z) {n : Nat} (hn : 1186 ≤ n) {z : Bool} {d : Nat} {U : Nat} {a : Nat} (hs : sh a = 12) {p0 : Int32} {p1 : Int32} {p2 : Int32} {σ : SG} {r : Int32} (hx : x_X12_fieldAt U a p0 p1 p2 σ = some r) : mm_Cm g l yX12_fieldAt (.code yX12_fieldAt cX12_fieldAt 7 (some .int)) (d) 0 0 [.ref a, .int p0, .int p1, .int p2] (mem Z σ, n, z) (fun v S' => v = some (.int r) ∧ S' = (mem Z σ, n, z)) := by
  refine mm_Cm_of hst (by decide) (Nat.le_of_ble_eq_true rfl) ?_
  show mm_V g l RX12 "fieldAt" cX12_fieldAt 7 (some .int) [] (d) 0 0 (mm_nt (fun v S' => v = some (.int r) ∧ S' = (mem Z σ, n, z))) 0 [some (.ref a), some (.int p0), some (.int p1), some (.int p2), none, none, none] [] (mem Z σ, n, z) 0 0
  unfold x_X12_fieldAt at hx
  refine mm_bipush (v := 60) dX12_fieldAt_0 (by decide) ?_
  refine mm_iload_n dX12_fieldAt_2 rfl ?_
  refine mm_imul dX12_fieldAt_3 ?_
  refine mm_istore [some (.ref a), some (.int p0), some (.int p1), some (.int p2), some (.int (60 * p0)), none, none] dX12_fieldAt_4 (by decide) rfl ?_
  refine e_X12_fieldAt_L6 hst hZ hn hs _ _ hx
set_option maxHeartbeats 4000000 in
set_option maxRecDepth 100000 in
theorem e_X12_freshNumbered_38 {g : mm_G} {l : Launch} (hst : l.stackTraces = false) {Z : Nat → Nat → Option Nat} (hZ : HZ Z) {n : Nat} (hn : 1186 ≤ n) {z : Bool} {d : Nat} {U : Nat} {a : Nat} (hs : sh a = 12) {k3 : Int32 → Option (Int32)} {v1_ : Int32} {v2_ : Int32} {v3_ : Int32} {σ : SG} {r : Int32} (hk3 : ∀ (v3_ : Int32), k3 v3_ = some r → mm_V g l RX12 "freshNumbered" cX12_freshNumbered 4 (some .int) [] (d) 0 0 (mm_nt (fun v S' => v = some (.int r) ∧ S' = (mem Z σ, n, z))) 3 [some (.ref a), some (.int v1_), some (.int v2_), some (.int v3_)] [] (mem Z σ, n, z) 0 0) (hx : x_X12_freshNumbered_38 U a k3 v1_ v2_ v3_ σ = some r) : mm_V g l RX12 "freshNumbered" cX12_freshNumbered 4 (some .int) [] (d) 0 0 (mm_nt (fun v S' => v = some (.int r) ∧ S' = (mem Z σ, n, z))) 38 [some (.ref a), some (.int v1_), some (.int v2_), some (.int v3_)] [] (mem Z σ, n, z) 0 0 := by
  unfold x_X12_freshNumbered_38 at hx
  refine mm_iinc (v := v3_ + 1) [some (.ref a), some (.int v1_), some (.int v2_), some (.int (v3_ + 1))] dX12_freshNumbered_38 rfl rfl (by decide) rfl ?_
  refine mm_goto 3 dX12_freshNumbered_41 (by decide) ?_
  exact hk3 _ hx
set_option maxHeartbeats 4000000 in
set_option maxRecDepth 100000 in
theorem e_X12_freshNumbered_L3 {g : mm_G} {l : Launch} (hst : l.stackTraces = false) {Z : Nat → Nat → Option Nat} (hZ : HZ Z) {n : Nat} (hn : 1186 ≤ n) {z : Bool} {d : Nat} {U : Nat} {a : Nat} (hs : sh a = 12) {v1_ : Int32} {v2_ : Int32} {σ : SG} {r : Int32} : ∀ (U1 : Nat) (v3_ : Int32), x_X12_freshNumbered_L3 U a v1_ v2_ σ U1 v3_ = some r → mm_V g l RX12 "freshNumbered" cX12_freshNumbered 4 (some .int) [] (d) 0 0 (mm_nt (fun v S' => v = some (.int r) ∧ S' = (mem Z σ, n, z))) 3 [some (.ref a), some (.int v1_), some (.int v2_), some (.int v3_)] [] (mem Z σ, n, z) 0 0 := by
  intro U1
  induction U1 with
  | zero => intro v3_ hx; exact absurd hx (by simp [x_X12_freshNumbered_L3])
  | succ U1 ih =>
    intro v3_ hx
    rw [x_X12_freshNumbered_L3] at hx
    refine mm_iload_n dX12_freshNumbered_3 rfl ?_
    refine mm_bipush (v := 60) dX12_freshNumbered_4 (by decide) ?_
    refine mm_aload_n dX12_freshNumbered_6 rfl rfl ?_
    refine s_getS (q := 1106) (r := some a) (b := a) (ci := 12) (k := 9) in_X12 rfl (by decide) rfl kF_X12_26 dX12_freshNumbered_7 rfl hs (by decide) hn (by decide) rfl rfl ?_
    refine mm_iconst (v := 1) dX12_freshNumbered_10 (by decide) ?_
    obtain ⟨j1, hj2, hb3, hl4, hx⟩ := ix_some hx
    refine s_iald (a := 1106) sa_1106 hn hj2 hb3 na_1106 dX12_freshNumbered_11 ?_
    refine mm_iadd dX12_freshNumbered_12 ?_
    refine b_if hx (fun h5 hx => ?_) (fun h5 hx => ?_)
    · refine mm_icmp_ge 44 dX12_freshNumbered_13 (by decide) (fun h => absurd h (Int32.not_le.mpr h5)) (fun _ => ?_)
      refine mm_aload_n dX12_freshNumbered_16 rfl rfl ?_
      refine s_getS (q := 1114) (r := some a) (b := a) (ci := 12) (k := 17) in_X12 rfl (by decide) rfl kF_X12_50 dX12_freshNumbered_17 rfl hs (by decide) hn (by decide) rfl rfl ?_
      refine mm_iload_n dX12_freshNumbered_20 rfl ?_
      obtain ⟨j6, hj7, hb8, hl9, hx⟩ := ix_some hx
      refine s_iald (a := 1114) sa_1114 hn hj7 hb8 na_1114 dX12_freshNumbered_21 ?_
      refine mm_iload_n dX12_freshNumbered_22 rfl ?_
      refine b_if hx (fun h10 hx => ?_) (fun h10 hx => ?_)
      · refine mm_icmp_ne 38 dX12_freshNumbered_23 (by decide) (fun h => absurd h10 h) (fun _ => ?_)
        refine mm_aload_n dX12_freshNumbered_26 rfl rfl ?_
        refine s_getS (q := 1117) (r := some a) (b := a) (ci := 12) (k := 20) in_X12 rfl (by decide) rfl kF_X12_59 dX12_freshNumbered_27 rfl hs (by decide) hn (by decide) rfl rfl ?_
        refine mm_iload_n dX12_freshNumbered_30 rfl ?_
        obtain ⟨j11, hj12, hb13, hl14, hx⟩ := ix_some hx
        refine s_iald (a := 1117) sa_1117 hn hj12 hb13 na_1117 dX12_freshNumbered_31 ?_
        refine mm_iload_n dX12_freshNumbered_32 rfl ?_
        refine b_if hx (fun h15 hx => ?_) (fun h15 hx => ?_)
        · refine mm_icmp_ne 38 dX12_freshNumbered_33 (by decide) (fun h => absurd h15 h) (fun _ => ?_)
          refine mm_iload_n dX12_freshNumbered_36 rfl ?_
          refine mm_iret dX12_freshNumbered_37 rfl rfl ?_ (by omega) (by omega)
          obtain rfl := fin1 hx
          exact ⟨rfl, rfl⟩
        · refine mm_icmp_ne 38 dX12_freshNumbered_33 (by decide) (fun _ => ?_) (fun h => absurd h h15)
          exact e_X12_freshNumbered_38 hst hZ hn hs ih hx
      · refine mm_icmp_ne 38 dX12_freshNumbered_23 (by decide) (fun _ => ?_) (fun h => absurd h h10)
        exact e_X12_freshNumbered_38 hst hZ hn hs ih hx
    · refine mm_icmp_ge 44 dX12_freshNumbered_13 (by decide) (fun _ => ?_) (fun h => absurd (Int32.not_lt.mp h5) h)
      refine mm_iconst (v := (-1)) dX12_freshNumbered_44 (by decide) ?_
      refine mm_iret dX12_freshNumbered_45 rfl rfl ?_ (by omega) (by omega)
      obtain rfl := fin1 hx
      exact ⟨rfl, rfl⟩
set_option maxHeartbeats 4000000 in
set_option maxRecDepth 100000 in
theorem e_X12_freshNumbered {g : mm_G} {l : Launch} (hst : l.stackTraces = false) {Z : Nat → Nat → Option Nat} (hZ : HZ Z) {n : Nat} (hn : 1186 ≤ n) {z : Bool} {d : Nat} {U : Nat} {a : Nat} (hs : sh a = 12) {p0 : Int32} {p1 : Int32} {σ : SG} {r : Int32} (hx : x_X12_freshNumbered U a p0 p1 σ = some r) : mm_Cm g l yX12_freshNumbered (.code yX12_freshNumbered cX12_freshNumbered 4 (some .int)) (d) 0 0 [.ref a, .int p0, .int p1] (mem Z σ, n, z) (fun v S' => v = some (.int r) ∧ S' = (mem Z σ, n, z)) := by
  refine mm_Cm_of hst (by decide) (Nat.le_of_ble_eq_true rfl) ?_
  show mm_V g l RX12 "freshNumbered" cX12_freshNumbered 4 (some .int) [] (d) 0 0 (mm_nt (fun v S' => v = some (.int r) ∧ S' = (mem Z σ, n, z))) 0 [some (.ref a), some (.int p0), some (.int p1), none] [] (mem Z σ, n, z) 0 0
  unfold x_X12_freshNumbered at hx
  refine mm_bipush (v := 60) dX12_freshNumbered_0 (by decide) ?_
  refine mm_istore_n [some (.ref a), some (.int p0), some (.int p1), some (.int 60)] dX12_freshNumbered_2 (by decide) rfl ?_
  refine e_X12_freshNumbered_L3 hst hZ hn hs _ _ hx
set_option maxHeartbeats 4000000 in
set_option maxRecDepth 100000 in
theorem e_X12_joined_133 {g : mm_G} {l : Launch} (hst : l.stackTraces = false) {Z : Nat → Nat → Option Nat} (hZ : HZ Z) {n : Nat} (hn : 1186 ≤ n) {z : Bool} {d : Nat} {U : Nat} {a : Nat} (hs : sh a = 12) {k3 : Int32 → Option (Int32)} {v1_ : Int32} {v2_ : Int32} {v3_ : Int32} {v4_ : Int32} {v5_ : Int32} {σ : SG} {r : Int32} (hk3 : ∀ (v5_ : Int32), k3 v5_ = some r → mm_V g l RX12 "joined" cX12_joined 8 (some .boolean) [] (d + 1) 0 0 (mm_nt (fun v S' => v = some (.int r) ∧ S' = (mem Z σ, n, z))) 3 [some (.ref a), some (.int v1_), some (.int v2_), some (.int v3_), some (.int v4_), some (.int v5_), none, none] [] (mem Z σ, n, z) 0 0) (hx : x_X12_joined_133 U a k3 v1_ v2_ v3_ v4_ v5_ σ = some r) : mm_V g l RX12 "joined" cX12_joined 8 (some .boolean) [] (d + 1) 0 0 (mm_nt (fun v S' => v = some (.int r) ∧ S' = (mem Z σ, n, z))) 133 [some (.ref a), some (.int v1_), some (.int v2_), some (.int v3_), some (.int v4_), some (.int v5_), none, none] [] (mem Z σ, n, z) 0 0 := by
  unfold x_X12_joined_133 at hx
  refine mm_iinc (v := v5_ + 1) [some (.ref a), some (.int v1_), some (.int v2_), some (.int v3_), some (.int v4_), some (.int (v5_ + 1)), none, none] dX12_joined_133 rfl rfl (by decide) rfl ?_
  refine mm_goto 3 dX12_joined_136 (by decide) ?_
  exact hk3 _ hx
set_option maxHeartbeats 4000000 in
set_option maxRecDepth 100000 in
theorem e_X12_joined_90 {g : mm_G} {l : Launch} (hst : l.stackTraces = false) {Z : Nat → Nat → Option Nat} (hZ : HZ Z) {n : Nat} (hn : 1186 ≤ n) {z : Bool} {d : Nat} {U : Nat} {a : Nat} (hs : sh a = 12) {k3 : Int32 → Option (Int32)} {v1_ : Int32} {v2_ : Int32} {v3_ : Int32} {v4_ : Int32} {v5_ : Int32} {v6_ : Int32} {s0_ : Int32} {σ : SG} {r : Int32} (hk3 : ∀ (v5_ : Int32), k3 v5_ = some r → mm_V g l RX12 "joined" cX12_joined 8 (some .boolean) [] (d + 1) 0 0 (mm_nt (fun v S' => v = some (.int r) ∧ S' = (mem Z σ, n, z))) 3 [some (.ref a), some (.int v1_), some (.int v2_), some (.int v3_), some (.int v4_), some (.int v5_), none, none] [] (mem Z σ, n, z) 0 0) (hx : x_X12_joined_90 U a k3 v1_ v2_ v3_ v4_ v5_ v6_ s0_ σ = some r) : mm_V g l RX12 "joined" cX12_joined 8 (some .boolean) [] (d + 1) 0 0 (mm_nt (fun v S' => v = some (.int r) ∧ S' = (mem Z σ, n, z))) 90 [some (.ref a), some (.int v1_), some (.int v2_), some (.int v3_), some (.int v4_), some (.int v5_), some (.int v6_), none] [.int s0_] (mem Z σ, n, z) 0 0 := by
  unfold x_X12_joined_90 at hx
  refine mm_istore [some (.ref a), some (.int v1_), some (.int v2_), some (.int v3_), some (.int v4_), some (.int v5_), some (.int v6_), some (.int s0_)] dX12_joined_90 (by decide) rfl ?_
  refine mm_iload dX12_joined_92 rfl ?_
  refine mm_iconst (v := (-1)) dX12_joined_94 (by decide) ?_
  refine b_if hx (fun h31 hx => ?_) (fun h31 hx => ?_)
  · refine mm_icmp_eq 133 dX12_joined_95 (by decide) (fun _ => ?_) (fun h => absurd h31 h)
    refine mm_fewer [some (.ref a), some (.int v1_), some (.int v2_), some (.int v3_), some (.int v4_), some (.int v5_), none, none] (few_ok (bs := [true, true, true, true, true, true, false, false]) rfl) ?_
    exact e_X12_joined_133 hst hZ hn hs hk3 hx
  · refine mm_icmp_eq 133 dX12_joined_95 (by decide) (fun h => absurd h h31) (fun _ => ?_)
    refine mm_iload dX12_joined_98 rfl ?_
    refine b_if hx (fun h32 hx => ?_) (fun h32 hx => ?_)
    · refine mm_if_ne 133 dX12_joined_100 (by decide) (fun h => absurd h32 h) (fun _ => ?_)
      refine mm_aload_n dX12_joined_103 rfl rfl ?_
      refine s_getS (q := 1122) (r := some a) (b := a) (ci := 12) (k := 25) in_X12 rfl (by decide) rfl kF_X12_75 dX12_joined_104 rfl hs (by decide) hn (by decide) rfl rfl ?_
      refine mm_iload dX12_joined_107 rfl ?_
      obtain ⟨j33, hj34, hb35, hl36, hx⟩ := ix_some hx
      refine s_iald (a := 1122) sa_1122 hn hj34 hb35 na_1122 dX12_joined_109 ?_
      refine mm_iconst (v := (-1)) dX12_joined_110 (by decide) ?_
      refine b_if hx (fun h37 hx => ?_) (fun h37 hx => ?_)
      · refine mm_icmp_eq 133 dX12_joined_111 (by decide) (fun _ => ?_) (fun h => absurd h37 h)
        refine mm_fewer [some (.ref a), some (.int v1_), some (.int v2_), some (.int v3_), some (.int v4_), some (.int v5_), none, none] (few_ok (bs := [true, true, true, true, true, true, false, false]) rfl) ?_
        exact e_X12_joined_133 hst hZ hn hs hk3 hx
      · refine mm_icmp_eq 133 dX12_joined_111 (by decide) (fun h => absurd h h37) (fun _ => ?_)
        refine mm_aload_n dX12_joined_114 rfl rfl ?_
        refine s_getS (q := 1122) (r := some a) (b := a) (ci := 12) (k := 25) in_X12 rfl (by decide) rfl kF_X12_75 dX12_joined_115 rfl hs (by decide) hn (by decide) rfl rfl ?_
        refine mm_iload dX12_joined_118 rfl ?_
        obtain ⟨j38, hj39, hb40, hl41, hx⟩ := ix_some hx
        refine s_iald (a := 1122) sa_1122 hn hj39 hb40 na_1122 dX12_joined_120 ?_
        refine mm_aload_n dX12_joined_121 rfl rfl ?_
        refine s_getS (q := 1122) (r := some a) (b := a) (ci := 12) (k := 25) in_X12 rfl (by decide) rfl kF_X12_75 dX12_joined_122 rfl hs (by decide) hn (by decide) rfl rfl ?_
        refine mm_iload dX12_joined_125 rfl ?_
        obtain ⟨j42, hj43, hb44, hl45, hx⟩ := ix_some hx
        refine s_iald (a := 1122) sa_1122 hn hj43 hb44 na_1122 dX12_joined_127 ?_
        refine b_if hx (fun h46 hx => ?_) (fun h46 hx => ?_)
        · refine mm_icmp_ne 133 dX12_joined_128 (by decide) (fun h => absurd h46 h) (fun _ => ?_)
          refine mm_iconst (v := 1) dX12_joined_131 (by decide) ?_
          refine mm_iret dX12_joined_132 rfl rfl ?_ (by omega) (by omega)
          obtain rfl := fin1 hx
          exact ⟨rfl, rfl⟩
        · refine mm_icmp_ne 133 dX12_joined_128 (by decide) (fun _ => ?_) (fun h => absurd h h46)
          refine mm_fewer [some (.ref a), some (.int v1_), some (.int v2_), some (.int v3_), some (.int v4_), some (.int v5_), none, none] (few_ok (bs := [true, true, true, true, true, true, false, false]) rfl) ?_
          exact e_X12_joined_133 hst hZ hn hs hk3 hx
    · refine mm_if_ne 133 dX12_joined_100 (by decide) (fun _ => ?_) (fun h => absurd h h32)
      refine mm_fewer [some (.ref a), some (.int v1_), some (.int v2_), some (.int v3_), some (.int v4_), some (.int v5_), none, none] (few_ok (bs := [true, true, true, true, true, true, false, false]) rfl) ?_
      exact e_X12_joined_133 hst hZ hn hs hk3 hx
set_option maxHeartbeats 4000000 in
set_option maxRecDepth 100000 in
theorem e_X12_joined_89 {g : mm_G} {l : Launch} (hst : l.stackTraces = false) {Z : Nat → Nat → Option Nat} (hZ : HZ Z) {n : Nat} (hn : 1186 ≤ n) {z : Bool} {d : Nat} {U : Nat} {a : Nat} (hs : sh a = 12) {k3 : Int32 → Option (Int32)} {v1_ : Int32} {v2_ : Int32} {v3_ : Int32} {v4_ : Int32} {v5_ : Int32} {v6_ : Int32} {σ : SG} {r : Int32} (hk3 : ∀ (v5_ : Int32), k3 v5_ = some r → mm_V g l RX12 "joined" cX12_joined 8 (some .boolean) [] (d + 1) 0 0 (mm_nt (fun v S' => v = some (.int r) ∧ S' = (mem Z σ, n, z))) 3 [some (.ref a), some (.int v1_), some (.int v2_), some (.int v3_), some (.int v4_), some (.int v5_), none, none] [] (mem Z σ, n, z) 0 0) (hx : x_X12_joined_89 U a k3 v1_ v2_ v3_ v4_ v5_ v6_ σ = some r) : mm_V g l RX12 "joined" cX12_joined 8 (some .boolean) [] (d + 1) 0 0 (mm_nt (fun v S' => v = some (.int r) ∧ S' = (mem Z σ, n, z))) 89 [some (.ref a), some (.int v1_), some (.int v2_), some (.int v3_), some (.int v4_), some (.int v5_), some (.int v6_), none] [] (mem Z σ, n, z) 0 0 := by
  unfold x_X12_joined_89 at hx
  refine mm_iconst (v := 0) dX12_joined_89 (by decide) ?_
  exact e_X12_joined_90 hst hZ hn hs hk3 hx
set_option maxHeartbeats 4000000 in
set_option maxRecDepth 100000 in
theorem e_X12_joined_57 {g : mm_G} {l : Launch} (hst : l.stackTraces = false) {Z : Nat → Nat → Option Nat} (hZ : HZ Z) {n : Nat} (hn : 1186 ≤ n) {z : Bool} {d : Nat} {U : Nat} {a : Nat} (hs : sh a = 12) {k3 : Int32 → Option (Int32)} {v1_ : Int32} {v2_ : Int32} {v3_ : Int32} {v4_ : Int32} {v5_ : Int32} {s0_ : Int32} {σ : SG} {r : Int32} (hk3 : ∀ (v5_ : Int32), k3 v5_ = some r → mm_V g l RX12 "joined" cX12_joined 8 (some .boolean) [] (d + 1) 0 0 (mm_nt (fun v S' => v = some (.int r) ∧ S' = (mem Z σ, n, z))) 3 [some (.ref a), some (.int v1_), some (.int v2_), some (.int v3_), some (.int v4_), some (.int v5_), none, none] [] (mem Z σ, n, z) 0 0) (hx : x_X12_joined_57 U a k3 v1_ v2_ v3_ v4_ v5_ s0_ σ = some r) : mm_V g l RX12 "joined" cX12_joined 8 (some .boolean) [] (d + 1) 0 0 (mm_nt (fun v S' => v = some (.int r) ∧ S' = (mem Z σ, n, z))) 57 [some (.ref a), some (.int v1_), some (.int v2_), some (.int v3_), some (.int v4_), some (.int v5_), none, none] [.int s0_] (mem Z σ, n, z) 0 0 := by
  unfold x_X12_joined_57 at hx
  refine mm_istore [some (.ref a), some (.int v1_), some (.int v2_), some (.int v3_), some (.int v4_), some (.int v5_), some (.int s0_), none] dX12_joined_57 (by decide) rfl ?_
  refine mm_aload_n dX12_joined_59 rfl rfl ?_
  refine s_getS (q := 1122) (r := some a) (b := a) (ci := 12) (k := 25) in_X12 rfl (by decide) rfl kF_X12_75 dX12_joined_60 rfl hs (by decide) hn (by decide) rfl rfl ?_
  refine mm_iload_n dX12_joined_63 rfl ?_
  obtain ⟨j26, hj27, hb28, hl29, hx⟩ := ix_some hx
  refine s_iald (a := 1122) sa_1122 hn hj27 hb28 na_1122 dX12_joined_64 ?_
  refine mm_iconst (v := (-1)) dX12_joined_65 (by decide) ?_
  refine b_if hx (fun h30 hx => ?_) (fun h30 hx => ?_)
  · refine mm_icmp_eq 89 dX12_joined_66 (by decide) (fun _ => ?_) (fun h => absurd h30 h)
    exact e_X12_joined_89 hst hZ hn hs hk3 hx
  · refine mm_icmp_eq 89 dX12_joined_66 (by decide) (fun h => absurd h h30) (fun _ => ?_)
    refine mm_aload_n dX12_joined_69 rfl rfl ?_
    refine s_getS (q := 1122) (r := some a) (b := a) (ci := 12) (k := 25) in_X12 rfl (by decide) rfl kF_X12_75 dX12_joined_70 rfl hs (by decide) hn (by decide) rfl rfl ?_
    refine mm_iload dX12_joined_73 rfl ?_
    obtain ⟨j47, hj48, hb49, hl50, hx⟩ := ix_some hx
    refine s_iald (a := 1122) sa_1122 hn hj48 hb49 na_1122 dX12_joined_75 ?_
    refine mm_aload_n dX12_joined_76 rfl rfl ?_
    refine s_getS (q := 1122) (r := some a) (b := a) (ci := 12) (k := 25) in_X12 rfl (by decide) rfl kF_X12_75 dX12_joined_77 rfl hs (by decide) hn (by decide) rfl rfl ?_
    refine mm_iload_n dX12_joined_80 rfl ?_
    obtain ⟨j51, hj52, hb53, hl54, hx⟩ := ix_some hx
    refine s_iald (a := 1122) sa_1122 hn hj52 hb53 na_1122 dX12_joined_81 ?_
    refine b_if hx (fun h55 hx => ?_) (fun h55 hx => ?_)
    · refine mm_icmp_ne 89 dX12_joined_82 (by decide) (fun h => absurd h55 h) (fun _ => ?_)
      refine mm_iconst (v := 1) dX12_joined_85 (by decide) ?_
      refine mm_goto 90 dX12_joined_86 (by decide) ?_
      exact e_X12_joined_90 hst hZ hn hs hk3 hx
    · refine mm_icmp_ne 89 dX12_joined_82 (by decide) (fun _ => ?_) (fun h => absurd h h55)
      exact e_X12_joined_89 hst hZ hn hs hk3 hx
set_option maxHeartbeats 4000000 in
set_option maxRecDepth 100000 in
theorem e_X12_joined_56 {g : mm_G} {l : Launch} (hst : l.stackTraces = false) {Z : Nat → Nat → Option Nat} (hZ : HZ Z) {n : Nat} (hn : 1186 ≤ n) {z : Bool} {d : Nat} {U : Nat} {a : Nat} (hs : sh a = 12) {k3 : Int32 → Option (Int32)} {v1_ : Int32} {v2_ : Int32} {v3_ : Int32} {v4_ : Int32} {v5_ : Int32} {σ : SG} {r : Int32} (hk3 : ∀ (v5_ : Int32), k3 v5_ = some r → mm_V g l RX12 "joined" cX12_joined 8 (some .boolean) [] (d + 1) 0 0 (mm_nt (fun v S' => v = some (.int r) ∧ S' = (mem Z σ, n, z))) 3 [some (.ref a), some (.int v1_), some (.int v2_), some (.int v3_), some (.int v4_), some (.int v5_), none, none] [] (mem Z σ, n, z) 0 0) (hx : x_X12_joined_56 U a k3 v1_ v2_ v3_ v4_ v5_ σ = some r) : mm_V g l RX12 "joined" cX12_joined 8 (some .boolean) [] (d + 1) 0 0 (mm_nt (fun v S' => v = some (.int r) ∧ S' = (mem Z σ, n, z))) 56 [some (.ref a), some (.int v1_), some (.int v2_), some (.int v3_), some (.int v4_), some (.int v5_), none, none] [] (mem Z σ, n, z) 0 0 := by
  unfold x_X12_joined_56 at hx
  refine mm_iconst (v := (-1)) dX12_joined_56 (by decide) ?_
  exact e_X12_joined_57 hst hZ hn hs hk3 hx
set_option maxHeartbeats 4000000 in
set_option maxRecDepth 100000 in
theorem e_X12_joined_L3 {g : mm_G} {l : Launch} (hst : l.stackTraces = false) {Z : Nat → Nat → Option Nat} (hZ : HZ Z) {n : Nat} (hn : 1186 ≤ n) {z : Bool} {d : Nat} {U : Nat} {a : Nat} (hs : sh a = 12) {v1_ : Int32} {v2_ : Int32} {v3_ : Int32} {v4_ : Int32} {σ : SG} {r : Int32} : ∀ (U1 : Nat) (v5_ : Int32), x_X12_joined_L3 U a v1_ v2_ v3_ v4_ σ U1 v5_ = some r → mm_V g l RX12 "joined" cX12_joined 8 (some .boolean) [] (d + 1) 0 0 (mm_nt (fun v S' => v = some (.int r) ∧ S' = (mem Z σ, n, z))) 3 [some (.ref a), some (.int v1_), some (.int v2_), some (.int v3_), some (.int v4_), some (.int v5_), none, none] [] (mem Z σ, n, z) 0 0 := by
  intro U1
  induction U1 with
  | zero => intro v5_ hx; exact absurd hx (by simp [x_X12_joined_L3])
  | succ U1 ih =>
    intro v5_ hx
    rw [x_X12_joined_L3] at hx
    refine mm_iload dX12_joined_3 rfl ?_
    refine mm_aload_n dX12_joined_5 rfl rfl ?_
    refine s_getS (q := 1106) (r := some a) (b := a) (ci := 12) (k := 9) in_X12 rfl (by decide) rfl kF_X12_26 dX12_joined_6 rfl hs (by decide) hn (by decide) rfl rfl ?_
    refine mm_iconst (v := 0) dX12_joined_9 (by decide) ?_
    obtain ⟨j1, hj2, hb3, hl4, hx⟩ := ix_some hx
    refine s_iald (a := 1106) sa_1106 hn hj2 hb3 na_1106 dX12_joined_10 ?_
    refine b_if hx (fun h5 hx => ?_) (fun h5 hx => ?_)
    · refine mm_icmp_ge 139 dX12_joined_11 (by decide) (fun h => absurd h (Int32.not_le.mpr h5)) (fun _ => ?_)
      refine mm_aload_n dX12_joined_14 rfl rfl ?_
      refine s_getS (q := 1114) (r := some a) (b := a) (ci := 12) (k := 17) in_X12 rfl (by decide) rfl kF_X12_50 dX12_joined_15 rfl hs (by decide) hn (by decide) rfl rfl ?_
      refine mm_iload dX12_joined_18 rfl ?_
      obtain ⟨j6, hj7, hb8, hl9, hx⟩ := ix_some hx
      refine s_iald (a := 1114) sa_1114 hn hj7 hb8 na_1114 dX12_joined_20 ?_
      refine mm_iload_n dX12_joined_21 rfl ?_
      refine b_if hx (fun h10 hx => ?_) (fun h10 hx => ?_)
      · refine mm_icmp_ne 56 dX12_joined_22 (by decide) (fun h => absurd h10 h) (fun _ => ?_)
        refine mm_aload_n dX12_joined_25 rfl rfl ?_
        refine s_getS (q := 1117) (r := some a) (b := a) (ci := 12) (k := 20) in_X12 rfl (by decide) rfl kF_X12_59 dX12_joined_26 rfl hs (by decide) hn (by decide) rfl rfl ?_
        refine mm_iload dX12_joined_29 rfl ?_
        obtain ⟨j11, hj12, hb13, hl14, hx⟩ := ix_some hx
        refine s_iald (a := 1117) sa_1117 hn hj12 hb13 na_1117 dX12_joined_31 ?_
        refine mm_aload_n dX12_joined_32 rfl rfl ?_
        refine s_getS (q := 1117) (r := some a) (b := a) (ci := 12) (k := 20) in_X12 rfl (by decide) rfl kF_X12_59 dX12_joined_33 rfl hs (by decide) hn (by decide) rfl rfl ?_
        refine mm_iload_n dX12_joined_36 rfl ?_
        obtain ⟨j15, hj16, hb17, hl18, hx⟩ := ix_some hx
        refine s_iald (a := 1117) sa_1117 hn hj16 hb17 na_1117 dX12_joined_37 ?_
        refine b_if hx (fun h19 hx => ?_) (fun h19 hx => ?_)
        · refine mm_icmp_ge 56 dX12_joined_38 (by decide) (fun h => absurd h (Int32.not_le.mpr h19)) (fun _ => ?_)
          refine mm_aload_n dX12_joined_41 rfl rfl ?_
          refine mm_iload_n dX12_joined_42 rfl ?_
          refine mm_aload_n dX12_joined_43 rfl rfl ?_
          refine s_getS (q := 1117) (r := some a) (b := a) (ci := 12) (k := 20) in_X12 rfl (by decide) rfl kF_X12_59 dX12_joined_44 rfl hs (by decide) hn (by decide) rfl rfl ?_
          refine mm_iload dX12_joined_47 rfl ?_
          obtain ⟨j20, hj21, hb22, hl23, hx⟩ := ix_some hx
          refine s_iald (a := 1117) sa_1117 hn hj21 hb22 na_1117 dX12_joined_49 ?_
          obtain ⟨v25, hc24, hx⟩ := b1_some hx
          refine mm_callV3 (a := a) (ci := 12) wM_X12_freshNumbered kM_X12_844 wI_X12_freshNumbered wS_X12_freshNumbered dX12_joined_50 (e_X12_freshNumbered hst hZ hn hs hc24) (mem_obj hs (by decide)) (sh_ltn hs (by decide) hn) rfl rfl rfl (Nat.le_of_ble_eq_true rfl) (by omega) (by omega) (fun v9 S9 hq => ?_)
          obtain ⟨rfl, rfl⟩ := hq
          refine ⟨fun h => ⟨h, rfl⟩, ?_⟩
          refine mm_goto 57 dX12_joined_53 (by decide) ?_
          exact e_X12_joined_57 hst hZ hn hs ih hx
        · refine mm_icmp_ge 56 dX12_joined_38 (by decide) (fun _ => ?_) (fun h => absurd (Int32.not_lt.mp h19) h)
          exact e_X12_joined_56 hst hZ hn hs ih hx
      · refine mm_icmp_ne 56 dX12_joined_22 (by decide) (fun _ => ?_) (fun h => absurd h h10)
        exact e_X12_joined_56 hst hZ hn hs ih hx
    · refine mm_icmp_ge 139 dX12_joined_11 (by decide) (fun _ => ?_) (fun h => absurd (Int32.not_lt.mp h5) h)
      refine mm_iconst (v := 0) dX12_joined_139 (by decide) ?_
      refine mm_iret dX12_joined_140 rfl rfl ?_ (by omega) (by omega)
      obtain rfl := fin1 hx
      exact ⟨rfl, rfl⟩
set_option maxHeartbeats 4000000 in
set_option maxRecDepth 100000 in
theorem e_X12_joined {g : mm_G} {l : Launch} (hst : l.stackTraces = false) {Z : Nat → Nat → Option Nat} (hZ : HZ Z) {n : Nat} (hn : 1186 ≤ n) {z : Bool} {d : Nat} {U : Nat} {a : Nat} (hs : sh a = 12) {p0 : Int32} {p1 : Int32} {p2 : Int32} {p3 : Int32} {σ : SG} {r : Int32} (hx : x_X12_joined U a p0 p1 p2 p3 σ = some r) : mm_Cm g l yX12_joined (.code yX12_joined cX12_joined 8 (some .boolean)) (d + 1) 0 0 [.ref a, .int p0, .int p1, .int p2, .int p3] (mem Z σ, n, z) (fun v S' => v = some (.int r) ∧ S' = (mem Z σ, n, z)) := by
  refine mm_Cm_of hst (by decide) (Nat.le_of_ble_eq_true rfl) ?_
  show mm_V g l RX12 "joined" cX12_joined 8 (some .boolean) [] (d + 1) 0 0 (mm_nt (fun v S' => v = some (.int r) ∧ S' = (mem Z σ, n, z))) 0 [some (.ref a), some (.int p0), some (.int p1), some (.int p2), some (.int p3), none, none, none] [] (mem Z σ, n, z) 0 0
  unfold x_X12_joined at hx
  refine mm_iconst (v := 0) dX12_joined_0 (by decide) ?_
  refine mm_istore [some (.ref a), some (.int p0), some (.int p1), some (.int p2), some (.int p3), some (.int 0), none, none] dX12_joined_1 (by decide) rfl ?_
  refine e_X12_joined_L3 hst hZ hn hs _ _ hx
set_option maxHeartbeats 4000000 in
set_option maxRecDepth 100000 in
theorem e_X12_widens {g : mm_G} {l : Launch} (hst : l.stackTraces = false) {Z : Nat → Nat → Option Nat} (hZ : HZ Z) {n : Nat} (hn : 1186 ≤ n) {z : Bool} {d : Nat} {p0 : Int32} {p1 : Int32} {σ : SG} {r : Int32} (hx : x_X12_widens p0 p1 = some r) : mm_Cm g l yX12_widens (.code yX12_widens cX12_widens 2 (some .boolean)) (d) 0 0 [.int p0, .int p1] (mem Z σ, n, z) (fun v S' => v = some (.int r) ∧ S' = (mem Z σ, n, z)) := by
  refine mm_Cm_of hst (by decide) (Nat.le_of_ble_eq_true rfl) ?_
  show mm_V g l RX12 "widens" cX12_widens 2 (some .boolean) [] (d) 0 0 (mm_nt (fun v S' => v = some (.int r) ∧ S' = (mem Z σ, n, z))) 0 [some (.int p0), some (.int p1)] [] (mem Z σ, n, z) 0 0
  unfold x_X12_widens at hx
  refine mm_iload_n dX12_widens_0 rfl ?_
  refine b_if hx (fun h1 hx => ?_) (fun h1 hx => ?_)
  · refine mm_if_ne 21 dX12_widens_1 (by decide) (fun h => absurd h1 h) (fun _ => ?_)
    refine mm_iload_n dX12_widens_4 rfl ?_
    refine mm_iconst (v := 1) dX12_widens_5 (by decide) ?_
    refine b_if hx (fun h2 hx => ?_) (fun h2 hx => ?_)
    · refine mm_icmp_eq 15 dX12_widens_6 (by decide) (fun _ => ?_) (fun h => absurd h2 h)
      refine mm_iconst (v := 1) dX12_widens_15 (by decide) ?_
      refine mm_goto 20 dX12_widens_16 (by decide) ?_
      refine mm_iret dX12_widens_20 rfl rfl ?_ (by omega) (by omega)
      obtain rfl := fin1 hx
      exact ⟨rfl, rfl⟩
    · refine mm_icmp_eq 15 dX12_widens_6 (by decide) (fun h => absurd h h2) (fun _ => ?_)
      refine mm_iload_n dX12_widens_9 rfl ?_
      refine mm_bipush (v := 14) dX12_widens_10 (by decide) ?_
      refine b_if hx (fun h3 hx => ?_) (fun h3 hx => ?_)
      · refine mm_icmp_ne 19 dX12_widens_12 (by decide) (fun h => absurd h3 h) (fun _ => ?_)
        refine mm_iconst (v := 1) dX12_widens_15 (by decide) ?_
        refine mm_goto 20 dX12_widens_16 (by decide) ?_
        refine mm_iret dX12_widens_20 rfl rfl ?_ (by omega) (by omega)
        obtain rfl := fin1 hx
        exact ⟨rfl, rfl⟩
      · refine mm_icmp_ne 19 dX12_widens_12 (by decide) (fun _ => ?_) (fun h => absurd h h3)
        refine mm_iconst (v := 0) dX12_widens_19 (by decide) ?_
        refine mm_iret dX12_widens_20 rfl rfl ?_ (by omega) (by omega)
        obtain rfl := fin1 hx
        exact ⟨rfl, rfl⟩
  · refine mm_if_ne 21 dX12_widens_1 (by decide) (fun _ => ?_) (fun h => absurd h h1)
    refine mm_iload_n dX12_widens_21 rfl ?_
    refine mm_iconst (v := 2) dX12_widens_22 (by decide) ?_
    refine b_if hx (fun h4 hx => ?_) (fun h4 hx => ?_)
    · refine mm_icmp_ne 42 dX12_widens_23 (by decide) (fun h => absurd h4 h) (fun _ => ?_)
      refine mm_iload_n dX12_widens_26 rfl ?_
      refine mm_iconst (v := 3) dX12_widens_27 (by decide) ?_
      refine b_if hx (fun h5 hx => ?_) (fun h5 hx => ?_)
      · refine mm_icmp_eq 36 dX12_widens_28 (by decide) (fun _ => ?_) (fun h => absurd h5 h)
        refine mm_iconst (v := 1) dX12_widens_36 (by decide) ?_
        refine mm_goto 41 dX12_widens_37 (by decide) ?_
        refine mm_iret dX12_widens_41 rfl rfl ?_ (by omega) (by omega)
        obtain rfl := fin1 hx
        exact ⟨rfl, rfl⟩
      · refine mm_icmp_eq 36 dX12_widens_28 (by decide) (fun h => absurd h h5) (fun _ => ?_)
        refine mm_iload_n dX12_widens_31 rfl ?_
        refine mm_iconst (v := 1) dX12_widens_32 (by decide) ?_
        refine b_if hx (fun h6 hx => ?_) (fun h6 hx => ?_)
        · refine mm_icmp_ne 40 dX12_widens_33 (by decide) (fun h => absurd h6 h) (fun _ => ?_)
          refine mm_iconst (v := 1) dX12_widens_36 (by decide) ?_
          refine mm_goto 41 dX12_widens_37 (by decide) ?_
          refine mm_iret dX12_widens_41 rfl rfl ?_ (by omega) (by omega)
          obtain rfl := fin1 hx
          exact ⟨rfl, rfl⟩
        · refine mm_icmp_ne 40 dX12_widens_33 (by decide) (fun _ => ?_) (fun h => absurd h h6)
          refine mm_iconst (v := 0) dX12_widens_40 (by decide) ?_
          refine mm_iret dX12_widens_41 rfl rfl ?_ (by omega) (by omega)
          obtain rfl := fin1 hx
          exact ⟨rfl, rfl⟩
    · refine mm_icmp_ne 42 dX12_widens_23 (by decide) (fun _ => ?_) (fun h => absurd h h4)
      refine mm_iload_n dX12_widens_42 rfl ?_
      refine mm_iconst (v := 4) dX12_widens_43 (by decide) ?_
      refine b_if hx (fun h7 hx => ?_) (fun h7 hx => ?_)
      · refine mm_icmp_ne 58 dX12_widens_44 (by decide) (fun h => absurd h7 h) (fun _ => ?_)
        refine mm_iload_n dX12_widens_47 rfl ?_
        refine mm_iconst (v := 5) dX12_widens_48 (by decide) ?_
        refine b_if hx (fun h8 hx => ?_) (fun h8 hx => ?_)
        · refine mm_icmp_ne 56 dX12_widens_49 (by decide) (fun h => absurd h8 h) (fun _ => ?_)
          refine mm_iconst (v := 1) dX12_widens_52 (by decide) ?_
          refine mm_goto 57 dX12_widens_53 (by decide) ?_
          refine mm_iret dX12_widens_57 rfl rfl ?_ (by omega) (by omega)
          obtain rfl := fin1 hx
          exact ⟨rfl, rfl⟩
        · refine mm_icmp_ne 56 dX12_widens_49 (by decide) (fun _ => ?_) (fun h => absurd h h8)
          refine mm_iconst (v := 0) dX12_widens_56 (by decide) ?_
          refine mm_iret dX12_widens_57 rfl rfl ?_ (by omega) (by omega)
          obtain rfl := fin1 hx
          exact ⟨rfl, rfl⟩
      · refine mm_icmp_ne 58 dX12_widens_44 (by decide) (fun _ => ?_) (fun h => absurd h h7)
        refine mm_iload_n dX12_widens_58 rfl ?_
        refine mm_bipush (v := 10) dX12_widens_59 (by decide) ?_
        refine b_if hx (fun h9 hx => ?_) (fun h9 hx => ?_)
        · refine mm_icmp_ne 95 dX12_widens_61 (by decide) (fun h => absurd h9 h) (fun _ => ?_)
          refine mm_iload_n dX12_widens_64 rfl ?_
          refine b_if hx (fun h10 hx => ?_) (fun h10 hx => ?_)
          · refine mm_if_eq 89 dX12_widens_65 (by decide) (fun _ => ?_) (fun h => absurd h10 h)
            refine mm_iconst (v := 1) dX12_widens_89 (by decide) ?_
            refine mm_goto 94 dX12_widens_90 (by decide) ?_
            refine mm_iret dX12_widens_94 rfl rfl ?_ (by omega) (by omega)
            obtain rfl := fin1 hx
            exact ⟨rfl, rfl⟩
          · refine mm_if_eq 89 dX12_widens_65 (by decide) (fun h => absurd h h10) (fun _ => ?_)
            refine mm_iload_n dX12_widens_68 rfl ?_
            refine mm_iconst (v := 1) dX12_widens_69 (by decide) ?_
            refine b_if hx (fun h11 hx => ?_) (fun h11 hx => ?_)
            · refine mm_icmp_eq 89 dX12_widens_70 (by decide) (fun _ => ?_) (fun h => absurd h11 h)
              refine mm_iconst (v := 1) dX12_widens_89 (by decide) ?_
              refine mm_goto 94 dX12_widens_90 (by decide) ?_
              refine mm_iret dX12_widens_94 rfl rfl ?_ (by omega) (by omega)
              obtain rfl := fin1 hx
              exact ⟨rfl, rfl⟩
            · refine mm_icmp_eq 89 dX12_widens_70 (by decide) (fun h => absurd h h11) (fun _ => ?_)
              refine mm_iload_n dX12_widens_73 rfl ?_
              refine mm_iconst (v := 2) dX12_widens_74 (by decide) ?_
              refine b_if hx (fun h12 hx => ?_) (fun h12 hx => ?_)
              · refine mm_icmp_eq 89 dX12_widens_75 (by decide) (fun _ => ?_) (fun h => absurd h12 h)
                refine mm_iconst (v := 1) dX12_widens_89 (by decide) ?_
                refine mm_goto 94 dX12_widens_90 (by decide) ?_
                refine mm_iret dX12_widens_94 rfl rfl ?_ (by omega) (by omega)
                obtain rfl := fin1 hx
                exact ⟨rfl, rfl⟩
              · refine mm_icmp_eq 89 dX12_widens_75 (by decide) (fun h => absurd h h12) (fun _ => ?_)
                refine mm_iload_n dX12_widens_78 rfl ?_
                refine mm_iconst (v := 3) dX12_widens_79 (by decide) ?_
                refine b_if hx (fun h13 hx => ?_) (fun h13 hx => ?_)
                · refine mm_icmp_eq 89 dX12_widens_80 (by decide) (fun _ => ?_) (fun h => absurd h13 h)
                  refine mm_iconst (v := 1) dX12_widens_89 (by decide) ?_
                  refine mm_goto 94 dX12_widens_90 (by decide) ?_
                  refine mm_iret dX12_widens_94 rfl rfl ?_ (by omega) (by omega)
                  obtain rfl := fin1 hx
                  exact ⟨rfl, rfl⟩
                · refine mm_icmp_eq 89 dX12_widens_80 (by decide) (fun h => absurd h h13) (fun _ => ?_)
                  refine mm_iload_n dX12_widens_83 rfl ?_
                  refine mm_bipush (v := 14) dX12_widens_84 (by decide) ?_
                  refine b_if hx (fun h14 hx => ?_) (fun h14 hx => ?_)
                  · refine mm_icmp_ne 93 dX12_widens_86 (by decide) (fun h => absurd h14 h) (fun _ => ?_)
                    refine mm_iconst (v := 1) dX12_widens_89 (by decide) ?_
                    refine mm_goto 94 dX12_widens_90 (by decide) ?_
                    refine mm_iret dX12_widens_94 rfl rfl ?_ (by omega) (by omega)
                    obtain rfl := fin1 hx
                    exact ⟨rfl, rfl⟩
                  · refine mm_icmp_ne 93 dX12_widens_86 (by decide) (fun _ => ?_) (fun h => absurd h h14)
                    refine mm_iconst (v := 0) dX12_widens_93 (by decide) ?_
                    refine mm_iret dX12_widens_94 rfl rfl ?_ (by omega) (by omega)
                    obtain rfl := fin1 hx
                    exact ⟨rfl, rfl⟩
        · refine mm_icmp_ne 95 dX12_widens_61 (by decide) (fun _ => ?_) (fun h => absurd h h9)
          refine mm_iload_n dX12_widens_95 rfl ?_
          refine mm_bipush (v := 14) dX12_widens_96 (by decide) ?_
          refine b_if hx (fun h15 hx => ?_) (fun h15 hx => ?_)
          · refine mm_icmp_ne 116 dX12_widens_98 (by decide) (fun h => absurd h15 h) (fun _ => ?_)
            refine mm_iload_n dX12_widens_101 rfl ?_
            refine b_if hx (fun h16 hx => ?_) (fun h16 hx => ?_)
            · refine mm_if_eq 110 dX12_widens_102 (by decide) (fun _ => ?_) (fun h => absurd h16 h)
              refine mm_iconst (v := 1) dX12_widens_110 (by decide) ?_
              refine mm_goto 115 dX12_widens_111 (by decide) ?_
              refine mm_iret dX12_widens_115 rfl rfl ?_ (by omega) (by omega)
              obtain rfl := fin1 hx
              exact ⟨rfl, rfl⟩
            · refine mm_if_eq 110 dX12_widens_102 (by decide) (fun h => absurd h h16) (fun _ => ?_)
              refine mm_iload_n dX12_widens_105 rfl ?_
              refine mm_iconst (v := 1) dX12_widens_106 (by decide) ?_
              refine b_if hx (fun h17 hx => ?_) (fun h17 hx => ?_)
              · refine mm_icmp_ne 114 dX12_widens_107 (by decide) (fun h => absurd h17 h) (fun _ => ?_)
                refine mm_iconst (v := 1) dX12_widens_110 (by decide) ?_
                refine mm_goto 115 dX12_widens_111 (by decide) ?_
                refine mm_iret dX12_widens_115 rfl rfl ?_ (by omega) (by omega)
                obtain rfl := fin1 hx
                exact ⟨rfl, rfl⟩
              · refine mm_icmp_ne 114 dX12_widens_107 (by decide) (fun _ => ?_) (fun h => absurd h h17)
                refine mm_iconst (v := 0) dX12_widens_114 (by decide) ?_
                refine mm_iret dX12_widens_115 rfl rfl ?_ (by omega) (by omega)
                obtain rfl := fin1 hx
                exact ⟨rfl, rfl⟩
          · refine mm_icmp_ne 116 dX12_widens_98 (by decide) (fun _ => ?_) (fun h => absurd h h15)
            refine mm_iload_n dX12_widens_116 rfl ?_
            refine mm_bipush (v := 11) dX12_widens_117 (by decide) ?_
            refine b_if hx (fun h18 hx => ?_) (fun h18 hx => ?_)
            · refine mm_icmp_ne 132 dX12_widens_119 (by decide) (fun h => absurd h18 h) (fun _ => ?_)
              refine mm_iload_n dX12_widens_122 rfl ?_
              refine mm_bipush (v := 12) dX12_widens_123 (by decide) ?_
              refine b_if hx (fun h19 hx => ?_) (fun h19 hx => ?_)
              · refine mm_icmp_ne 132 dX12_widens_125 (by decide) (fun h => absurd h19 h) (fun _ => ?_)
                refine mm_iconst (v := 1) dX12_widens_128 (by decide) ?_
                refine mm_goto 133 dX12_widens_129 (by decide) ?_
                refine mm_iret dX12_widens_133 rfl rfl ?_ (by omega) (by omega)
                obtain rfl := fin1 hx
                exact ⟨rfl, rfl⟩
              · refine mm_icmp_ne 132 dX12_widens_125 (by decide) (fun _ => ?_) (fun h => absurd h h19)
                refine mm_iconst (v := 0) dX12_widens_132 (by decide) ?_
                refine mm_iret dX12_widens_133 rfl rfl ?_ (by omega) (by omega)
                obtain rfl := fin1 hx
                exact ⟨rfl, rfl⟩
            · refine mm_icmp_ne 132 dX12_widens_119 (by decide) (fun _ => ?_) (fun h => absurd h h18)
              refine mm_iconst (v := 0) dX12_widens_132 (by decide) ?_
              refine mm_iret dX12_widens_133 rfl rfl ?_ (by omega) (by omega)
              obtain rfl := fin1 hx
              exact ⟨rfl, rfl⟩
set_option maxHeartbeats 4000000 in
set_option maxRecDepth 100000 in
theorem e_X12_checkStep_180 {g : mm_G} {l : Launch} (hst : l.stackTraces = false) {Z : Nat → Nat → Option Nat} (hZ : HZ Z) {n : Nat} (hn : 1186 ≤ n) {z : Bool} {d : Nat} {U : Nat} {a : Nat} (hs : sh a = 12) {v2_ : Int32} {v3_ : Int32} {σ : SG} {r : Int32} {σ' : SG} (hx : x_X12_checkStep_180 U a v2_ v3_ σ = some (r, σ')) : mm_V g l RX12 "checkStep" cX12_checkStep 5 (some .int) [] (d + 2) 0 0 (mm_nt (fun v S' => v = some (.int r) ∧ S' = (mem Z σ', n, z))) 180 [some (.ref a), none, some (.int v2_), some (.int v3_), none] [] (mem Z σ, n, z) 0 0 := by
  unfold x_X12_checkStep_180 at hx
  refine mm_aload_n dX12_checkStep_180 rfl rfl ?_
  refine s_getS (q := 1118) (r := some a) (b := a) (ci := 12) (k := 21) in_X12 rfl (by decide) rfl kF_X12_62 dX12_checkStep_181 rfl hs (by decide) hn (by decide) rfl rfl ?_
  refine mm_iload_n dX12_checkStep_184 rfl ?_
  obtain ⟨j70, hj71, hb72, hl73, hx⟩ := ix_some hx
  refine s_iald (a := 1118) sa_1118 hn hj71 hb72 na_1118 dX12_checkStep_185 ?_
  refine mm_bipush (v := 13) dX12_checkStep_186 (by decide) ?_
  refine b_if hx (fun h74 hx => ?_) (fun h74 hx => ?_)
  · refine mm_icmp_ne 231 dX12_checkStep_188 (by decide) (fun h => absurd h74 h) (fun _ => ?_)
    refine mm_aload_n dX12_checkStep_191 rfl rfl ?_
    refine s_getS (q := 1181) (r := some a) (b := a) (ci := 12) (k := 111) in_X12 rfl (by decide) rfl kF_X12_253 dX12_checkStep_192 rfl hs (by decide) hn (by decide) rfl rfl ?_
    refine mm_bipush (v := 16) dX12_checkStep_195 (by decide) ?_
    refine mm_aload_n dX12_checkStep_197 rfl rfl ?_
    refine s_getS (q := 1119) (r := some a) (b := a) (ci := 12) (k := 22) in_X12 rfl (by decide) rfl kF_X12_65 dX12_checkStep_198 rfl hs (by decide) hn (by decide) rfl rfl ?_
    refine mm_iload_n dX12_checkStep_201 rfl ?_
    obtain ⟨j75, hj76, hb77, hl78, hx⟩ := ix_some hx
    refine s_iald (a := 1119) sa_1119 hn hj76 hb77 na_1119 dX12_checkStep_202 ?_
    refine mm_imul dX12_checkStep_203 ?_
    refine mm_aload_n dX12_checkStep_204 rfl rfl ?_
    refine s_getS (q := 1119) (r := some a) (b := a) (ci := 12) (k := 22) in_X12 rfl (by decide) rfl kF_X12_65 dX12_checkStep_205 rfl hs (by decide) hn (by decide) rfl rfl ?_
    refine mm_iload_n dX12_checkStep_208 rfl ?_
    obtain ⟨j79, hj80, hb81, hl82, hx⟩ := ix_some hx
    refine s_iald (a := 1119) sa_1119 hn hj80 hb81 na_1119 dX12_checkStep_209 ?_
    refine mm_iadd dX12_checkStep_210 ?_
    obtain ⟨j83, hj84, hb85, hl86, hx⟩ := ix_some hx
    refine s_zald (a := 1181) sa_1181 hn hj84 hb85 na_1181 dX12_checkStep_211 ?_
    refine b_if hx (fun h87 hx => ?_) (fun h87 hx => ?_)
    · refine mm_if_ne 231 dX12_checkStep_212 (by decide) (fun h => absurd h87 h) (fun _ => ?_)
      refine mm_aload_n dX12_checkStep_215 rfl rfl ?_
      refine mm_aload_n dX12_checkStep_216 rfl rfl ?_
      refine s_getS (q := 1119) (r := some a) (b := a) (ci := 12) (k := 22) in_X12 rfl (by decide) rfl kF_X12_65 dX12_checkStep_217 rfl hs (by decide) hn (by decide) rfl rfl ?_
      refine mm_iload_n dX12_checkStep_220 rfl ?_
      obtain ⟨j88, hj89, hb90, hl91, hx⟩ := ix_some hx
      refine s_iald (a := 1119) sa_1119 hn hj89 hb90 na_1119 dX12_checkStep_221 ?_
      refine mm_aload_n dX12_checkStep_222 rfl rfl ?_
      refine s_getS (q := 1119) (r := some a) (b := a) (ci := 12) (k := 22) in_X12 rfl (by decide) rfl kF_X12_65 dX12_checkStep_223 rfl hs (by decide) hn (by decide) rfl rfl ?_
      refine mm_iload_n dX12_checkStep_226 rfl ?_
      obtain ⟨j92, hj93, hb94, hl95, hx⟩ := ix_some hx
      refine s_iald (a := 1119) sa_1119 hn hj93 hb94 na_1119 dX12_checkStep_227 ?_
      obtain ⟨σ97, hc96, hx⟩ := b1_some hx
      refine mm_callV3 (a := a) (ci := 12) wM_X12_open kM_X12_853 wI_X12_open wS_X12_open dX12_checkStep_228 (e_X12_open hst hZ hn hs hc96) (mem_obj hs (by decide)) (sh_ltn hs (by decide) hn) rfl rfl rfl (Nat.le_of_ble_eq_true rfl) (by omega) (by omega) (fun v9 S9 hq => ?_)
      obtain ⟨rfl, rfl⟩ := hq
      refine ⟨fun h => ⟨h, rfl⟩, ?_⟩
      refine mm_iconst (v := 0) dX12_checkStep_231 (by decide) ?_
      refine mm_iret dX12_checkStep_232 rfl rfl ?_ (by omega) (by omega)
      obtain ⟨rfl, rfl⟩ := fin2 hx
      exact ⟨rfl, rfl⟩
    · refine mm_if_ne 231 dX12_checkStep_212 (by decide) (fun _ => ?_) (fun h => absurd h h87)
      refine mm_iconst (v := 0) dX12_checkStep_231 (by decide) ?_
      refine mm_iret dX12_checkStep_232 rfl rfl ?_ (by omega) (by omega)
      obtain ⟨rfl, rfl⟩ := fin2 hx
      exact ⟨rfl, rfl⟩
  · refine mm_icmp_ne 231 dX12_checkStep_188 (by decide) (fun _ => ?_) (fun h => absurd h h74)
    refine mm_iconst (v := 0) dX12_checkStep_231 (by decide) ?_
    refine mm_iret dX12_checkStep_232 rfl rfl ?_ (by omega) (by omega)
    obtain ⟨rfl, rfl⟩ := fin2 hx
    exact ⟨rfl, rfl⟩
set_option maxHeartbeats 4000000 in
set_option maxRecDepth 100000 in
theorem e_X12_checkStep_77 {g : mm_G} {l : Launch} (hst : l.stackTraces = false) {Z : Nat → Nat → Option Nat} (hZ : HZ Z) {n : Nat} (hn : 1186 ≤ n) {z : Bool} {d : Nat} {U : Nat} {a : Nat} (hs : sh a = 12) {v1_ : Int32} {v2_ : Int32} {v3_ : Int32} {s0_ : Int32} {σ : SG} {r : Int32} {σ' : SG} (hx : x_X12_checkStep_77 U a v1_ v2_ v3_ s0_ σ = some (r, σ')) : mm_V g l RX12 "checkStep" cX12_checkStep 5 (some .int) [] (d + 2) 0 0 (mm_nt (fun v S' => v = some (.int r) ∧ S' = (mem Z σ', n, z))) 77 [some (.ref a), some (.int v1_), some (.int v2_), some (.int v3_), none] [.int s0_] (mem Z σ, n, z) 0 0 := by
  unfold x_X12_checkStep_77 at hx
  refine mm_istore [some (.ref a), some (.int v1_), some (.int v2_), some (.int v3_), some (.int s0_)] dX12_checkStep_77 (by decide) rfl ?_
  refine mm_aload_n dX12_checkStep_79 rfl rfl ?_
  refine s_getS (q := 1184) (r := some a) (b := a) (ci := 12) (k := 114) in_X12 rfl (by decide) rfl kF_X12_262 dX12_checkStep_80 rfl hs (by decide) hn (by decide) rfl rfl ?_
  refine mm_iload_n dX12_checkStep_83 rfl ?_
  refine mm_dup2 dX12_checkStep_84 rfl rfl ?_
  obtain ⟨j30, hj31, hb32, hl33, hx⟩ := ix_some hx
  refine s_iald (a := 1184) sa_1184 hn hj31 hb32 na_1184 dX12_checkStep_85 ?_
  refine mm_iconst (v := 1) dX12_checkStep_86 (by decide) ?_
  refine mm_iadd dX12_checkStep_87 ?_
  obtain ⟨j34, hj35, hb36, hl37, hx⟩ := ix_some hx
  refine s_iast (a := 1184) (v := (sI σ 1184 j30) + 1) sa_1184 hn hj35 hb36 na_1184 dX12_checkStep_88 hx (fun σ38 hx => ?_)
  refine mm_iload_n dX12_checkStep_89 rfl ?_
  refine mm_iconst (v := (-1)) dX12_checkStep_90 (by decide) ?_
  refine b_if hx (fun h39 hx => ?_) (fun h39 hx => ?_)
  · refine mm_icmp_ne 96 dX12_checkStep_91 (by decide) (fun h => absurd h39 h) (fun _ => ?_)
    refine mm_iconst (v := 0) dX12_checkStep_94 (by decide) ?_
    refine mm_iret dX12_checkStep_95 rfl rfl ?_ (by omega) (by omega)
    obtain ⟨rfl, rfl⟩ := fin2 hx
    exact ⟨rfl, rfl⟩
  · refine mm_icmp_ne 96 dX12_checkStep_91 (by decide) (fun _ => ?_) (fun h => absurd h h39)
    refine mm_iload dX12_checkStep_96 rfl ?_
    refine b_if hx (fun h40 hx => ?_) (fun h40 hx => ?_)
    · refine mm_if_ne 128 dX12_checkStep_98 (by decide) (fun h => absurd h40 h) (fun _ => ?_)
      refine mm_aload_n dX12_checkStep_101 rfl rfl ?_
      refine mm_aload_n dX12_checkStep_102 rfl rfl ?_
      refine s_getS (q := 1182) (r := some a) (b := a) (ci := 12) (k := 112) in_X12 rfl (by decide) rfl kF_X12_256 dX12_checkStep_103 rfl hs (by decide) hn (by decide) rfl rfl ?_
      refine mm_iload_n dX12_checkStep_106 rfl ?_
      obtain ⟨j41, hj42, hb43, hl44, hx⟩ := ix_some hx
      refine s_iald (a := 1182) sa_1182 hn hj42 hb43 na_1182 dX12_checkStep_107 ?_
      refine mm_aload_n dX12_checkStep_108 rfl rfl ?_
      refine s_getS (q := 1183) (r := some a) (b := a) (ci := 12) (k := 113) in_X12 rfl (by decide) rfl kF_X12_259 dX12_checkStep_109 rfl hs (by decide) hn (by decide) rfl rfl ?_
      refine mm_iload_n dX12_checkStep_112 rfl ?_
      obtain ⟨j45, hj46, hb47, hl48, hx⟩ := ix_some hx
      refine s_iald (a := 1183) sa_1183 hn hj46 hb47 na_1183 dX12_checkStep_113 ?_
      refine mm_iload_n dX12_checkStep_114 rfl ?_
      refine mm_iload_n dX12_checkStep_115 rfl ?_
      obtain ⟨v50, hc49, hx⟩ := b1_some hx
      refine mm_callV3 (a := a) (ci := 12) wM_X12_joined kM_X12_847 wI_X12_joined wS_X12_joined dX12_checkStep_116 (e_X12_joined hst hZ hn hs hc49) (mem_obj hs (by decide)) (sh_ltn hs (by decide) hn) rfl rfl rfl (Nat.le_of_ble_eq_true rfl) (by omega) (by omega) (fun v9 S9 hq => ?_)
      obtain ⟨rfl, rfl⟩ := hq
      refine ⟨fun h => ⟨h, rfl⟩, ?_⟩
      refine b_if hx (fun h51 hx => ?_) (fun h51 hx => ?_)
      · refine mm_if_eq 126 dX12_checkStep_119 (by decide) (fun _ => ?_) (fun h => absurd h51 h)
        refine mm_iconst (v := 0) dX12_checkStep_126 (by decide) ?_
        refine mm_iret dX12_checkStep_127 rfl rfl ?_ (by omega) (by omega)
        obtain ⟨rfl, rfl⟩ := fin2 hx
        exact ⟨rfl, rfl⟩
      · refine mm_if_eq 126 dX12_checkStep_119 (by decide) (fun h => absurd h h51) (fun _ => ?_)
        refine mm_iconst (v := 3) dX12_checkStep_122 (by decide) ?_
        refine mm_goto 127 dX12_checkStep_123 (by decide) ?_
        refine mm_iret dX12_checkStep_127 rfl rfl ?_ (by omega) (by omega)
        obtain ⟨rfl, rfl⟩ := fin2 hx
        exact ⟨rfl, rfl⟩
    · refine mm_if_ne 128 dX12_checkStep_98 (by decide) (fun _ => ?_) (fun h => absurd h h40)
      refine mm_aload_n dX12_checkStep_128 rfl rfl ?_
      refine s_getS (q := 1120) (r := some a) (b := a) (ci := 12) (k := 23) in_X12 rfl (by decide) rfl kF_X12_68 dX12_checkStep_129 rfl hs (by decide) hn (by decide) rfl rfl ?_
      refine mm_iload_n dX12_checkStep_132 rfl ?_
      obtain ⟨j52, hj53, hb54, hl55, hx⟩ := ix_some hx
      refine s_zald (a := 1120) sa_1120 hn hj53 hb54 na_1120 dX12_checkStep_133 ?_
      refine mm_aload_n dX12_checkStep_134 rfl rfl ?_
      refine s_getS (q := 1120) (r := some a) (b := a) (ci := 12) (k := 23) in_X12 rfl (by decide) rfl kF_X12_68 dX12_checkStep_135 rfl hs (by decide) hn (by decide) rfl rfl ?_
      refine mm_iload_n dX12_checkStep_138 rfl ?_
      obtain ⟨j56, hj57, hb58, hl59, hx⟩ := ix_some hx
      refine s_zald (a := 1120) sa_1120 hn hj57 hb58 na_1120 dX12_checkStep_139 ?_
      refine b_if hx (fun h60 hx => ?_) (fun h60 hx => ?_)
      · refine mm_icmp_eq 145 dX12_checkStep_140 (by decide) (fun _ => ?_) (fun h => absurd h60 h)
        refine mm_aload_n dX12_checkStep_145 rfl rfl ?_
        refine s_getS (q := 1118) (r := some a) (b := a) (ci := 12) (k := 21) in_X12 rfl (by decide) rfl kF_X12_62 dX12_checkStep_146 rfl hs (by decide) hn (by decide) rfl rfl ?_
        refine mm_iload_n dX12_checkStep_149 rfl ?_
        obtain ⟨j61, hj62, hb63, hl64, hx⟩ := ix_some hx
        refine s_iald (a := 1118) sa_1118 hn hj62 hb63 na_1118 dX12_checkStep_150 ?_
        refine mm_aload_n dX12_checkStep_151 rfl rfl ?_
        refine s_getS (q := 1118) (r := some a) (b := a) (ci := 12) (k := 21) in_X12 rfl (by decide) rfl kF_X12_62 dX12_checkStep_152 rfl hs (by decide) hn (by decide) rfl rfl ?_
        refine mm_iload_n dX12_checkStep_155 rfl ?_
        obtain ⟨j65, hj66, hb67, hl68, hx⟩ := ix_some hx
        refine s_iald (a := 1118) sa_1118 hn hj66 hb67 na_1118 dX12_checkStep_156 ?_
        refine b_if hx (fun h69 hx => ?_) (fun h69 hx => ?_)
        · refine mm_icmp_eq 180 dX12_checkStep_157 (by decide) (fun _ => ?_) (fun h => absurd h69 h)
          refine mm_fewer [some (.ref a), none, some (.int v2_), some (.int v3_), none] (few_ok (bs := [true, false, true, true, false]) rfl) ?_
          exact e_X12_checkStep_180 hst hZ hn hs hx
        · refine mm_icmp_eq 180 dX12_checkStep_157 (by decide) (fun h => absurd h h69) (fun _ => ?_)
          refine mm_aload_n dX12_checkStep_160 rfl rfl ?_
          refine s_getS (q := 1118) (r := some a) (b := a) (ci := 12) (k := 21) in_X12 rfl (by decide) rfl kF_X12_62 dX12_checkStep_161 rfl hs (by decide) hn (by decide) rfl rfl ?_
          refine mm_iload_n dX12_checkStep_164 rfl ?_
          obtain ⟨j98, hj99, hb100, hl101, hx⟩ := ix_some hx
          refine s_iald (a := 1118) sa_1118 hn hj99 hb100 na_1118 dX12_checkStep_165 ?_
          refine mm_aload_n dX12_checkStep_166 rfl rfl ?_
          refine s_getS (q := 1118) (r := some a) (b := a) (ci := 12) (k := 21) in_X12 rfl (by decide) rfl kF_X12_62 dX12_checkStep_167 rfl hs (by decide) hn (by decide) rfl rfl ?_
          refine mm_iload_n dX12_checkStep_170 rfl ?_
          obtain ⟨j102, hj103, hb104, hl105, hx⟩ := ix_some hx
          refine s_iald (a := 1118) sa_1118 hn hj103 hb104 na_1118 dX12_checkStep_171 ?_
          obtain ⟨v107, hc106, hx⟩ := b1_some hx
          refine mm_callS wM_X12_widens kM_X12_850 wT_X12_widens dX12_checkStep_172 (e_X12_widens hst hZ hn hc106) rfl rfl (Nat.le_of_ble_eq_true rfl) (by omega) (by omega) (fun v9 S9 hq => ?_)
          obtain ⟨rfl, rfl⟩ := hq
          refine ⟨fun h => ⟨h, rfl⟩, ?_⟩
          refine b_if hx (fun h108 hx => ?_) (fun h108 hx => ?_)
          · refine mm_if_ne 180 dX12_checkStep_175 (by decide) (fun h => absurd h108 h) (fun _ => ?_)
            refine mm_iconst (v := 2) dX12_checkStep_178 (by decide) ?_
            refine mm_iret dX12_checkStep_179 rfl rfl ?_ (by omega) (by omega)
            obtain ⟨rfl, rfl⟩ := fin2 hx
            exact ⟨rfl, rfl⟩
          · refine mm_if_ne 180 dX12_checkStep_175 (by decide) (fun _ => ?_) (fun h => absurd h h108)
            refine mm_fewer [some (.ref a), none, some (.int v2_), some (.int v3_), none] (few_ok (bs := [true, false, true, true, false]) rfl) ?_
            exact e_X12_checkStep_180 hst hZ hn hs hx
      · refine mm_icmp_eq 145 dX12_checkStep_140 (by decide) (fun h => absurd h h60) (fun _ => ?_)
        refine mm_iconst (v := 1) dX12_checkStep_143 (by decide) ?_
        refine mm_iret dX12_checkStep_144 rfl rfl ?_ (by omega) (by omega)
        obtain ⟨rfl, rfl⟩ := fin2 hx
        exact ⟨rfl, rfl⟩
set_option maxHeartbeats 4000000 in
set_option maxRecDepth 100000 in
theorem e_X12_checkStep {g : mm_G} {l : Launch} (hst : l.stackTraces = false) {Z : Nat → Nat → Option Nat} (hZ : HZ Z) {n : Nat} (hn : 1186 ≤ n) {z : Bool} {d : Nat} {U : Nat} {a : Nat} (hs : sh a = 12) {σ : SG} {r : Int32} {σ' : SG} (hx : x_X12_checkStep U a σ = some (r, σ')) : mm_Cm g l yX12_checkStep (.code yX12_checkStep cX12_checkStep 5 (some .int)) (d + 2) 0 0 [.ref a] (mem Z σ, n, z) (fun v S' => v = some (.int r) ∧ S' = (mem Z σ', n, z)) := by
  refine mm_Cm_of hst (by decide) (Nat.le_of_ble_eq_true rfl) ?_
  show mm_V g l RX12 "checkStep" cX12_checkStep 5 (some .int) [] (d + 2) 0 0 (mm_nt (fun v S' => v = some (.int r) ∧ S' = (mem Z σ', n, z))) 0 [some (.ref a), none, none, none, none] [] (mem Z σ, n, z) 0 0
  unfold x_X12_checkStep at hx
  refine mm_aload_n dX12_checkStep_0 rfl rfl ?_
  refine s_getI (r := some a) (b := a) (ci := 12) (k := 106) in_X12 rfl (by decide) rfl kF_X12_650 dX12_checkStep_1 rfl hs (by decide) hn (by decide) rfl ?_
  refine mm_iconst (v := 1) dX12_checkStep_4 (by decide) ?_
  refine mm_isub dX12_checkStep_5 ?_
  refine mm_istore_n [some (.ref a), some (.int ((sI σ a 106) - 1)), none, none, none] dX12_checkStep_6 (by decide) rfl ?_
  refine mm_aload_n dX12_checkStep_7 rfl rfl ?_
  refine mm_iconst (v := 0) dX12_checkStep_8 (by decide) ?_
  refine mm_aload_n dX12_checkStep_9 rfl rfl ?_
  refine s_getS (q := 1182) (r := some a) (b := a) (ci := 12) (k := 112) in_X12 rfl (by decide) rfl kF_X12_256 dX12_checkStep_10 rfl hs (by decide) hn (by decide) rfl rfl ?_
  refine mm_iload_n dX12_checkStep_13 rfl ?_
  obtain ⟨j1, hj2, hb3, hl4, hx⟩ := ix_some hx
  refine s_iald (a := 1182) sa_1182 hn hj2 hb3 na_1182 dX12_checkStep_14 ?_
  refine mm_aload_n dX12_checkStep_15 rfl rfl ?_
  refine s_getS (q := 1184) (r := some a) (b := a) (ci := 12) (k := 114) in_X12 rfl (by decide) rfl kF_X12_262 dX12_checkStep_16 rfl hs (by decide) hn (by decide) rfl rfl ?_
  refine mm_iload_n dX12_checkStep_19 rfl ?_
  obtain ⟨j5, hj6, hb7, hl8, hx⟩ := ix_some hx
  refine s_iald (a := 1184) sa_1184 hn hj6 hb7 na_1184 dX12_checkStep_20 ?_
  refine mm_iconst (v := 2) dX12_checkStep_21 (by decide) ?_
  refine mm_idiv dX12_checkStep_22 (by decide) ?_
  obtain ⟨v11, hc10, hx⟩ := b1_some hx
  refine mm_callV3 (a := a) (ci := 12) wM_X12_fieldAt kM_X12_576 wI_X12_fieldAt wS_X12_fieldAt dX12_checkStep_23 (e_X12_fieldAt hst hZ hn hs hc10) (mem_obj hs (by decide)) (sh_ltn hs (by decide) hn) rfl rfl rfl (Nat.le_of_ble_eq_true rfl) (by omega) (by omega) (fun v9 S9 hq => ?_)
  obtain ⟨rfl, rfl⟩ := hq
  refine ⟨fun h => ⟨h, rfl⟩, ?_⟩
  refine mm_istore_n [some (.ref a), some (.int ((sI σ a 106) - 1)), some (.int v11), none, none] dX12_checkStep_26 (by decide) rfl ?_
  refine mm_iload_n dX12_checkStep_27 rfl ?_
  refine mm_iconst (v := (-1)) dX12_checkStep_28 (by decide) ?_
  refine b_if hx (fun h12 hx => ?_) (fun h12 hx => ?_)
  · refine mm_icmp_ne 44 dX12_checkStep_29 (by decide) (fun h => absurd h12 h) (fun _ => ?_)
    refine mm_aload_n dX12_checkStep_32 rfl rfl ?_
    refine mm_dup dX12_checkStep_33 rfl ?_
    refine s_getI (r := some a) (b := a) (ci := 12) (k := 106) in_X12 rfl (by decide) rfl kF_X12_650 dX12_checkStep_34 rfl hs (by decide) hn (by decide) rfl ?_
    refine mm_iconst (v := 1) dX12_checkStep_37 (by decide) ?_
    refine mm_isub dX12_checkStep_38 ?_
    refine s_putI (v := (sI σ a 106) - 1) (r := some a) (b := a) (ci := 12) (k := 106) in_X12 rfl (by decide) rfl tyX12_ok nmX12 rfl kF_X12_650 dX12_checkStep_39 (mm_fit_int _) rfl hs (by decide) hn (by decide) rfl hx (fun σ13 hx => ?_)
    refine mm_iconst (v := 0) dX12_checkStep_42 (by decide) ?_
    refine mm_iret dX12_checkStep_43 rfl rfl ?_ (by omega) (by omega)
    obtain ⟨rfl, rfl⟩ := fin2 hx
    exact ⟨rfl, rfl⟩
  · refine mm_icmp_ne 44 dX12_checkStep_29 (by decide) (fun _ => ?_) (fun h => absurd h h12)
    refine mm_aload_n dX12_checkStep_44 rfl rfl ?_
    refine mm_aload_n dX12_checkStep_45 rfl rfl ?_
    refine s_getS (q := 1183) (r := some a) (b := a) (ci := 12) (k := 113) in_X12 rfl (by decide) rfl kF_X12_259 dX12_checkStep_46 rfl hs (by decide) hn (by decide) rfl rfl ?_
    refine mm_iload_n dX12_checkStep_49 rfl ?_
    obtain ⟨j14, hj15, hb16, hl17, hx⟩ := ix_some hx
    refine s_iald (a := 1183) sa_1183 hn hj15 hb16 na_1183 dX12_checkStep_50 ?_
    refine mm_aload_n dX12_checkStep_51 rfl rfl ?_
    refine s_getS (q := 1117) (r := some a) (b := a) (ci := 12) (k := 20) in_X12 rfl (by decide) rfl kF_X12_59 dX12_checkStep_52 rfl hs (by decide) hn (by decide) rfl rfl ?_
    refine mm_iload_n dX12_checkStep_55 rfl ?_
    obtain ⟨j18, hj19, hb20, hl21, hx⟩ := ix_some hx
    refine s_iald (a := 1117) sa_1117 hn hj19 hb20 na_1117 dX12_checkStep_56 ?_
    obtain ⟨v23, hc22, hx⟩ := b1_some hx
    refine mm_callV3 (a := a) (ci := 12) wM_X12_freshNumbered kM_X12_844 wI_X12_freshNumbered wS_X12_freshNumbered dX12_checkStep_57 (e_X12_freshNumbered hst hZ hn hs hc22) (mem_obj hs (by decide)) (sh_ltn hs (by decide) hn) rfl rfl rfl (Nat.le_of_ble_eq_true rfl) (by omega) (by omega) (fun v9 S9 hq => ?_)
    obtain ⟨rfl, rfl⟩ := hq
    refine ⟨fun h => ⟨h, rfl⟩, ?_⟩
    refine mm_istore_n [some (.ref a), some (.int ((sI σ a 106) - 1)), some (.int v11), some (.int v23), none] dX12_checkStep_60 (by decide) rfl ?_
    refine mm_aload_n dX12_checkStep_61 rfl rfl ?_
    refine s_getS (q := 1184) (r := some a) (b := a) (ci := 12) (k := 114) in_X12 rfl (by decide) rfl kF_X12_262 dX12_checkStep_62 rfl hs (by decide) hn (by decide) rfl rfl ?_
    refine mm_iload_n dX12_checkStep_65 rfl ?_
    obtain ⟨j24, hj25, hb26, hl27, hx⟩ := ix_some hx
    refine s_iald (a := 1184) sa_1184 hn hj25 hb26 na_1184 dX12_checkStep_66 ?_
    refine mm_iconst (v := 2) dX12_checkStep_67 (by decide) ?_
    refine mm_irem dX12_checkStep_68 (by decide) ?_
    refine b_if hx (fun h29 hx => ?_) (fun h29 hx => ?_)
    · refine mm_if_ne 76 dX12_checkStep_69 (by decide) (fun h => absurd h29 h) (fun _ => ?_)
      refine mm_iconst (v := 1) dX12_checkStep_72 (by decide) ?_
      refine mm_goto 77 dX12_checkStep_73 (by decide) ?_
      exact e_X12_checkStep_77 hst hZ hn hs hx
    · refine mm_if_ne 76 dX12_checkStep_69 (by decide) (fun _ => ?_) (fun h => absurd h h29)
      refine mm_iconst (v := 0) dX12_checkStep_76 (by decide) ?_
      exact e_X12_checkStep_77 hst hZ hn hs hx
set_option maxHeartbeats 4000000 in
set_option maxRecDepth 100000 in
theorem e_X12_putVarint_L2 {g : mm_G} {l : Launch} (hst : l.stackTraces = false) {Z : Nat → Nat → Option Nat} (hZ : HZ Z) {n : Nat} (hn : 1186 ≤ n) {z : Bool} {d : Nat} {U : Nat} {a : Nat} (hs : sh a = 12) {k34 : Int64 → SG → Option (SG)} {σ' : SG} (hk34 : ∀ (v3_ : Int64) (σ8 : SG), k34 v3_ σ8 = some σ' → mm_V g l RX12 "putVarint" cX12_putVarint 5 none [] (d + 1) 0 0 (mm_nt (fun v S' => v = none ∧ S' = (mem Z σ', n, z))) 34 [some (.ref a), none, none, some (.long v3_), none] [] (mem Z σ8, n, z) 0 0) : ∀ (U1 : Nat) (v3_ : Int64) (σ : SG), x_X12_putVarint_L2 U a k34 U1 v3_ σ = some σ' → mm_V g l RX12 "putVarint" cX12_putVarint 5 none [] (d + 1) 0 0 (mm_nt (fun v S' => v = none ∧ S' = (mem Z σ', n, z))) 2 [some (.ref a), none, none, some (.long v3_), none] [] (mem Z σ, n, z) 0 0 := by
  intro U1
  induction U1 with
  | zero => intro v3_ σ hx; exact absurd hx (by simp [x_X12_putVarint_L2])
  | succ U1 ih =>
    intro v3_ σ hx
    rw [x_X12_putVarint_L2] at hx
    refine mm_lload_n dX12_putVarint_2 rfl ?_
    refine mm_ldc2 kL_X12_700 dX12_putVarint_3 ?_
    refine mm_land dX12_putVarint_6 ?_
    refine mm_lconst (v := 0) dX12_putVarint_7 (by decide) ?_
    refine mm_lcmp dX12_putVarint_8 ?_
    refine b_if hx (fun h1 hx => ?_) (fun h1 hx => ?_)
    · refine mm_if_eq 34 dX12_putVarint_9 (by decide) (fun _ => ?_) (fun h => absurd (lg_eq.mpr h1) h)
      exact hk34 _ _ hx
    · refine mm_if_eq 34 dX12_putVarint_9 (by decide) (fun h => absurd (lg_eq.mp h) h1) (fun _ => ?_)
      refine mm_aload_n dX12_putVarint_12 rfl rfl ?_
      refine mm_lload_n dX12_putVarint_13 rfl ?_
      refine mm_ldc2 kL_X12_702 dX12_putVarint_14 ?_
      refine mm_land dX12_putVarint_17 ?_
      refine mm_l2i dX12_putVarint_18 ?_
      refine mm_sipush (v := 128) dX12_putVarint_19 (by decide) ?_
      refine mm_ior dX12_putVarint_22 ?_
      obtain ⟨σ3, hc2, hx⟩ := b1_some hx
      refine mm_callV3 (a := a) (ci := 12) wM_X12_put kM_X12_704 wI_X12_put wS_X12_put dX12_putVarint_23 (e_X12_put hst hZ hn hs hc2) (mem_obj hs (by decide)) (sh_ltn hs (by decide) hn) rfl rfl rfl (Nat.le_of_ble_eq_true rfl) (by omega) (by omega) (fun v9 S9 hq => ?_)
      obtain ⟨rfl, rfl⟩ := hq
      refine ⟨fun h => ⟨h, rfl⟩, ?_⟩
      refine mm_lload_n dX12_putVarint_26 rfl ?_
      refine mm_bipush (v := 7) dX12_putVarint_27 (by decide) ?_
      refine mm_lushr dX12_putVarint_29 ?_
      refine mm_lstore_n [some (.ref a), none, none, some (.long (lush v3_ 7)), none] dX12_putVarint_30 (by decide) rfl ?_
      refine mm_goto 2 dX12_putVarint_31 (by decide) ?_
      exact ih _ _ hx
set_option maxHeartbeats 4000000 in
set_option maxRecDepth 100000 in
theorem e_X12_putVarint {g : mm_G} {l : Launch} (hst : l.stackTraces = false) {Z : Nat → Nat → Option Nat} (hZ : HZ Z) {n : Nat} (hn : 1186 ≤ n) {z : Bool} {d : Nat} {U : Nat} {a : Nat} (hs : sh a = 12) {p0 : Int64} {σ : SG} {σ' : SG} (hx : x_X12_putVarint U a p0 σ = some σ') : mm_Cm g l yX12_putVarint (.code yX12_putVarint cX12_putVarint 5 none) (d + 1) 0 0 [.ref a, .long p0] (mem Z σ, n, z) (fun v S' => v = none ∧ S' = (mem Z σ', n, z)) := by
  refine mm_Cm_of hst (by decide) (Nat.le_of_ble_eq_true rfl) ?_
  show mm_V g l RX12 "putVarint" cX12_putVarint 5 none [] (d + 1) 0 0 (mm_nt (fun v S' => v = none ∧ S' = (mem Z σ', n, z))) 0 [some (.ref a), some (.long p0), none, none, none] [] (mem Z σ, n, z) 0 0
  unfold x_X12_putVarint at hx
  refine mm_lload_n dX12_putVarint_0 rfl ?_
  refine mm_lstore_n [some (.ref a), some (.long p0), none, some (.long p0), none] dX12_putVarint_1 (by decide) rfl ?_
  refine mm_fewer [some (.ref a), none, none, some (.long p0), none] (few_ok (bs := [true, false, false, true, false]) rfl) ?_
  refine e_X12_putVarint_L2 hst hZ hn hs ?_ _ _ _ hx
  · intro w4 σ5 hx
    refine mm_aload_n dX12_putVarint_34 rfl rfl ?_
    refine mm_lload_n dX12_putVarint_35 rfl ?_
    refine mm_l2i dX12_putVarint_36 ?_
    obtain ⟨σ7, hc6, hx⟩ := b1_some hx
    refine mm_callV3 (a := a) (ci := 12) wM_X12_put kM_X12_704 wI_X12_put wS_X12_put dX12_putVarint_37 (e_X12_put hst hZ hn hs hc6) (mem_obj hs (by decide)) (sh_ltn hs (by decide) hn) rfl rfl rfl (Nat.le_of_ble_eq_true rfl) (by omega) (by omega) (fun v9 S9 hq => ?_)
    obtain ⟨rfl, rfl⟩ := hq
    refine ⟨fun h => ⟨h, rfl⟩, ?_⟩
    refine mm_vret dX12_putVarint_40 rfl ?_ (by omega) (by omega)
    obtain rfl := fin1 hx
    exact ⟨rfl, rfl⟩
set_option maxHeartbeats 4000000 in
set_option maxRecDepth 100000 in
theorem e_X12_check_L42 {g : mm_G} {l : Launch} (hst : l.stackTraces = false) {Z : Nat → Nat → Option Nat} (hZ : HZ Z) {n : Nat} (hn : 1186 ≤ n) {z : Bool} {d : Nat} {U : Nat} {a : Nat} (hs : sh a = 12) {k62 : SG → Option (Int32 × SG)} {v1_ : Int32} {v2_ : Int32} {r : Int32} {σ' : SG} (hk62 : ∀ (σ8 : SG), k62 σ8 = some (r, σ') → mm_V g l RX12 "check" cX12_check 5 (some .int) [] (d + 3) 0 0 (mm_nt (fun v S' => v = some (.int r) ∧ S' = (mem Z σ', n, z))) 62 [some (.ref a), some (.int v1_), some (.int v2_), none, none] [] (mem Z σ8, n, z) 0 0) : ∀ (U1 : Nat) (v3_ : Int32) (σ : SG), x_X12_check_L42 U a k62 v1_ v2_ U1 v3_ σ = some (r, σ') → mm_V g l RX12 "check" cX12_check 5 (some .int) [] (d + 3) 0 0 (mm_nt (fun v S' => v = some (.int r) ∧ S' = (mem Z σ', n, z))) 42 [some (.ref a), some (.int v1_), some (.int v2_), some (.int v3_), none] [] (mem Z σ, n, z) 0 0 := by
  intro U1
  induction U1 with
  | zero => intro v3_ σ hx; exact absurd hx (by simp [x_X12_check_L42])
  | succ U1 ih =>
    intro v3_ σ hx
    rw [x_X12_check_L42] at hx
    refine mm_iload_n dX12_check_42 rfl ?_
    refine mm_sipush (v := 256) dX12_check_43 (by decide) ?_
    refine b_if hx (fun h8 hx => ?_) (fun h8 hx => ?_)
    · refine mm_icmp_ge 62 dX12_check_46 (by decide) (fun h => absurd h (Int32.not_le.mpr h8)) (fun _ => ?_)
      refine mm_aload_n dX12_check_49 rfl rfl ?_
      refine s_getS (q := 1181) (r := some a) (b := a) (ci := 12) (k := 111) in_X12 rfl (by decide) rfl kF_X12_253 dX12_check_50 rfl hs (by decide) hn (by decide) rfl rfl ?_
      refine mm_iload_n dX12_check_53 rfl ?_
      refine mm_iconst (v := 0) dX12_check_54 (by decide) ?_
      obtain ⟨j9, hj10, hb11, hl12, hx⟩ := ix_some hx
      refine s_zast (a := 1181) (v := 0) sa_1181 hn hj10 hb11 na_1181 dX12_check_55 hx (fun σ13 hx => ?_)
      refine mm_iinc (v := v3_ + 1) [some (.ref a), some (.int v1_), some (.int v2_), some (.int (v3_ + 1)), none] dX12_check_56 rfl rfl (by decide) rfl ?_
      refine mm_goto 42 dX12_check_59 (by decide) ?_
      exact ih _ _ hx
    · refine mm_icmp_ge 62 dX12_check_46 (by decide) (fun _ => ?_) (fun h => absurd (Int32.not_lt.mp h8) h)
      refine mm_fewer [some (.ref a), some (.int v1_), some (.int v2_), none, none] (few_ok (bs := [true, true, true, false, false]) rfl) ?_
      exact hk62  _ hx
set_option maxHeartbeats 4000000 in
set_option maxRecDepth 100000 in
theorem e_X12_check_L75 {g : mm_G} {l : Launch} (hst : l.stackTraces = false) {Z : Nat → Nat → Option Nat} (hZ : HZ Z) {n : Nat} (hn : 1186 ≤ n) {z : Bool} {d : Nat} {U : Nat} {a : Nat} (hs : sh a = 12) {k94 : Int32 → SG → Option (Int32 × SG)} {r : Int32} {σ' : SG} (hk94 : ∀ (v3_ : Int32) (σ8 : SG), k94 v3_ σ8 = some (r, σ') → mm_V g l RX12 "check" cX12_check 5 (some .int) [] (d + 3) 0 0 (mm_nt (fun v S' => v = some (.int r) ∧ S' = (mem Z σ', n, z))) 94 [some (.ref a), none, none, some (.int v3_), none] [] (mem Z σ8, n, z) 0 0) : ∀ (U1 : Nat) (v3_ : Int32) (σ : SG), x_X12_check_L75 U a k94 U1 v3_ σ = some (r, σ') → mm_V g l RX12 "check" cX12_check 5 (some .int) [] (d + 3) 0 0 (mm_nt (fun v S' => v = some (.int r) ∧ S' = (mem Z σ', n, z))) 75 [some (.ref a), none, none, some (.int v3_), none] [] (mem Z σ, n, z) 0 0 := by
  intro U1
  induction U1 with
  | zero => intro v3_ σ hx; exact absurd hx (by simp [x_X12_check_L75])
  | succ U1 ih =>
    intro v3_ σ hx
    rw [x_X12_check_L75] at hx
    refine mm_aload_n dX12_check_75 rfl rfl ?_
    refine s_getI (r := some a) (b := a) (ci := 12) (k := 106) in_X12 rfl (by decide) rfl kF_X12_650 dX12_check_76 rfl hs (by decide) hn (by decide) rfl ?_
    refine b_if hx (fun h18 hx => ?_) (fun h18 hx => ?_)
    · refine mm_if_le 94 dX12_check_79 (by decide) (fun h => absurd h (Int32.not_le.mpr h18)) (fun _ => ?_)
      refine mm_iload_n dX12_check_82 rfl ?_
      refine b_if hx (fun h19 hx => ?_) (fun h19 hx => ?_)
      · refine mm_if_ne 94 dX12_check_83 (by decide) (fun h => absurd h19 h) (fun _ => ?_)
        refine mm_aload_n dX12_check_86 rfl rfl ?_
        obtain ⟨v21, σ22, hc20, hx⟩ := b2_some hx
        refine mm_callV3 (a := a) (ci := 12) wM_X12_checkStep kM_X12_855 wI_X12_checkStep wS_X12_checkStep dX12_check_87 (e_X12_checkStep hst hZ hn hs hc20) (mem_obj hs (by decide)) (sh_ltn hs (by decide) hn) rfl rfl rfl (Nat.le_of_ble_eq_true rfl) (by omega) (by omega) (fun v9 S9 hq => ?_)
        obtain ⟨rfl, rfl⟩ := hq
        refine ⟨fun h => ⟨h, rfl⟩, ?_⟩
        refine mm_istore_n [some (.ref a), none, none, some (.int v21), none] dX12_check_90 (by decide) rfl ?_
        refine mm_goto 75 dX12_check_91 (by decide) ?_
        exact ih _ _ hx
      · refine mm_if_ne 94 dX12_check_83 (by decide) (fun _ => ?_) (fun h => absurd h h19)
        exact hk94 _ _ hx
    · refine mm_if_le 94 dX12_check_79 (by decide) (fun _ => ?_) (fun h => absurd (Int32.not_lt.mp h18) h)
      exact hk94 _ _ hx
set_option maxHeartbeats 4000000 in
set_option maxRecDepth 100000 in
theorem e_X12_check_L97 {g : mm_G} {l : Launch} (hst : l.stackTraces = false) {Z : Nat → Nat → Option Nat} (hZ : HZ Z) {n : Nat} (hn : 1186 ≤ n) {z : Bool} {d : Nat} {U : Nat} {a : Nat} (hs : sh a = 12) {v3_ : Int32} {r : Int32} {σ' : SG} : ∀ (U1 : Nat) (v4_ : Int32) (σ : SG), x_X12_check_L97 U a v3_ U1 v4_ σ = some (r, σ') → mm_V g l RX12 "check" cX12_check 5 (some .int) [] (d + 3) 0 0 (mm_nt (fun v S' => v = some (.int r) ∧ S' = (mem Z σ', n, z))) 97 [some (.ref a), none, none, some (.int v3_), some (.int v4_)] [] (mem Z σ, n, z) 0 0 := by
  intro U1
  induction U1 with
  | zero => intro v4_ σ hx; exact absurd hx (by simp [x_X12_check_L97])
  | succ U1 ih =>
    intro v4_ σ hx
    rw [x_X12_check_L97] at hx
    refine mm_iload dX12_check_97 rfl ?_
    refine mm_aload_n dX12_check_99 rfl rfl ?_
    refine s_getI (r := some a) (b := a) (ci := 12) (k := 106) in_X12 rfl (by decide) rfl kF_X12_650 dX12_check_100 rfl hs (by decide) hn (by decide) rfl ?_
    refine b_if hx (fun h25 hx => ?_) (fun h25 hx => ?_)
    · refine mm_icmp_ge 149 dX12_check_103 (by decide) (fun h => absurd h (Int32.not_le.mpr h25)) (fun _ => ?_)
      refine mm_iload_n dX12_check_106 rfl ?_
      refine b_if hx (fun h26 hx => ?_) (fun h26 hx => ?_)
      · refine mm_if_eq 149 dX12_check_107 (by decide) (fun _ => ?_) (fun h => absurd h26 h)
        refine mm_iload_n dX12_check_149 rfl ?_
        refine mm_iret dX12_check_150 rfl rfl ?_ (by omega) (by omega)
        obtain ⟨rfl, rfl⟩ := fin2 hx
        exact ⟨rfl, rfl⟩
      · refine mm_if_eq 149 dX12_check_107 (by decide) (fun h => absurd h h26) (fun _ => ?_)
        refine mm_aload_n dX12_check_110 rfl rfl ?_
        refine mm_aload_n dX12_check_111 rfl rfl ?_
        refine s_getS (q := 1117) (r := some a) (b := a) (ci := 12) (k := 20) in_X12 rfl (by decide) rfl kF_X12_59 dX12_check_112 rfl hs (by decide) hn (by decide) rfl rfl ?_
        refine mm_aload_n dX12_check_115 rfl rfl ?_
        refine mm_iconst (v := 0) dX12_check_116 (by decide) ?_
        refine mm_aload_n dX12_check_117 rfl rfl ?_
        refine s_getS (q := 1182) (r := some a) (b := a) (ci := 12) (k := 112) in_X12 rfl (by decide) rfl kF_X12_256 dX12_check_118 rfl hs (by decide) hn (by decide) rfl rfl ?_
        refine mm_iload dX12_check_121 rfl ?_
        obtain ⟨j27, hj28, hb29, hl30, hx⟩ := ix_some hx
        refine s_iald (a := 1182) sa_1182 hn hj28 hb29 na_1182 dX12_check_123 ?_
        refine mm_aload_n dX12_check_124 rfl rfl ?_
        refine s_getS (q := 1184) (r := some a) (b := a) (ci := 12) (k := 114) in_X12 rfl (by decide) rfl kF_X12_262 dX12_check_125 rfl hs (by decide) hn (by decide) rfl rfl ?_
        refine mm_iload dX12_check_128 rfl ?_
        obtain ⟨j31, hj32, hb33, hl34, hx⟩ := ix_some hx
        refine s_iald (a := 1184) sa_1184 hn hj32 hb33 na_1184 dX12_check_130 ?_
        refine mm_iconst (v := 1) dX12_check_131 (by decide) ?_
        refine mm_isub dX12_check_132 ?_
        refine mm_iconst (v := 2) dX12_check_133 (by decide) ?_
        refine mm_idiv dX12_check_134 (by decide) ?_
        obtain ⟨v37, hc36, hx⟩ := b1_some hx
        refine mm_callV3 (a := a) (ci := 12) wM_X12_fieldAt kM_X12_576 wI_X12_fieldAt wS_X12_fieldAt dX12_check_135 (e_X12_fieldAt hst hZ hn hs hc36) (mem_obj hs (by decide)) (sh_ltn hs (by decide) hn) rfl rfl rfl (Nat.le_of_ble_eq_true rfl) (by omega) (by omega) (fun v9 S9 hq => ?_)
        obtain ⟨rfl, rfl⟩ := hq
        refine ⟨fun h => ⟨h, rfl⟩, ?_⟩
        obtain ⟨j38, hj39, hb40, hl41, hx⟩ := ix_some hx
        refine s_iald (a := 1117) sa_1117 hn hj39 hb40 na_1117 dX12_check_138 ?_
        refine mm_i2l dX12_check_139 ?_
        obtain ⟨σ43, hc42, hx⟩ := b1_some hx
        refine mm_callV3 (a := a) (ci := 12) wM_X12_putVarint kM_X12_713 wI_X12_putVarint wS_X12_putVarint dX12_check_140 (e_X12_putVarint hst hZ hn hs hc42) (mem_obj hs (by decide)) (sh_ltn hs (by decide) hn) rfl rfl rfl (Nat.le_of_ble_eq_true rfl) (by omega) (by omega) (fun v9 S9 hq => ?_)
        obtain ⟨rfl, rfl⟩ := hq
        refine ⟨fun h => ⟨h, rfl⟩, ?_⟩
        refine mm_iinc (v := v4_ + 1) [some (.ref a), none, none, some (.int v3_), some (.int (v4_ + 1))] dX12_check_143 rfl rfl (by decide) rfl ?_
        refine mm_goto 97 dX12_check_146 (by decide) ?_
        exact ih _ _ hx
    · refine mm_icmp_ge 149 dX12_check_103 (by decide) (fun _ => ?_) (fun h => absurd (Int32.not_lt.mp h25) h)
      refine mm_iload_n dX12_check_149 rfl ?_
      refine mm_iret dX12_check_150 rfl rfl ?_ (by omega) (by omega)
      obtain ⟨rfl, rfl⟩ := fin2 hx
      exact ⟨rfl, rfl⟩
