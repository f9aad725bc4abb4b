set_option maxHeartbeats 4000000 in
set_option maxRecDepth 100000 in
theorem e_X12_finish_48 {g : mm_G} {l : Launch} (hst : l.stackTraces = false) {Z : Nat → Nat → Option Nat} (hZ : HZ Z) {n : Nat} (hn : 1186 ≤ n) {z : Bool} {d : Nat} {U : Nat} {a : Nat} (hs : sh a = 12) {v1_ : Int32} {σ : SG} {r : Int32} {σ' : SG} (hx : x_X12_finish_48 U a v1_ σ = some (r, σ')) : mm_V g l RX12 "finish" cX12_finish 2 (some .int) [] (d + 1) 0 0 (mm_nt (fun v S' => v = some (.int r) ∧ S' = (mem Z σ', n, z))) 48 [some (.ref a), some (.int v1_)] [.ref a] (mem Z σ, n, z) 0 0 := by
  unfold x_X12_finish_48 at hx
  refine mm_iconst (v := 2) dX12_finish_48 (by decide) ?_
  refine mm_goto 53 dX12_finish_49 (by decide) ?_
  exact e_X12_finish_53 hst hZ hn hs hx
set_option maxHeartbeats 4000000 in
set_option maxRecDepth 100000 in
theorem e_X12_finish_13 {g : mm_G} {l : Launch} (hst : l.stackTraces = false) {Z : Nat → Nat → Option Nat} (hZ : HZ Z) {n : Nat} (hn : 1186 ≤ n) {z : Bool} {d : Nat} {U : Nat} {a : Nat} (hs : sh a = 12) {s0_ : Int32} {σ : SG} {r : Int32} {σ' : SG} (hx : x_X12_finish_13 U a s0_ σ = some (r, σ')) : mm_V g l RX12 "finish" cX12_finish 2 (some .int) [] (d + 1) 0 0 (mm_nt (fun v S' => v = some (.int r) ∧ S' = (mem Z σ', n, z))) 13 [some (.ref a), none] [.int s0_, .ref a] (mem Z σ, n, z) 0 0 := by
  unfold x_X12_finish_13 at hx
  refine s_putI (v := s0_) (r := some a) (b := a) (ci := 12) (k := 5) in_X12 rfl (by decide) rfl tyX12_ok nmX12 rfl kF_X12_265 dX12_finish_13 (mm_fit_int _) rfl hs (by decide) hn (by decide) rfl hx (fun σ2 hx => ?_)
  refine mm_aload_n dX12_finish_16 rfl rfl ?_
  refine s_getI (r := some a) (b := a) (ci := 12) (k := 5) in_X12 rfl (by decide) rfl kF_X12_265 dX12_finish_17 rfl hs (by decide) hn (by decide) rfl ?_
  refine b_if hx (fun h3 hx => ?_) (fun h3 hx => ?_)
  · refine mm_if_eq 25 dX12_finish_20 (by decide) (fun _ => ?_) (fun h => absurd h3 h)
    refine mm_aload_n dX12_finish_25 rfl rfl ?_
    obtain ⟨v5, σ6, hc4, hx⟩ := b2_some hx
    refine mm_callV3 (a := a) (ci := 12) wM_X12_liveValues kM_X12_627 wI_X12_liveValues wS_X12_liveValues dX12_finish_26 (e_X12_liveValues hst hZ hn hs hc4) (mem_obj hs (by decide)) (sh_ltn hs (by decide) hn) rfl rfl rfl (Nat.le_of_ble_eq_true rfl) (by omega) (by omega) (fun v9 S9 hq => ?_)
    obtain ⟨rfl, rfl⟩ := hq
    refine ⟨fun h => ⟨h, rfl⟩, ?_⟩
    refine mm_istore_n [some (.ref a), some (.int v5)] dX12_finish_29 (by decide) rfl ?_
    refine mm_aload_n dX12_finish_30 rfl rfl ?_
    refine mm_iload_n dX12_finish_31 rfl ?_
    refine mm_sipush (v := 200) dX12_finish_32 (by decide) ?_
    refine b_if hx (fun h7 hx => ?_) (fun h7 hx => ?_)
    · refine mm_icmp_gt 48 dX12_finish_35 (by decide) (fun _ => ?_) (fun h => absurd h7 h)
      exact e_X12_finish_48 hst hZ hn hs hx
    · refine mm_icmp_gt 48 dX12_finish_35 (by decide) (fun h => absurd h h7) (fun _ => ?_)
      refine mm_aload_n dX12_finish_38 rfl rfl ?_
      obtain ⟨v12, hc11, hx⟩ := b1_some hx
      refine mm_callV3 (a := a) (ci := 12) wM_X12_liveBytes kM_X12_630 wI_X12_liveBytes wS_X12_liveBytes dX12_finish_39 (e_X12_liveBytes hst hZ hn hs hc11) (mem_obj hs (by decide)) (sh_ltn hs (by decide) hn) rfl rfl rfl (Nat.le_of_ble_eq_true rfl) (by omega) (by omega) (fun v9 S9 hq => ?_)
      obtain ⟨rfl, rfl⟩ := hq
      refine ⟨fun h => ⟨h, rfl⟩, ?_⟩
      refine mm_sipush (v := 1000) dX12_finish_42 (by decide) ?_
      refine b_if hx (fun h13 hx => ?_) (fun h13 hx => ?_)
      · refine mm_icmp_le 52 dX12_finish_45 (by decide) (fun h => absurd h (Int32.not_le.mpr h13)) (fun _ => ?_)
        exact e_X12_finish_48 hst hZ hn hs hx
      · refine mm_icmp_le 52 dX12_finish_45 (by decide) (fun _ => ?_) (fun h => absurd (Int32.not_lt.mp h13) h)
        refine mm_iconst (v := 0) dX12_finish_52 (by decide) ?_
        exact e_X12_finish_53 hst hZ hn hs hx
  · refine mm_if_eq 25 dX12_finish_20 (by decide) (fun h => absurd h h3) (fun _ => ?_)
    refine mm_iconst (v := 0) dX12_finish_23 (by decide) ?_
    refine mm_iret dX12_finish_24 rfl rfl ?_ (by omega) (by omega)
    obtain ⟨rfl, rfl⟩ := fin2 hx
    exact ⟨rfl, rfl⟩
set_option maxHeartbeats 4000000 in
set_option maxRecDepth 100000 in
theorem e_X12_finish {g : mm_G} {l : Launch} (hst : l.stackTraces = false) {Z : Nat → Nat → Option Nat} (hZ : HZ Z) {n : Nat} (hn : 1186 ≤ n) {z : Bool} {d : Nat} {U : Nat} {a : Nat} (hs : sh a = 12) {σ : SG} {r : Int32} {σ' : SG} (hx : x_X12_finish U a σ = some (r, σ')) : mm_Cm g l yX12_finish (.code yX12_finish cX12_finish 2 (some .int)) (d + 1) 0 0 [.ref a] (mem Z σ, n, z) (fun v S' => v = some (.int r) ∧ S' = (mem Z σ', n, z)) := by
  refine mm_Cm_of hst (by decide) (Nat.le_of_ble_eq_true rfl) ?_
  show mm_V g l RX12 "finish" cX12_finish 2 (some .int) [] (d + 1) 0 0 (mm_nt (fun v S' => v = some (.int r) ∧ S' = (mem Z σ', n, z))) 0 [some (.ref a), none] [] (mem Z σ, n, z) 0 0
  unfold x_X12_finish at hx
  refine mm_aload_n dX12_finish_0 rfl rfl ?_
  refine mm_aload_n dX12_finish_1 rfl rfl ?_
  refine s_getI (r := some a) (b := a) (ci := 12) (k := 107) in_X12 rfl (by decide) rfl kF_X12_590 dX12_finish_2 rfl hs (by decide) hn (by decide) rfl ?_
  refine b_if hx (fun h1 hx => ?_) (fun h1 hx => ?_)
  · refine mm_if_eq 12 dX12_finish_5 (by decide) (fun _ => ?_) (fun h => absurd h1 h)
    refine mm_iconst (v := 0) dX12_finish_12 (by decide) ?_
    exact e_X12_finish_13 hst hZ hn hs hx
  · refine mm_if_eq 12 dX12_finish_5 (by decide) (fun h => absurd h h1) (fun _ => ?_)
    refine mm_iconst (v := 1) dX12_finish_8 (by decide) ?_
    refine mm_goto 13 dX12_finish_9 (by decide) ?_
    exact e_X12_finish_13 hst hZ hn hs hx
set_option maxHeartbeats 4000000 in
set_option maxRecDepth 100000 in
theorem e_X12_decode_105 {g : mm_G} {l : Launch} (hst : l.stackTraces = false) {Z : Nat → Nat → Option Nat} (hZ : HZ Z) {n : Nat} (hn : 1186 ≤ n) {z : Bool} {d : Nat} {U : Nat} {a : Nat} (hs : sh a = 12) {k39 : SG → Option (Int32 × SG)} {k108 : SG → Option (Int32 × SG)} {σ : SG} {r : Int32} {σ' : SG} (hk39 : ∀ (σ8 : SG), k39 σ8 = some (r, σ') → mm_V g l RX12 "decode" cX12_decode 5 (some .int) [] (d + 5) 0 0 (mm_nt (fun v S' => v = some (.int r) ∧ S' = (mem Z σ', n, z))) 39 [some (.ref a), none, none, none, none] [] (mem Z σ8, n, z) 0 0) (hk108 : ∀ (σ8 : SG), k108 σ8 = some (r, σ') → mm_V g l RX12 "decode" cX12_decode 5 (some .int) [] (d + 5) 0 0 (mm_nt (fun v S' => v = some (.int r) ∧ S' = (mem Z σ', n, z))) 108 [some (.ref a), none, none, none, none] [] (mem Z σ8, n, z) 0 0) (hx : x_X12_decode_105 U a k39 k108 σ = some (r, σ')) : mm_V g l RX12 "decode" cX12_decode 5 (some .int) [] (d + 5) 0 0 (mm_nt (fun v S' => v = some (.int r) ∧ S' = (mem Z σ', n, z))) 105 [some (.ref a), none, none, none, none] [] (mem Z σ, n, z) 0 0 := by
  unfold x_X12_decode_105 at hx
  refine mm_goto 39 dX12_decode_105 (by decide) ?_
  exact hk39  _ hx
set_option maxHeartbeats 4000000 in
set_option maxRecDepth 100000 in
theorem e_X12_decode_L39 {g : mm_G} {l : Launch} (hst : l.stackTraces = false) {Z : Nat → Nat → Option Nat} (hZ : HZ Z) {n : Nat} (hn : 1186 ≤ n) {z : Bool} {d : Nat} {U : Nat} {a : Nat} (hs : sh a = 12) {k108 : SG → Option (Int32 × SG)} {r : Int32} {σ' : SG} (hk108 : ∀ (σ8 : SG), k108 σ8 = some (r, σ') → mm_V g l RX12 "decode" cX12_decode 5 (some .int) [] (d + 5) 0 0 (mm_nt (fun v S' => v = some (.int r) ∧ S' = (mem Z σ', n, z))) 108 [some (.ref a), none, none, none, none] [] (mem Z σ8, n, z) 0 0) : ∀ (U1 : Nat) (σ : SG), x_X12_decode_L39 U a k108 U1 σ = some (r, σ') → mm_V g l RX12 "decode" cX12_decode 5 (some .int) [] (d + 5) 0 0 (mm_nt (fun v S' => v = some (.int r) ∧ S' = (mem Z σ', n, z))) 39 [some (.ref a), none, none, none, none] [] (mem Z σ, n, z) 0 0 := by
  intro U1
  induction U1 with
  | zero => intro σ hx; exact absurd hx (by simp [x_X12_decode_L39])
  | succ U1 ih =>
    intro σ hx
    rw [x_X12_decode_L39] at hx
    refine mm_aload_n dX12_decode_39 rfl rfl ?_
    refine s_getI (r := some a) (b := a) (ci := 12) (k := 106) in_X12 rfl (by decide) rfl kF_X12_650 dX12_decode_40 rfl hs (by decide) hn (by decide) rfl ?_
    refine b_if hx (fun h17 hx => ?_) (fun h17 hx => ?_)
    · refine mm_if_le 108 dX12_decode_43 (by decide) (fun h => absurd h (Int32.not_le.mpr h17)) (fun _ => ?_)
      refine mm_aload_n dX12_decode_46 rfl rfl ?_
      refine s_getI (r := some a) (b := a) (ci := 12) (k := 107) in_X12 rfl (by decide) rfl kF_X12_590 dX12_decode_47 rfl hs (by decide) hn (by decide) rfl ?_
      refine b_if hx (fun h18 hx => ?_) (fun h18 hx => ?_)
      · refine mm_if_ne 108 dX12_decode_50 (by decide) (fun h => absurd h18 h) (fun _ => ?_)
        refine mm_aload_n dX12_decode_53 rfl rfl ?_
        refine s_getS (q := 1177) (r := some a) (b := a) (ci := 12) (k := 103) in_X12 rfl (by decide) rfl kF_X12_241 dX12_decode_54 rfl hs (by decide) hn (by decide) rfl rfl ?_
        refine mm_aload_n dX12_decode_57 rfl rfl ?_
        refine s_getI (r := some a) (b := a) (ci := 12) (k := 106) in_X12 rfl (by decide) rfl kF_X12_650 dX12_decode_58 rfl hs (by decide) hn (by decide) rfl ?_
        refine mm_iconst (v := 1) dX12_decode_61 (by decide) ?_
        refine mm_isub dX12_decode_62 ?_
        obtain ⟨j19, hj20, hb21, hl22, hx⟩ := ix_some hx
        refine s_iald (a := 1177) sa_1177 hn hj20 hb21 na_1177 dX12_decode_63 ?_
        refine mm_istore [some (.ref a), none, none, none, some (.int (sI σ 1177 j19))] dX12_decode_64 (by decide) rfl ?_
        refine mm_aload_n dX12_decode_66 rfl rfl ?_
        refine s_getI (r := some a) (b := a) (ci := 12) (k := 109) in_X12 rfl (by decide) rfl kF_X12_636 dX12_decode_67 rfl hs (by decide) hn (by decide) rfl ?_
        refine mm_iload dX12_decode_70 rfl ?_
        refine b_if hx (fun h23 hx => ?_) (fun h23 hx => ?_)
        · refine mm_icmp_ne 88 dX12_decode_72 (by decide) (fun h => absurd h23 h) (fun _ => ?_)
          refine mm_aload_n dX12_decode_75 rfl rfl ?_
          refine mm_dup dX12_decode_76 rfl ?_
          refine s_getI (r := some a) (b := a) (ci := 12) (k := 106) in_X12 rfl (by decide) rfl kF_X12_650 dX12_decode_77 rfl hs (by decide) hn (by decide) rfl ?_
          refine mm_iconst (v := 1) dX12_decode_80 (by decide) ?_
          refine mm_isub dX12_decode_81 ?_
          refine s_putI (v := (sI σ a 106) - 1) (r := some a) (b := a) (ci := 12) (k := 106) in_X12 rfl (by decide) rfl tyX12_ok nmX12 rfl kF_X12_650 dX12_decode_82 (mm_fit_int _) rfl hs (by decide) hn (by decide) rfl hx (fun σ24 hx => ?_)
          refine mm_goto 105 dX12_decode_85 (by decide) ?_
          refine mm_fewer [some (.ref a), none, none, none, none] (few_ok (bs := [true, false, false, false, false]) rfl) ?_
          exact e_X12_decode_105 hst hZ hn hs ih hk108 hx
        · refine mm_icmp_ne 88 dX12_decode_72 (by decide) (fun _ => ?_) (fun h => absurd h h23)
          refine mm_aload_n dX12_decode_88 rfl rfl ?_
          refine mm_aload_n dX12_decode_89 rfl rfl ?_
          refine s_getS (q := 1176) (r := some a) (b := a) (ci := 12) (k := 102) in_X12 rfl (by decide) rfl kF_X12_238 dX12_decode_90 rfl hs (by decide) hn (by decide) rfl rfl ?_
          refine mm_aload_n dX12_decode_93 rfl rfl ?_
          refine s_getI (r := some a) (b := a) (ci := 12) (k := 106) in_X12 rfl (by decide) rfl kF_X12_650 dX12_decode_94 rfl hs (by decide) hn (by decide) rfl ?_
          refine mm_iconst (v := 1) dX12_decode_97 (by decide) ?_
          refine mm_isub dX12_decode_98 ?_
          obtain ⟨j25, hj26, hb27, hl28, hx⟩ := ix_some hx
          refine s_iald (a := 1176) sa_1176 hn hj26 hb27 na_1176 dX12_decode_99 ?_
          refine mm_iload dX12_decode_100 rfl ?_
          obtain ⟨σ30, hc29, hx⟩ := b1_some hx
          refine mm_callV3 (a := a) (ci := 12) wM_X12_takeNext kM_X12_691 wI_X12_takeNext wS_X12_takeNext dX12_decode_102 (e_X12_takeNext hst hZ hn hs hc29) (mem_obj hs (by decide)) (sh_ltn hs (by decide) hn) rfl rfl rfl (Nat.le_of_ble_eq_true rfl) (by omega) (by omega) (fun v9 S9 hq => ?_)
          obtain ⟨rfl, rfl⟩ := hq
          refine ⟨fun h => ⟨h, rfl⟩, ?_⟩
          refine mm_fewer [some (.ref a), none, none, none, none] (few_ok (bs := [true, false, false, false, false]) rfl) ?_
          exact e_X12_decode_105 hst hZ hn hs ih hk108 hx
      · refine mm_if_ne 108 dX12_decode_50 (by decide) (fun _ => ?_) (fun h => absurd h h18)
        exact hk108  _ hx
    · refine mm_if_le 108 dX12_decode_43 (by decide) (fun _ => ?_) (fun h => absurd (Int32.not_lt.mp h17) h)
      exact hk108  _ hx
set_option maxHeartbeats 4000000 in
set_option maxRecDepth 100000 in
theorem e_X12_decode_108 {g : mm_G} {l : Launch} (hst : l.stackTraces = false) {Z : Nat → Nat → Option Nat} (hZ : HZ Z) {n : Nat} (hn : 1186 ≤ n) {z : Bool} {d : Nat} {U : Nat} {a : Nat} (hs : sh a = 12) {σ : SG} {r : Int32} {σ' : SG} (hx : x_X12_decode_108 U a σ = some (r, σ')) : mm_V g l RX12 "decode" cX12_decode 5 (some .int) [] (d + 5) 0 0 (mm_nt (fun v S' => v = some (.int r) ∧ S' = (mem Z σ', n, z))) 108 [some (.ref a), none, none, none, none] [] (mem Z σ, n, z) 0 0 := by
  unfold x_X12_decode_108 at hx
  refine mm_aload_n dX12_decode_108 rfl rfl ?_
  obtain ⟨v33, σ34, hc32, hx⟩ := b2_some hx
  refine mm_callV3 (a := a) (ci := 12) wM_X12_finish kM_X12_694 wI_X12_finish wS_X12_finish dX12_decode_109 (e_X12_finish hst hZ hn hs hc32) (mem_obj hs (by decide)) (sh_ltn hs (by decide) hn) rfl rfl rfl (Nat.le_of_ble_eq_true rfl) (by omega) (by omega) (fun v9 S9 hq => ?_)
  obtain ⟨rfl, rfl⟩ := hq
  refine ⟨fun h => ⟨h, rfl⟩, ?_⟩
  refine mm_iret dX12_decode_112 rfl rfl ?_ (by omega) (by omega)
  obtain ⟨rfl, rfl⟩ := fin2 hx
  exact ⟨rfl, rfl⟩
set_option maxHeartbeats 4000000 in
set_option maxRecDepth 100000 in
theorem e_X12_decode {g : mm_G} {l : Launch} (hst : l.stackTraces = false) {Z : Nat → Nat → Option Nat} (hZ : HZ Z) {n : Nat} (hn : 1186 ≤ n) {z : Bool} {d : Nat} {U : Nat} {a : Nat} (hs : sh a = 12) {p0 : Int32} {p1 : Int32} {p2 : Int32} {σ : SG} {r : Int32} {σ' : SG} (hx : x_X12_decode U a p0 p1 p2 σ = some (r, σ')) : mm_Cm g l yX12_decode (.code yX12_decode cX12_decode 5 (some .int)) (d + 5) 0 0 [.ref a, .int p0, .int p1, .int p2] (mem Z σ, n, z) (fun v S' => v = some (.int r) ∧ S' = (mem Z σ', n, z)) := by
  refine mm_Cm_of hst (by decide) (Nat.le_of_ble_eq_true rfl) ?_
  show mm_V g l RX12 "decode" cX12_decode 5 (some .int) [] (d + 5) 0 0 (mm_nt (fun v S' => v = some (.int r) ∧ S' = (mem Z σ', n, z))) 0 [some (.ref a), some (.int p0), some (.int p1), some (.int p2), none] [] (mem Z σ, n, z) 0 0
  unfold x_X12_decode at hx
  refine mm_aload_n dX12_decode_0 rfl rfl ?_
  refine mm_iload_n dX12_decode_1 rfl ?_
  refine mm_iload_n dX12_decode_2 rfl ?_
  refine mm_iload_n dX12_decode_3 rfl ?_
  obtain ⟨v2, σ3, hc1, hx⟩ := b2_some hx
  refine mm_callV3 (a := a) (ci := 12) wM_X12_begins kM_X12_688 wI_X12_begins wS_X12_begins dX12_decode_4 (e_X12_begins hst hZ hn hs hc1) (mem_obj hs (by decide)) (sh_ltn hs (by decide) hn) rfl rfl rfl (Nat.le_of_ble_eq_true rfl) (by omega) (by omega) (fun v9 S9 hq => ?_)
  obtain ⟨rfl, rfl⟩ := hq
  refine ⟨fun h => ⟨h, rfl⟩, ?_⟩
  refine b_if hx (fun h4 hx => ?_) (fun h4 hx => ?_)
  · refine mm_if_ne 12 dX12_decode_7 (by decide) (fun h => absurd h4 h) (fun _ => ?_)
    refine mm_iconst (v := 0) dX12_decode_10 (by decide) ?_
    refine mm_iret dX12_decode_11 rfl rfl ?_ (by omega) (by omega)
    obtain ⟨rfl, rfl⟩ := fin2 hx
    exact ⟨rfl, rfl⟩
  · refine mm_if_ne 12 dX12_decode_7 (by decide) (fun _ => ?_) (fun h => absurd h h4)
    refine mm_aload_n dX12_decode_12 rfl rfl ?_
    refine mm_iconst (v := 0) dX12_decode_13 (by decide) ?_
    refine s_putI (v := 0) (r := some a) (b := a) (ci := 12) (k := 109) in_X12 rfl (by decide) rfl tyX12_ok nmX12 rfl kF_X12_636 dX12_decode_14 (mm_fit_int _) rfl hs (by decide) hn (by decide) rfl hx (fun σ5 hx => ?_)
    refine mm_aload_n dX12_decode_17 rfl rfl ?_
    refine s_getS (q := 1176) (r := some a) (b := a) (ci := 12) (k := 102) in_X12 rfl (by decide) rfl kF_X12_238 dX12_decode_18 rfl hs (by decide) hn (by decide) rfl rfl ?_
    refine mm_iconst (v := 0) dX12_decode_21 (by decide) ?_
    refine mm_iconst (v := 0) dX12_decode_22 (by decide) ?_
    obtain ⟨j6, hj7, hb8, hl9, hx⟩ := ix_some hx
    refine s_iast (a := 1176) (v := 0) sa_1176 hn hj7 hb8 na_1176 dX12_decode_23 hx (fun σ10 hx => ?_)
    refine mm_aload_n dX12_decode_24 rfl rfl ?_
    refine s_getS (q := 1177) (r := some a) (b := a) (ci := 12) (k := 103) in_X12 rfl (by decide) rfl kF_X12_241 dX12_decode_25 rfl hs (by decide) hn (by decide) rfl rfl ?_
    refine mm_iconst (v := 0) dX12_decode_28 (by decide) ?_
    refine mm_aload_n dX12_decode_29 rfl rfl ?_
    refine s_getI (r := some a) (b := a) (ci := 12) (k := 73) in_X12 rfl (by decide) rfl kF_X12_274 dX12_decode_30 rfl hs (by decide) hn (by decide) rfl ?_
    obtain ⟨j11, hj12, hb13, hl14, hx⟩ := ix_some hx
    refine s_iast (a := 1177) (v := sI σ10 a 73) sa_1177 hn hj12 hb13 na_1177 dX12_decode_33 hx (fun σ15 hx => ?_)
    refine mm_aload_n dX12_decode_34 rfl rfl ?_
    refine mm_iconst (v := 1) dX12_decode_35 (by decide) ?_
    refine s_putI (v := 1) (r := some a) (b := a) (ci := 12) (k := 106) in_X12 rfl (by decide) rfl tyX12_ok nmX12 rfl kF_X12_650 dX12_decode_36 (mm_fit_int _) rfl hs (by decide) hn (by decide) rfl hx (fun σ16 hx => ?_)
    refine mm_fewer [some (.ref a), none, none, none, none] (few_ok (bs := [true, false, false, false, false]) rfl) ?_
    refine e_X12_decode_L39 hst hZ hn hs ?_ _ _ hx
    · intro  σ31 hx
      exact e_X12_decode_108 hst hZ hn hs hx
set_option maxHeartbeats 4000000 in
set_option maxRecDepth 100000 in
theorem e_X12_tagOf {g : mm_G} {l : Launch} (hst : l.stackTraces = false) {Z : Nat → Nat → Option Nat} (hZ : HZ Z) {n : Nat} (hn : 1186 ≤ n) {z : Bool} {d : Nat} {a : Nat} (hs : sh a = 12) {p0 : Int32} {p1 : Int32} {σ : SG} {r : Int64} (hx : x_X12_tagOf a p0 p1 σ = some r) : mm_Cm g l yX12_tagOf (.code yX12_tagOf cX12_tagOf 3 (some .long)) (d) 0 0 [.ref a, .int p0, .int p1] (mem Z σ, n, z) (fun v S' => v = some (.long r) ∧ S' = (mem Z σ, n, z)) := by
  refine mm_Cm_of hst (by decide) (Nat.le_of_ble_eq_true rfl) ?_
  show mm_V g l RX12 "tagOf" cX12_tagOf 3 (some .long) [] (d) 0 0 (mm_nt (fun v S' => v = some (.long r) ∧ S' = (mem Z σ, n, z))) 0 [some (.ref a), some (.int p0), some (.int p1)] [] (mem Z σ, n, z) 0 0
  unfold x_X12_tagOf at hx
  refine mm_aload_n dX12_tagOf_0 rfl rfl ?_
  refine s_getS (q := 1117) (r := some a) (b := a) (ci := 12) (k := 20) in_X12 rfl (by decide) rfl kF_X12_59 dX12_tagOf_1 rfl hs (by decide) hn (by decide) rfl rfl ?_
  refine mm_iload_n dX12_tagOf_4 rfl ?_
  obtain ⟨j1, hj2, hb3, hl4, hx⟩ := ix_some hx
  refine s_iald (a := 1117) sa_1117 hn hj2 hb3 na_1117 dX12_tagOf_5 ?_
  refine mm_i2l dX12_tagOf_6 ?_
  refine mm_iconst (v := 3) dX12_tagOf_7 (by decide) ?_
  refine mm_lshl dX12_tagOf_8 ?_
  refine mm_iload_n dX12_tagOf_9 rfl ?_
  refine mm_i2l dX12_tagOf_10 ?_
  refine mm_lor dX12_tagOf_11 ?_
  refine mm_lret dX12_tagOf_12 rfl ?_ (by omega) (by omega)
  obtain rfl := fin1 hx
  exact ⟨rfl, rfl⟩
set_option maxHeartbeats 4000000 in
set_option maxRecDepth 100000 in
theorem e_X12_varintBytes_L7 {g : mm_G} {l : Launch} (hst : l.stackTraces = false) {Z : Nat → Nat → Option Nat} (hZ : HZ Z) {n : Nat} (hn : 1186 ≤ n) {z : Bool} {d : Nat} {U : Nat} {σ : SG} {r : Int32} : ∀ (U1 : Nat) (v2_ : Int32) (v3_ : Int64), x_X12_varintBytes_L7 U σ U1 v2_ v3_ = some r → mm_V g l RX12 "varintBytes" cX12_varintBytes 5 (some .int) [] (d) 0 0 (mm_nt (fun v S' => v = some (.int r) ∧ S' = (mem Z σ, n, z))) 7 [none, none, some (.int v2_), some (.long v3_), none] [] (mem Z σ, n, z) 0 0 := by
  intro U1
  induction U1 with
  | zero => intro v2_ v3_ hx; exact absurd hx (by simp [x_X12_varintBytes_L7])
  | succ U1 ih =>
    intro v2_ v3_ hx
    rw [x_X12_varintBytes_L7] at hx
    refine mm_lload_n dX12_varintBytes_7 rfl ?_
    refine mm_lconst (v := 0) dX12_varintBytes_8 (by decide) ?_
    refine mm_lcmp dX12_varintBytes_9 ?_
    refine b_if hx (fun h1 hx => ?_) (fun h1 hx => ?_)
    · refine mm_if_eq 24 dX12_varintBytes_10 (by decide) (fun _ => ?_) (fun h => absurd (lg_eq.mpr h1) h)
      refine mm_iload_n dX12_varintBytes_24 rfl ?_
      refine mm_iret dX12_varintBytes_25 rfl rfl ?_ (by omega) (by omega)
      obtain rfl := fin1 hx
      exact ⟨rfl, rfl⟩
    · refine mm_if_eq 24 dX12_varintBytes_10 (by decide) (fun h => absurd (lg_eq.mp h) h1) (fun _ => ?_)
      refine mm_iinc (v := v2_ + 1) [none, none, some (.int (v2_ + 1)), some (.long v3_), none] dX12_varintBytes_13 rfl rfl (by decide) rfl ?_
      refine mm_lload_n dX12_varintBytes_16 rfl ?_
      refine mm_bipush (v := 7) dX12_varintBytes_17 (by decide) ?_
      refine mm_lushr dX12_varintBytes_19 ?_
      refine mm_lstore_n [none, none, some (.int (v2_ + 1)), some (.long (lush v3_ 7)), none] dX12_varintBytes_20 (by decide) rfl ?_
      refine mm_goto 7 dX12_varintBytes_21 (by decide) ?_
      exact ih _ _ hx
set_option maxHeartbeats 4000000 in
set_option maxRecDepth 100000 in
theorem e_X12_varintBytes {g : mm_G} {l : Launch} (hst : l.stackTraces = false) {Z : Nat → Nat → Option Nat} (hZ : HZ Z) {n : Nat} (hn : 1186 ≤ n) {z : Bool} {d : Nat} {U : Nat} {p0 : Int64} {σ : SG} {r : Int32} (hx : x_X12_varintBytes U p0 σ = some r) : mm_Cm g l yX12_varintBytes (.code yX12_varintBytes cX12_varintBytes 5 (some .int)) (d) 0 0 [.long p0] (mem Z σ, n, z) (fun v S' => v = some (.int r) ∧ S' = (mem Z σ, n, z)) := by
  refine mm_Cm_of hst (by decide) (Nat.le_of_ble_eq_true rfl) ?_
  show mm_V g l RX12 "varintBytes" cX12_varintBytes 5 (some .int) [] (d) 0 0 (mm_nt (fun v S' => v = some (.int r) ∧ S' = (mem Z σ, n, z))) 0 [some (.long p0), none, none, none, none] [] (mem Z σ, n, z) 0 0
  unfold x_X12_varintBytes at hx
  refine mm_iconst (v := 1) dX12_varintBytes_0 (by decide) ?_
  refine mm_istore_n [some (.long p0), none, some (.int 1), none, none] dX12_varintBytes_1 (by decide) rfl ?_
  refine mm_lload_n dX12_varintBytes_2 rfl ?_
  refine mm_bipush (v := 7) dX12_varintBytes_3 (by decide) ?_
  refine mm_lushr dX12_varintBytes_5 ?_
  refine mm_lstore_n [some (.long p0), none, some (.int 1), some (.long (lush p0 7)), none] dX12_varintBytes_6 (by decide) rfl ?_
  refine mm_fewer [none, none, some (.int 1), some (.long (lush p0 7)), none] (few_ok (bs := [false, false, true, true, false]) rfl) ?_
  refine e_X12_varintBytes_L7 hst hZ hn _ _ _ hx
set_option maxHeartbeats 4000000 in
set_option maxRecDepth 100000 in
theorem e_X12_varintOf {g : mm_G} {l : Launch} (hst : l.stackTraces = false) {Z : Nat → Nat → Option Nat} (hZ : HZ Z) {n : Nat} (hn : 1186 ≤ n) {z : Bool} {d : Nat} {p0 : Int32} {p1 : Int64} {σ : SG} {r : Int64} (hx : x_X12_varintOf p0 p1 = some r) : mm_Cm g l yX12_varintOf (.code yX12_varintOf cX12_varintOf 3 (some .long)) (d) 0 0 [.int p0, .long p1] (mem Z σ, n, z) (fun v S' => v = some (.long r) ∧ S' = (mem Z σ, n, z)) := by
  refine mm_Cm_of hst (by decide) (Nat.le_of_ble_eq_true rfl) ?_
  show mm_V g l RX12 "varintOf" cX12_varintOf 3 (some .long) [] (d) 0 0 (mm_nt (fun v S' => v = some (.long r) ∧ S' = (mem Z σ, n, z))) 0 [some (.int p0), some (.long p1), none] [] (mem Z σ, n, z) 0 0
  unfold x_X12_varintOf at hx
  refine mm_iload_n dX12_varintOf_0 rfl ?_
  refine mm_iconst (v := 4) dX12_varintOf_1 (by decide) ?_
  refine b_if hx (fun h1 hx => ?_) (fun h1 hx => ?_)
  · refine mm_icmp_ne 21 dX12_varintOf_2 (by decide) (fun h => absurd h1 h) (fun _ => ?_)
    refine mm_lload_n dX12_varintOf_5 rfl ?_
    refine mm_l2i dX12_varintOf_6 ?_
    refine mm_iconst (v := 1) dX12_varintOf_7 (by decide) ?_
    refine mm_ishl dX12_varintOf_8 ?_
    refine mm_lload_n dX12_varintOf_9 rfl ?_
    refine mm_l2i dX12_varintOf_10 ?_
    refine mm_bipush (v := 31) dX12_varintOf_11 (by decide) ?_
    refine mm_ishr dX12_varintOf_13 ?_
    refine mm_ixor dX12_varintOf_14 ?_
    refine mm_i2l dX12_varintOf_15 ?_
    refine mm_ldc2 kL_X12_639 dX12_varintOf_16 ?_
    refine mm_land dX12_varintOf_19 ?_
    refine mm_lret dX12_varintOf_20 rfl ?_ (by omega) (by omega)
    obtain rfl := fin1 hx
    exact ⟨rfl, rfl⟩
  · refine mm_icmp_ne 21 dX12_varintOf_2 (by decide) (fun _ => ?_) (fun h => absurd h h1)
    refine mm_iload_n dX12_varintOf_21 rfl ?_
    refine mm_iconst (v := 5) dX12_varintOf_22 (by decide) ?_
    refine b_if hx (fun h2 hx => ?_) (fun h2 hx => ?_)
    · refine mm_icmp_ne 37 dX12_varintOf_23 (by decide) (fun h => absurd h2 h) (fun _ => ?_)
      refine mm_lload_n dX12_varintOf_26 rfl ?_
      refine mm_iconst (v := 1) dX12_varintOf_27 (by decide) ?_
      refine mm_lshl dX12_varintOf_28 ?_
      refine mm_lload_n dX12_varintOf_29 rfl ?_
      refine mm_bipush (v := 63) dX12_varintOf_30 (by decide) ?_
      refine mm_lshr dX12_varintOf_32 ?_
      refine mm_lxor dX12_varintOf_33 ?_
      refine mm_goto 38 dX12_varintOf_34 (by decide) ?_
      refine mm_lret dX12_varintOf_38 rfl ?_ (by omega) (by omega)
      obtain rfl := fin1 hx
      exact ⟨rfl, rfl⟩
    · refine mm_icmp_ne 37 dX12_varintOf_23 (by decide) (fun _ => ?_) (fun h => absurd h h2)
      refine mm_lload_n dX12_varintOf_37 rfl ?_
      refine mm_lret dX12_varintOf_38 rfl ?_ (by omega) (by omega)
      obtain rfl := fin1 hx
      exact ⟨rfl, rfl⟩
set_option maxHeartbeats 4000000 in
set_option maxRecDepth 100000 in
theorem e_X12_kindBytes {g : mm_G} {l : Launch} (hst : l.stackTraces = false) {Z : Nat → Nat → Option Nat} (hZ : HZ Z) {n : Nat} (hn : 1186 ≤ n) {z : Bool} {d : Nat} {U : Nat} {p0 : Int32} {p1 : Int64} {σ : SG} {r : Int32} (hx : x_X12_kindBytes U p0 p1 σ = some r) : mm_Cm g l yX12_kindBytes (.code yX12_kindBytes cX12_kindBytes 4 (some .int)) (d + 1) 0 0 [.int p0, .long p1] (mem Z σ, n, z) (fun v S' => v = some (.int r) ∧ S' = (mem Z σ, n, z)) := by
  refine mm_Cm_of hst (by decide) (Nat.le_of_ble_eq_true rfl) ?_
  show mm_V g l RX12 "kindBytes" cX12_kindBytes 4 (some .int) [] (d + 1) 0 0 (mm_nt (fun v S' => v = some (.int r) ∧ S' = (mem Z σ, n, z))) 0 [some (.int p0), some (.long p1), none, none] [] (mem Z σ, n, z) 0 0
  unfold x_X12_kindBytes at hx
  refine mm_iload_n dX12_kindBytes_0 rfl ?_
  obtain ⟨v2, hc1, hx⟩ := b1_some hx
  refine mm_callS wM_X12_kindOf kM_X12_653 wT_X12_kindOf dX12_kindBytes_1 (e_X12_kindOf hst hZ hn hc1) rfl rfl (Nat.le_of_ble_eq_true rfl) (by omega) (by omega) (fun v9 S9 hq => ?_)
  obtain ⟨rfl, rfl⟩ := hq
  refine ⟨fun h => ⟨h, rfl⟩, ?_⟩
  refine mm_istore_n [some (.int p0), some (.long p1), none, some (.int v2)] dX12_kindBytes_4 (by decide) rfl ?_
  refine mm_iload_n dX12_kindBytes_5 rfl ?_
  refine mm_iconst (v := 1) dX12_kindBytes_6 (by decide) ?_
  refine b_if hx (fun h3 hx => ?_) (fun h3 hx => ?_)
  · refine mm_icmp_ne 15 dX12_kindBytes_7 (by decide) (fun h => absurd h3 h) (fun _ => ?_)
    refine mm_bipush (v := 8) dX12_kindBytes_10 (by decide) ?_
    refine mm_goto 32 dX12_kindBytes_12 (by decide) ?_
    refine mm_iret dX12_kindBytes_32 rfl rfl ?_ (by omega) (by omega)
    obtain rfl := fin1 hx
    exact ⟨rfl, rfl⟩
  · refine mm_icmp_ne 15 dX12_kindBytes_7 (by decide) (fun _ => ?_) (fun h => absurd h h3)
    refine mm_iload_n dX12_kindBytes_15 rfl ?_
    refine mm_iconst (v := 5) dX12_kindBytes_16 (by decide) ?_
    refine b_if hx (fun h4 hx => ?_) (fun h4 hx => ?_)
    · refine mm_icmp_ne 24 dX12_kindBytes_17 (by decide) (fun h => absurd h4 h) (fun _ => ?_)
      refine mm_iconst (v := 4) dX12_kindBytes_20 (by decide) ?_
      refine mm_goto 32 dX12_kindBytes_21 (by decide) ?_
      refine mm_iret dX12_kindBytes_32 rfl rfl ?_ (by omega) (by omega)
      obtain rfl := fin1 hx
      exact ⟨rfl, rfl⟩
    · refine mm_icmp_ne 24 dX12_kindBytes_17 (by decide) (fun _ => ?_) (fun h => absurd h h4)
      refine mm_iload_n dX12_kindBytes_24 rfl ?_
      refine mm_lload_n dX12_kindBytes_25 rfl ?_
      obtain ⟨v6, hc5, hx⟩ := b1_some hx
      refine mm_callS wM_X12_varintOf kM_X12_707 wT_X12_varintOf dX12_kindBytes_26 (e_X12_varintOf hst hZ hn hc5) rfl rfl (Nat.le_of_ble_eq_true rfl) (by omega) (by omega) (fun v9 S9 hq => ?_)
      obtain ⟨rfl, rfl⟩ := hq
      refine ⟨fun h => ⟨h, rfl⟩, ?_⟩
      obtain ⟨v8, hc7, hx⟩ := b1_some hx
      refine mm_callS wM_X12_varintBytes kM_X12_710 wT_X12_varintBytes dX12_kindBytes_29 (e_X12_varintBytes hst hZ hn hc7) rfl rfl (Nat.le_of_ble_eq_true rfl) (by omega) (by omega) (fun v9 S9 hq => ?_)
      obtain ⟨rfl, rfl⟩ := hq
      refine ⟨fun h => ⟨h, rfl⟩, ?_⟩
      refine mm_iret dX12_kindBytes_32 rfl rfl ?_ (by omega) (by omega)
      obtain rfl := fin1 hx
      exact ⟨rfl, rfl⟩
set_option maxHeartbeats 4000000 in
set_option maxRecDepth 100000 in
theorem e_X12_rowBytes_87 {g : mm_G} {l : Launch} (hst : l.stackTraces = false) {Z : Nat → Nat → Option Nat} (hZ : HZ Z) {n : Nat} (hn : 1186 ≤ n) {z : Bool} {d : Nat} {U : Nat} {a : Nat} (hs : sh a = 12) {v3_ : Int32} {s0_ : Int32} {σ : SG} {r : Int32} (hx : x_X12_rowBytes_87 U a v3_ s0_ σ = some r) : mm_V g l RX12 "rowBytes" cX12_rowBytes 5 (some .int) [] (d + 2) 0 0 (mm_nt (fun v S' => v = some (.int r) ∧ S' = (mem Z σ, n, z))) 87 [none, none, none, some (.int v3_), none] [.int s0_] (mem Z σ, n, z) 0 0 := by
  unfold x_X12_rowBytes_87 at hx
  refine mm_istore [none, none, none, some (.int v3_), some (.int s0_)] dX12_rowBytes_87 (by decide) rfl ?_
  refine mm_iload_n dX12_rowBytes_89 rfl ?_
  refine mm_iload dX12_rowBytes_90 rfl ?_
  refine mm_i2l dX12_rowBytes_92 ?_
  obtain ⟨v36, hc35, hx⟩ := b1_some hx
  refine mm_callS wM_X12_varintBytes kM_X12_710 wT_X12_varintBytes dX12_rowBytes_93 (e_X12_varintBytes hst hZ hn hc35) rfl rfl (Nat.le_of_ble_eq_true rfl) (by omega) (by omega) (fun v9 S9 hq => ?_)
  obtain ⟨rfl, rfl⟩ := hq
  refine ⟨fun h => ⟨h, rfl⟩, ?_⟩
  refine mm_iadd dX12_rowBytes_96 ?_
  refine mm_iload dX12_rowBytes_97 rfl ?_
  refine mm_iadd dX12_rowBytes_99 ?_
  refine mm_iret dX12_rowBytes_100 rfl rfl ?_ (by omega) (by omega)
  obtain rfl := fin1 hx
  exact ⟨rfl, rfl⟩
set_option maxHeartbeats 4000000 in
set_option maxRecDepth 100000 in
theorem e_X12_rowBytes {g : mm_G} {l : Launch} (hst : l.stackTraces = false) {Z : Nat → Nat → Option Nat} (hZ : HZ Z) {n : Nat} (hn : 1186 ≤ n) {z : Bool} {d : Nat} {U : Nat} {a : Nat} (hs : sh a = 12) {p0 : Int32} {σ : SG} {r : Int32} (hx : x_X12_rowBytes U a p0 σ = some r) : mm_Cm g l yX12_rowBytes (.code yX12_rowBytes cX12_rowBytes 5 (some .int)) (d + 2) 0 0 [.ref a, .int p0] (mem Z σ, n, z) (fun v S' => v = some (.int r) ∧ S' = (mem Z σ, n, z)) := by
  refine mm_Cm_of hst (by decide) (Nat.le_of_ble_eq_true rfl) ?_
  show mm_V g l RX12 "rowBytes" cX12_rowBytes 5 (some .int) [] (d + 2) 0 0 (mm_nt (fun v S' => v = some (.int r) ∧ S' = (mem Z σ, n, z))) 0 [some (.ref a), some (.int p0), none, none, none] [] (mem Z σ, n, z) 0 0
  unfold x_X12_rowBytes at hx
  refine mm_aload_n dX12_rowBytes_0 rfl rfl ?_
  refine s_getS (q := 1166) (r := some a) (b := a) (ci := 12) (k := 92) in_X12 rfl (by decide) rfl kF_X12_208 dX12_rowBytes_1 rfl hs (by decide) hn (by decide) rfl rfl ?_
  refine mm_iload_n dX12_rowBytes_4 rfl ?_
  obtain ⟨j1, hj2, hb3, hl4, hx⟩ := ix_some hx
  refine s_iald (a := 1166) sa_1166 hn hj2 hb3 na_1166 dX12_rowBytes_5 ?_
  refine mm_istore_n [some (.ref a), some (.int p0), some (.int (sI σ 1166 j1)), none, none] dX12_rowBytes_6 (by decide) rfl ?_
  refine mm_aload_n dX12_rowBytes_7 rfl rfl ?_
  refine mm_iload_n dX12_rowBytes_8 rfl ?_
  refine mm_aload_n dX12_rowBytes_9 rfl rfl ?_
  refine s_getS (q := 1118) (r := some a) (b := a) (ci := 12) (k := 21) in_X12 rfl (by decide) rfl kF_X12_62 dX12_rowBytes_10 rfl hs (by decide) hn (by decide) rfl rfl ?_
  refine mm_iload_n dX12_rowBytes_13 rfl ?_
  obtain ⟨j5, hj6, hb7, hl8, hx⟩ := ix_some hx
  refine s_iald (a := 1118) sa_1118 hn hj6 hb7 na_1118 dX12_rowBytes_14 ?_
  obtain ⟨v10, hc9, hx⟩ := b1_some hx
  refine mm_callS wM_X12_kindOf kM_X12_653 wT_X12_kindOf dX12_rowBytes_15 (e_X12_kindOf hst hZ hn hc9) rfl rfl (Nat.le_of_ble_eq_true rfl) (by omega) (by omega) (fun v9 S9 hq => ?_)
  obtain ⟨rfl, rfl⟩ := hq
  refine ⟨fun h => ⟨h, rfl⟩, ?_⟩
  obtain ⟨v12, hc11, hx⟩ := b1_some hx
  refine mm_callV3 (a := a) (ci := 12) wM_X12_tagOf kM_X12_720 wI_X12_tagOf wS_X12_tagOf dX12_rowBytes_18 (e_X12_tagOf hst hZ hn hs hc11) (mem_obj hs (by decide)) (sh_ltn hs (by decide) hn) rfl rfl rfl (Nat.le_of_ble_eq_true rfl) (by omega) (by omega) (fun v9 S9 hq => ?_)
  obtain ⟨rfl, rfl⟩ := hq
  refine ⟨fun h => ⟨h, rfl⟩, ?_⟩
  obtain ⟨v14, hc13, hx⟩ := b1_some hx
  refine mm_callS wM_X12_varintBytes kM_X12_710 wT_X12_varintBytes dX12_rowBytes_21 (e_X12_varintBytes hst hZ hn hc13) rfl rfl (Nat.le_of_ble_eq_true rfl) (by omega) (by omega) (fun v9 S9 hq => ?_)
  obtain ⟨rfl, rfl⟩ := hq
  refine ⟨fun h => ⟨h, rfl⟩, ?_⟩
  refine mm_istore_n [some (.ref a), some (.int p0), some (.int (sI σ 1166 j1)), some (.int v14), none] dX12_rowBytes_24 (by decide) rfl ?_
  refine mm_aload_n dX12_rowBytes_25 rfl rfl ?_
  refine s_getS (q := 1118) (r := some a) (b := a) (ci := 12) (k := 21) in_X12 rfl (by decide) rfl kF_X12_62 dX12_rowBytes_26 rfl hs (by decide) hn (by decide) rfl rfl ?_
  refine mm_iload_n dX12_rowBytes_29 rfl ?_
  obtain ⟨j15, hj16, hb17, hl18, hx⟩ := ix_some hx
  refine s_iald (a := 1118) sa_1118 hn hj16 hb17 na_1118 dX12_rowBytes_30 ?_
  obtain ⟨v20, hc19, hx⟩ := b1_some hx
  refine mm_callS wM_X12_kindOf kM_X12_653 wT_X12_kindOf dX12_rowBytes_31 (e_X12_kindOf hst hZ hn hc19) rfl rfl (Nat.le_of_ble_eq_true rfl) (by omega) (by omega) (fun v9 S9 hq => ?_)
  obtain ⟨rfl, rfl⟩ := hq
  refine ⟨fun h => ⟨h, rfl⟩, ?_⟩
  refine mm_iconst (v := 2) dX12_rowBytes_34 (by decide) ?_
  refine b_if hx (fun h21 hx => ?_) (fun h21 hx => ?_)
  · refine mm_icmp_eq 56 dX12_rowBytes_35 (by decide) (fun _ => ?_) (fun h => absurd h21 h)
    refine mm_aload_n dX12_rowBytes_56 rfl rfl ?_
    refine s_getS (q := 1118) (r := some a) (b := a) (ci := 12) (k := 21) in_X12 rfl (by decide) rfl kF_X12_62 dX12_rowBytes_57 rfl hs (by decide) hn (by decide) rfl rfl ?_
    refine mm_iload_n dX12_rowBytes_60 rfl ?_
    obtain ⟨j22, hj23, hb24, hl25, hx⟩ := ix_some hx
    refine s_iald (a := 1118) sa_1118 hn hj23 hb24 na_1118 dX12_rowBytes_61 ?_
    refine mm_bipush (v := 13) dX12_rowBytes_62 (by decide) ?_
    refine b_if hx (fun h26 hx => ?_) (fun h26 hx => ?_)
    · refine mm_icmp_ne 81 dX12_rowBytes_64 (by decide) (fun h => absurd h26 h) (fun _ => ?_)
      refine mm_aload_n dX12_rowBytes_67 rfl rfl ?_
      refine s_getS (q := 1163) (r := some a) (b := a) (ci := 12) (k := 89) in_X12 rfl (by decide) rfl kF_X12_199 dX12_rowBytes_68 rfl hs (by decide) hn (by decide) rfl rfl ?_
      refine mm_aload_n dX12_rowBytes_71 rfl rfl ?_
      refine s_getS (q := 1170) (r := some a) (b := a) (ci := 12) (k := 96) in_X12 rfl (by decide) rfl kF_X12_220 dX12_rowBytes_72 rfl hs (by decide) hn (by decide) rfl rfl ?_
      refine mm_iload_n dX12_rowBytes_75 rfl ?_
      obtain ⟨j27, hj28, hb29, hl30, hx⟩ := ix_some hx
      refine s_iald (a := 1170) sa_1170 hn hj28 hb29 na_1170 dX12_rowBytes_76 ?_
      obtain ⟨j31, hj32, hb33, hl34, hx⟩ := ix_some hx
      refine s_iald (a := 1163) sa_1163 hn hj32 hb33 na_1163 dX12_rowBytes_77 ?_
      refine mm_goto 87 dX12_rowBytes_78 (by decide) ?_
      refine mm_fewer [none, none, none, some (.int v14), none] (few_ok (bs := [false, false, false, true, false]) rfl) ?_
      exact e_X12_rowBytes_87 hst hZ hn hs hx
    · refine mm_icmp_ne 81 dX12_rowBytes_64 (by decide) (fun _ => ?_) (fun h => absurd h h26)
      refine mm_aload_n dX12_rowBytes_81 rfl rfl ?_
      refine s_getS (q := 1169) (r := some a) (b := a) (ci := 12) (k := 95) in_X12 rfl (by decide) rfl kF_X12_217 dX12_rowBytes_82 rfl hs (by decide) hn (by decide) rfl rfl ?_
      refine mm_iload_n dX12_rowBytes_85 rfl ?_
      obtain ⟨j37, hj38, hb39, hl40, hx⟩ := ix_some hx
      refine s_iald (a := 1169) sa_1169 hn hj38 hb39 na_1169 dX12_rowBytes_86 ?_
      refine mm_fewer [none, none, none, some (.int v14), none] (few_ok (bs := [false, false, false, true, false]) rfl) ?_
      exact e_X12_rowBytes_87 hst hZ hn hs hx
  · refine mm_icmp_eq 56 dX12_rowBytes_35 (by decide) (fun h => absurd h h21) (fun _ => ?_)
    refine mm_iload_n dX12_rowBytes_38 rfl ?_
    refine mm_aload_n dX12_rowBytes_39 rfl rfl ?_
    refine s_getS (q := 1118) (r := some a) (b := a) (ci := 12) (k := 21) in_X12 rfl (by decide) rfl kF_X12_62 dX12_rowBytes_40 rfl hs (by decide) hn (by decide) rfl rfl ?_
    refine mm_iload_n dX12_rowBytes_43 rfl ?_
    obtain ⟨j41, hj42, hb43, hl44, hx⟩ := ix_some hx
    refine s_iald (a := 1118) sa_1118 hn hj42 hb43 na_1118 dX12_rowBytes_44 ?_
    refine mm_aload_n dX12_rowBytes_45 rfl rfl ?_
    refine s_getS (q := 1167) (r := some a) (b := a) (ci := 12) (k := 93) in_X12 rfl (by decide) rfl kF_X12_211 dX12_rowBytes_46 rfl hs (by decide) hn (by decide) rfl rfl ?_
    refine mm_iload_n dX12_rowBytes_49 rfl ?_
    obtain ⟨j45, hj46, hb47, hl48, hx⟩ := ix_some hx
    refine s_lald (a := 1167) sa_1167 hn hj46 hb47 na_1167 dX12_rowBytes_50 ?_
    obtain ⟨v50, hc49, hx⟩ := b1_some hx
    refine mm_callS wM_X12_kindBytes kM_X12_716 wT_X12_kindBytes dX12_rowBytes_51 (e_X12_kindBytes hst hZ hn hc49) rfl rfl (Nat.le_of_ble_eq_true rfl) (by omega) (by omega) (fun v9 S9 hq => ?_)
    obtain ⟨rfl, rfl⟩ := hq
    refine ⟨fun h => ⟨h, rfl⟩, ?_⟩
    refine mm_iadd dX12_rowBytes_54 ?_
    refine mm_iret dX12_rowBytes_55 rfl rfl ?_ (by omega) (by omega)
    obtain rfl := fin1 hx
    exact ⟨rfl, rfl⟩
set_option maxHeartbeats 4000000 in
set_option maxRecDepth 100000 in
theorem e_X12_packedBytes_65 {g : mm_G} {l : Launch} (hst : l.stackTraces = false) {Z : Nat → Nat → Option Nat} (hZ : HZ Z) {n : Nat} (hn : 1186 ≤ n) {z : Bool} {d : Nat} {U : Nat} {a : Nat} (hs : sh a = 12) {k5 : Int32 → Int32 → Option (Int32)} {v1_ : Int32} {v2_ : Int32} {v3_ : Int32} {v4_ : Int32} {σ : SG} {r : Int32} (hk5 : ∀ (v3_ : Int32) (v4_ : Int32), k5 v3_ v4_ = some r → mm_V g l RX12 "packedBytes" cX12_packedBytes 5 (some .int) [] (d + 2) 0 0 (mm_nt (fun v S' => v = some (.int r) ∧ S' = (mem Z σ, n, z))) 5 [some (.ref a), some (.int v1_), some (.int v2_), some (.int v3_), some (.int v4_)] [] (mem Z σ, n, z) 0 0) (hx : x_X12_packedBytes_65 U a k5 v1_ v2_ v3_ v4_ σ = some r) : mm_V g l RX12 "packedBytes" cX12_packedBytes 5 (some .int) [] (d + 2) 0 0 (mm_nt (fun v S' => v = some (.int r) ∧ S' = (mem Z σ, n, z))) 65 [some (.ref a), some (.int v1_), some (.int v2_), some (.int v3_), some (.int v4_)] [] (mem Z σ, n, z) 0 0 := by
  unfold x_X12_packedBytes_65 at hx
  refine mm_iinc (v := v4_ + 1) [some (.ref a), some (.int v1_), some (.int v2_), some (.int v3_), some (.int (v4_ + 1))] dX12_packedBytes_65 rfl rfl (by decide) rfl ?_
  refine mm_goto 5 dX12_packedBytes_68 (by decide) ?_
  exact hk5 _ _ hx
set_option maxHeartbeats 4000000 in
set_option maxRecDepth 100000 in
theorem e_X12_packedBytes_L5 {g : mm_G} {l : Launch} (hst : l.stackTraces = false) {Z : Nat → Nat → Option Nat} (hZ : HZ Z) {n : Nat} (hn : 1186 ≤ n) {z : Bool} {d : Nat} {U : Nat} {a : Nat} (hs : sh a = 12) {v1_ : Int32} {v2_ : Int32} {σ : SG} {r : Int32} : ∀ (U1 : Nat) (v3_ : Int32) (v4_ : Int32), x_X12_packedBytes_L5 U a v1_ v2_ σ U1 v3_ v4_ = some r → mm_V g l RX12 "packedBytes" cX12_packedBytes 5 (some .int) [] (d + 2) 0 0 (mm_nt (fun v S' => v = some (.int r) ∧ S' = (mem Z σ, n, z))) 5 [some (.ref a), some (.int v1_), some (.int v2_), some (.int v3_), some (.int v4_)] [] (mem Z σ, n, z) 0 0 := by
  intro U1
  induction U1 with
  | zero => intro v3_ v4_ hx; exact absurd hx (by simp [x_X12_packedBytes_L5])
  | succ U1 ih =>
    intro v3_ v4_ hx
    rw [x_X12_packedBytes_L5] at hx
    refine mm_iload dX12_packedBytes_5 rfl ?_
    refine mm_aload_n dX12_packedBytes_7 rfl rfl ?_
    refine s_getI (r := some a) (b := a) (ci := 12) (k := 82) in_X12 rfl (by decide) rfl kF_X12_596 dX12_packedBytes_8 rfl hs (by decide) hn (by decide) rfl ?_
    refine b_if hx (fun h1 hx => ?_) (fun h1 hx => ?_)
    · refine mm_icmp_ge 71 dX12_packedBytes_11 (by decide) (fun h => absurd h (Int32.not_le.mpr h1)) (fun _ => ?_)
      refine mm_aload_n dX12_packedBytes_14 rfl rfl ?_
      refine s_getS (q := 1171) (r := some a) (b := a) (ci := 12) (k := 97) in_X12 rfl (by decide) rfl kF_X12_223 dX12_packedBytes_15 rfl hs (by decide) hn (by decide) rfl rfl ?_
      refine mm_iload dX12_packedBytes_18 rfl ?_
      obtain ⟨j2, hj3, hb4, hl5, hx⟩ := ix_some hx
      refine s_zald (a := 1171) sa_1171 hn hj3 hb4 na_1171 dX12_packedBytes_20 ?_
      refine b_if hx (fun h6 hx => ?_) (fun h6 hx => ?_)
      · refine mm_if_eq 65 dX12_packedBytes_21 (by decide) (fun _ => ?_) (fun h => absurd h6 h)
        exact e_X12_packedBytes_65 hst hZ hn hs ih hx
      · refine mm_if_eq 65 dX12_packedBytes_21 (by decide) (fun h => absurd h h6) (fun _ => ?_)
        refine mm_aload_n dX12_packedBytes_24 rfl rfl ?_
        refine s_getS (q := 1165) (r := some a) (b := a) (ci := 12) (k := 91) in_X12 rfl (by decide) rfl kF_X12_205 dX12_packedBytes_25 rfl hs (by decide) hn (by decide) rfl rfl ?_
        refine mm_iload dX12_packedBytes_28 rfl ?_
        obtain ⟨j7, hj8, hb9, hl10, hx⟩ := ix_some hx
        refine s_iald (a := 1165) sa_1165 hn hj8 hb9 na_1165 dX12_packedBytes_30 ?_
        refine mm_iload_n dX12_packedBytes_31 rfl ?_
        refine b_if hx (fun h11 hx => ?_) (fun h11 hx => ?_)
        · refine mm_icmp_ne 65 dX12_packedBytes_32 (by decide) (fun h => absurd h11 h) (fun _ => ?_)
          refine mm_aload_n dX12_packedBytes_35 rfl rfl ?_
          refine s_getS (q := 1166) (r := some a) (b := a) (ci := 12) (k := 92) in_X12 rfl (by decide) rfl kF_X12_208 dX12_packedBytes_36 rfl hs (by decide) hn (by decide) rfl rfl ?_
          refine mm_iload dX12_packedBytes_39 rfl ?_
          obtain ⟨j12, hj13, hb14, hl15, hx⟩ := ix_some hx
          refine s_iald (a := 1166) sa_1166 hn hj13 hb14 na_1166 dX12_packedBytes_41 ?_
          refine mm_iload_n dX12_packedBytes_42 rfl ?_
          refine b_if hx (fun h16 hx => ?_) (fun h16 hx => ?_)
          · refine mm_icmp_ne 65 dX12_packedBytes_43 (by decide) (fun h => absurd h16 h) (fun _ => ?_)
            refine mm_iload_n dX12_packedBytes_46 rfl ?_
            refine mm_aload_n dX12_packedBytes_47 rfl rfl ?_
            refine s_getS (q := 1118) (r := some a) (b := a) (ci := 12) (k := 21) in_X12 rfl (by decide) rfl kF_X12_62 dX12_packedBytes_48 rfl hs (by decide) hn (by decide) rfl rfl ?_
            refine mm_iload_n dX12_packedBytes_51 rfl ?_
            obtain ⟨j17, hj18, hb19, hl20, hx⟩ := ix_some hx
            refine s_iald (a := 1118) sa_1118 hn hj18 hb19 na_1118 dX12_packedBytes_52 ?_
            refine mm_aload_n dX12_packedBytes_53 rfl rfl ?_
            refine s_getS (q := 1167) (r := some a) (b := a) (ci := 12) (k := 93) in_X12 rfl (by decide) rfl kF_X12_211 dX12_packedBytes_54 rfl hs (by decide) hn (by decide) rfl rfl ?_
            refine mm_iload dX12_packedBytes_57 rfl ?_
            obtain ⟨j21, hj22, hb23, hl24, hx⟩ := ix_some hx
            refine s_lald (a := 1167) sa_1167 hn hj22 hb23 na_1167 dX12_packedBytes_59 ?_
            obtain ⟨v26, hc25, hx⟩ := b1_some hx
            refine mm_callS wM_X12_kindBytes kM_X12_716 wT_X12_kindBytes dX12_packedBytes_60 (e_X12_kindBytes hst hZ hn hc25) rfl rfl (Nat.le_of_ble_eq_true rfl) (by omega) (by omega) (fun v9 S9 hq => ?_)
            obtain ⟨rfl, rfl⟩ := hq
            refine ⟨fun h => ⟨h, rfl⟩, ?_⟩
            refine mm_iadd dX12_packedBytes_63 ?_
            refine mm_istore_n [some (.ref a), some (.int v1_), some (.int v2_), some (.int (v3_ + v26)), some (.int v4_)] dX12_packedBytes_64 (by decide) rfl ?_
            exact e_X12_packedBytes_65 hst hZ hn hs ih hx
          · refine mm_icmp_ne 65 dX12_packedBytes_43 (by decide) (fun _ => ?_) (fun h => absurd h h16)
            exact e_X12_packedBytes_65 hst hZ hn hs ih hx
        · refine mm_icmp_ne 65 dX12_packedBytes_32 (by decide) (fun _ => ?_) (fun h => absurd h h11)
          exact e_X12_packedBytes_65 hst hZ hn hs ih hx
    · refine mm_icmp_ge 71 dX12_packedBytes_11 (by decide) (fun _ => ?_) (fun h => absurd (Int32.not_lt.mp h1) h)
      refine mm_iload_n dX12_packedBytes_71 rfl ?_
      refine mm_iret dX12_packedBytes_72 rfl rfl ?_ (by omega) (by omega)
      obtain rfl := fin1 hx
      exact ⟨rfl, rfl⟩
set_option maxHeartbeats 4000000 in
set_option maxRecDepth 100000 in
theorem e_X12_packedBytes {g : mm_G} {l : Launch} (hst : l.stackTraces = false) {Z : Nat → Nat → Option Nat} (hZ : HZ Z) {n : Nat} (hn : 1186 ≤ n) {z : Bool} {d : Nat} {U : Nat} {a : Nat} (hs : sh a = 12) {p0 : Int32} {p1 : Int32} {σ : SG} {r : Int32} (hx : x_X12_packedBytes U a p0 p1 σ = some r) : mm_Cm g l yX12_packedBytes (.code yX12_packedBytes cX12_packedBytes 5 (some .int)) (d + 2) 0 0 [.ref a, .int p0, .int p1] (mem Z σ, n, z) (fun v S' => v = some (.int r) ∧ S' = (mem Z σ, n, z)) := by
  refine mm_Cm_of hst (by decide) (Nat.le_of_ble_eq_true rfl) ?_
  show mm_V g l RX12 "packedBytes" cX12_packedBytes 5 (some .int) [] (d + 2) 0 0 (mm_nt (fun v S' => v = some (.int r) ∧ S' = (mem Z σ, n, z))) 0 [some (.ref a), some (.int p0), some (.int p1), none, none] [] (mem Z σ, n, z) 0 0
  unfold x_X12_packedBytes at hx
  refine mm_iconst (v := 0) dX12_packedBytes_0 (by decide) ?_
  refine mm_istore_n [some (.ref a), some (.int p0), some (.int p1), some (.int 0), none] dX12_packedBytes_1 (by decide) rfl ?_
  refine mm_iconst (v := 0) dX12_packedBytes_2 (by decide) ?_
  refine mm_istore [some (.ref a), some (.int p0), some (.int p1), some (.int 0), some (.int 0)] dX12_packedBytes_3 (by decide) rfl ?_
  refine e_X12_packedBytes_L5 hst hZ hn hs _ _ _ hx
set_option maxHeartbeats 4000000 in
set_option maxRecDepth 100000 in
theorem e_X12_measure_64 {g : mm_G} {l : Launch} (hst : l.stackTraces = false) {Z : Nat → Nat → Option Nat} (hZ : HZ Z) {n : Nat} (hn : 1186 ≤ n) {z : Bool} {d : Nat} {U : Nat} {a : Nat} (hs : sh a = 12) {k15 : Int32 → Int32 → Option (SG)} {k70 : Int32 → Option (SG)} {v1_ : Int32} {v2_ : Int32} {v3_ : Int32} {σ : SG} {σ' : SG} (hk15 : ∀ (v2_ : Int32) (v3_ : Int32), k15 v2_ v3_ = some σ' → mm_V g l RX12 "measure" cX12_measure 5 none [] (d + 3) 0 0 (mm_nt (fun v S' => v = none ∧ S' = (mem Z σ', n, z))) 15 [some (.ref a), some (.int v1_), some (.int v2_), some (.int v3_), none] [] (mem Z σ, n, z) 0 0) (hk70 : ∀ (v2_ : Int32), k70 v2_ = some σ' → mm_V g l RX12 "measure" cX12_measure 5 none [] (d + 3) 0 0 (mm_nt (fun v S' => v = none ∧ S' = (mem Z σ', n, z))) 70 [some (.ref a), some (.int v1_), some (.int v2_), none, none] [] (mem Z σ, n, z) 0 0) (hx : x_X12_measure_64 U a k15 k70 v1_ v2_ v3_ σ = some σ') : mm_V g l RX12 "measure" cX12_measure 5 none [] (d + 3) 0 0 (mm_nt (fun v S' => v = none ∧ S' = (mem Z σ', n, z))) 64 [some (.ref a), some (.int v1_), some (.int v2_), some (.int v3_), none] [] (mem Z σ, n, z) 0 0 := by
  unfold x_X12_measure_64 at hx
  refine mm_iinc (v := v3_ + 1) [some (.ref a), some (.int v1_), some (.int v2_), some (.int (v3_ + 1)), none] dX12_measure_64 rfl rfl (by decide) rfl ?_
  refine mm_goto 15 dX12_measure_67 (by decide) ?_
  exact hk15 _ _ hx
set_option maxHeartbeats 4000000 in
set_option maxRecDepth 100000 in
theorem e_X12_measure_L15 {g : mm_G} {l : Launch} (hst : l.stackTraces = false) {Z : Nat → Nat → Option Nat} (hZ : HZ Z) {n : Nat} (hn : 1186 ≤ n) {z : Bool} {d : Nat} {U : Nat} {a : Nat} (hs : sh a = 12) {k70 : Int32 → Option (SG)} {v1_ : Int32} {σ : SG} {σ' : SG} (hk70 : ∀ (v2_ : Int32), k70 v2_ = some σ' → mm_V g l RX12 "measure" cX12_measure 5 none [] (d + 3) 0 0 (mm_nt (fun v S' => v = none ∧ S' = (mem Z σ', n, z))) 70 [some (.ref a), some (.int v1_), some (.int v2_), none, none] [] (mem Z σ, n, z) 0 0) : ∀ (U1 : Nat) (v2_ : Int32) (v3_ : Int32), x_X12_measure_L15 U a k70 v1_ σ U1 v2_ v3_ = some σ' → mm_V g l RX12 "measure" cX12_measure 5 none [] (d + 3) 0 0 (mm_nt (fun v S' => v = none ∧ S' = (mem Z σ', n, z))) 15 [some (.ref a), some (.int v1_), some (.int v2_), some (.int v3_), none] [] (mem Z σ, n, z) 0 0 := by
  intro U1
  induction U1 with
  | zero => intro v2_ v3_ hx; exact absurd hx (by simp [x_X12_measure_L15])
  | succ U1 ih =>
    intro v2_ v3_ hx
    rw [x_X12_measure_L15] at hx
    refine mm_iload_n dX12_measure_15 rfl ?_
    refine mm_aload_n dX12_measure_16 rfl rfl ?_
    refine s_getI (r := some a) (b := a) (ci := 12) (k := 82) in_X12 rfl (by decide) rfl kF_X12_596 dX12_measure_17 rfl hs (by decide) hn (by decide) rfl ?_
    refine b_if hx (fun h2 hx => ?_) (fun h2 hx => ?_)
    · refine mm_icmp_ge 70 dX12_measure_20 (by decide) (fun h => absurd h (Int32.not_le.mpr h2)) (fun _ => ?_)
      refine mm_aload_n dX12_measure_23 rfl rfl ?_
      refine s_getS (q := 1171) (r := some a) (b := a) (ci := 12) (k := 97) in_X12 rfl (by decide) rfl kF_X12_223 dX12_measure_24 rfl hs (by decide) hn (by decide) rfl rfl ?_
      refine mm_iload_n dX12_measure_27 rfl ?_
      obtain ⟨j3, hj4, hb5, hl6, hx⟩ := ix_some hx
      refine s_zald (a := 1171) sa_1171 hn hj4 hb5 na_1171 dX12_measure_28 ?_
      refine b_if hx (fun h7 hx => ?_) (fun h7 hx => ?_)
      · refine mm_if_eq 64 dX12_measure_29 (by decide) (fun _ => ?_) (fun h => absurd h7 h)
        exact e_X12_measure_64 hst hZ hn hs ih hk70 hx
      · refine mm_if_eq 64 dX12_measure_29 (by decide) (fun h => absurd h h7) (fun _ => ?_)
        refine mm_aload_n dX12_measure_32 rfl rfl ?_
        refine s_getS (q := 1165) (r := some a) (b := a) (ci := 12) (k := 91) in_X12 rfl (by decide) rfl kF_X12_205 dX12_measure_33 rfl hs (by decide) hn (by decide) rfl rfl ?_
        refine mm_iload_n dX12_measure_36 rfl ?_
        obtain ⟨j8, hj9, hb10, hl11, hx⟩ := ix_some hx
        refine s_iald (a := 1165) sa_1165 hn hj9 hb10 na_1165 dX12_measure_37 ?_
        refine mm_iload_n dX12_measure_38 rfl ?_
        refine b_if hx (fun h12 hx => ?_) (fun h12 hx => ?_)
        · refine mm_icmp_ne 64 dX12_measure_39 (by decide) (fun h => absurd h12 h) (fun _ => ?_)
          refine mm_aload_n dX12_measure_42 rfl rfl ?_
          refine s_getS (q := 1121) (r := some a) (b := a) (ci := 12) (k := 24) in_X12 rfl (by decide) rfl kF_X12_72 dX12_measure_43 rfl hs (by decide) hn (by decide) rfl rfl ?_
          refine mm_aload_n dX12_measure_46 rfl rfl ?_
          refine s_getS (q := 1166) (r := some a) (b := a) (ci := 12) (k := 92) in_X12 rfl (by decide) rfl kF_X12_208 dX12_measure_47 rfl hs (by decide) hn (by decide) rfl rfl ?_
          refine mm_iload_n dX12_measure_50 rfl ?_
          obtain ⟨j13, hj14, hb15, hl16, hx⟩ := ix_some hx
          refine s_iald (a := 1166) sa_1166 hn hj14 hb15 na_1166 dX12_measure_51 ?_
          obtain ⟨j17, hj18, hb19, hl20, hx⟩ := ix_some hx
          refine s_zald (a := 1121) sa_1121 hn hj18 hb19 na_1121 dX12_measure_52 ?_
          refine b_if hx (fun h21 hx => ?_) (fun h21 hx => ?_)
          · refine mm_if_ne 64 dX12_measure_53 (by decide) (fun h => absurd h21 h) (fun _ => ?_)
            refine mm_iload_n dX12_measure_56 rfl ?_
            refine mm_aload_n dX12_measure_57 rfl rfl ?_
            refine mm_iload_n dX12_measure_58 rfl ?_
            obtain ⟨v23, hc22, hx⟩ := b1_some hx
            refine mm_callV3 (a := a) (ci := 12) wM_X12_rowBytes kM_X12_724 wI_X12_rowBytes wS_X12_rowBytes dX12_measure_59 (e_X12_rowBytes hst hZ hn hs hc22) (mem_obj hs (by decide)) (sh_ltn hs (by decide) hn) rfl rfl rfl (Nat.le_of_ble_eq_true rfl) (by omega) (by omega) (fun v9 S9 hq => ?_)
            obtain ⟨rfl, rfl⟩ := hq
            refine ⟨fun h => ⟨h, rfl⟩, ?_⟩
            refine mm_iadd dX12_measure_62 ?_
            refine mm_istore_n [some (.ref a), some (.int v1_), some (.int (v2_ + v23)), some (.int v3_), none] dX12_measure_63 (by decide) rfl ?_
            exact e_X12_measure_64 hst hZ hn hs ih hk70 hx
          · refine mm_if_ne 64 dX12_measure_53 (by decide) (fun _ => ?_) (fun h => absurd h h21)
            exact e_X12_measure_64 hst hZ hn hs ih hk70 hx
        · refine mm_icmp_ne 64 dX12_measure_39 (by decide) (fun _ => ?_) (fun h => absurd h h12)
          exact e_X12_measure_64 hst hZ hn hs ih hk70 hx
    · refine mm_icmp_ge 70 dX12_measure_20 (by decide) (fun _ => ?_) (fun h => absurd (Int32.not_lt.mp h2) h)
      refine mm_fewer [some (.ref a), some (.int v1_), some (.int v2_), none, none] (few_ok (bs := [true, true, true, false, false]) rfl) ?_
      exact hk70 _ hx
set_option maxHeartbeats 4000000 in
set_option maxRecDepth 100000 in
theorem e_X12_measure_162 {g : mm_G} {l : Launch} (hst : l.stackTraces = false) {Z : Nat → Nat → Option Nat} (hZ : HZ Z) {n : Nat} (hn : 1186 ≤ n) {z : Bool} {d : Nat} {U : Nat} {a : Nat} (hs : sh a = 12) {k78 : Int32 → Int32 → Option (SG)} {k168 : Int32 → Option (SG)} {v1_ : Int32} {v2_ : Int32} {v3_ : Int32} {σ : SG} {σ' : SG} (hk78 : ∀ (v2_ : Int32) (v3_ : Int32), k78 v2_ v3_ = some σ' → mm_V g l RX12 "measure" cX12_measure 5 none [] (d + 3) 0 0 (mm_nt (fun v S' => v = none ∧ S' = (mem Z σ', n, z))) 78 [some (.ref a), some (.int v1_), some (.int v2_), some (.int v3_), none] [] (mem Z σ, n, z) 0 0) (hk168 : ∀ (v2_ : Int32), k168 v2_ = some σ' → mm_V g l RX12 "measure" cX12_measure 5 none [] (d + 3) 0 0 (mm_nt (fun v S' => v = none ∧ S' = (mem Z σ', n, z))) 168 [some (.ref a), some (.int v1_), some (.int v2_), none, none] [] (mem Z σ, n, z) 0 0) (hx : x_X12_measure_162 U a k78 k168 v1_ v2_ v3_ σ = some σ') : mm_V g l RX12 "measure" cX12_measure 5 none [] (d + 3) 0 0 (mm_nt (fun v S' => v = none ∧ S' = (mem Z σ', n, z))) 162 [some (.ref a), some (.int v1_), some (.int v2_), some (.int v3_), none] [] (mem Z σ, n, z) 0 0 := by
  unfold x_X12_measure_162 at hx
  refine mm_iinc (v := v3_ + 1) [some (.ref a), some (.int v1_), some (.int v2_), some (.int (v3_ + 1)), none] dX12_measure_162 rfl rfl (by decide) rfl ?_
  refine mm_goto 78 dX12_measure_165 (by decide) ?_
  exact hk78 _ _ hx
set_option maxHeartbeats 4000000 in
set_option maxRecDepth 100000 in
theorem e_X12_measure_133 {g : mm_G} {l : Launch} (hst : l.stackTraces = false) {Z : Nat → Nat → Option Nat} (hZ : HZ Z) {n : Nat} (hn : 1186 ≤ n) {z : Bool} {d : Nat} {U : Nat} {a : Nat} (hs : sh a = 12) {k78 : Int32 → Int32 → Option (SG)} {k168 : Int32 → Option (SG)} {v1_ : Int32} {v2_ : Int32} {v3_ : Int32} {s0_ : Int32} {σ : SG} {σ' : SG} (hk78 : ∀ (v2_ : Int32) (v3_ : Int32), k78 v2_ v3_ = some σ' → mm_V g l RX12 "measure" cX12_measure 5 none [] (d + 3) 0 0 (mm_nt (fun v S' => v = none ∧ S' = (mem Z σ', n, z))) 78 [some (.ref a), some (.int v1_), some (.int v2_), some (.int v3_), none] [] (mem Z σ, n, z) 0 0) (hk168 : ∀ (v2_ : Int32), k168 v2_ = some σ' → mm_V g l RX12 "measure" cX12_measure 5 none [] (d + 3) 0 0 (mm_nt (fun v S' => v = none ∧ S' = (mem Z σ', n, z))) 168 [some (.ref a), some (.int v1_), some (.int v2_), none, none] [] (mem Z σ, n, z) 0 0) (hx : x_X12_measure_133 U a k78 k168 v1_ v2_ v3_ s0_ σ = some σ') : mm_V g l RX12 "measure" cX12_measure 5 none [] (d + 3) 0 0 (mm_nt (fun v S' => v = none ∧ S' = (mem Z σ', n, z))) 133 [some (.ref a), some (.int v1_), some (.int v2_), some (.int v3_), none] [.int s0_] (mem Z σ, n, z) 0 0 := by
  unfold x_X12_measure_133 at hx
  refine mm_istore [some (.ref a), some (.int v1_), some (.int v2_), some (.int v3_), some (.int s0_)] dX12_measure_133 (by decide) rfl ?_
  refine mm_iload dX12_measure_135 rfl ?_
  refine b_if hx (fun h44 hx => ?_) (fun h44 hx => ?_)
  · refine mm_if_le 162 dX12_measure_137 (by decide) (fun h => absurd h (Int32.not_le.mpr h44)) (fun _ => ?_)
    refine mm_iload_n dX12_measure_140 rfl ?_
    refine mm_aload_n dX12_measure_141 rfl rfl ?_
    refine mm_iload_n dX12_measure_142 rfl ?_
    refine mm_iconst (v := 2) dX12_measure_143 (by decide) ?_
    obtain ⟨v46, hc45, hx⟩ := b1_some hx
    refine mm_callV3 (a := a) (ci := 12) wM_X12_tagOf kM_X12_720 wI_X12_tagOf wS_X12_tagOf dX12_measure_144 (e_X12_tagOf hst hZ hn hs hc45) (mem_obj hs (by decide)) (sh_ltn hs (by decide) hn) rfl rfl rfl (Nat.le_of_ble_eq_true rfl) (by omega) (by omega) (fun v9 S9 hq => ?_)
    obtain ⟨rfl, rfl⟩ := hq
    refine ⟨fun h => ⟨h, rfl⟩, ?_⟩
    obtain ⟨v48, hc47, hx⟩ := b1_some hx
    refine mm_callS wM_X12_varintBytes kM_X12_710 wT_X12_varintBytes dX12_measure_147 (e_X12_varintBytes hst hZ hn hc47) rfl rfl (Nat.le_of_ble_eq_true rfl) (by omega) (by omega) (fun v9 S9 hq => ?_)
    obtain ⟨rfl, rfl⟩ := hq
    refine ⟨fun h => ⟨h, rfl⟩, ?_⟩
    refine mm_iload dX12_measure_150 rfl ?_
    refine mm_i2l dX12_measure_152 ?_
    obtain ⟨v50, hc49, hx⟩ := b1_some hx
    refine mm_callS wM_X12_varintBytes kM_X12_710 wT_X12_varintBytes dX12_measure_153 (e_X12_varintBytes hst hZ hn hc49) rfl rfl (Nat.le_of_ble_eq_true rfl) (by omega) (by omega) (fun v9 S9 hq => ?_)
    obtain ⟨rfl, rfl⟩ := hq
    refine ⟨fun h => ⟨h, rfl⟩, ?_⟩
    refine mm_iadd dX12_measure_156 ?_
    refine mm_iload dX12_measure_157 rfl ?_
    refine mm_iadd dX12_measure_159 ?_
    refine mm_iadd dX12_measure_160 ?_
    refine mm_istore_n [some (.ref a), some (.int v1_), some (.int (v2_ + ((v48 + v50) + s0_))), some (.int v3_), some (.int s0_)] dX12_measure_161 (by decide) rfl ?_
    refine mm_fewer [some (.ref a), some (.int v1_), some (.int (v2_ + ((v48 + v50) + s0_))), some (.int v3_), none] (few_ok (bs := [true, true, true, true, false]) rfl) ?_
    exact e_X12_measure_162 hst hZ hn hs hk78 hk168 hx
  · refine mm_if_le 162 dX12_measure_137 (by decide) (fun _ => ?_) (fun h => absurd (Int32.not_lt.mp h44) h)
    refine mm_fewer [some (.ref a), some (.int v1_), some (.int v2_), some (.int v3_), none] (few_ok (bs := [true, true, true, true, false]) rfl) ?_
    exact e_X12_measure_162 hst hZ hn hs hk78 hk168 hx
set_option maxHeartbeats 4000000 in
set_option maxRecDepth 100000 in
theorem e_X12_measure_132 {g : mm_G} {l : Launch} (hst : l.stackTraces = false) {Z : Nat → Nat → Option Nat} (hZ : HZ Z) {n : Nat} (hn : 1186 ≤ n) {z : Bool} {d : Nat} {U : Nat} {a : Nat} (hs : sh a = 12) {k78 : Int32 → Int32 → Option (SG)} {k168 : Int32 → Option (SG)} {v1_ : Int32} {v2_ : Int32} {v3_ : Int32} {σ : SG} {σ' : SG} (hk78 : ∀ (v2_ : Int32) (v3_ : Int32), k78 v2_ v3_ = some σ' → mm_V g l RX12 "measure" cX12_measure 5 none [] (d + 3) 0 0 (mm_nt (fun v S' => v = none ∧ S' = (mem Z σ', n, z))) 78 [some (.ref a), some (.int v1_), some (.int v2_), some (.int v3_), none] [] (mem Z σ, n, z) 0 0) (hk168 : ∀ (v2_ : Int32), k168 v2_ = some σ' → mm_V g l RX12 "measure" cX12_measure 5 none [] (d + 3) 0 0 (mm_nt (fun v S' => v = none ∧ S' = (mem Z σ', n, z))) 168 [some (.ref a), some (.int v1_), some (.int v2_), none, none] [] (mem Z σ, n, z) 0 0) (hx : x_X12_measure_132 U a k78 k168 v1_ v2_ v3_ σ = some σ') : mm_V g l RX12 "measure" cX12_measure 5 none [] (d + 3) 0 0 (mm_nt (fun v S' => v = none ∧ S' = (mem Z σ', n, z))) 132 [some (.ref a), some (.int v1_), some (.int v2_), some (.int v3_), none] [] (mem Z σ, n, z) 0 0 := by
  unfold x_X12_measure_132 at hx
  refine mm_iconst (v := 0) dX12_measure_132 (by decide) ?_
  exact e_X12_measure_133 hst hZ hn hs hk78 hk168 hx
set_option maxHeartbeats 4000000 in
set_option maxRecDepth 100000 in
theorem e_X12_measure_L78 {g : mm_G} {l : Launch} (hst : l.stackTraces = false) {Z : Nat → Nat → Option Nat} (hZ : HZ Z) {n : Nat} (hn : 1186 ≤ n) {z : Bool} {d : Nat} {U : Nat} {a : Nat} (hs : sh a = 12) {k168 : Int32 → Option (SG)} {v1_ : Int32} {σ : SG} {σ' : SG} (hk168 : ∀ (v2_ : Int32), k168 v2_ = some σ' → mm_V g l RX12 "measure" cX12_measure 5 none [] (d + 3) 0 0 (mm_nt (fun v S' => v = none ∧ S' = (mem Z σ', n, z))) 168 [some (.ref a), some (.int v1_), some (.int v2_), none, none] [] (mem Z σ, n, z) 0 0) : ∀ (U1 : Nat) (v2_ : Int32) (v3_ : Int32), x_X12_measure_L78 U a k168 v1_ σ U1 v2_ v3_ = some σ' → mm_V g l RX12 "measure" cX12_measure 5 none [] (d + 3) 0 0 (mm_nt (fun v S' => v = none ∧ S' = (mem Z σ', n, z))) 78 [some (.ref a), some (.int v1_), some (.int v2_), some (.int v3_), none] [] (mem Z σ, n, z) 0 0 := by
  intro U1
  induction U1 with
  | zero => intro v2_ v3_ hx; exact absurd hx (by simp [x_X12_measure_L78])
  | succ U1 ih =>
    intro v2_ v3_ hx
    rw [x_X12_measure_L78] at hx
    refine mm_iload_n dX12_measure_78 rfl ?_
    refine mm_bipush (v := 60) dX12_measure_79 (by decide) ?_
    refine mm_aload_n dX12_measure_81 rfl rfl ?_
    refine s_getI (r := some a) (b := a) (ci := 12) (k := 80) in_X12 rfl (by decide) rfl kF_X12_587 dX12_measure_82 rfl hs (by decide) hn (by decide) rfl ?_
    refine mm_imul dX12_measure_85 ?_
    refine mm_aload_n dX12_measure_86 rfl rfl ?_
    refine s_getS (q := 1106) (r := some a) (b := a) (ci := 12) (k := 9) in_X12 rfl (by decide) rfl kF_X12_26 dX12_measure_87 rfl hs (by decide) hn (by decide) rfl rfl ?_
    refine mm_aload_n dX12_measure_90 rfl rfl ?_
    refine s_getI (r := some a) (b := a) (ci := 12) (k := 80) in_X12 rfl (by decide) rfl kF_X12_587 dX12_measure_91 rfl hs (by decide) hn (by decide) rfl ?_
    obtain ⟨j25, hj26, hb27, hl28, hx⟩ := ix_some hx
    refine s_iald (a := 1106) sa_1106 hn hj26 hb27 na_1106 dX12_measure_94 ?_
    refine mm_iadd dX12_measure_95 ?_
    refine b_if hx (fun h29 hx => ?_) (fun h29 hx => ?_)
    · refine mm_icmp_ge 168 dX12_measure_96 (by decide) (fun h => absurd h (Int32.not_le.mpr h29)) (fun _ => ?_)
      refine mm_aload_n dX12_measure_99 rfl rfl ?_
      refine s_getS (q := 1114) (r := some a) (b := a) (ci := 12) (k := 17) in_X12 rfl (by decide) rfl kF_X12_50 dX12_measure_100 rfl hs (by decide) hn (by decide) rfl rfl ?_
      refine mm_iload_n dX12_measure_103 rfl ?_
      obtain ⟨j30, hj31, hb32, hl33, hx⟩ := ix_some hx
      refine s_iald (a := 1114) sa_1114 hn hj31 hb32 na_1114 dX12_measure_104 ?_
      refine mm_aload_n dX12_measure_105 rfl rfl ?_
      refine s_getS (q := 1160) (r := some a) (b := a) (ci := 12) (k := 86) in_X12 rfl (by decide) rfl kF_X12_190 dX12_measure_106 rfl hs (by decide) hn (by decide) rfl rfl ?_
      refine mm_iload_n dX12_measure_109 rfl ?_
      obtain ⟨j34, hj35, hb36, hl37, hx⟩ := ix_some hx
      refine s_iald (a := 1160) sa_1160 hn hj35 hb36 na_1160 dX12_measure_110 ?_
      refine b_if hx (fun h38 hx => ?_) (fun h38 hx => ?_)
      · refine mm_icmp_ne 132 dX12_measure_111 (by decide) (fun h => absurd h38 h) (fun _ => ?_)
        refine mm_aload_n dX12_measure_114 rfl rfl ?_
        refine s_getS (q := 1121) (r := some a) (b := a) (ci := 12) (k := 24) in_X12 rfl (by decide) rfl kF_X12_72 dX12_measure_115 rfl hs (by decide) hn (by decide) rfl rfl ?_
        refine mm_iload_n dX12_measure_118 rfl ?_
        obtain ⟨j39, hj40, hb41, hl42, hx⟩ := ix_some hx
        refine s_zald (a := 1121) sa_1121 hn hj40 hb41 na_1121 dX12_measure_119 ?_
        refine b_if hx (fun h43 hx => ?_) (fun h43 hx => ?_)
        · refine mm_if_eq 132 dX12_measure_120 (by decide) (fun _ => ?_) (fun h => absurd h43 h)
          exact e_X12_measure_132 hst hZ hn hs ih hk168 hx
        · refine mm_if_eq 132 dX12_measure_120 (by decide) (fun h => absurd h h43) (fun _ => ?_)
          refine mm_aload_n dX12_measure_123 rfl rfl ?_
          refine mm_iload_n dX12_measure_124 rfl ?_
          refine mm_iload_n dX12_measure_125 rfl ?_
          obtain ⟨v52, hc51, hx⟩ := b1_some hx
          refine mm_callV3 (a := a) (ci := 12) wM_X12_packedBytes kM_X12_727 wI_X12_packedBytes wS_X12_packedBytes dX12_measure_126 (e_X12_packedBytes hst hZ hn hs hc51) (mem_obj hs (by decide)) (sh_ltn hs (by decide) hn) rfl rfl rfl (Nat.le_of_ble_eq_true rfl) (by omega) (by omega) (fun v9 S9 hq => ?_)
          obtain ⟨rfl, rfl⟩ := hq
          refine ⟨fun h => ⟨h, rfl⟩, ?_⟩
          refine mm_goto 133 dX12_measure_129 (by decide) ?_
          exact e_X12_measure_133 hst hZ hn hs ih hk168 hx
      · refine mm_icmp_ne 132 dX12_measure_111 (by decide) (fun _ => ?_) (fun h => absurd h h38)
        exact e_X12_measure_132 hst hZ hn hs ih hk168 hx
    · refine mm_icmp_ge 168 dX12_measure_96 (by decide) (fun _ => ?_) (fun h => absurd (Int32.not_lt.mp h29) h)
      refine mm_fewer [some (.ref a), some (.int v1_), some (.int v2_), none, none] (few_ok (bs := [true, true, true, false, false]) rfl) ?_
      exact hk168 _ hx
set_option maxHeartbeats 4000000 in
set_option maxRecDepth 100000 in
theorem e_X12_measure_197 {g : mm_G} {l : Launch} (hst : l.stackTraces = false) {Z : Nat → Nat → Option Nat} (hZ : HZ Z) {n : Nat} (hn : 1186 ≤ n) {z : Bool} {d : Nat} {U : Nat} {a : Nat} (hs : sh a = 12) {k170 : Int32 → Int32 → Option (SG)} {k203 : Int32 → Option (SG)} {v1_ : Int32} {v2_ : Int32} {v3_ : Int32} {σ : SG} {σ' : SG} (hk170 : ∀ (v2_ : Int32) (v3_ : Int32), k170 v2_ v3_ = some σ' → mm_V g l RX12 "measure" cX12_measure 5 none [] (d + 3) 0 0 (mm_nt (fun v S' => v = none ∧ S' = (mem Z σ', n, z))) 170 [some (.ref a), some (.int v1_), some (.int v2_), some (.int v3_), none] [] (mem Z σ, n, z) 0 0) (hk203 : ∀ (v2_ : Int32), k203 v2_ = some σ' → mm_V g l RX12 "measure" cX12_measure 5 none [] (d + 3) 0 0 (mm_nt (fun v S' => v = none ∧ S' = (mem Z σ', n, z))) 203 [some (.ref a), some (.int v1_), some (.int v2_), none, none] [] (mem Z σ, n, z) 0 0) (hx : x_X12_measure_197 U a k170 k203 v1_ v2_ v3_ σ = some σ') : mm_V g l RX12 "measure" cX12_measure 5 none [] (d + 3) 0 0 (mm_nt (fun v S' => v = none ∧ S' = (mem Z σ', n, z))) 197 [some (.ref a), some (.int v1_), some (.int v2_), some (.int v3_), none] [] (mem Z σ, n, z) 0 0 := by
  unfold x_X12_measure_197 at hx
  refine mm_iinc (v := v3_ + 1) [some (.ref a), some (.int v1_), some (.int v2_), some (.int (v3_ + 1)), none] dX12_measure_197 rfl rfl (by decide) rfl ?_
  refine mm_goto 170 dX12_measure_200 (by decide) ?_
  exact hk170 _ _ hx
set_option maxHeartbeats 4000000 in
set_option maxRecDepth 100000 in
theorem e_X12_measure_L170 {g : mm_G} {l : Launch} (hst : l.stackTraces = false) {Z : Nat → Nat → Option Nat} (hZ : HZ Z) {n : Nat} (hn : 1186 ≤ n) {z : Bool} {d : Nat} {U : Nat} {a : Nat} (hs : sh a = 12) {k203 : Int32 → Option (SG)} {v1_ : Int32} {σ : SG} {σ' : SG} (hk203 : ∀ (v2_ : Int32), k203 v2_ = some σ' → mm_V g l RX12 "measure" cX12_measure 5 none [] (d + 3) 0 0 (mm_nt (fun v S' => v = none ∧ S' = (mem Z σ', n, z))) 203 [some (.ref a), some (.int v1_), some (.int v2_), none, none] [] (mem Z σ, n, z) 0 0) : ∀ (U1 : Nat) (v2_ : Int32) (v3_ : Int32), x_X12_measure_L170 U a k203 v1_ σ U1 v2_ v3_ = some σ' → mm_V g l RX12 "measure" cX12_measure 5 none [] (d + 3) 0 0 (mm_nt (fun v S' => v = none ∧ S' = (mem Z σ', n, z))) 170 [some (.ref a), some (.int v1_), some (.int v2_), some (.int v3_), none] [] (mem Z σ, n, z) 0 0 := by
  intro U1
  induction U1 with
  | zero => intro v2_ v3_ hx; exact absurd hx (by simp [x_X12_measure_L170])
  | succ U1 ih =>
    intro v2_ v3_ hx
    rw [x_X12_measure_L170] at hx
    refine mm_iload_n dX12_measure_170 rfl ?_
    refine mm_aload_n dX12_measure_171 rfl rfl ?_
    refine s_getI (r := some a) (b := a) (ci := 12) (k := 83) in_X12 rfl (by decide) rfl kF_X12_599 dX12_measure_172 rfl hs (by decide) hn (by decide) rfl ?_
    refine b_if hx (fun h54 hx => ?_) (fun h54 hx => ?_)
    · refine mm_icmp_ge 203 dX12_measure_175 (by decide) (fun h => absurd h (Int32.not_le.mpr h54)) (fun _ => ?_)
      refine mm_aload_n dX12_measure_178 rfl rfl ?_
      refine s_getS (q := 1172) (r := some a) (b := a) (ci := 12) (k := 98) in_X12 rfl (by decide) rfl kF_X12_226 dX12_measure_179 rfl hs (by decide) hn (by decide) rfl rfl ?_
      refine mm_iload_n dX12_measure_182 rfl ?_
      obtain ⟨j55, hj56, hb57, hl58, hx⟩ := ix_some hx
      refine s_iald (a := 1172) sa_1172 hn hj56 hb57 na_1172 dX12_measure_183 ?_
      refine mm_iload_n dX12_measure_184 rfl ?_
      refine b_if hx (fun h59 hx => ?_) (fun h59 hx => ?_)
      · refine mm_icmp_ne 197 dX12_measure_185 (by decide) (fun h => absurd h59 h) (fun _ => ?_)
        refine mm_iload_n dX12_measure_188 rfl ?_
        refine mm_aload_n dX12_measure_189 rfl rfl ?_
        refine s_getS (q := 1174) (r := some a) (b := a) (ci := 12) (k := 100) in_X12 rfl (by decide) rfl kF_X12_232 dX12_measure_190 rfl hs (by decide) hn (by decide) rfl rfl ?_
        refine mm_iload_n dX12_measure_193 rfl ?_
        obtain ⟨j60, hj61, hb62, hl63, hx⟩ := ix_some hx
        refine s_iald (a := 1174) sa_1174 hn hj61 hb62 na_1174 dX12_measure_194 ?_
        refine mm_iadd dX12_measure_195 ?_
        refine mm_istore_n [some (.ref a), some (.int v1_), some (.int (v2_ + (sI σ 1174 j60))), some (.int v3_), none] dX12_measure_196 (by decide) rfl ?_
        exact e_X12_measure_197 hst hZ hn hs ih hk203 hx
      · refine mm_icmp_ne 197 dX12_measure_185 (by decide) (fun _ => ?_) (fun h => absurd h h59)
        exact e_X12_measure_197 hst hZ hn hs ih hk203 hx
    · refine mm_icmp_ge 203 dX12_measure_175 (by decide) (fun _ => ?_) (fun h => absurd (Int32.not_lt.mp h54) h)
      refine mm_fewer [some (.ref a), some (.int v1_), some (.int v2_), none, none] (few_ok (bs := [true, true, true, false, false]) rfl) ?_
      exact hk203 _ hx
set_option maxHeartbeats 4000000 in
set_option maxRecDepth 100000 in
theorem e_X12_measure_L7 {g : mm_G} {l : Launch} (hst : l.stackTraces = false) {Z : Nat → Nat → Option Nat} (hZ : HZ Z) {n : Nat} (hn : 1186 ≤ n) {z : Bool} {d : Nat} {U : Nat} {a : Nat} (hs : sh a = 12) {σ' : SG} : ∀ (U1 : Nat) (v1_ : Int32) (σ : SG), x_X12_measure_L7 U a U1 v1_ σ = some σ' → mm_V g l RX12 "measure" cX12_measure 5 none [] (d + 3) 0 0 (mm_nt (fun v S' => v = none ∧ S' = (mem Z σ', n, z))) 7 [some (.ref a), some (.int v1_), none, none, none] [] (mem Z σ, n, z) 0 0 := by
  intro U1
  induction U1 with
  | zero => intro v1_ σ hx; exact absurd hx (by simp [x_X12_measure_L7])
  | succ U1 ih =>
    intro v1_ σ hx
    rw [x_X12_measure_L7] at hx
    refine mm_iload_n dX12_measure_7 rfl ?_
    refine b_if hx (fun h1 hx => ?_) (fun h1 hx => ?_)
    · refine mm_if_lt 216 dX12_measure_8 (by decide) (fun _ => ?_) (fun h => absurd h1 h)
      refine mm_vret dX12_measure_216 rfl ?_ (by omega) (by omega)
      obtain rfl := fin1 hx
      exact ⟨rfl, rfl⟩
    · refine mm_if_lt 216 dX12_measure_8 (by decide) (fun h => absurd h h1) (fun _ => ?_)
      refine mm_iconst (v := 0) dX12_measure_11 (by decide) ?_
      refine mm_istore_n [some (.ref a), some (.int v1_), some (.int 0), none, none] dX12_measure_12 (by decide) rfl ?_
      refine mm_iconst (v := 0) dX12_measure_13 (by decide) ?_
      refine mm_istore_n [some (.ref a), some (.int v1_), some (.int 0), some (.int 0), none] dX12_measure_14 (by decide) rfl ?_
      refine e_X12_measure_L15 hst hZ hn hs ?_ _ _ _ hx
      · intro w24 hx
        refine mm_bipush (v := 60) dX12_measure_70 (by decide) ?_
        refine mm_aload_n dX12_measure_72 rfl rfl ?_
        refine s_getI (r := some a) (b := a) (ci := 12) (k := 80) in_X12 rfl (by decide) rfl kF_X12_587 dX12_measure_73 rfl hs (by decide) hn (by decide) rfl ?_
        refine mm_imul dX12_measure_76 ?_
        refine mm_istore_n [some (.ref a), some (.int v1_), some (.int w24), some (.int (60 * (sI σ a 80))), none] dX12_measure_77 (by decide) rfl ?_
        refine e_X12_measure_L78 hst hZ hn hs ?_ _ _ _ hx
        · intro w53 hx
          refine mm_iconst (v := 0) dX12_measure_168 (by decide) ?_
          refine mm_istore_n [some (.ref a), some (.int v1_), some (.int w53), some (.int 0), none] dX12_measure_169 (by decide) rfl ?_
          refine e_X12_measure_L170 hst hZ hn hs ?_ _ _ _ hx
          · intro w64 hx
            refine mm_aload_n dX12_measure_203 rfl rfl ?_
            refine s_getS (q := 1163) (r := some a) (b := a) (ci := 12) (k := 89) in_X12 rfl (by decide) rfl kF_X12_199 dX12_measure_204 rfl hs (by decide) hn (by decide) rfl rfl ?_
            refine mm_iload_n dX12_measure_207 rfl ?_
            refine mm_iload_n dX12_measure_208 rfl ?_
            obtain ⟨j65, hj66, hb67, hl68, hx⟩ := ix_some hx
            refine s_iast (a := 1163) (v := w64) sa_1163 hn hj66 hb67 na_1163 dX12_measure_209 hx (fun σ69 hx => ?_)
            refine mm_iinc (v := v1_ - 1) [some (.ref a), some (.int (v1_ - 1)), some (.int w64), none, none] dX12_measure_210 rfl (iincM1 _) (by decide) rfl ?_
            refine mm_goto 7 dX12_measure_213 (by decide) ?_
            refine mm_fewer [some (.ref a), some (.int (v1_ - 1)), none, none, none] (few_ok (bs := [true, true, false, false, false]) rfl) ?_
            exact ih _ _ hx
set_option maxHeartbeats 4000000 in
set_option maxRecDepth 100000 in
theorem e_X12_measure {g : mm_G} {l : Launch} (hst : l.stackTraces = false) {Z : Nat → Nat → Option Nat} (hZ : HZ Z) {n : Nat} (hn : 1186 ≤ n) {z : Bool} {d : Nat} {U : Nat} {a : Nat} (hs : sh a = 12) {σ : SG} {σ' : SG} (hx : x_X12_measure U a σ = some σ') : mm_Cm g l yX12_measure (.code yX12_measure cX12_measure 5 none) (d + 3) 0 0 [.ref a] (mem Z σ, n, z) (fun v S' => v = none ∧ S' = (mem Z σ', n, z)) := by
  refine mm_Cm_of hst (by decide) (Nat.le_of_ble_eq_true rfl) ?_
  show mm_V g l RX12 "measure" cX12_measure 5 none [] (d + 3) 0 0 (mm_nt (fun v S' => v = none ∧ S' = (mem Z σ', n, z))) 0 [some (.ref a), none, none, none, none] [] (mem Z σ, n, z) 0 0
  unfold x_X12_measure at hx
  refine mm_aload_n dX12_measure_0 rfl rfl ?_
  refine s_getI (r := some a) (b := a) (ci := 12) (k := 81) in_X12 rfl (by decide) rfl kF_X12_593 dX12_measure_1 rfl hs (by decide) hn (by decide) rfl ?_
  refine mm_iconst (v := 1) dX12_measure_4 (by decide) ?_
  refine mm_isub dX12_measure_5 ?_
  refine mm_istore_n [some (.ref a), some (.int ((sI σ a 81) - 1)), none, none, none] dX12_measure_6 (by decide) rfl ?_
  refine e_X12_measure_L7 hst hZ hn hs _ _ _ hx
set_option maxHeartbeats 4000000 in
set_option maxRecDepth 100000 in
theorem e_X12_goInto {g : mm_G} {l : Launch} (hst : l.stackTraces = false) {Z : Nat → Nat → Option Nat} (hZ : HZ Z) {n : Nat} (hn : 1186 ≤ n) {z : Bool} {d : Nat} {a : Nat} (hs : sh a = 12) {p0 : Int32} {σ : SG} {σ' : SG} (hx : x_X12_goInto a p0 σ = some σ') : mm_Cm g l yX12_goInto (.code yX12_goInto cX12_goInto 2 none) (d) 0 0 [.ref a, .int p0] (mem Z σ, n, z) (fun v S' => v = none ∧ S' = (mem Z σ', n, z)) := by
  refine mm_Cm_of hst (by decide) (Nat.le_of_ble_eq_true rfl) ?_
  show mm_V g l RX12 "goInto" cX12_goInto 2 none [] (d) 0 0 (mm_nt (fun v S' => v = none ∧ S' = (mem Z σ', n, z))) 0 [some (.ref a), some (.int p0)] [] (mem Z σ, n, z) 0 0
  unfold x_X12_goInto at hx
  refine mm_aload_n dX12_goInto_0 rfl rfl ?_
  refine s_getS (q := 1176) (r := some a) (b := a) (ci := 12) (k := 102) in_X12 rfl (by decide) rfl kF_X12_238 dX12_goInto_1 rfl hs (by decide) hn (by decide) rfl rfl ?_
  refine mm_aload_n dX12_goInto_4 rfl rfl ?_
  refine s_getI (r := some a) (b := a) (ci := 12) (k := 106) in_X12 rfl (by decide) rfl kF_X12_650 dX12_goInto_5 rfl hs (by decide) hn (by decide) rfl ?_
  refine mm_iload_n dX12_goInto_8 rfl ?_
  obtain ⟨j1, hj2, hb3, hl4, hx⟩ := ix_some hx
  refine s_iast (a := 1176) (v := p0) sa_1176 hn hj2 hb3 na_1176 dX12_goInto_9 hx (fun σ5 hx => ?_)
  refine mm_aload_n dX12_goInto_10 rfl rfl ?_
  refine s_getS (q := 1179) (r := some a) (b := a) (ci := 12) (k := 105) in_X12 rfl (by decide) rfl kF_X12_247 dX12_goInto_11 rfl hs (by decide) hn (by decide) rfl rfl ?_
  refine mm_aload_n dX12_goInto_14 rfl rfl ?_
  refine s_getI (r := some a) (b := a) (ci := 12) (k := 106) in_X12 rfl (by decide) rfl kF_X12_650 dX12_goInto_15 rfl hs (by decide) hn (by decide) rfl ?_
  refine mm_iconst (v := 0) dX12_goInto_18 (by decide) ?_
  obtain ⟨j6, hj7, hb8, hl9, hx⟩ := ix_some hx
  refine s_iast (a := 1179) (v := 0) sa_1179 hn hj7 hb8 na_1179 dX12_goInto_19 hx (fun σ10 hx => ?_)
  refine mm_aload_n dX12_goInto_20 rfl rfl ?_
  refine s_getS (q := 1178) (r := some a) (b := a) (ci := 12) (k := 104) in_X12 rfl (by decide) rfl kF_X12_244 dX12_goInto_21 rfl hs (by decide) hn (by decide) rfl rfl ?_
  refine mm_aload_n dX12_goInto_24 rfl rfl ?_
  refine s_getI (r := some a) (b := a) (ci := 12) (k := 106) in_X12 rfl (by decide) rfl kF_X12_650 dX12_goInto_25 rfl hs (by decide) hn (by decide) rfl ?_
  refine mm_iconst (v := 0) dX12_goInto_28 (by decide) ?_
  obtain ⟨j11, hj12, hb13, hl14, hx⟩ := ix_some hx
  refine s_iast (a := 1178) (v := 0) sa_1178 hn hj12 hb13 na_1178 dX12_goInto_29 hx (fun σ15 hx => ?_)
  refine mm_aload_n dX12_goInto_30 rfl rfl ?_
  refine mm_dup dX12_goInto_31 rfl ?_
  refine s_getI (r := some a) (b := a) (ci := 12) (k := 106) in_X12 rfl (by decide) rfl kF_X12_650 dX12_goInto_32 rfl hs (by decide) hn (by decide) rfl ?_
  refine mm_iconst (v := 1) dX12_goInto_35 (by decide) ?_
  refine mm_iadd dX12_goInto_36 ?_
  refine s_putI (v := (sI σ15 a 106) + 1) (r := some a) (b := a) (ci := 12) (k := 106) in_X12 rfl (by decide) rfl tyX12_ok nmX12 rfl kF_X12_650 dX12_goInto_37 (mm_fit_int _) rfl hs (by decide) hn (by decide) rfl hx (fun σ16 hx => ?_)
  refine mm_vret dX12_goInto_40 rfl ?_ (by omega) (by omega)
  obtain rfl := fin1 hx
  exact ⟨rfl, rfl⟩
set_option maxHeartbeats 4000000 in
set_option maxRecDepth 100000 in
theorem e_X12_putUnknown_L22 {g : mm_G} {l : Launch} (hst : l.stackTraces = false) {Z : Nat → Nat → Option Nat} (hZ : HZ Z) {n : Nat} (hn : 1186 ≤ n) {z : Bool} {d : Nat} {U : Nat} {a : Nat} (hs : sh a = 12) {k55 : SG → Option (SG)} {v1_ : Int32} {v2_ : Int32} {σ' : SG} (hk55 : ∀ (σ8 : SG), k55 σ8 = some σ' → mm_V g l RX12 "putUnknown" cX12_putUnknown 4 none [] (d + 1) 0 0 (mm_nt (fun v S' => v = none ∧ S' = (mem Z σ', n, z))) 55 [some (.ref a), some (.int v1_), some (.int v2_), none] [] (mem Z σ8, n, z) 0 0) : ∀ (U1 : Nat) (v3_ : Int32) (σ : SG), x_X12_putUnknown_L22 U a k55 v1_ v2_ U1 v3_ σ = some σ' → mm_V g l RX12 "putUnknown" cX12_putUnknown 4 none [] (d + 1) 0 0 (mm_nt (fun v S' => v = none ∧ S' = (mem Z σ', n, z))) 22 [some (.ref a), some (.int v1_), some (.int v2_), some (.int v3_)] [] (mem Z σ, n, z) 0 0 := by
  intro U1
  induction U1 with
  | zero => intro v3_ σ hx; exact absurd hx (by simp [x_X12_putUnknown_L22])
  | succ U1 ih =>
    intro v3_ σ hx
    rw [x_X12_putUnknown_L22] at hx
    refine mm_iload_n dX12_putUnknown_22 rfl ?_
    refine mm_aload_n dX12_putUnknown_23 rfl rfl ?_
    refine s_getS (q := 1174) (r := some a) (b := a) (ci := 12) (k := 100) in_X12 rfl (by decide) rfl kF_X12_232 dX12_putUnknown_24 rfl hs (by decide) hn (by decide) rfl rfl ?_
    refine mm_iload_n dX12_putUnknown_27 rfl ?_
    obtain ⟨j7, hj8, hb9, hl10, hx⟩ := ix_some hx
    refine s_iald (a := 1174) sa_1174 hn hj8 hb9 na_1174 dX12_putUnknown_28 ?_
    refine b_if hx (fun h11 hx => ?_) (fun h11 hx => ?_)
    · refine mm_icmp_ge 55 dX12_putUnknown_29 (by decide) (fun h => absurd h (Int32.not_le.mpr h11)) (fun _ => ?_)
      refine mm_aload_n dX12_putUnknown_32 rfl rfl ?_
      refine mm_aload_n dX12_putUnknown_33 rfl rfl ?_
      refine s_getS (q := 1175) (r := some a) (b := a) (ci := 12) (k := 101) in_X12 rfl (by decide) rfl kF_X12_235 dX12_putUnknown_34 rfl hs (by decide) hn (by decide) rfl rfl ?_
      refine mm_aload_n dX12_putUnknown_37 rfl rfl ?_
      refine s_getS (q := 1173) (r := some a) (b := a) (ci := 12) (k := 99) in_X12 rfl (by decide) rfl kF_X12_229 dX12_putUnknown_38 rfl hs (by decide) hn (by decide) rfl rfl ?_
      refine mm_iload_n dX12_putUnknown_41 rfl ?_
      obtain ⟨j12, hj13, hb14, hl15, hx⟩ := ix_some hx
      refine s_iald (a := 1173) sa_1173 hn hj13 hb14 na_1173 dX12_putUnknown_42 ?_
      refine mm_iload_n dX12_putUnknown_43 rfl ?_
      refine mm_iadd dX12_putUnknown_44 ?_
      obtain ⟨j16, hj17, hb18, hl19, hx⟩ := ix_some hx
      refine s_iald (a := 1175) sa_1175 hn hj17 hb18 na_1175 dX12_putUnknown_45 ?_
      obtain ⟨σ21, hc20, hx⟩ := b1_some hx
      refine mm_callV3 (a := a) (ci := 12) wM_X12_put kM_X12_704 wI_X12_put wS_X12_put dX12_putUnknown_46 (e_X12_put hst hZ hn hs hc20) (mem_obj hs (by decide)) (sh_ltn hs (by decide) hn) rfl rfl rfl (Nat.le_of_ble_eq_true rfl) (by omega) (by omega) (fun v9 S9 hq => ?_)
      obtain ⟨rfl, rfl⟩ := hq
      refine ⟨fun h => ⟨h, rfl⟩, ?_⟩
      refine mm_iinc (v := v3_ + 1) [some (.ref a), some (.int v1_), some (.int v2_), some (.int (v3_ + 1))] dX12_putUnknown_49 rfl rfl (by decide) rfl ?_
      refine mm_goto 22 dX12_putUnknown_52 (by decide) ?_
      exact ih _ _ hx
    · refine mm_icmp_ge 55 dX12_putUnknown_29 (by decide) (fun _ => ?_) (fun h => absurd (Int32.not_lt.mp h11) h)
      refine mm_fewer [some (.ref a), some (.int v1_), some (.int v2_), none] (few_ok (bs := [true, true, true, false]) rfl) ?_
      exact hk55  _ hx
set_option maxHeartbeats 4000000 in
set_option maxRecDepth 100000 in
theorem e_X12_putUnknown_55 {g : mm_G} {l : Launch} (hst : l.stackTraces = false) {Z : Nat → Nat → Option Nat} (hZ : HZ Z) {n : Nat} (hn : 1186 ≤ n) {z : Bool} {d : Nat} {U : Nat} {a : Nat} (hs : sh a = 12) {k2 : Int32 → SG → Option (SG)} {v1_ : Int32} {v2_ : Int32} {σ : SG} {σ' : SG} (hk2 : ∀ (v2_ : Int32) (σ8 : SG), k2 v2_ σ8 = some σ' → mm_V g l RX12 "putUnknown" cX12_putUnknown 4 none [] (d + 1) 0 0 (mm_nt (fun v S' => v = none ∧ S' = (mem Z σ', n, z))) 2 [some (.ref a), some (.int v1_), some (.int v2_), none] [] (mem Z σ8, n, z) 0 0) (hx : x_X12_putUnknown_55 U a k2 v1_ v2_ σ = some σ') : mm_V g l RX12 "putUnknown" cX12_putUnknown 4 none [] (d + 1) 0 0 (mm_nt (fun v S' => v = none ∧ S' = (mem Z σ', n, z))) 55 [some (.ref a), some (.int v1_), some (.int v2_), none] [] (mem Z σ, n, z) 0 0 := by
  unfold x_X12_putUnknown_55 at hx
  refine mm_iinc (v := v2_ + 1) [some (.ref a), some (.int v1_), some (.int (v2_ + 1)), none] dX12_putUnknown_55 rfl rfl (by decide) rfl ?_
  refine mm_goto 2 dX12_putUnknown_58 (by decide) ?_
  exact hk2 _ _ hx
set_option maxHeartbeats 4000000 in
set_option maxRecDepth 100000 in
theorem e_X12_putUnknown_L2 {g : mm_G} {l : Launch} (hst : l.stackTraces = false) {Z : Nat → Nat → Option Nat} (hZ : HZ Z) {n : Nat} (hn : 1186 ≤ n) {z : Bool} {d : Nat} {U : Nat} {a : Nat} (hs : sh a = 12) {v1_ : Int32} {σ' : SG} : ∀ (U1 : Nat) (v2_ : Int32) (σ : SG), x_X12_putUnknown_L2 U a v1_ U1 v2_ σ = some σ' → mm_V g l RX12 "putUnknown" cX12_putUnknown 4 none [] (d + 1) 0 0 (mm_nt (fun v S' => v = none ∧ S' = (mem Z σ', n, z))) 2 [some (.ref a), some (.int v1_), some (.int v2_), none] [] (mem Z σ, n, z) 0 0 := by
  intro U1
  induction U1 with
  | zero => intro v2_ σ hx; exact absurd hx (by simp [x_X12_putUnknown_L2])
  | succ U1 ih =>
    intro v2_ σ hx
    rw [x_X12_putUnknown_L2] at hx
    refine mm_iload_n dX12_putUnknown_2 rfl ?_
    refine mm_aload_n dX12_putUnknown_3 rfl rfl ?_
    refine s_getI (r := some a) (b := a) (ci := 12) (k := 83) in_X12 rfl (by decide) rfl kF_X12_599 dX12_putUnknown_4 rfl hs (by decide) hn (by decide) rfl ?_
    refine b_if hx (fun h1 hx => ?_) (fun h1 hx => ?_)
    · refine mm_icmp_ge 61 dX12_putUnknown_7 (by decide) (fun h => absurd h (Int32.not_le.mpr h1)) (fun _ => ?_)
      refine mm_aload_n dX12_putUnknown_10 rfl rfl ?_
      refine s_getS (q := 1172) (r := some a) (b := a) (ci := 12) (k := 98) in_X12 rfl (by decide) rfl kF_X12_226 dX12_putUnknown_11 rfl hs (by decide) hn (by decide) rfl rfl ?_
      refine mm_iload_n dX12_putUnknown_14 rfl ?_
      obtain ⟨j2, hj3, hb4, hl5, hx⟩ := ix_some hx
      refine s_iald (a := 1172) sa_1172 hn hj3 hb4 na_1172 dX12_putUnknown_15 ?_
      refine mm_iload_n dX12_putUnknown_16 rfl ?_
      refine b_if hx (fun h6 hx => ?_) (fun h6 hx => ?_)
      · refine mm_icmp_ne 55 dX12_putUnknown_17 (by decide) (fun h => absurd h6 h) (fun _ => ?_)
        refine mm_iconst (v := 0) dX12_putUnknown_20 (by decide) ?_
        refine mm_istore_n [some (.ref a), some (.int v1_), some (.int v2_), some (.int 0)] dX12_putUnknown_21 (by decide) rfl ?_
        refine e_X12_putUnknown_L22 hst hZ hn hs ?_ _ _ _ hx
        · intro  σ22 hx
          exact e_X12_putUnknown_55 hst hZ hn hs ih hx
      · refine mm_icmp_ne 55 dX12_putUnknown_17 (by decide) (fun _ => ?_) (fun h => absurd h h6)
        exact e_X12_putUnknown_55 hst hZ hn hs ih hx
    · refine mm_icmp_ge 61 dX12_putUnknown_7 (by decide) (fun _ => ?_) (fun h => absurd (Int32.not_lt.mp h1) h)
      refine mm_vret dX12_putUnknown_61 rfl ?_ (by omega) (by omega)
      obtain rfl := fin1 hx
      exact ⟨rfl, rfl⟩
set_option maxHeartbeats 4000000 in
set_option maxRecDepth 100000 in
theorem e_X12_putUnknown {g : mm_G} {l : Launch} (hst : l.stackTraces = false) {Z : Nat → Nat → Option Nat} (hZ : HZ Z) {n : Nat} (hn : 1186 ≤ n) {z : Bool} {d : Nat} {U : Nat} {a : Nat} (hs : sh a = 12) {p0 : Int32} {σ : SG} {σ' : SG} (hx : x_X12_putUnknown U a p0 σ = some σ') : mm_Cm g l yX12_putUnknown (.code yX12_putUnknown cX12_putUnknown 4 none) (d + 1) 0 0 [.ref a, .int p0] (mem Z σ, n, z) (fun v S' => v = none ∧ S' = (mem Z σ', n, z)) := by
  refine mm_Cm_of hst (by decide) (Nat.le_of_ble_eq_true rfl) ?_
  show mm_V g l RX12 "putUnknown" cX12_putUnknown 4 none [] (d + 1) 0 0 (mm_nt (fun v S' => v = none ∧ S' = (mem Z σ', n, z))) 0 [some (.ref a), some (.int p0), none, none] [] (mem Z σ, n, z) 0 0
  unfold x_X12_putUnknown at hx
  refine mm_iconst (v := 0) dX12_putUnknown_0 (by decide) ?_
  refine mm_istore_n [some (.ref a), some (.int p0), some (.int 0), none] dX12_putUnknown_1 (by decide) rfl ?_
  refine e_X12_putUnknown_L2 hst hZ hn hs _ _ _ hx
set_option maxHeartbeats 4000000 in
set_option maxRecDepth 100000 in
theorem e_X12_nextRow_47 {g : mm_G} {l : Launch} (hst : l.stackTraces = false) {Z : Nat → Nat → Option Nat} (hZ : HZ Z) {n : Nat} (hn : 1186 ≤ n) {z : Bool} {d : Nat} {U : Nat} {a : Nat} (hs : sh a = 12) {k3 : Int32 → Option (Int32)} {v1_ : Int32} {v2_ : Int32} {v4_ : Int32} {σ : SG} {r : Int32} (hk3 : ∀ (v4_ : Int32), k3 v4_ = some r → mm_V g l RX12 "nextRow" cX12_nextRow 5 (some .int) [] (d) 0 0 (mm_nt (fun v S' => v = some (.int r) ∧ S' = (mem Z σ, n, z))) 3 [some (.ref a), some (.int v1_), some (.int v2_), none, some (.int v4_)] [] (mem Z σ, n, z) 0 0) (hx : x_X12_nextRow_47 U a k3 v1_ v2_ v4_ σ = some r) : mm_V g l RX12 "nextRow" cX12_nextRow 5 (some .int) [] (d) 0 0 (mm_nt (fun v S' => v = some (.int r) ∧ S' = (mem Z σ, n, z))) 47 [some (.ref a), some (.int v1_), some (.int v2_), none, some (.int v4_)] [] (mem Z σ, n, z) 0 0 := by
  unfold x_X12_nextRow_47 at hx
  refine mm_iinc (v := v4_ + 1) [some (.ref a), some (.int v1_), some (.int v2_), none, some (.int (v4_ + 1))] dX12_nextRow_47 rfl rfl (by decide) rfl ?_
  refine mm_goto 3 dX12_nextRow_50 (by decide) ?_
  exact hk3 _ hx
set_option maxHeartbeats 4000000 in
set_option maxRecDepth 100000 in
theorem e_X12_nextRow_L3 {g : mm_G} {l : Launch} (hst : l.stackTraces = false) {Z : Nat → Nat → Option Nat} (hZ : HZ Z) {n : Nat} (hn : 1186 ≤ n) {z : Bool} {d : Nat} {U : Nat} {a : Nat} (hs : sh a = 12) {v1_ : Int32} {v2_ : Int32} {σ : SG} {r : Int32} : ∀ (U1 : Nat) (v4_ : Int32), x_X12_nextRow_L3 U a v1_ v2_ σ U1 v4_ = some r → mm_V g l RX12 "nextRow" cX12_nextRow 5 (some .int) [] (d) 0 0 (mm_nt (fun v S' => v = some (.int r) ∧ S' = (mem Z σ, n, z))) 3 [some (.ref a), some (.int v1_), some (.int v2_), none, some (.int v4_)] [] (mem Z σ, n, z) 0 0 := by
  intro U1
  induction U1 with
  | zero => intro v4_ hx; exact absurd hx (by simp [x_X12_nextRow_L3])
  | succ U1 ih =>
    intro v4_ hx
    rw [x_X12_nextRow_L3] at hx
    refine mm_iload dX12_nextRow_3 rfl ?_
    refine mm_aload_n dX12_nextRow_5 rfl rfl ?_
    refine s_getI (r := some a) (b := a) (ci := 12) (k := 82) in_X12 rfl (by decide) rfl kF_X12_596 dX12_nextRow_6 rfl hs (by decide) hn (by decide) rfl ?_
    refine b_if hx (fun h1 hx => ?_) (fun h1 hx => ?_)
    · refine mm_icmp_ge 53 dX12_nextRow_9 (by decide) (fun h => absurd h (Int32.not_le.mpr h1)) (fun _ => ?_)
      refine mm_aload_n dX12_nextRow_12 rfl rfl ?_
      refine s_getS (q := 1171) (r := some a) (b := a) (ci := 12) (k := 97) in_X12 rfl (by decide) rfl kF_X12_223 dX12_nextRow_13 rfl hs (by decide) hn (by decide) rfl rfl ?_
      refine mm_iload dX12_nextRow_16 rfl ?_
      obtain ⟨j2, hj3, hb4, hl5, hx⟩ := ix_some hx
      refine s_zald (a := 1171) sa_1171 hn hj3 hb4 na_1171 dX12_nextRow_18 ?_
      refine b_if hx (fun h6 hx => ?_) (fun h6 hx => ?_)
      · refine mm_if_eq 47 dX12_nextRow_19 (by decide) (fun _ => ?_) (fun h => absurd h6 h)
        exact e_X12_nextRow_47 hst hZ hn hs ih hx
      · refine mm_if_eq 47 dX12_nextRow_19 (by decide) (fun h => absurd h h6) (fun _ => ?_)
        refine mm_aload_n dX12_nextRow_22 rfl rfl ?_
        refine s_getS (q := 1165) (r := some a) (b := a) (ci := 12) (k := 91) in_X12 rfl (by decide) rfl kF_X12_205 dX12_nextRow_23 rfl hs (by decide) hn (by decide) rfl rfl ?_
        refine mm_iload dX12_nextRow_26 rfl ?_
        obtain ⟨j7, hj8, hb9, hl10, hx⟩ := ix_some hx
        refine s_iald (a := 1165) sa_1165 hn hj8 hb9 na_1165 dX12_nextRow_28 ?_
        refine mm_iload_n dX12_nextRow_29 rfl ?_
        refine b_if hx (fun h11 hx => ?_) (fun h11 hx => ?_)
        · refine mm_icmp_ne 47 dX12_nextRow_30 (by decide) (fun h => absurd h11 h) (fun _ => ?_)
          refine mm_aload_n dX12_nextRow_33 rfl rfl ?_
          refine s_getS (q := 1166) (r := some a) (b := a) (ci := 12) (k := 92) in_X12 rfl (by decide) rfl kF_X12_208 dX12_nextRow_34 rfl hs (by decide) hn (by decide) rfl rfl ?_
          refine mm_iload dX12_nextRow_37 rfl ?_
          obtain ⟨j12, hj13, hb14, hl15, hx⟩ := ix_some hx
          refine s_iald (a := 1166) sa_1166 hn hj13 hb14 na_1166 dX12_nextRow_39 ?_
          refine mm_iload_n dX12_nextRow_40 rfl ?_
          refine b_if hx (fun h16 hx => ?_) (fun h16 hx => ?_)
          · refine mm_icmp_ne 47 dX12_nextRow_41 (by decide) (fun h => absurd h16 h) (fun _ => ?_)
            refine mm_iload dX12_nextRow_44 rfl ?_
            refine mm_iret dX12_nextRow_46 rfl rfl ?_ (by omega) (by omega)
            obtain rfl := fin1 hx
            exact ⟨rfl, rfl⟩
          · refine mm_icmp_ne 47 dX12_nextRow_41 (by decide) (fun _ => ?_) (fun h => absurd h h16)
            exact e_X12_nextRow_47 hst hZ hn hs ih hx
        · refine mm_icmp_ne 47 dX12_nextRow_30 (by decide) (fun _ => ?_) (fun h => absurd h h11)
          exact e_X12_nextRow_47 hst hZ hn hs ih hx
    · refine mm_icmp_ge 53 dX12_nextRow_9 (by decide) (fun _ => ?_) (fun h => absurd (Int32.not_lt.mp h1) h)
      refine mm_iconst (v := (-1)) dX12_nextRow_53 (by decide) ?_
      refine mm_iret dX12_nextRow_54 rfl rfl ?_ (by omega) (by omega)
      obtain rfl := fin1 hx
      exact ⟨rfl, rfl⟩
set_option maxHeartbeats 4000000 in
set_option maxRecDepth 100000 in
theorem e_X12_nextRow {g : mm_G} {l : Launch} (hst : l.stackTraces = false) {Z : Nat → Nat → Option Nat} (hZ : HZ Z) {n : Nat} (hn : 1186 ≤ n) {z : Bool} {d : Nat} {U : Nat} {a : Nat} (hs : sh a = 12) {p0 : Int32} {p1 : Int32} {p2 : Int32} {σ : SG} {r : Int32} (hx : x_X12_nextRow U a p0 p1 p2 σ = some r) : mm_Cm g l yX12_nextRow (.code yX12_nextRow cX12_nextRow 5 (some .int)) (d) 0 0 [.ref a, .int p0, .int p1, .int p2] (mem Z σ, n, z) (fun v S' => v = some (.int r) ∧ S' = (mem Z σ, n, z)) := by
  refine mm_Cm_of hst (by decide) (Nat.le_of_ble_eq_true rfl) ?_
  show mm_V g l RX12 "nextRow" cX12_nextRow 5 (some .int) [] (d) 0 0 (mm_nt (fun v S' => v = some (.int r) ∧ S' = (mem Z σ, n, z))) 0 [some (.ref a), some (.int p0), some (.int p1), some (.int p2), none] [] (mem Z σ, n, z) 0 0
  unfold x_X12_nextRow at hx
  refine mm_iload_n dX12_nextRow_0 rfl ?_
  refine mm_istore [some (.ref a), some (.int p0), some (.int p1), some (.int p2), some (.int p2)] dX12_nextRow_1 (by decide) rfl ?_
  refine mm_fewer [some (.ref a), some (.int p0), some (.int p1), none, some (.int p2)] (few_ok (bs := [true, true, true, false, true]) rfl) ?_
  refine e_X12_nextRow_L3 hst hZ hn hs _ _ hx
set_option maxHeartbeats 4000000 in
set_option maxRecDepth 100000 in
theorem e_X12_putOne_47 {g : mm_G} {l : Launch} (hst : l.stackTraces = false) {Z : Nat → Nat → Option Nat} (hZ : HZ Z) {n : Nat} (hn : 1186 ≤ n) {z : Bool} {d : Nat} {U : Nat} {a : Nat} (hs : sh a = 12) {k23 : Int32 → SG → Option (SG)} {v2_ : Int64} {v4_ : Int32} {v5_ : Int32} {s0_ : Int32} {s1_ : Int32} {σ : SG} {σ' : SG} (hk23 : ∀ (v5_ : Int32) (σ8 : SG), k23 v5_ σ8 = some σ' → mm_V g l RX12 "putOne" cX12_putOne 6 none [] (d + 2) 0 0 (mm_nt (fun v S' => v = none ∧ S' = (mem Z σ', n, z))) 23 [some (.ref a), none, some (.long v2_), none, some (.int v4_), some (.int v5_)] [] (mem Z σ8, n, z) 0 0) (hx : x_X12_putOne_47 U a k23 v2_ v4_ v5_ s0_ s1_ σ = some σ') : mm_V g l RX12 "putOne" cX12_putOne 6 none [] (d + 2) 0 0 (mm_nt (fun v S' => v = none ∧ S' = (mem Z σ', n, z))) 47 [some (.ref a), none, some (.long v2_), none, some (.int v4_), some (.int v5_)] [.int s0_, .int s1_] (mem Z σ, n, z) 0 0 := by
  unfold x_X12_putOne_47 at hx
  refine b_if hx (fun h9 hx => ?_) (fun h9 hx => ?_)
  · refine mm_icmp_ge 72 dX12_putOne_47 (by decide) (fun h => absurd h (Int32.not_le.mpr h9)) (fun _ => ?_)
    refine mm_aload_n dX12_putOne_50 rfl rfl ?_
    refine mm_lload_n dX12_putOne_51 rfl ?_
    refine mm_bipush (v := 8) dX12_putOne_52 (by decide) ?_
    refine mm_iload dX12_putOne_54 rfl ?_
    refine mm_imul dX12_putOne_56 ?_
    refine mm_lushr dX12_putOne_57 ?_
    refine mm_l2i dX12_putOne_58 ?_
    refine mm_sipush (v := 255) dX12_putOne_59 (by decide) ?_
    refine mm_iand dX12_putOne_62 ?_
    obtain ⟨σ11, hc10, hx⟩ := b1_some hx
    refine mm_callV3 (a := a) (ci := 12) wM_X12_put kM_X12_704 wI_X12_put wS_X12_put dX12_putOne_63 (e_X12_put hst hZ hn hs hc10) (mem_obj hs (by decide)) (sh_ltn hs (by decide) hn) rfl rfl rfl (Nat.le_of_ble_eq_true rfl) (by omega) (by omega) (fun v9 S9 hq => ?_)
    obtain ⟨rfl, rfl⟩ := hq
    refine ⟨fun h => ⟨h, rfl⟩, ?_⟩
    refine mm_iinc (v := v5_ + 1) [some (.ref a), none, some (.long v2_), none, some (.int v4_), some (.int (v5_ + 1))] dX12_putOne_66 rfl rfl (by decide) rfl ?_
    refine mm_goto 23 dX12_putOne_69 (by decide) ?_
    exact hk23 _ _ hx
  · refine mm_icmp_ge 72 dX12_putOne_47 (by decide) (fun _ => ?_) (fun h => absurd (Int32.not_lt.mp h9) h)
    refine mm_vret dX12_putOne_72 rfl ?_ (by omega) (by omega)
    obtain rfl := fin1 hx
    exact ⟨rfl, rfl⟩
set_option maxHeartbeats 4000000 in
set_option maxRecDepth 100000 in
theorem e_X12_putOne_L23 {g : mm_G} {l : Launch} (hst : l.stackTraces = false) {Z : Nat → Nat → Option Nat} (hZ : HZ Z) {n : Nat} (hn : 1186 ≤ n) {z : Bool} {d : Nat} {U : Nat} {a : Nat} (hs : sh a = 12) {v2_ : Int64} {v4_ : Int32} {σ' : SG} : ∀ (U1 : Nat) (v5_ : Int32) (σ : SG), x_X12_putOne_L23 U a v2_ v4_ U1 v5_ σ = some σ' → mm_V g l RX12 "putOne" cX12_putOne 6 none [] (d + 2) 0 0 (mm_nt (fun v S' => v = none ∧ S' = (mem Z σ', n, z))) 23 [some (.ref a), none, some (.long v2_), none, some (.int v4_), some (.int v5_)] [] (mem Z σ, n, z) 0 0 := by
  intro U1
  induction U1 with
  | zero => intro v5_ σ hx; exact absurd hx (by simp [x_X12_putOne_L23])
  | succ U1 ih =>
    intro v5_ σ hx
    rw [x_X12_putOne_L23] at hx
    refine mm_iload dX12_putOne_23 rfl ?_
    refine mm_iload dX12_putOne_25 rfl ?_
    refine mm_iconst (v := 1) dX12_putOne_27 (by decide) ?_
    refine b_if hx (fun h8 hx => ?_) (fun h8 hx => ?_)
    · refine mm_icmp_ne 36 dX12_putOne_28 (by decide) (fun h => absurd h8 h) (fun _ => ?_)
      refine mm_bipush (v := 8) dX12_putOne_31 (by decide) ?_
      refine mm_goto 47 dX12_putOne_33 (by decide) ?_
      exact e_X12_putOne_47 hst hZ hn hs ih hx
    · refine mm_icmp_ne 36 dX12_putOne_28 (by decide) (fun _ => ?_) (fun h => absurd h h8)
      refine mm_iload dX12_putOne_36 rfl ?_
      refine mm_iconst (v := 5) dX12_putOne_38 (by decide) ?_
      refine b_if hx (fun h12 hx => ?_) (fun h12 hx => ?_)
      · refine mm_icmp_ne 46 dX12_putOne_39 (by decide) (fun h => absurd h12 h) (fun _ => ?_)
        refine mm_iconst (v := 4) dX12_putOne_42 (by decide) ?_
        refine mm_goto 47 dX12_putOne_43 (by decide) ?_
        exact e_X12_putOne_47 hst hZ hn hs ih hx
      · refine mm_icmp_ne 46 dX12_putOne_39 (by decide) (fun _ => ?_) (fun h => absurd h h12)
        refine mm_iconst (v := 0) dX12_putOne_46 (by decide) ?_
        exact e_X12_putOne_47 hst hZ hn hs ih hx
set_option maxHeartbeats 4000000 in
set_option maxRecDepth 100000 in
theorem e_X12_putOne_20 {g : mm_G} {l : Launch} (hst : l.stackTraces = false) {Z : Nat → Nat → Option Nat} (hZ : HZ Z) {n : Nat} (hn : 1186 ≤ n) {z : Bool} {d : Nat} {U : Nat} {a : Nat} (hs : sh a = 12) {v2_ : Int64} {v4_ : Int32} {σ : SG} {σ' : SG} (hx : x_X12_putOne_20 U a v2_ v4_ σ = some σ') : mm_V g l RX12 "putOne" cX12_putOne 6 none [] (d + 2) 0 0 (mm_nt (fun v S' => v = none ∧ S' = (mem Z σ', n, z))) 20 [some (.ref a), none, some (.long v2_), none, some (.int v4_), none] [] (mem Z σ, n, z) 0 0 := by
  unfold x_X12_putOne_20 at hx
  refine mm_iconst (v := 0) dX12_putOne_20 (by decide) ?_
  refine mm_istore [some (.ref a), none, some (.long v2_), none, some (.int v4_), some (.int 0)] dX12_putOne_21 (by decide) rfl ?_
  refine e_X12_putOne_L23 hst hZ hn hs _ _ _ hx
set_option maxHeartbeats 4000000 in
set_option maxRecDepth 100000 in
theorem e_X12_putOne {g : mm_G} {l : Launch} (hst : l.stackTraces = false) {Z : Nat → Nat → Option Nat} (hZ : HZ Z) {n : Nat} (hn : 1186 ≤ n) {z : Bool} {d : Nat} {U : Nat} {a : Nat} (hs : sh a = 12) {p0 : Int32} {p1 : Int64} {σ : SG} {σ' : SG} (hx : x_X12_putOne U a p0 p1 σ = some σ') : mm_Cm g l yX12_putOne (.code yX12_putOne cX12_putOne 6 none) (d + 2) 0 0 [.ref a, .int p0, .long p1] (mem Z σ, n, z) (fun v S' => v = none ∧ S' = (mem Z σ', n, z)) := by
  refine mm_Cm_of hst (by decide) (Nat.le_of_ble_eq_true rfl) ?_
  show mm_V g l RX12 "putOne" cX12_putOne 6 none [] (d + 2) 0 0 (mm_nt (fun v S' => v = none ∧ S' = (mem Z σ', n, z))) 0 [some (.ref a), some (.int p0), some (.long p1), none, none, none] [] (mem Z σ, n, z) 0 0
  unfold x_X12_putOne at hx
  refine mm_iload_n dX12_putOne_0 rfl ?_
  obtain ⟨v2, hc1, hx⟩ := b1_some hx
  refine mm_callS wM_X12_kindOf kM_X12_653 wT_X12_kindOf dX12_putOne_1 (e_X12_kindOf hst hZ hn hc1) rfl rfl (Nat.le_of_ble_eq_true rfl) (by omega) (by omega) (fun v9 S9 hq => ?_)
  obtain ⟨rfl, rfl⟩ := hq
  refine ⟨fun h => ⟨h, rfl⟩, ?_⟩
  refine mm_istore [some (.ref a), some (.int p0), some (.long p1), none, some (.int v2), none] dX12_putOne_4 (by decide) rfl ?_
  refine mm_iload dX12_putOne_6 rfl ?_
  refine b_if hx (fun h3 hx => ?_) (fun h3 hx => ?_)
  · refine mm_if_ne 20 dX12_putOne_8 (by decide) (fun h => absurd h3 h) (fun _ => ?_)
    refine mm_aload_n dX12_putOne_11 rfl rfl ?_
    refine mm_iload_n dX12_putOne_12 rfl ?_
    refine mm_lload_n dX12_putOne_13 rfl ?_
    obtain ⟨v5, hc4, hx⟩ := b1_some hx
    refine mm_callS wM_X12_varintOf kM_X12_707 wT_X12_varintOf dX12_putOne_14 (e_X12_varintOf hst hZ hn hc4) rfl rfl (Nat.le_of_ble_eq_true rfl) (by omega) (by omega) (fun v9 S9 hq => ?_)
    obtain ⟨rfl, rfl⟩ := hq
    refine ⟨fun h => ⟨h, rfl⟩, ?_⟩
    obtain ⟨σ7, hc6, hx⟩ := b1_some hx
    refine mm_callV3 (a := a) (ci := 12) wM_X12_putVarint kM_X12_713 wI_X12_putVarint wS_X12_putVarint dX12_putOne_17 (e_X12_putVarint hst hZ hn hs hc6) (mem_obj hs (by decide)) (sh_ltn hs (by decide) hn) rfl rfl rfl (Nat.le_of_ble_eq_true rfl) (by omega) (by omega) (fun v9 S9 hq => ?_)
    obtain ⟨rfl, rfl⟩ := hq
    refine ⟨fun h => ⟨h, rfl⟩, ?_⟩
    refine mm_fewer [some (.ref a), none, some (.long p1), none, some (.int v2), none] (few_ok (bs := [true, false, true, false, true, false]) rfl) ?_
    exact e_X12_putOne_20 hst hZ hn hs hx
  · refine mm_if_ne 20 dX12_putOne_8 (by decide) (fun _ => ?_) (fun h => absurd h h3)
    refine mm_fewer [some (.ref a), none, some (.long p1), none, some (.int v2), none] (few_ok (bs := [true, false, true, false, true, false]) rfl) ?_
    exact e_X12_putOne_20 hst hZ hn hs hx
set_option maxHeartbeats 4000000 in
set_option maxRecDepth 100000 in
theorem e_X12_putPacked_89 {g : mm_G} {l : Launch} (hst : l.stackTraces = false) {Z : Nat → Nat → Option Nat} (hZ : HZ Z) {n : Nat} (hn : 1186 ≤ n) {z : Bool} {d : Nat} {U : Nat} {a : Nat} (hs : sh a = 12) {k31 : Int32 → SG → Option (SG)} {v1_ : Int32} {v2_ : Int32} {v4_ : Int32} {σ : SG} {σ' : SG} (hk31 : ∀ (v4_ : Int32) (σ8 : SG), k31 v4_ σ8 = some σ' → mm_V g l RX12 "putPacked" cX12_putPacked 5 none [] (d + 3) 0 0 (mm_nt (fun v S' => v = none ∧ S' = (mem Z σ', n, z))) 31 [some (.ref a), some (.int v1_), some (.int v2_), none, some (.int v4_)] [] (mem Z σ8, n, z) 0 0) (hx : x_X12_putPacked_89 U a k31 v1_ v2_ v4_ σ = some σ') : mm_V g l RX12 "putPacked" cX12_putPacked 5 none [] (d + 3) 0 0 (mm_nt (fun v S' => v = none ∧ S' = (mem Z σ', n, z))) 89 [some (.ref a), some (.int v1_), some (.int v2_), none, some (.int v4_)] [] (mem Z σ, n, z) 0 0 := by
  unfold x_X12_putPacked_89 at hx
  refine mm_iinc (v := v4_ + 1) [some (.ref a), some (.int v1_), some (.int v2_), none, some (.int (v4_ + 1))] dX12_putPacked_89 rfl rfl (by decide) rfl ?_
  refine mm_goto 31 dX12_putPacked_92 (by decide) ?_
  exact hk31 _ _ hx
set_option maxHeartbeats 4000000 in
set_option maxRecDepth 100000 in
theorem e_X12_putPacked_L31 {g : mm_G} {l : Launch} (hst : l.stackTraces = false) {Z : Nat → Nat → Option Nat} (hZ : HZ Z) {n : Nat} (hn : 1186 ≤ n) {z : Bool} {d : Nat} {U : Nat} {a : Nat} (hs : sh a = 12) {v1_ : Int32} {v2_ : Int32} {σ' : SG} : ∀ (U1 : Nat) (v4_ : Int32) (σ : SG), x_X12_putPacked_L31 U a v1_ v2_ U1 v4_ σ = some σ' → mm_V g l RX12 "putPacked" cX12_putPacked 5 none [] (d + 3) 0 0 (mm_nt (fun v S' => v = none ∧ S' = (mem Z σ', n, z))) 31 [some (.ref a), some (.int v1_), some (.int v2_), none, some (.int v4_)] [] (mem Z σ, n, z) 0 0 := by
  intro U1
  induction U1 with
  | zero => intro v4_ σ hx; exact absurd hx (by simp [x_X12_putPacked_L31])
  | succ U1 ih =>
    intro v4_ σ hx
    rw [x_X12_putPacked_L31] at hx
    refine mm_iload dX12_putPacked_31 rfl ?_
    refine mm_aload_n dX12_putPacked_33 rfl rfl ?_
    refine s_getI (r := some a) (b := a) (ci := 12) (k := 82) in_X12 rfl (by decide) rfl kF_X12_596 dX12_putPacked_34 rfl hs (by decide) hn (by decide) rfl ?_
    refine b_if hx (fun h10 hx => ?_) (fun h10 hx => ?_)
    · refine mm_icmp_ge 95 dX12_putPacked_37 (by decide) (fun h => absurd h (Int32.not_le.mpr h10)) (fun _ => ?_)
      refine mm_aload_n dX12_putPacked_40 rfl rfl ?_
      refine s_getS (q := 1171) (r := some a) (b := a) (ci := 12) (k := 97) in_X12 rfl (by decide) rfl kF_X12_223 dX12_putPacked_41 rfl hs (by decide) hn (by decide) rfl rfl ?_
      refine mm_iload dX12_putPacked_44 rfl ?_
      obtain ⟨j11, hj12, hb13, hl14, hx⟩ := ix_some hx
      refine s_zald (a := 1171) sa_1171 hn hj12 hb13 na_1171 dX12_putPacked_46 ?_
      refine b_if hx (fun h15 hx => ?_) (fun h15 hx => ?_)
      · refine mm_if_eq 89 dX12_putPacked_47 (by decide) (fun _ => ?_) (fun h => absurd h15 h)
        exact e_X12_putPacked_89 hst hZ hn hs ih hx
      · refine mm_if_eq 89 dX12_putPacked_47 (by decide) (fun h => absurd h h15) (fun _ => ?_)
        refine mm_aload_n dX12_putPacked_50 rfl rfl ?_
        refine s_getS (q := 1165) (r := some a) (b := a) (ci := 12) (k := 91) in_X12 rfl (by decide) rfl kF_X12_205 dX12_putPacked_51 rfl hs (by decide) hn (by decide) rfl rfl ?_
        refine mm_iload dX12_putPacked_54 rfl ?_
        obtain ⟨j16, hj17, hb18, hl19, hx⟩ := ix_some hx
        refine s_iald (a := 1165) sa_1165 hn hj17 hb18 na_1165 dX12_putPacked_56 ?_
        refine mm_iload_n dX12_putPacked_57 rfl ?_
        refine b_if hx (fun h20 hx => ?_) (fun h20 hx => ?_)
        · refine mm_icmp_ne 89 dX12_putPacked_58 (by decide) (fun h => absurd h20 h) (fun _ => ?_)
          refine mm_aload_n dX12_putPacked_61 rfl rfl ?_
          refine s_getS (q := 1166) (r := some a) (b := a) (ci := 12) (k := 92) in_X12 rfl (by decide) rfl kF_X12_208 dX12_putPacked_62 rfl hs (by decide) hn (by decide) rfl rfl ?_
          refine mm_iload dX12_putPacked_65 rfl ?_
          obtain ⟨j21, hj22, hb23, hl24, hx⟩ := ix_some hx
          refine s_iald (a := 1166) sa_1166 hn hj22 hb23 na_1166 dX12_putPacked_67 ?_
          refine mm_iload_n dX12_putPacked_68 rfl ?_
          refine b_if hx (fun h25 hx => ?_) (fun h25 hx => ?_)
          · refine mm_icmp_ne 89 dX12_putPacked_69 (by decide) (fun h => absurd h25 h) (fun _ => ?_)
            refine mm_aload_n dX12_putPacked_72 rfl rfl ?_
            refine mm_aload_n dX12_putPacked_73 rfl rfl ?_
            refine s_getS (q := 1118) (r := some a) (b := a) (ci := 12) (k := 21) in_X12 rfl (by decide) rfl kF_X12_62 dX12_putPacked_74 rfl hs (by decide) hn (by decide) rfl rfl ?_
            refine mm_iload_n dX12_putPacked_77 rfl ?_
            obtain ⟨j26, hj27, hb28, hl29, hx⟩ := ix_some hx
            refine s_iald (a := 1118) sa_1118 hn hj27 hb28 na_1118 dX12_putPacked_78 ?_
            refine mm_aload_n dX12_putPacked_79 rfl rfl ?_
            refine s_getS (q := 1167) (r := some a) (b := a) (ci := 12) (k := 93) in_X12 rfl (by decide) rfl kF_X12_211 dX12_putPacked_80 rfl hs (by decide) hn (by decide) rfl rfl ?_
            refine mm_iload dX12_putPacked_83 rfl ?_
            obtain ⟨j30, hj31, hb32, hl33, hx⟩ := ix_some hx
            refine s_lald (a := 1167) sa_1167 hn hj31 hb32 na_1167 dX12_putPacked_85 ?_
            obtain ⟨σ35, hc34, hx⟩ := b1_some hx
            refine mm_callV3 (a := a) (ci := 12) wM_X12_putOne kM_X12_730 wI_X12_putOne wS_X12_putOne dX12_putPacked_86 (e_X12_putOne hst hZ hn hs hc34) (mem_obj hs (by decide)) (sh_ltn hs (by decide) hn) rfl rfl rfl (Nat.le_of_ble_eq_true rfl) (by omega) (by omega) (fun v9 S9 hq => ?_)
            obtain ⟨rfl, rfl⟩ := hq
            refine ⟨fun h => ⟨h, rfl⟩, ?_⟩
            exact e_X12_putPacked_89 hst hZ hn hs ih hx
          · refine mm_icmp_ne 89 dX12_putPacked_69 (by decide) (fun _ => ?_) (fun h => absurd h h25)
            exact e_X12_putPacked_89 hst hZ hn hs ih hx
        · refine mm_icmp_ne 89 dX12_putPacked_58 (by decide) (fun _ => ?_) (fun h => absurd h h20)
          exact e_X12_putPacked_89 hst hZ hn hs ih hx
    · refine mm_icmp_ge 95 dX12_putPacked_37 (by decide) (fun _ => ?_) (fun h => absurd (Int32.not_lt.mp h10) h)
      refine mm_vret dX12_putPacked_95 rfl ?_ (by omega) (by omega)
      obtain rfl := fin1 hx
      exact ⟨rfl, rfl⟩
set_option maxHeartbeats 4000000 in
set_option maxRecDepth 100000 in
theorem e_X12_putPacked {g : mm_G} {l : Launch} (hst : l.stackTraces = false) {Z : Nat → Nat → Option Nat} (hZ : HZ Z) {n : Nat} (hn : 1186 ≤ n) {z : Bool} {d : Nat} {U : Nat} {a : Nat} (hs : sh a = 12) {p0 : Int32} {p1 : Int32} {σ : SG} {σ' : SG} (hx : x_X12_putPacked U a p0 p1 σ = some σ') : mm_Cm g l yX12_putPacked (.code yX12_putPacked cX12_putPacked 5 none) (d + 3) 0 0 [.ref a, .int p0, .int p1] (mem Z σ, n, z) (fun v S' => v = none ∧ S' = (mem Z σ', n, z)) := by
  refine mm_Cm_of hst (by decide) (Nat.le_of_ble_eq_true rfl) ?_
  show mm_V g l RX12 "putPacked" cX12_putPacked 5 none [] (d + 3) 0 0 (mm_nt (fun v S' => v = none ∧ S' = (mem Z σ', n, z))) 0 [some (.ref a), some (.int p0), some (.int p1), none, none] [] (mem Z σ, n, z) 0 0
  unfold x_X12_putPacked at hx
  refine mm_aload_n dX12_putPacked_0 rfl rfl ?_
  refine mm_iload_n dX12_putPacked_1 rfl ?_
  refine mm_iload_n dX12_putPacked_2 rfl ?_
  obtain ⟨v2, hc1, hx⟩ := b1_some hx
  refine mm_callV3 (a := a) (ci := 12) wM_X12_packedBytes kM_X12_727 wI_X12_packedBytes wS_X12_packedBytes dX12_putPacked_3 (e_X12_packedBytes hst hZ hn hs hc1) (mem_obj hs (by decide)) (sh_ltn hs (by decide) hn) rfl rfl rfl (Nat.le_of_ble_eq_true rfl) (by omega) (by omega) (fun v9 S9 hq => ?_)
  obtain ⟨rfl, rfl⟩ := hq
  refine ⟨fun h => ⟨h, rfl⟩, ?_⟩
  refine mm_istore_n [some (.ref a), some (.int p0), some (.int p1), some (.int v2), none] dX12_putPacked_6 (by decide) rfl ?_
  refine mm_iload_n dX12_putPacked_7 rfl ?_
  refine b_if hx (fun h3 hx => ?_) (fun h3 hx => ?_)
  · refine mm_if_ne 12 dX12_putPacked_8 (by decide) (fun h => absurd h3 h) (fun _ => ?_)
    refine mm_vret dX12_putPacked_11 rfl ?_ (by omega) (by omega)
    obtain rfl := fin1 hx
    exact ⟨rfl, rfl⟩
  · refine mm_if_ne 12 dX12_putPacked_8 (by decide) (fun _ => ?_) (fun h => absurd h h3)
    refine mm_aload_n dX12_putPacked_12 rfl rfl ?_
    refine mm_aload_n dX12_putPacked_13 rfl rfl ?_
    refine mm_iload_n dX12_putPacked_14 rfl ?_
    refine mm_iconst (v := 2) dX12_putPacked_15 (by decide) ?_
    obtain ⟨v5, hc4, hx⟩ := b1_some hx
    refine mm_callV3 (a := a) (ci := 12) wM_X12_tagOf kM_X12_720 wI_X12_tagOf wS_X12_tagOf dX12_putPacked_16 (e_X12_tagOf hst hZ hn hs hc4) (mem_obj hs (by decide)) (sh_ltn hs (by decide) hn) rfl rfl rfl (Nat.le_of_ble_eq_true rfl) (by omega) (by omega) (fun v9 S9 hq => ?_)
    obtain ⟨rfl, rfl⟩ := hq
    refine ⟨fun h => ⟨h, rfl⟩, ?_⟩
    obtain ⟨σ7, hc6, hx⟩ := b1_some hx
    refine mm_callV3 (a := a) (ci := 12) wM_X12_putVarint kM_X12_713 wI_X12_putVarint wS_X12_putVarint dX12_putPacked_19 (e_X12_putVarint hst hZ hn hs hc6) (mem_obj hs (by decide)) (sh_ltn hs (by decide) hn) rfl rfl rfl (Nat.le_of_ble_eq_true rfl) (by omega) (by omega) (fun v9 S9 hq => ?_)
    obtain ⟨rfl, rfl⟩ := hq
    refine ⟨fun h => ⟨h, rfl⟩, ?_⟩
    refine mm_aload_n dX12_putPacked_22 rfl rfl ?_
    refine mm_iload_n dX12_putPacked_23 rfl ?_
    refine mm_i2l dX12_putPacked_24 ?_
    obtain ⟨σ9, hc8, hx⟩ := b1_some hx
    refine mm_callV3 (a := a) (ci := 12) wM_X12_putVarint kM_X12_713 wI_X12_putVarint wS_X12_putVarint dX12_putPacked_25 (e_X12_putVarint hst hZ hn hs hc8) (mem_obj hs (by decide)) (sh_ltn hs (by decide) hn) rfl rfl rfl (Nat.le_of_ble_eq_true rfl) (by omega) (by omega) (fun v9 S9 hq => ?_)
    obtain ⟨rfl, rfl⟩ := hq
    refine ⟨fun h => ⟨h, rfl⟩, ?_⟩
    refine mm_iconst (v := 0) dX12_putPacked_28 (by decide) ?_
    refine mm_istore [some (.ref a), some (.int p0), some (.int p1), some (.int v2), some (.int 0)] dX12_putPacked_29 (by decide) rfl ?_
    refine mm_fewer [some (.ref a), some (.int p0), some (.int p1), none, some (.int 0)] (few_ok (bs := [true, true, true, false, true]) rfl) ?_
    refine e_X12_putPacked_L31 hst hZ hn hs _ _ _ hx
set_option maxHeartbeats 4000000 in
set_option maxRecDepth 100000 in
theorem e_X12_encodeStep_L240 {g : mm_G} {l : Launch} (hst : l.stackTraces = false) {Z : Nat → Nat → Option Nat} (hZ : HZ Z) {n : Nat} (hn : 1186 ≤ n) {z : Bool} {d : Nat} {U : Nat} {a : Nat} (hs : sh a = 12) {v4_ : Int32} {σ' : SG} : ∀ (U1 : Nat) (v5_ : Int32) (σ : SG), x_X12_encodeStep_L240 U a v4_ U1 v5_ σ = some σ' → mm_V g l RX12 "encodeStep" cX12_encodeStep 6 none [] (d + 4) 0 0 (mm_nt (fun v S' => v = none ∧ S' = (mem Z σ', n, z))) 240 [some (.ref a), none, none, none, some (.int v4_), some (.int v5_)] [] (mem Z σ, n, z) 0 0 := by
  intro U1
  induction U1 with
  | zero => intro v5_ σ hx; exact absurd hx (by simp [x_X12_encodeStep_L240])
  | succ U1 ih =>
    intro v5_ σ hx
    rw [x_X12_encodeStep_L240] at hx
    refine mm_iload dX12_encodeStep_240 rfl ?_
    refine mm_aload_n dX12_encodeStep_242 rfl rfl ?_
    refine s_getS (q := 1169) (r := some a) (b := a) (ci := 12) (k := 95) in_X12 rfl (by decide) rfl kF_X12_217 dX12_encodeStep_243 rfl hs (by decide) hn (by decide) rfl rfl ?_
    refine mm_iload dX12_encodeStep_246 rfl ?_
    obtain ⟨j99, hj100, hb101, hl102, hx⟩ := ix_some hx
    refine s_iald (a := 1169) sa_1169 hn hj100 hb101 na_1169 dX12_encodeStep_248 ?_
    refine b_if hx (fun h103 hx => ?_) (fun h103 hx => ?_)
    · refine mm_icmp_ge 277 dX12_encodeStep_249 (by decide) (fun h => absurd h (Int32.not_le.mpr h103)) (fun _ => ?_)
      refine mm_aload_n dX12_encodeStep_252 rfl rfl ?_
      refine mm_aload_n dX12_encodeStep_253 rfl rfl ?_
      refine s_getS (q := 1175) (r := some a) (b := a) (ci := 12) (k := 101) in_X12 rfl (by decide) rfl kF_X12_235 dX12_encodeStep_254 rfl hs (by decide) hn (by decide) rfl rfl ?_
      refine mm_aload_n dX12_encodeStep_257 rfl rfl ?_
      refine s_getS (q := 1168) (r := some a) (b := a) (ci := 12) (k := 94) in_X12 rfl (by decide) rfl kF_X12_214 dX12_encodeStep_258 rfl hs (by decide) hn (by decide) rfl rfl ?_
      refine mm_iload dX12_encodeStep_261 rfl ?_
      obtain ⟨j104, hj105, hb106, hl107, hx⟩ := ix_some hx
      refine s_iald (a := 1168) sa_1168 hn hj105 hb106 na_1168 dX12_encodeStep_263 ?_
      refine mm_iload dX12_encodeStep_264 rfl ?_
      refine mm_iadd dX12_encodeStep_266 ?_
      obtain ⟨j108, hj109, hb110, hl111, hx⟩ := ix_some hx
      refine s_iald (a := 1175) sa_1175 hn hj109 hb110 na_1175 dX12_encodeStep_267 ?_
      obtain ⟨σ113, hc112, hx⟩ := b1_some hx
      refine mm_callV3 (a := a) (ci := 12) wM_X12_put kM_X12_704 wI_X12_put wS_X12_put dX12_encodeStep_268 (e_X12_put hst hZ hn hs hc112) (mem_obj hs (by decide)) (sh_ltn hs (by decide) hn) rfl rfl rfl (Nat.le_of_ble_eq_true rfl) (by omega) (by omega) (fun v9 S9 hq => ?_)
      obtain ⟨rfl, rfl⟩ := hq
      refine ⟨fun h => ⟨h, rfl⟩, ?_⟩
      refine mm_iinc (v := v5_ + 1) [some (.ref a), none, none, none, some (.int v4_), some (.int (v5_ + 1))] dX12_encodeStep_271 rfl rfl (by decide) rfl ?_
      refine mm_goto 240 dX12_encodeStep_274 (by decide) ?_
      exact ih _ _ hx
    · refine mm_icmp_ge 277 dX12_encodeStep_249 (by decide) (fun _ => ?_) (fun h => absurd (Int32.not_lt.mp h103) h)
      refine mm_vret dX12_encodeStep_277 rfl ?_ (by omega) (by omega)
      obtain rfl := fin1 hx
      exact ⟨rfl, rfl⟩
set_option maxHeartbeats 4000000 in
set_option maxRecDepth 100000 in
theorem e_X12_encodeStep_98 {g : mm_G} {l : Launch} (hst : l.stackTraces = false) {Z : Nat → Nat → Option Nat} (hZ : HZ Z) {n : Nat} (hn : 1186 ≤ n) {z : Bool} {d : Nat} {U : Nat} {a : Nat} (hs : sh a = 12) {v1_ : Int32} {v3_ : Int32} {v4_ : Int32} {σ : SG} {σ' : SG} (hx : x_X12_encodeStep_98 U a v1_ v3_ v4_ σ = some σ') : mm_V g l RX12 "encodeStep" cX12_encodeStep 6 none [] (d + 4) 0 0 (mm_nt (fun v S' => v = none ∧ S' = (mem Z σ', n, z))) 98 [some (.ref a), some (.int v1_), none, some (.int v3_), some (.int v4_), none] [] (mem Z σ, n, z) 0 0 := by
  unfold x_X12_encodeStep_98 at hx
  refine mm_iload dX12_encodeStep_98 rfl ?_
  refine mm_iconst (v := (-1)) dX12_encodeStep_100 (by decide) ?_
  refine b_if hx (fun h35 hx => ?_) (fun h35 hx => ?_)
  · refine mm_icmp_ne 122 dX12_encodeStep_101 (by decide) (fun h => absurd h35 h) (fun _ => ?_)
    refine mm_aload_n dX12_encodeStep_104 rfl rfl ?_
    refine s_getS (q := 1179) (r := some a) (b := a) (ci := 12) (k := 105) in_X12 rfl (by decide) rfl kF_X12_247 dX12_encodeStep_105 rfl hs (by decide) hn (by decide) rfl rfl ?_
    refine mm_iload_n dX12_encodeStep_108 rfl ?_
    refine mm_dup2 dX12_encodeStep_109 rfl rfl ?_
    obtain ⟨j36, hj37, hb38, hl39, hx⟩ := ix_some hx
    refine s_iald (a := 1179) sa_1179 hn hj37 hb38 na_1179 dX12_encodeStep_110 ?_
    refine mm_iconst (v := 1) dX12_encodeStep_111 (by decide) ?_
    refine mm_iadd dX12_encodeStep_112 ?_
    obtain ⟨j40, hj41, hb42, hl43, hx⟩ := ix_some hx
    refine s_iast (a := 1179) (v := (sI σ 1179 j36) + 1) sa_1179 hn hj41 hb42 na_1179 dX12_encodeStep_113 hx (fun σ44 hx => ?_)
    refine mm_aload_n dX12_encodeStep_114 rfl rfl ?_
    refine s_getS (q := 1178) (r := some a) (b := a) (ci := 12) (k := 104) in_X12 rfl (by decide) rfl kF_X12_244 dX12_encodeStep_115 rfl hs (by decide) hn (by decide) rfl rfl ?_
    refine mm_iload_n dX12_encodeStep_118 rfl ?_
    refine mm_iconst (v := 0) dX12_encodeStep_119 (by decide) ?_
    obtain ⟨j45, hj46, hb47, hl48, hx⟩ := ix_some hx
    refine s_iast (a := 1178) (v := 0) sa_1178 hn hj46 hb47 na_1178 dX12_encodeStep_120 hx (fun σ49 hx => ?_)
    refine mm_vret dX12_encodeStep_121 rfl ?_ (by omega) (by omega)
    obtain rfl := fin1 hx
    exact ⟨rfl, rfl⟩
  · refine mm_icmp_ne 122 dX12_encodeStep_101 (by decide) (fun _ => ?_) (fun h => absurd h h35)
    refine mm_aload_n dX12_encodeStep_122 rfl rfl ?_
    refine s_getS (q := 1178) (r := some a) (b := a) (ci := 12) (k := 104) in_X12 rfl (by decide) rfl kF_X12_244 dX12_encodeStep_123 rfl hs (by decide) hn (by decide) rfl rfl ?_
    refine mm_iload_n dX12_encodeStep_126 rfl ?_
    refine mm_iload dX12_encodeStep_127 rfl ?_
    refine mm_iconst (v := 1) dX12_encodeStep_129 (by decide) ?_
    refine mm_iadd dX12_encodeStep_130 ?_
    obtain ⟨j50, hj51, hb52, hl53, hx⟩ := ix_some hx
    refine s_iast (a := 1178) (v := v4_ + 1) sa_1178 hn hj51 hb52 na_1178 dX12_encodeStep_131 hx (fun σ54 hx => ?_)
    refine mm_aload_n dX12_encodeStep_132 rfl rfl ?_
    refine mm_aload_n dX12_encodeStep_133 rfl rfl ?_
    refine mm_iload_n dX12_encodeStep_134 rfl ?_
    refine mm_aload_n dX12_encodeStep_135 rfl rfl ?_
    refine s_getS (q := 1118) (r := some a) (b := a) (ci := 12) (k := 21) in_X12 rfl (by decide) rfl kF_X12_62 dX12_encodeStep_136 rfl hs (by decide) hn (by decide) rfl rfl ?_
    refine mm_iload_n dX12_encodeStep_139 rfl ?_
    obtain ⟨j55, hj56, hb57, hl58, hx⟩ := ix_some hx
    refine s_iald (a := 1118) sa_1118 hn hj56 hb57 na_1118 dX12_encodeStep_140 ?_
    obtain ⟨v60, hc59, hx⟩ := b1_some hx
    refine mm_callS wM_X12_kindOf kM_X12_653 wT_X12_kindOf dX12_encodeStep_141 (e_X12_kindOf hst hZ hn hc59) rfl rfl (Nat.le_of_ble_eq_true rfl) (by omega) (by omega) (fun v9 S9 hq => ?_)
    obtain ⟨rfl, rfl⟩ := hq
    refine ⟨fun h => ⟨h, rfl⟩, ?_⟩
    obtain ⟨v62, hc61, hx⟩ := b1_some hx
    refine mm_callV3 (a := a) (ci := 12) wM_X12_tagOf kM_X12_720 wI_X12_tagOf wS_X12_tagOf dX12_encodeStep_144 (e_X12_tagOf hst hZ hn hs hc61) (mem_obj hs (by decide)) (sh_ltn hs (by decide) hn) rfl rfl rfl (Nat.le_of_ble_eq_true rfl) (by omega) (by omega) (fun v9 S9 hq => ?_)
    obtain ⟨rfl, rfl⟩ := hq
    refine ⟨fun h => ⟨h, rfl⟩, ?_⟩
    obtain ⟨σ64, hc63, hx⟩ := b1_some hx
    refine mm_callV3 (a := a) (ci := 12) wM_X12_putVarint kM_X12_713 wI_X12_putVarint wS_X12_putVarint dX12_encodeStep_147 (e_X12_putVarint hst hZ hn hs hc63) (mem_obj hs (by decide)) (sh_ltn hs (by decide) hn) rfl rfl rfl (Nat.le_of_ble_eq_true rfl) (by omega) (by omega) (fun v9 S9 hq => ?_)
    obtain ⟨rfl, rfl⟩ := hq
    refine ⟨fun h => ⟨h, rfl⟩, ?_⟩
    refine mm_aload_n dX12_encodeStep_150 rfl rfl ?_
    refine s_getS (q := 1118) (r := some a) (b := a) (ci := 12) (k := 21) in_X12 rfl (by decide) rfl kF_X12_62 dX12_encodeStep_151 rfl hs (by decide) hn (by decide) rfl rfl ?_
    refine mm_iload_n dX12_encodeStep_154 rfl ?_
    obtain ⟨j65, hj66, hb67, hl68, hx⟩ := ix_some hx
    refine s_iald (a := 1118) sa_1118 hn hj66 hb67 na_1118 dX12_encodeStep_155 ?_
    obtain ⟨v70, hc69, hx⟩ := b1_some hx
    refine mm_callS wM_X12_kindOf kM_X12_653 wT_X12_kindOf dX12_encodeStep_156 (e_X12_kindOf hst hZ hn hc69) rfl rfl (Nat.le_of_ble_eq_true rfl) (by omega) (by omega) (fun v9 S9 hq => ?_)
    obtain ⟨rfl, rfl⟩ := hq
    refine ⟨fun h => ⟨h, rfl⟩, ?_⟩
    refine mm_iconst (v := 2) dX12_encodeStep_159 (by decide) ?_
    refine b_if hx (fun h71 hx => ?_) (fun h71 hx => ?_)
    · refine mm_icmp_eq 183 dX12_encodeStep_160 (by decide) (fun _ => ?_) (fun h => absurd h71 h)
      refine mm_aload_n dX12_encodeStep_183 rfl rfl ?_
      refine s_getS (q := 1118) (r := some a) (b := a) (ci := 12) (k := 21) in_X12 rfl (by decide) rfl kF_X12_62 dX12_encodeStep_184 rfl hs (by decide) hn (by decide) rfl rfl ?_
      refine mm_iload_n dX12_encodeStep_187 rfl ?_
      obtain ⟨j72, hj73, hb74, hl75, hx⟩ := ix_some hx
      refine s_iald (a := 1118) sa_1118 hn hj73 hb74 na_1118 dX12_encodeStep_188 ?_
      refine mm_bipush (v := 13) dX12_encodeStep_189 (by decide) ?_
      refine b_if hx (fun h76 hx => ?_) (fun h76 hx => ?_)
      · refine mm_icmp_ne 225 dX12_encodeStep_191 (by decide) (fun h => absurd h76 h) (fun _ => ?_)
        refine mm_aload_n dX12_encodeStep_194 rfl rfl ?_
        refine mm_aload_n dX12_encodeStep_195 rfl rfl ?_
        refine s_getS (q := 1163) (r := some a) (b := a) (ci := 12) (k := 89) in_X12 rfl (by decide) rfl kF_X12_199 dX12_encodeStep_196 rfl hs (by decide) hn (by decide) rfl rfl ?_
        refine mm_aload_n dX12_encodeStep_199 rfl rfl ?_
        refine s_getS (q := 1170) (r := some a) (b := a) (ci := 12) (k := 96) in_X12 rfl (by decide) rfl kF_X12_220 dX12_encodeStep_200 rfl hs (by decide) hn (by decide) rfl rfl ?_
        refine mm_iload dX12_encodeStep_203 rfl ?_
        obtain ⟨j77, hj78, hb79, hl80, hx⟩ := ix_some hx
        refine s_iald (a := 1170) sa_1170 hn hj78 hb79 na_1170 dX12_encodeStep_205 ?_
        obtain ⟨j81, hj82, hb83, hl84, hx⟩ := ix_some hx
        refine s_iald (a := 1163) sa_1163 hn hj82 hb83 na_1163 dX12_encodeStep_206 ?_
        refine mm_i2l dX12_encodeStep_207 ?_
        obtain ⟨σ86, hc85, hx⟩ := b1_some hx
        refine mm_callV3 (a := a) (ci := 12) wM_X12_putVarint kM_X12_713 wI_X12_putVarint wS_X12_putVarint dX12_encodeStep_208 (e_X12_putVarint hst hZ hn hs hc85) (mem_obj hs (by decide)) (sh_ltn hs (by decide) hn) rfl rfl rfl (Nat.le_of_ble_eq_true rfl) (by omega) (by omega) (fun v9 S9 hq => ?_)
        obtain ⟨rfl, rfl⟩ := hq
        refine ⟨fun h => ⟨h, rfl⟩, ?_⟩
        refine mm_aload_n dX12_encodeStep_211 rfl rfl ?_
        refine mm_aload_n dX12_encodeStep_212 rfl rfl ?_
        refine s_getS (q := 1170) (r := some a) (b := a) (ci := 12) (k := 96) in_X12 rfl (by decide) rfl kF_X12_220 dX12_encodeStep_213 rfl hs (by decide) hn (by decide) rfl rfl ?_
        refine mm_iload dX12_encodeStep_216 rfl ?_
        obtain ⟨j87, hj88, hb89, hl90, hx⟩ := ix_some hx
        refine s_iald (a := 1170) sa_1170 hn hj88 hb89 na_1170 dX12_encodeStep_218 ?_
        obtain ⟨σ92, hc91, hx⟩ := b1_some hx
        refine mm_callV3 (a := a) (ci := 12) wM_X12_goInto kM_X12_743 wI_X12_goInto wS_X12_goInto dX12_encodeStep_219 (e_X12_goInto hst hZ hn hs hc91) (mem_obj hs (by decide)) (sh_ltn hs (by decide) hn) rfl rfl rfl (Nat.le_of_ble_eq_true rfl) (by omega) (by omega) (fun v9 S9 hq => ?_)
        obtain ⟨rfl, rfl⟩ := hq
        refine ⟨fun h => ⟨h, rfl⟩, ?_⟩
        refine mm_goto 277 dX12_encodeStep_222 (by decide) ?_
        refine mm_vret dX12_encodeStep_277 rfl ?_ (by omega) (by omega)
        obtain rfl := fin1 hx
        exact ⟨rfl, rfl⟩
      · refine mm_icmp_ne 225 dX12_encodeStep_191 (by decide) (fun _ => ?_) (fun h => absurd h h76)
        refine mm_aload_n dX12_encodeStep_225 rfl rfl ?_
        refine mm_aload_n dX12_encodeStep_226 rfl rfl ?_
        refine s_getS (q := 1169) (r := some a) (b := a) (ci := 12) (k := 95) in_X12 rfl (by decide) rfl kF_X12_217 dX12_encodeStep_227 rfl hs (by decide) hn (by decide) rfl rfl ?_
        refine mm_iload dX12_encodeStep_230 rfl ?_
        obtain ⟨j93, hj94, hb95, hl96, hx⟩ := ix_some hx
        refine s_iald (a := 1169) sa_1169 hn hj94 hb95 na_1169 dX12_encodeStep_232 ?_
        refine mm_i2l dX12_encodeStep_233 ?_
        obtain ⟨σ98, hc97, hx⟩ := b1_some hx
        refine mm_callV3 (a := a) (ci := 12) wM_X12_putVarint kM_X12_713 wI_X12_putVarint wS_X12_putVarint dX12_encodeStep_234 (e_X12_putVarint hst hZ hn hs hc97) (mem_obj hs (by decide)) (sh_ltn hs (by decide) hn) rfl rfl rfl (Nat.le_of_ble_eq_true rfl) (by omega) (by omega) (fun v9 S9 hq => ?_)
        obtain ⟨rfl, rfl⟩ := hq
        refine ⟨fun h => ⟨h, rfl⟩, ?_⟩
        refine mm_iconst (v := 0) dX12_encodeStep_237 (by decide) ?_
        refine mm_istore [some (.ref a), some (.int v1_), none, some (.int v3_), some (.int v4_), some (.int 0)] dX12_encodeStep_238 (by decide) rfl ?_
        refine mm_fewer [some (.ref a), none, none, none, some (.int v4_), some (.int 0)] (few_ok (bs := [true, false, false, false, true, true]) rfl) ?_
        refine e_X12_encodeStep_L240 hst hZ hn hs _ _ _ hx
    · refine mm_icmp_eq 183 dX12_encodeStep_160 (by decide) (fun h => absurd h h71) (fun _ => ?_)
      refine mm_aload_n dX12_encodeStep_163 rfl rfl ?_
      refine mm_aload_n dX12_encodeStep_164 rfl rfl ?_
      refine s_getS (q := 1118) (r := some a) (b := a) (ci := 12) (k := 21) in_X12 rfl (by decide) rfl kF_X12_62 dX12_encodeStep_165 rfl hs (by decide) hn (by decide) rfl rfl ?_
      refine mm_iload_n dX12_encodeStep_168 rfl ?_
      obtain ⟨j114, hj115, hb116, hl117, hx⟩ := ix_some hx
      refine s_iald (a := 1118) sa_1118 hn hj115 hb116 na_1118 dX12_encodeStep_169 ?_
      refine mm_aload_n dX12_encodeStep_170 rfl rfl ?_
      refine s_getS (q := 1167) (r := some a) (b := a) (ci := 12) (k := 93) in_X12 rfl (by decide) rfl kF_X12_211 dX12_encodeStep_171 rfl hs (by decide) hn (by decide) rfl rfl ?_
      refine mm_iload dX12_encodeStep_174 rfl ?_
      obtain ⟨j118, hj119, hb120, hl121, hx⟩ := ix_some hx
      refine s_lald (a := 1167) sa_1167 hn hj119 hb120 na_1167 dX12_encodeStep_176 ?_
      obtain ⟨σ123, hc122, hx⟩ := b1_some hx
      refine mm_callV3 (a := a) (ci := 12) wM_X12_putOne kM_X12_730 wI_X12_putOne wS_X12_putOne dX12_encodeStep_177 (e_X12_putOne hst hZ hn hs hc122) (mem_obj hs (by decide)) (sh_ltn hs (by decide) hn) rfl rfl rfl (Nat.le_of_ble_eq_true rfl) (by omega) (by omega) (fun v9 S9 hq => ?_)
      obtain ⟨rfl, rfl⟩ := hq
      refine ⟨fun h => ⟨h, rfl⟩, ?_⟩
      refine mm_goto 277 dX12_encodeStep_180 (by decide) ?_
      refine mm_vret dX12_encodeStep_277 rfl ?_ (by omega) (by omega)
      obtain rfl := fin1 hx
      exact ⟨rfl, rfl⟩
set_option maxHeartbeats 4000000 in
set_option maxRecDepth 100000 in
theorem e_X12_encodeStep_81 {g : mm_G} {l : Launch} (hst : l.stackTraces = false) {Z : Nat → Nat → Option Nat} (hZ : HZ Z) {n : Nat} (hn : 1186 ≤ n) {z : Bool} {d : Nat} {U : Nat} {a : Nat} (hs : sh a = 12) {v1_ : Int32} {v2_ : Int32} {v3_ : Int32} {s0_ : Int32} {σ : SG} {σ' : SG} (hx : x_X12_encodeStep_81 U a v1_ v2_ v3_ s0_ σ = some σ') : mm_V g l RX12 "encodeStep" cX12_encodeStep 6 none [] (d + 4) 0 0 (mm_nt (fun v S' => v = none ∧ S' = (mem Z σ', n, z))) 81 [some (.ref a), some (.int v1_), some (.int v2_), some (.int v3_), none, none] [.int s0_] (mem Z σ, n, z) 0 0 := by
  unfold x_X12_encodeStep_81 at hx
  refine mm_istore [some (.ref a), some (.int v1_), some (.int v2_), some (.int v3_), some (.int s0_), none] dX12_encodeStep_81 (by decide) rfl ?_
  refine mm_aload_n dX12_encodeStep_83 rfl rfl ?_
  refine s_getS (q := 1121) (r := some a) (b := a) (ci := 12) (k := 24) in_X12 rfl (by decide) rfl kF_X12_72 dX12_encodeStep_84 rfl hs (by decide) hn (by decide) rfl rfl ?_
  refine mm_iload_n dX12_encodeStep_87 rfl ?_
  obtain ⟨j30, hj31, hb32, hl33, hx⟩ := ix_some hx
  refine s_zald (a := 1121) sa_1121 hn hj31 hb32 na_1121 dX12_encodeStep_88 ?_
  refine b_if hx (fun h34 hx => ?_) (fun h34 hx => ?_)
  · refine mm_if_eq 98 dX12_encodeStep_89 (by decide) (fun _ => ?_) (fun h => absurd h34 h)
    refine mm_fewer [some (.ref a), some (.int v1_), none, some (.int v3_), some (.int s0_), none] (few_ok (bs := [true, true, false, true, true, false]) rfl) ?_
    exact e_X12_encodeStep_98 hst hZ hn hs hx
  · refine mm_if_eq 98 dX12_encodeStep_89 (by decide) (fun h => absurd h h34) (fun _ => ?_)
    refine mm_aload_n dX12_encodeStep_92 rfl rfl ?_
    refine mm_iload_n dX12_encodeStep_93 rfl ?_
    refine mm_iload_n dX12_encodeStep_94 rfl ?_
    obtain ⟨σ125, hc124, hx⟩ := b1_some hx
    refine mm_callV3 (a := a) (ci := 12) wM_X12_putPacked kM_X12_740 wI_X12_putPacked wS_X12_putPacked dX12_encodeStep_95 (e_X12_putPacked hst hZ hn hs hc124) (mem_obj hs (by decide)) (sh_ltn hs (by decide) hn) rfl rfl rfl (Nat.le_of_ble_eq_true rfl) (by omega) (by omega) (fun v9 S9 hq => ?_)
    obtain ⟨rfl, rfl⟩ := hq
    refine ⟨fun h => ⟨h, rfl⟩, ?_⟩
    refine mm_fewer [some (.ref a), some (.int v1_), none, some (.int v3_), some (.int s0_), none] (few_ok (bs := [true, true, false, true, true, false]) rfl) ?_
    exact e_X12_encodeStep_98 hst hZ hn hs hx
set_option maxHeartbeats 4000000 in
set_option maxRecDepth 100000 in
theorem e_X12_encodeStep {g : mm_G} {l : Launch} (hst : l.stackTraces = false) {Z : Nat → Nat → Option Nat} (hZ : HZ Z) {n : Nat} (hn : 1186 ≤ n) {z : Bool} {d : Nat} {U : Nat} {a : Nat} (hs : sh a = 12) {σ : SG} {σ' : SG} (hx : x_X12_encodeStep U a σ = some σ') : mm_Cm g l yX12_encodeStep (.code yX12_encodeStep cX12_encodeStep 6 none) (d + 4) 0 0 [.ref a] (mem Z σ, n, z) (fun v S' => v = none ∧ S' = (mem Z σ', n, z)) := by
  refine mm_Cm_of hst (by decide) (Nat.le_of_ble_eq_true rfl) ?_
  show mm_V g l RX12 "encodeStep" cX12_encodeStep 6 none [] (d + 4) 0 0 (mm_nt (fun v S' => v = none ∧ S' = (mem Z σ', n, z))) 0 [some (.ref a), none, none, none, none, none] [] (mem Z σ, n, z) 0 0
  unfold x_X12_encodeStep at hx
  refine mm_aload_n dX12_encodeStep_0 rfl rfl ?_
  refine s_getI (r := some a) (b := a) (ci := 12) (k := 106) in_X12 rfl (by decide) rfl kF_X12_650 dX12_encodeStep_1 rfl hs (by decide) hn (by decide) rfl ?_
  refine mm_iconst (v := 1) dX12_encodeStep_4 (by decide) ?_
  refine mm_isub dX12_encodeStep_5 ?_
  refine mm_istore_n [some (.ref a), some (.int ((sI σ a 106) - 1)), none, none, none, none] dX12_encodeStep_6 (by decide) rfl ?_
  refine mm_aload_n dX12_encodeStep_7 rfl rfl ?_
  refine s_getS (q := 1176) (r := some a) (b := a) (ci := 12) (k := 102) in_X12 rfl (by decide) rfl kF_X12_238 dX12_encodeStep_8 rfl hs (by decide) hn (by decide) rfl rfl ?_
  refine mm_iload_n dX12_encodeStep_11 rfl ?_
  obtain ⟨j1, hj2, hb3, hl4, hx⟩ := ix_some hx
  refine s_iald (a := 1176) sa_1176 hn hj2 hb3 na_1176 dX12_encodeStep_12 ?_
  refine mm_istore_n [some (.ref a), some (.int ((sI σ a 106) - 1)), some (.int (sI σ 1176 j1)), none, none, none] dX12_encodeStep_13 (by decide) rfl ?_
  refine mm_aload_n dX12_encodeStep_14 rfl rfl ?_
  refine mm_aload_n dX12_encodeStep_15 rfl rfl ?_
  refine s_getI (r := some a) (b := a) (ci := 12) (k := 80) in_X12 rfl (by decide) rfl kF_X12_587 dX12_encodeStep_16 rfl hs (by decide) hn (by decide) rfl ?_
  refine mm_aload_n dX12_encodeStep_19 rfl rfl ?_
  refine s_getS (q := 1160) (r := some a) (b := a) (ci := 12) (k := 86) in_X12 rfl (by decide) rfl kF_X12_190 dX12_encodeStep_20 rfl hs (by decide) hn (by decide) rfl rfl ?_
  refine mm_iload_n dX12_encodeStep_23 rfl ?_
  obtain ⟨j5, hj6, hb7, hl8, hx⟩ := ix_some hx
  refine s_iald (a := 1160) sa_1160 hn hj6 hb7 na_1160 dX12_encodeStep_24 ?_
  refine mm_aload_n dX12_encodeStep_25 rfl rfl ?_
  refine s_getS (q := 1179) (r := some a) (b := a) (ci := 12) (k := 105) in_X12 rfl (by decide) rfl kF_X12_247 dX12_encodeStep_26 rfl hs (by decide) hn (by decide) rfl rfl ?_
  refine mm_iload_n dX12_encodeStep_29 rfl ?_
  obtain ⟨j9, hj10, hb11, hl12, hx⟩ := ix_some hx
  refine s_iald (a := 1179) sa_1179 hn hj10 hb11 na_1179 dX12_encodeStep_30 ?_
  obtain ⟨v14, hc13, hx⟩ := b1_some hx
  refine mm_callV3 (a := a) (ci := 12) wM_X12_fieldAt kM_X12_576 wI_X12_fieldAt wS_X12_fieldAt dX12_encodeStep_31 (e_X12_fieldAt hst hZ hn hs hc13) (mem_obj hs (by decide)) (sh_ltn hs (by decide) hn) rfl rfl rfl (Nat.le_of_ble_eq_true rfl) (by omega) (by omega) (fun v9 S9 hq => ?_)
  obtain ⟨rfl, rfl⟩ := hq
  refine ⟨fun h => ⟨h, rfl⟩, ?_⟩
  refine mm_istore_n [some (.ref a), some (.int ((sI σ a 106) - 1)), some (.int (sI σ 1176 j1)), some (.int v14), none, none] dX12_encodeStep_34 (by decide) rfl ?_
  refine mm_iload_n dX12_encodeStep_35 rfl ?_
  refine mm_iconst (v := (-1)) dX12_encodeStep_36 (by decide) ?_
  refine b_if hx (fun h15 hx => ?_) (fun h15 hx => ?_)
  · refine mm_icmp_ne 56 dX12_encodeStep_37 (by decide) (fun h => absurd h15 h) (fun _ => ?_)
    refine mm_aload_n dX12_encodeStep_40 rfl rfl ?_
    refine mm_iload_n dX12_encodeStep_41 rfl ?_
    obtain ⟨σ17, hc16, hx⟩ := b1_some hx
    refine mm_callV3 (a := a) (ci := 12) wM_X12_putUnknown kM_X12_734 wI_X12_putUnknown wS_X12_putUnknown dX12_encodeStep_42 (e_X12_putUnknown hst hZ hn hs hc16) (mem_obj hs (by decide)) (sh_ltn hs (by decide) hn) rfl rfl rfl (Nat.le_of_ble_eq_true rfl) (by omega) (by omega) (fun v9 S9 hq => ?_)
    obtain ⟨rfl, rfl⟩ := hq
    refine ⟨fun h => ⟨h, rfl⟩, ?_⟩
    refine mm_aload_n dX12_encodeStep_45 rfl rfl ?_
    refine mm_dup dX12_encodeStep_46 rfl ?_
    refine s_getI (r := some a) (b := a) (ci := 12) (k := 106) in_X12 rfl (by decide) rfl kF_X12_650 dX12_encodeStep_47 rfl hs (by decide) hn (by decide) rfl ?_
    refine mm_iconst (v := 1) dX12_encodeStep_50 (by decide) ?_
    refine mm_isub dX12_encodeStep_51 ?_
    refine s_putI (v := (sI σ17 a 106) - 1) (r := some a) (b := a) (ci := 12) (k := 106) in_X12 rfl (by decide) rfl tyX12_ok nmX12 rfl kF_X12_650 dX12_encodeStep_52 (mm_fit_int _) rfl hs (by decide) hn (by decide) rfl hx (fun σ18 hx => ?_)
    refine mm_vret dX12_encodeStep_55 rfl ?_ (by omega) (by omega)
    obtain rfl := fin1 hx
    exact ⟨rfl, rfl⟩
  · refine mm_icmp_ne 56 dX12_encodeStep_37 (by decide) (fun _ => ?_) (fun h => absurd h h15)
    refine mm_aload_n dX12_encodeStep_56 rfl rfl ?_
    refine s_getS (q := 1121) (r := some a) (b := a) (ci := 12) (k := 24) in_X12 rfl (by decide) rfl kF_X12_72 dX12_encodeStep_57 rfl hs (by decide) hn (by decide) rfl rfl ?_
    refine mm_iload_n dX12_encodeStep_60 rfl ?_
    obtain ⟨j19, hj20, hb21, hl22, hx⟩ := ix_some hx
    refine s_zald (a := 1121) sa_1121 hn hj20 hb21 na_1121 dX12_encodeStep_61 ?_
    refine b_if hx (fun h23 hx => ?_) (fun h23 hx => ?_)
    · refine mm_if_eq 69 dX12_encodeStep_62 (by decide) (fun _ => ?_) (fun h => absurd h23 h)
      refine mm_aload_n dX12_encodeStep_69 rfl rfl ?_
      refine mm_iload_n dX12_encodeStep_70 rfl ?_
      refine mm_iload_n dX12_encodeStep_71 rfl ?_
      refine mm_aload_n dX12_encodeStep_72 rfl rfl ?_
      refine s_getS (q := 1178) (r := some a) (b := a) (ci := 12) (k := 104) in_X12 rfl (by decide) rfl kF_X12_244 dX12_encodeStep_73 rfl hs (by decide) hn (by decide) rfl rfl ?_
      refine mm_iload_n dX12_encodeStep_76 rfl ?_
      obtain ⟨j24, hj25, hb26, hl27, hx⟩ := ix_some hx
      refine s_iald (a := 1178) sa_1178 hn hj25 hb26 na_1178 dX12_encodeStep_77 ?_
      obtain ⟨v29, hc28, hx⟩ := b1_some hx
      refine mm_callV3 (a := a) (ci := 12) wM_X12_nextRow kM_X12_737 wI_X12_nextRow wS_X12_nextRow dX12_encodeStep_78 (e_X12_nextRow hst hZ hn hs hc28) (mem_obj hs (by decide)) (sh_ltn hs (by decide) hn) rfl rfl rfl (Nat.le_of_ble_eq_true rfl) (by omega) (by omega) (fun v9 S9 hq => ?_)
      obtain ⟨rfl, rfl⟩ := hq
      refine ⟨fun h => ⟨h, rfl⟩, ?_⟩
      exact e_X12_encodeStep_81 hst hZ hn hs hx
    · refine mm_if_eq 69 dX12_encodeStep_62 (by decide) (fun h => absurd h h23) (fun _ => ?_)
      refine mm_iconst (v := (-1)) dX12_encodeStep_65 (by decide) ?_
      refine mm_goto 81 dX12_encodeStep_66 (by decide) ?_
      exact e_X12_encodeStep_81 hst hZ hn hs hx
set_option maxHeartbeats 4000000 in
set_option maxRecDepth 100000 in
theorem e_X12_encode_L43 {g : mm_G} {l : Launch} (hst : l.stackTraces = false) {Z : Nat → Nat → Option Nat} (hZ : HZ Z) {n : Nat} (hn : 1186 ≤ n) {z : Bool} {d : Nat} {U : Nat} {a : Nat} (hs : sh a = 12) {r : Int32} {σ' : SG} : ∀ (U1 : Nat) (σ : SG), x_X12_encode_L43 U a U1 σ = some (r, σ') → mm_V g l RX12 "encode" cX12_encode 1 (some .int) [] (d + 5) 0 0 (mm_nt (fun v S' => v = some (.int r) ∧ S' = (mem Z σ', n, z))) 43 [some (.ref a)] [] (mem Z σ, n, z) 0 0 := by
  intro U1
  induction U1 with
  | zero => intro σ hx; exact absurd hx (by simp [x_X12_encode_L43])
  | succ U1 ih =>
    intro σ hx
    rw [x_X12_encode_L43] at hx
    refine mm_aload_n dX12_encode_43 rfl rfl ?_
    refine s_getI (r := some a) (b := a) (ci := 12) (k := 106) in_X12 rfl (by decide) rfl kF_X12_650 dX12_encode_44 rfl hs (by decide) hn (by decide) rfl ?_
    refine b_if hx (fun h11 hx => ?_) (fun h11 hx => ?_)
    · refine mm_if_le 57 dX12_encode_47 (by decide) (fun h => absurd h (Int32.not_le.mpr h11)) (fun _ => ?_)
      refine mm_aload_n dX12_encode_50 rfl rfl ?_
      obtain ⟨σ13, hc12, hx⟩ := b1_some hx
      refine mm_callV3 (a := a) (ci := 12) wM_X12_encodeStep kM_X12_752 wI_X12_encodeStep wS_X12_encodeStep dX12_encode_51 (e_X12_encodeStep hst hZ hn hs hc12) (mem_obj hs (by decide)) (sh_ltn hs (by decide) hn) rfl rfl rfl (Nat.le_of_ble_eq_true rfl) (by omega) (by omega) (fun v9 S9 hq => ?_)
      obtain ⟨rfl, rfl⟩ := hq
      refine ⟨fun h => ⟨h, rfl⟩, ?_⟩
      refine mm_goto 43 dX12_encode_54 (by decide) ?_
      exact ih  _ hx
    · refine mm_if_le 57 dX12_encode_47 (by decide) (fun _ => ?_) (fun h => absurd (Int32.not_lt.mp h11) h)
      refine mm_aload_n dX12_encode_57 rfl rfl ?_
      refine s_getI (r := some a) (b := a) (ci := 12) (k := 3) in_X12 rfl (by decide) rfl kF_X12_271 dX12_encode_58 rfl hs (by decide) hn (by decide) rfl ?_
      refine mm_iret dX12_encode_61 rfl rfl ?_ (by omega) (by omega)
      obtain ⟨rfl, rfl⟩ := fin2 hx
      exact ⟨rfl, rfl⟩
set_option maxHeartbeats 4000000 in
set_option maxRecDepth 100000 in
theorem e_X12_encode_17 {g : mm_G} {l : Launch} (hst : l.stackTraces = false) {Z : Nat → Nat → Option Nat} (hZ : HZ Z) {n : Nat} (hn : 1186 ≤ n) {z : Bool} {d : Nat} {U : Nat} {a : Nat} (hs : sh a = 12) {s0_ : Int32} {σ : SG} {r : Int32} {σ' : SG} (hx : x_X12_encode_17 U a s0_ σ = some (r, σ')) : mm_V g l RX12 "encode" cX12_encode 1 (some .int) [] (d + 5) 0 0 (mm_nt (fun v S' => v = some (.int r) ∧ S' = (mem Z σ', n, z))) 17 [some (.ref a)] [.int s0_, .ref a] (mem Z σ, n, z) 0 0 := by
  unfold x_X12_encode_17 at hx
  refine s_putI (v := s0_) (r := some a) (b := a) (ci := 12) (k := 5) in_X12 rfl (by decide) rfl tyX12_ok nmX12 rfl kF_X12_265 dX12_encode_17 (mm_fit_int _) rfl hs (by decide) hn (by decide) rfl hx (fun σ4 hx => ?_)
  refine mm_aload_n dX12_encode_20 rfl rfl ?_
  refine s_getI (r := some a) (b := a) (ci := 12) (k := 5) in_X12 rfl (by decide) rfl kF_X12_265 dX12_encode_21 rfl hs (by decide) hn (by decide) rfl ?_
  refine b_if hx (fun h5 hx => ?_) (fun h5 hx => ?_)
  · refine mm_if_eq 29 dX12_encode_24 (by decide) (fun _ => ?_) (fun h => absurd h5 h)
    refine mm_aload_n dX12_encode_29 rfl rfl ?_
    obtain ⟨σ7, hc6, hx⟩ := b1_some hx
    refine mm_callV3 (a := a) (ci := 12) wM_X12_measure kM_X12_749 wI_X12_measure wS_X12_measure dX12_encode_30 (e_X12_measure hst hZ hn hs hc6) (mem_obj hs (by decide)) (sh_ltn hs (by decide) hn) rfl rfl rfl (Nat.le_of_ble_eq_true rfl) (by omega) (by omega) (fun v9 S9 hq => ?_)
    obtain ⟨rfl, rfl⟩ := hq
    refine ⟨fun h => ⟨h, rfl⟩, ?_⟩
    refine mm_aload_n dX12_encode_33 rfl rfl ?_
    refine mm_iconst (v := 0) dX12_encode_34 (by decide) ?_
    refine s_putI (v := 0) (r := some a) (b := a) (ci := 12) (k := 106) in_X12 rfl (by decide) rfl tyX12_ok nmX12 rfl kF_X12_650 dX12_encode_35 (mm_fit_int _) rfl hs (by decide) hn (by decide) rfl hx (fun σ8 hx => ?_)
    refine mm_aload_n dX12_encode_38 rfl rfl ?_
    refine mm_iconst (v := 0) dX12_encode_39 (by decide) ?_
    obtain ⟨σ10, hc9, hx⟩ := b1_some hx
    refine mm_callV3 (a := a) (ci := 12) wM_X12_goInto kM_X12_743 wI_X12_goInto wS_X12_goInto dX12_encode_40 (e_X12_goInto hst hZ hn hs hc9) (mem_obj hs (by decide)) (sh_ltn hs (by decide) hn) rfl rfl rfl (Nat.le_of_ble_eq_true rfl) (by omega) (by omega) (fun v9 S9 hq => ?_)
    obtain ⟨rfl, rfl⟩ := hq
    refine ⟨fun h => ⟨h, rfl⟩, ?_⟩
    refine e_X12_encode_L43 hst hZ hn hs _ _ hx
  · refine mm_if_eq 29 dX12_encode_24 (by decide) (fun h => absurd h h5) (fun _ => ?_)
    refine mm_iconst (v := 0) dX12_encode_27 (by decide) ?_
    refine mm_iret dX12_encode_28 rfl rfl ?_ (by omega) (by omega)
    obtain ⟨rfl, rfl⟩ := fin2 hx
    exact ⟨rfl, rfl⟩
set_option maxHeartbeats 4000000 in
set_option maxRecDepth 100000 in
theorem e_X12_encode {g : mm_G} {l : Launch} (hst : l.stackTraces = false) {Z : Nat → Nat → Option Nat} (hZ : HZ Z) {n : Nat} (hn : 1186 ≤ n) {z : Bool} {d : Nat} {U : Nat} {a : Nat} (hs : sh a = 12) {σ : SG} {r : Int32} {σ' : SG} (hx : x_X12_encode U a σ = some (r, σ')) : mm_Cm g l yX12_encode (.code yX12_encode cX12_encode 1 (some .int)) (d + 5) 0 0 [.ref a] (mem Z σ, n, z) (fun v S' => v = some (.int r) ∧ S' = (mem Z σ', n, z)) := by
  refine mm_Cm_of hst (by decide) (Nat.le_of_ble_eq_true rfl) ?_
  show mm_V g l RX12 "encode" cX12_encode 1 (some .int) [] (d + 5) 0 0 (mm_nt (fun v S' => v = some (.int r) ∧ S' = (mem Z σ', n, z))) 0 [some (.ref a)] [] (mem Z σ, n, z) 0 0
  unfold x_X12_encode at hx
  refine mm_aload_n dX12_encode_0 rfl rfl ?_
  obtain ⟨σ2, hc1, hx⟩ := b1_some hx
  refine mm_callV3 (a := a) (ci := 12) wM_X12_emptyOut kM_X12_746 wI_X12_emptyOut wS_X12_emptyOut dX12_encode_1 (e_X12_emptyOut hst hZ hn hs hc1) (mem_obj hs (by decide)) (sh_ltn hs (by decide) hn) rfl rfl rfl (Nat.le_of_ble_eq_true rfl) (by omega) (by omega) (fun v9 S9 hq => ?_)
  obtain ⟨rfl, rfl⟩ := hq
  refine ⟨fun h => ⟨h, rfl⟩, ?_⟩
  refine mm_aload_n dX12_encode_4 rfl rfl ?_
  refine mm_aload_n dX12_encode_5 rfl rfl ?_
  refine s_getI (r := some a) (b := a) (ci := 12) (k := 79) in_X12 rfl (by decide) rfl kF_X12_551 dX12_encode_6 rfl hs (by decide) hn (by decide) rfl ?_
  refine b_if hx (fun h3 hx => ?_) (fun h3 hx => ?_)
  · refine mm_if_eq 16 dX12_encode_9 (by decide) (fun _ => ?_) (fun h => absurd h3 h)
    refine mm_iconst (v := 1) dX12_encode_16 (by decide) ?_
    exact e_X12_encode_17 hst hZ hn hs hx
  · refine mm_if_eq 16 dX12_encode_9 (by decide) (fun h => absurd h h3) (fun _ => ?_)
    refine mm_iconst (v := 0) dX12_encode_12 (by decide) ?_
    refine mm_goto 17 dX12_encode_13 (by decide) ?_
    exact e_X12_encode_17 hst hZ hn hs hx
set_option maxHeartbeats 4000000 in
set_option maxRecDepth 100000 in
theorem e_X12_feed_L50 {g : mm_G} {l : Launch} (hst : l.stackTraces = false) {Z : Nat → Nat → Option Nat} (hZ : HZ Z) {n : Nat} (hn : 1186 ≤ n) {z : Bool} {d : Nat} {U : Nat} {a : Nat} (hs : sh a = 12) {v1_ : Int64} {r : Int32} {σ' : SG} : ∀ (U1 : Nat) (v4_ : Int32) (σ : SG), x_X12_feed_L50 U a v1_ U1 v4_ σ = some (r, σ') → mm_V g l RX12 "feed" cX12_feed 5 (some .int) [] (d) 0 0 (mm_nt (fun v S' => v = some (.int r) ∧ S' = (mem Z σ', n, z))) 50 [some (.ref a), some (.long v1_), none, none, some (.int v4_)] [] (mem Z σ, n, z) 0 0 := by
  intro U1
  induction U1 with
  | zero => intro v4_ σ hx; exact absurd hx (by simp [x_X12_feed_L50])
  | succ U1 ih =>
    intro v4_ σ hx
    rw [x_X12_feed_L50] at hx
    refine mm_iload dX12_feed_50 rfl ?_
    refine b_if hx (fun h4 hx => ?_) (fun h4 hx => ?_)
    · refine mm_if_lt 92 dX12_feed_52 (by decide) (fun _ => ?_) (fun h => absurd h4 h)
      refine mm_aload_n dX12_feed_92 rfl rfl ?_
      refine s_getI (r := some a) (b := a) (ci := 12) (k := 1) in_X12 rfl (by decide) rfl kF_X12_268 dX12_feed_93 rfl hs (by decide) hn (by decide) rfl ?_
      refine mm_iret dX12_feed_96 rfl rfl ?_ (by omega) (by omega)
      obtain ⟨rfl, rfl⟩ := fin2 hx
      exact ⟨rfl, rfl⟩
    · refine mm_if_lt 92 dX12_feed_52 (by decide) (fun h => absurd h h4) (fun _ => ?_)
      refine mm_aload_n dX12_feed_55 rfl rfl ?_
      refine s_getS (q := 1102) (r := some a) (b := a) (ci := 12) (k := 0) in_X12 rfl (by decide) rfl kF_X12_7 dX12_feed_56 rfl hs (by decide) hn (by decide) rfl rfl ?_
      refine mm_aload_n dX12_feed_59 rfl rfl ?_
      refine s_getI (r := some a) (b := a) (ci := 12) (k := 1) in_X12 rfl (by decide) rfl kF_X12_268 dX12_feed_60 rfl hs (by decide) hn (by decide) rfl ?_
      refine mm_lload_n dX12_feed_63 rfl ?_
      refine mm_bipush (v := 8) dX12_feed_64 (by decide) ?_
      refine mm_iload dX12_feed_66 rfl ?_
      refine mm_imul dX12_feed_68 ?_
      refine mm_lushr dX12_feed_69 ?_
      refine mm_l2i dX12_feed_70 ?_
      refine mm_sipush (v := 255) dX12_feed_71 (by decide) ?_
      refine mm_iand dX12_feed_74 ?_
      obtain ⟨j5, hj6, hb7, hl8, hx⟩ := ix_some hx
      refine s_iast (a := 1102) (v := (Int64.toInt32 (lush v1_ (8 * v4_))) &&& 255) sa_1102 hn hj6 hb7 na_1102 dX12_feed_75 hx (fun σ9 hx => ?_)
      refine mm_aload_n dX12_feed_76 rfl rfl ?_
      refine mm_dup dX12_feed_77 rfl ?_
      refine s_getI (r := some a) (b := a) (ci := 12) (k := 1) in_X12 rfl (by decide) rfl kF_X12_268 dX12_feed_78 rfl hs (by decide) hn (by decide) rfl ?_
      refine mm_iconst (v := 1) dX12_feed_81 (by decide) ?_
      refine mm_iadd dX12_feed_82 ?_
      refine s_putI (v := (sI σ9 a 1) + 1) (r := some a) (b := a) (ci := 12) (k := 1) in_X12 rfl (by decide) rfl tyX12_ok nmX12 rfl kF_X12_268 dX12_feed_83 (mm_fit_int _) rfl hs (by decide) hn (by decide) rfl hx (fun σ10 hx => ?_)
      refine mm_iinc (v := v4_ - 1) [some (.ref a), some (.long v1_), none, none, some (.int (v4_ - 1))] dX12_feed_86 rfl (iincM1 _) (by decide) rfl ?_
      refine mm_goto 50 dX12_feed_89 (by decide) ?_
      exact ih _ _ hx
set_option maxHeartbeats 4000000 in
set_option maxRecDepth 100000 in
theorem e_X12_feed_33 {g : mm_G} {l : Launch} (hst : l.stackTraces = false) {Z : Nat → Nat → Option Nat} (hZ : HZ Z) {n : Nat} (hn : 1186 ≤ n) {z : Bool} {d : Nat} {U : Nat} {a : Nat} (hs : sh a = 12) {v1_ : Int64} {v3_ : Int32} {s0_ : Int32} {σ : SG} {r : Int32} {σ' : SG} (hx : x_X12_feed_33 U a v1_ v3_ s0_ σ = some (r, σ')) : mm_V g l RX12 "feed" cX12_feed 5 (some .int) [] (d) 0 0 (mm_nt (fun v S' => v = some (.int r) ∧ S' = (mem Z σ', n, z))) 33 [some (.ref a), some (.long v1_), none, some (.int v3_), none] [.int s0_, .ref a] (mem Z σ, n, z) 0 0 := by
  unfold x_X12_feed_33 at hx
  refine s_putI (v := s0_) (r := some a) (b := a) (ci := 12) (k := 5) in_X12 rfl (by decide) rfl tyX12_ok nmX12 rfl kF_X12_265 dX12_feed_33 (mm_fit_int _) rfl hs (by decide) hn (by decide) rfl hx (fun σ2 hx => ?_)
  refine mm_aload_n dX12_feed_36 rfl rfl ?_
  refine s_getI (r := some a) (b := a) (ci := 12) (k := 5) in_X12 rfl (by decide) rfl kF_X12_265 dX12_feed_37 rfl hs (by decide) hn (by decide) rfl ?_
  refine b_if hx (fun h3 hx => ?_) (fun h3 hx => ?_)
  · refine mm_if_eq 45 dX12_feed_40 (by decide) (fun _ => ?_) (fun h => absurd h3 h)
    refine mm_iload_n dX12_feed_45 rfl ?_
    refine mm_iconst (v := 1) dX12_feed_46 (by decide) ?_
    refine mm_isub dX12_feed_47 ?_
    refine mm_istore [some (.ref a), some (.long v1_), none, some (.int v3_), some (.int (v3_ - 1))] dX12_feed_48 (by decide) rfl ?_
    refine mm_fewer [some (.ref a), some (.long v1_), none, none, some (.int (v3_ - 1))] (few_ok (bs := [true, true, false, false, true]) rfl) ?_
    refine e_X12_feed_L50 hst hZ hn hs _ _ _ hx
  · refine mm_if_eq 45 dX12_feed_40 (by decide) (fun h => absurd h h3) (fun _ => ?_)
    refine mm_iconst (v := 0) dX12_feed_43 (by decide) ?_
    refine mm_iret dX12_feed_44 rfl rfl ?_ (by omega) (by omega)
    obtain ⟨rfl, rfl⟩ := fin2 hx
    exact ⟨rfl, rfl⟩
set_option maxHeartbeats 4000000 in
set_option maxRecDepth 100000 in
theorem e_X12_feed_12 {g : mm_G} {l : Launch} (hst : l.stackTraces = false) {Z : Nat → Nat → Option Nat} (hZ : HZ Z) {n : Nat} (hn : 1186 ≤ n) {z : Bool} {d : Nat} {U : Nat} {a : Nat} (hs : sh a = 12) {v1_ : Int64} {v3_ : Int32} {σ : SG} {r : Int32} {σ' : SG} (hx : x_X12_feed_12 U a v1_ v3_ σ = some (r, σ')) : mm_V g l RX12 "feed" cX12_feed 5 (some .int) [] (d) 0 0 (mm_nt (fun v S' => v = some (.int r) ∧ S' = (mem Z σ', n, z))) 12 [some (.ref a), some (.long v1_), none, some (.int v3_), none] [.ref a] (mem Z σ, n, z) 0 0 := by
  unfold x_X12_feed_12 at hx
  refine mm_iconst (v := 1) dX12_feed_12 (by decide) ?_
  refine mm_goto 33 dX12_feed_13 (by decide) ?_
  exact e_X12_feed_33 hst hZ hn hs hx
set_option maxHeartbeats 4000000 in
set_option maxRecDepth 100000 in
theorem e_X12_feed {g : mm_G} {l : Launch} (hst : l.stackTraces = false) {Z : Nat → Nat → Option Nat} (hZ : HZ Z) {n : Nat} (hn : 1186 ≤ n) {z : Bool} {d : Nat} {U : Nat} {a : Nat} (hs : sh a = 12) {p0 : Int64} {p1 : Int32} {σ : SG} {r : Int32} {σ' : SG} (hx : x_X12_feed U a p0 p1 σ = some (r, σ')) : mm_Cm g l yX12_feed (.code yX12_feed cX12_feed 5 (some .int)) (d) 0 0 [.ref a, .long p0, .int p1] (mem Z σ, n, z) (fun v S' => v = some (.int r) ∧ S' = (mem Z σ', n, z)) := by
  refine mm_Cm_of hst (by decide) (Nat.le_of_ble_eq_true rfl) ?_
  show mm_V g l RX12 "feed" cX12_feed 5 (some .int) [] (d) 0 0 (mm_nt (fun v S' => v = some (.int r) ∧ S' = (mem Z σ', n, z))) 0 [some (.ref a), some (.long p0), none, some (.int p1), none] [] (mem Z σ, n, z) 0 0
  unfold x_X12_feed at hx
  refine mm_aload_n dX12_feed_0 rfl rfl ?_
  refine mm_iload_n dX12_feed_1 rfl ?_
  refine mm_iconst (v := 1) dX12_feed_2 (by decide) ?_
  refine b_if hx (fun h1 hx => ?_) (fun h1 hx => ?_)
  · refine mm_icmp_lt 12 dX12_feed_3 (by decide) (fun _ => ?_) (fun h => absurd h1 h)
    exact e_X12_feed_12 hst hZ hn hs hx
  · refine mm_icmp_lt 12 dX12_feed_3 (by decide) (fun h => absurd h h1) (fun _ => ?_)
    refine mm_iload_n dX12_feed_6 rfl ?_
    refine mm_bipush (v := 8) dX12_feed_7 (by decide) ?_
    refine b_if hx (fun h11 hx => ?_) (fun h11 hx => ?_)
    · refine mm_icmp_le 16 dX12_feed_9 (by decide) (fun h => absurd h (Int32.not_le.mpr h11)) (fun _ => ?_)
      exact e_X12_feed_12 hst hZ hn hs hx
    · refine mm_icmp_le 16 dX12_feed_9 (by decide) (fun _ => ?_) (fun h => absurd (Int32.not_lt.mp h11) h)
      refine mm_aload_n dX12_feed_16 rfl rfl ?_
      refine s_getI (r := some a) (b := a) (ci := 12) (k := 1) in_X12 rfl (by decide) rfl kF_X12_268 dX12_feed_17 rfl hs (by decide) hn (by decide) rfl ?_
      refine mm_iload_n dX12_feed_20 rfl ?_
      refine mm_iadd dX12_feed_21 ?_
      refine mm_sipush (v := 700) dX12_feed_22 (by decide) ?_
      refine b_if hx (fun h12 hx => ?_) (fun h12 hx => ?_)
      · refine mm_icmp_le 32 dX12_feed_25 (by decide) (fun h => absurd h (Int32.not_le.mpr h12)) (fun _ => ?_)
        refine mm_iconst (v := 2) dX12_feed_28 (by decide) ?_
        refine mm_goto 33 dX12_feed_29 (by decide) ?_
        exact e_X12_feed_33 hst hZ hn hs hx
      · refine mm_icmp_le 32 dX12_feed_25 (by decide) (fun _ => ?_) (fun h => absurd (Int32.not_lt.mp h12) h)
        refine mm_iconst (v := 0) dX12_feed_32 (by decide) ?_
        exact e_X12_feed_33 hst hZ hn hs hx
set_option maxHeartbeats 4000000 in
set_option maxRecDepth 100000 in
theorem e_X12_field_45 {g : mm_G} {l : Launch} (hst : l.stackTraces = false) {Z : Nat → Nat → Option Nat} (hZ : HZ Z) {n : Nat} (hn : 1186 ≤ n) {z : Bool} {d : Nat} {U : Nat} {a : Nat} (hs : sh a = 12) {v4_ : Int32} {v5_ : Int32} {s0_ : Int32} {σ : SG} {r : Int32} {σ' : SG} (hx : x_X12_field_45 U a v4_ v5_ s0_ σ = some (r, σ')) : mm_V g l RX12 "field" cX12_field 6 (some .int) [] (d + 2) 0 0 (mm_nt (fun v S' => v = some (.int r) ∧ S' = (mem Z σ', n, z))) 45 [some (.ref a), none, none, none, some (.int v4_), some (.int v5_)] [.int s0_, .ref a] (mem Z σ, n, z) 0 0 := by
  unfold x_X12_field_45 at hx
  refine s_putI (v := s0_) (r := some a) (b := a) (ci := 12) (k := 5) in_X12 rfl (by decide) rfl tyX12_ok nmX12 rfl kF_X12_265 dX12_field_45 (mm_fit_int _) rfl hs (by decide) hn (by decide) rfl hx (fun σ5 hx => ?_)
  refine mm_aload_n dX12_field_48 rfl rfl ?_
  refine s_getI (r := some a) (b := a) (ci := 12) (k := 5) in_X12 rfl (by decide) rfl kF_X12_265 dX12_field_49 rfl hs (by decide) hn (by decide) rfl ?_
  refine b_if hx (fun h6 hx => ?_) (fun h6 hx => ?_)
  · refine mm_if_eq 57 dX12_field_52 (by decide) (fun _ => ?_) (fun h => absurd h6 h)
    refine mm_iload dX12_field_57 rfl ?_
    refine b_if hx (fun h7 hx => ?_) (fun h7 hx => ?_)
    · refine mm_tsIn 92 dX12_field_59 (by rw [h7]; decide) (by rw [h7]; decide) (by rw [h7]; rfl) (by decide) ?_
      refine mm_aload_n dX12_field_92 rfl rfl ?_
      refine s_getS (q := 1117) (r := some a) (b := a) (ci := 12) (k := 20) in_X12 rfl (by decide) rfl kF_X12_59 dX12_field_93 rfl hs (by decide) hn (by decide) rfl rfl ?_
      refine mm_iload dX12_field_96 rfl ?_
      obtain ⟨j8, hj9, hb10, hl11, hx⟩ := ix_some hx
      refine s_iald (a := 1117) sa_1117 hn hj9 hb10 na_1117 dX12_field_98 ?_
      refine mm_iret dX12_field_99 rfl rfl ?_ (by omega) (by omega)
      obtain ⟨rfl, rfl⟩ := fin2 hx
      exact ⟨rfl, rfl⟩
    · skip
      refine b_if hx (fun h12 hx => ?_) (fun h12 hx => ?_)
      · refine mm_tsIn 100 dX12_field_59 (by rw [h12]; decide) (by rw [h12]; decide) (by rw [h12]; rfl) (by decide) ?_
        refine mm_aload_n dX12_field_100 rfl rfl ?_
        refine s_getS (q := 1118) (r := some a) (b := a) (ci := 12) (k := 21) in_X12 rfl (by decide) rfl kF_X12_62 dX12_field_101 rfl hs (by decide) hn (by decide) rfl rfl ?_
        refine mm_iload dX12_field_104 rfl ?_
        obtain ⟨j13, hj14, hb15, hl16, hx⟩ := ix_some hx
        refine s_iald (a := 1118) sa_1118 hn hj14 hb15 na_1118 dX12_field_106 ?_
        refine mm_iret dX12_field_107 rfl rfl ?_ (by omega) (by omega)
        obtain ⟨rfl, rfl⟩ := fin2 hx
        exact ⟨rfl, rfl⟩
      · skip
        refine b_if hx (fun h17 hx => ?_) (fun h17 hx => ?_)
        · refine mm_tsIn 108 dX12_field_59 (by rw [h17]; decide) (by rw [h17]; decide) (by rw [h17]; rfl) (by decide) ?_
          refine mm_aload_n dX12_field_108 rfl rfl ?_
          refine s_getS (q := 1119) (r := some a) (b := a) (ci := 12) (k := 22) in_X12 rfl (by decide) rfl kF_X12_65 dX12_field_109 rfl hs (by decide) hn (by decide) rfl rfl ?_
          refine mm_iload dX12_field_112 rfl ?_
          obtain ⟨j18, hj19, hb20, hl21, hx⟩ := ix_some hx
          refine s_iald (a := 1119) sa_1119 hn hj19 hb20 na_1119 dX12_field_114 ?_
          refine mm_iret dX12_field_115 rfl rfl ?_ (by omega) (by omega)
          obtain ⟨rfl, rfl⟩ := fin2 hx
          exact ⟨rfl, rfl⟩
        · skip
          refine b_if hx (fun h22 hx => ?_) (fun h22 hx => ?_)
          · refine mm_tsIn 116 dX12_field_59 (by rw [h22]; decide) (by rw [h22]; decide) (by rw [h22]; rfl) (by decide) ?_
            refine mm_aload_n dX12_field_116 rfl rfl ?_
            refine s_getS (q := 1121) (r := some a) (b := a) (ci := 12) (k := 24) in_X12 rfl (by decide) rfl kF_X12_72 dX12_field_117 rfl hs (by decide) hn (by decide) rfl rfl ?_
            refine mm_iload dX12_field_120 rfl ?_
            obtain ⟨j23, hj24, hb25, hl26, hx⟩ := ix_some hx
            refine s_zald (a := 1121) sa_1121 hn hj24 hb25 na_1121 dX12_field_122 ?_
            refine b_if hx (fun h27 hx => ?_) (fun h27 hx => ?_)
            · refine mm_if_eq 130 dX12_field_123 (by decide) (fun _ => ?_) (fun h => absurd h27 h)
              refine mm_aload_n dX12_field_130 rfl rfl ?_
              refine s_getS (q := 1120) (r := some a) (b := a) (ci := 12) (k := 23) in_X12 rfl (by decide) rfl kF_X12_68 dX12_field_131 rfl hs (by decide) hn (by decide) rfl rfl ?_
              refine mm_iload dX12_field_134 rfl ?_
              obtain ⟨j28, hj29, hb30, hl31, hx⟩ := ix_some hx
              refine s_zald (a := 1120) sa_1120 hn hj29 hb30 na_1120 dX12_field_136 ?_
              refine b_if hx (fun h32 hx => ?_) (fun h32 hx => ?_)
              · refine mm_if_eq 144 dX12_field_137 (by decide) (fun _ => ?_) (fun h => absurd h32 h)
                refine mm_iconst (v := 0) dX12_field_144 (by decide) ?_
                refine mm_iret dX12_field_145 rfl rfl ?_ (by omega) (by omega)
                obtain ⟨rfl, rfl⟩ := fin2 hx
                exact ⟨rfl, rfl⟩
              · refine mm_if_eq 144 dX12_field_137 (by decide) (fun h => absurd h h32) (fun _ => ?_)
                refine mm_iconst (v := 1) dX12_field_140 (by decide) ?_
                refine mm_goto 145 dX12_field_141 (by decide) ?_
                refine mm_iret dX12_field_145 rfl rfl ?_ (by omega) (by omega)
                obtain ⟨rfl, rfl⟩ := fin2 hx
                exact ⟨rfl, rfl⟩
            · refine mm_if_eq 130 dX12_field_123 (by decide) (fun h => absurd h h27) (fun _ => ?_)
              refine mm_iconst (v := 2) dX12_field_126 (by decide) ?_
              refine mm_goto 145 dX12_field_127 (by decide) ?_
              refine mm_iret dX12_field_145 rfl rfl ?_ (by omega) (by omega)
              obtain ⟨rfl, rfl⟩ := fin2 hx
              exact ⟨rfl, rfl⟩
          · skip
            refine b_if hx (fun h33 hx => ?_) (fun h33 hx => ?_)
            · refine mm_tsIn 146 dX12_field_59 (by rw [h33]; decide) (by rw [h33]; decide) (by rw [h33]; rfl) (by decide) ?_
              refine mm_aload_n dX12_field_146 rfl rfl ?_
              refine s_getS (q := 1122) (r := some a) (b := a) (ci := 12) (k := 25) in_X12 rfl (by decide) rfl kF_X12_75 dX12_field_147 rfl hs (by decide) hn (by decide) rfl rfl ?_
              refine mm_iload dX12_field_150 rfl ?_
              obtain ⟨j34, hj35, hb36, hl37, hx⟩ := ix_some hx
              refine s_iald (a := 1122) sa_1122 hn hj35 hb36 na_1122 dX12_field_152 ?_
              refine mm_iret dX12_field_153 rfl rfl ?_ (by omega) (by omega)
              obtain ⟨rfl, rfl⟩ := fin2 hx
              exact ⟨rfl, rfl⟩
            · skip
              refine mm_tsOut 154 dX12_field_59 (ts_out_5 h7 h12 h17 h22 h33) (by decide) ?_
              refine mm_aload_n dX12_field_154 rfl rfl ?_
              refine s_getS (q := 1116) (r := some a) (b := a) (ci := 12) (k := 19) in_X12 rfl (by decide) rfl kF_X12_56 dX12_field_155 rfl hs (by decide) hn (by decide) rfl rfl ?_
              refine mm_iload dX12_field_158 rfl ?_
              obtain ⟨j38, hj39, hb40, hl41, hx⟩ := ix_some hx
              refine s_iald (a := 1116) sa_1116 hn hj39 hb40 na_1116 dX12_field_160 ?_
              refine mm_iret dX12_field_161 rfl rfl ?_ (by omega) (by omega)
              obtain ⟨rfl, rfl⟩ := fin2 hx
              exact ⟨rfl, rfl⟩
  · refine mm_if_eq 57 dX12_field_52 (by decide) (fun h => absurd h h6) (fun _ => ?_)
    refine mm_iconst (v := 0) dX12_field_55 (by decide) ?_
    refine mm_iret dX12_field_56 rfl rfl ?_ (by omega) (by omega)
    obtain ⟨rfl, rfl⟩ := fin2 hx
    exact ⟨rfl, rfl⟩
set_option maxHeartbeats 4000000 in
set_option maxRecDepth 100000 in
theorem e_X12_field_40 {g : mm_G} {l : Launch} (hst : l.stackTraces = false) {Z : Nat → Nat → Option Nat} (hZ : HZ Z) {n : Nat} (hn : 1186 ≤ n) {z : Bool} {d : Nat} {U : Nat} {a : Nat} (hs : sh a = 12) {v4_ : Int32} {v5_ : Int32} {σ : SG} {r : Int32} {σ' : SG} (hx : x_X12_field_40 U a v4_ v5_ σ = some (r, σ')) : mm_V g l RX12 "field" cX12_field 6 (some .int) [] (d + 2) 0 0 (mm_nt (fun v S' => v = some (.int r) ∧ S' = (mem Z σ', n, z))) 40 [some (.ref a), none, none, none, some (.int v4_), some (.int v5_)] [.ref a] (mem Z σ, n, z) 0 0 := by
  unfold x_X12_field_40 at hx
  refine mm_iconst (v := 1) dX12_field_40 (by decide) ?_
  refine mm_goto 45 dX12_field_41 (by decide) ?_
  exact e_X12_field_45 hst hZ hn hs hx
set_option maxHeartbeats 4000000 in
set_option maxRecDepth 100000 in
theorem e_X12_field_20 {g : mm_G} {l : Launch} (hst : l.stackTraces = false) {Z : Nat → Nat → Option Nat} (hZ : HZ Z) {n : Nat} (hn : 1186 ≤ n) {z : Bool} {d : Nat} {U : Nat} {a : Nat} (hs : sh a = 12) {v4_ : Int32} {s0_ : Int32} {σ : SG} {r : Int32} {σ' : SG} (hx : x_X12_field_20 U a v4_ s0_ σ = some (r, σ')) : mm_V g l RX12 "field" cX12_field 6 (some .int) [] (d + 2) 0 0 (mm_nt (fun v S' => v = some (.int r) ∧ S' = (mem Z σ', n, z))) 20 [some (.ref a), none, none, none, some (.int v4_), none] [.int s0_] (mem Z σ, n, z) 0 0 := by
  unfold x_X12_field_20 at hx
  refine mm_istore [some (.ref a), none, none, none, some (.int v4_), some (.int s0_)] dX12_field_20 (by decide) rfl ?_
  refine mm_aload_n dX12_field_22 rfl rfl ?_
  refine mm_iload dX12_field_23 rfl ?_
  refine mm_iconst (v := (-1)) dX12_field_25 (by decide) ?_
  refine b_if hx (fun h4 hx => ?_) (fun h4 hx => ?_)
  · refine mm_icmp_eq 40 dX12_field_26 (by decide) (fun _ => ?_) (fun h => absurd h4 h)
    exact e_X12_field_40 hst hZ hn hs hx
  · refine mm_icmp_eq 40 dX12_field_26 (by decide) (fun h => absurd h h4) (fun _ => ?_)
    refine mm_iload dX12_field_29 rfl ?_
    refine b_if hx (fun h42 hx => ?_) (fun h42 hx => ?_)
    · refine mm_if_lt 40 dX12_field_31 (by decide) (fun _ => ?_) (fun h => absurd h42 h)
      exact e_X12_field_40 hst hZ hn hs hx
    · refine mm_if_lt 40 dX12_field_31 (by decide) (fun h => absurd h h42) (fun _ => ?_)
      refine mm_iload dX12_field_34 rfl ?_
      refine mm_iconst (v := 5) dX12_field_36 (by decide) ?_
      refine b_if hx (fun h43 hx => ?_) (fun h43 hx => ?_)
      · refine mm_icmp_le 44 dX12_field_37 (by decide) (fun h => absurd h (Int32.not_le.mpr h43)) (fun _ => ?_)
        exact e_X12_field_40 hst hZ hn hs hx
      · refine mm_icmp_le 44 dX12_field_37 (by decide) (fun _ => ?_) (fun h => absurd (Int32.not_lt.mp h43) h)
        refine mm_iconst (v := 0) dX12_field_44 (by decide) ?_
        exact e_X12_field_45 hst hZ hn hs hx
set_option maxHeartbeats 4000000 in
set_option maxRecDepth 100000 in
theorem e_X12_field {g : mm_G} {l : Launch} (hst : l.stackTraces = false) {Z : Nat → Nat → Option Nat} (hZ : HZ Z) {n : Nat} (hn : 1186 ≤ n) {z : Bool} {d : Nat} {U : Nat} {a : Nat} (hs : sh a = 12) {p0 : Int32} {p1 : Int32} {p2 : Int32} {p3 : Int32} {σ : SG} {r : Int32} {σ' : SG} (hx : x_X12_field U a p0 p1 p2 p3 σ = some (r, σ')) : mm_Cm g l yX12_field (.code yX12_field cX12_field 6 (some .int)) (d + 2) 0 0 [.ref a, .int p0, .int p1, .int p2, .int p3] (mem Z σ, n, z) (fun v S' => v = some (.int r) ∧ S' = (mem Z σ', n, z)) := by
  refine mm_Cm_of hst (by decide) (Nat.le_of_ble_eq_true rfl) ?_
  show mm_V g l RX12 "field" cX12_field 6 (some .int) [] (d + 2) 0 0 (mm_nt (fun v S' => v = some (.int r) ∧ S' = (mem Z σ', n, z))) 0 [some (.ref a), some (.int p0), some (.int p1), some (.int p2), some (.int p3), none] [] (mem Z σ, n, z) 0 0
  unfold x_X12_field at hx
  refine mm_aload_n dX12_field_0 rfl rfl ?_
  refine mm_iload_n dX12_field_1 rfl ?_
  refine mm_iload_n dX12_field_2 rfl ?_
  obtain ⟨v2, hc1, hx⟩ := b1_some hx
  refine mm_callV3 (a := a) (ci := 12) wM_X12_isMessage kM_X12_572 wI_X12_isMessage wS_X12_isMessage dX12_field_3 (e_X12_isMessage hst hZ hn hs hc1) (mem_obj hs (by decide)) (sh_ltn hs (by decide) hn) rfl rfl rfl (Nat.le_of_ble_eq_true rfl) (by omega) (by omega) (fun v9 S9 hq => ?_)
  obtain ⟨rfl, rfl⟩ := hq
  refine ⟨fun h => ⟨h, rfl⟩, ?_⟩
  refine b_if hx (fun h3 hx => ?_) (fun h3 hx => ?_)
  · refine mm_if_eq 19 dX12_field_6 (by decide) (fun _ => ?_) (fun h => absurd h3 h)
    refine mm_iconst (v := (-1)) dX12_field_19 (by decide) ?_
    refine mm_fewer [some (.ref a), none, none, none, some (.int p3), none] (few_ok (bs := [true, false, false, false, true, false]) rfl) ?_
    exact e_X12_field_20 hst hZ hn hs hx
  · refine mm_if_eq 19 dX12_field_6 (by decide) (fun h => absurd h h3) (fun _ => ?_)
    refine mm_aload_n dX12_field_9 rfl rfl ?_
    refine mm_iload_n dX12_field_10 rfl ?_
    refine mm_iload_n dX12_field_11 rfl ?_
    refine mm_iload_n dX12_field_12 rfl ?_
    obtain ⟨v45, hc44, hx⟩ := b1_some hx
    refine mm_callV3 (a := a) (ci := 12) wM_X12_fieldAt kM_X12_576 wI_X12_fieldAt wS_X12_fieldAt dX12_field_13 (e_X12_fieldAt hst hZ hn hs hc44) (mem_obj hs (by decide)) (sh_ltn hs (by decide) hn) rfl rfl rfl (Nat.le_of_ble_eq_true rfl) (by omega) (by omega) (fun v9 S9 hq => ?_)
    obtain ⟨rfl, rfl⟩ := hq
    refine ⟨fun h => ⟨h, rfl⟩, ?_⟩
    refine mm_goto 20 dX12_field_16 (by decide) ?_
    refine mm_fewer [some (.ref a), none, none, none, some (.int p3), none] (few_ok (bs := [true, false, false, false, true, false]) rfl) ?_
    exact e_X12_field_20 hst hZ hn hs hx
set_option maxHeartbeats 4000000 in
set_option maxRecDepth 100000 in
theorem e_X12_isNamed_L13 {g : mm_G} {l : Launch} (hst : l.stackTraces = false) {Z : Nat → Nat → Option Nat} (hZ : HZ Z) {n : Nat} (hn : 1186 ≤ n) {z : Bool} {d : Nat} {U : Nat} {a : Nat} (hs : sh a = 12) {v1_ : Int32} {v3_ : Int32} {v4_ : Int32} {σ : SG} {r : Int32} : ∀ (U1 : Nat) (v5_ : Int32), x_X12_isNamed_L13 U a v1_ v3_ v4_ σ U1 v5_ = some r → mm_V g l RX12 "isNamed" cX12_isNamed 6 (some .boolean) [] (d) 0 0 (mm_nt (fun v S' => v = some (.int r) ∧ S' = (mem Z σ, n, z))) 13 [some (.ref a), some (.int v1_), none, some (.int v3_), some (.int v4_), some (.int v5_)] [] (mem Z σ, n, z) 0 0 := by
  intro U1
  induction U1 with
  | zero => intro v5_ hx; exact absurd hx (by simp [x_X12_isNamed_L13])
  | succ U1 ih =>
    intro v5_ hx
    rw [x_X12_isNamed_L13] at hx
    refine mm_iload dX12_isNamed_13 rfl ?_
    refine mm_iload dX12_isNamed_15 rfl ?_
    refine b_if hx (fun h2 hx => ?_) (fun h2 hx => ?_)
    · refine mm_icmp_ge 49 dX12_isNamed_17 (by decide) (fun h => absurd h (Int32.not_le.mpr h2)) (fun _ => ?_)
      refine mm_aload_n dX12_isNamed_20 rfl rfl ?_
      refine s_getS (q := 1102) (r := some a) (b := a) (ci := 12) (k := 0) in_X12 rfl (by decide) rfl kF_X12_7 dX12_isNamed_21 rfl hs (by decide) hn (by decide) rfl rfl ?_
      refine mm_iload_n dX12_isNamed_24 rfl ?_
      refine mm_iload dX12_isNamed_25 rfl ?_
      refine mm_iadd dX12_isNamed_27 ?_
      obtain ⟨j3, hj4, hb5, hl6, hx⟩ := ix_some hx
      refine s_iald (a := 1102) sa_1102 hn hj4 hb5 na_1102 dX12_isNamed_28 ?_
      refine mm_aload_n dX12_isNamed_29 rfl rfl ?_
      refine s_getS (q := 1127) (r := some a) (b := a) (ci := 12) (k := 30) in_X12 rfl (by decide) rfl kF_X12_90 dX12_isNamed_30 rfl hs (by decide) hn (by decide) rfl rfl ?_
      refine mm_iload_n dX12_isNamed_33 rfl ?_
      refine mm_iload dX12_isNamed_34 rfl ?_
      refine mm_iadd dX12_isNamed_36 ?_
      obtain ⟨j7, hj8, hb9, hl10, hx⟩ := ix_some hx
      refine s_iald (a := 1127) sa_1127 hn hj8 hb9 na_1127 dX12_isNamed_37 ?_
      refine b_if hx (fun h11 hx => ?_) (fun h11 hx => ?_)
      · refine mm_icmp_eq 43 dX12_isNamed_38 (by decide) (fun _ => ?_) (fun h => absurd h11 h)
        refine mm_iinc (v := v5_ + 1) [some (.ref a), some (.int v1_), none, some (.int v3_), some (.int v4_), some (.int (v5_ + 1))] dX12_isNamed_43 rfl rfl (by decide) rfl ?_
        refine mm_goto 13 dX12_isNamed_46 (by decide) ?_
        exact ih _ hx
      · refine mm_icmp_eq 43 dX12_isNamed_38 (by decide) (fun h => absurd h h11) (fun _ => ?_)
        refine mm_iconst (v := 0) dX12_isNamed_41 (by decide) ?_
        refine mm_iret dX12_isNamed_42 rfl rfl ?_ (by omega) (by omega)
        obtain rfl := fin1 hx
        exact ⟨rfl, rfl⟩
    · refine mm_icmp_ge 49 dX12_isNamed_17 (by decide) (fun _ => ?_) (fun h => absurd (Int32.not_lt.mp h2) h)
      refine mm_iconst (v := 1) dX12_isNamed_49 (by decide) ?_
      refine mm_iret dX12_isNamed_50 rfl rfl ?_ (by omega) (by omega)
      obtain rfl := fin1 hx
      exact ⟨rfl, rfl⟩
set_option maxHeartbeats 4000000 in
set_option maxRecDepth 100000 in
theorem e_X12_isNamed {g : mm_G} {l : Launch} (hst : l.stackTraces = false) {Z : Nat → Nat → Option Nat} (hZ : HZ Z) {n : Nat} (hn : 1186 ≤ n) {z : Bool} {d : Nat} {U : Nat} {a : Nat} (hs : sh a = 12) {p0 : Int32} {p1 : Int32} {p2 : Int32} {p3 : Int32} {σ : SG} {r : Int32} (hx : x_X12_isNamed U a p0 p1 p2 p3 σ = some r) : mm_Cm g l yX12_isNamed (.code yX12_isNamed cX12_isNamed 6 (some .boolean)) (d) 0 0 [.ref a, .int p0, .int p1, .int p2, .int p3] (mem Z σ, n, z) (fun v S' => v = some (.int r) ∧ S' = (mem Z σ, n, z)) := by
  refine mm_Cm_of hst (by decide) (Nat.le_of_ble_eq_true rfl) ?_
  show mm_V g l RX12 "isNamed" cX12_isNamed 6 (some .boolean) [] (d) 0 0 (mm_nt (fun v S' => v = some (.int r) ∧ S' = (mem Z σ, n, z))) 0 [some (.ref a), some (.int p0), some (.int p1), some (.int p2), some (.int p3), none] [] (mem Z σ, n, z) 0 0
  unfold x_X12_isNamed at hx
  refine mm_iload_n dX12_isNamed_0 rfl ?_
  refine mm_iload_n dX12_isNamed_1 rfl ?_
  refine mm_isub dX12_isNamed_2 ?_
  refine mm_iload dX12_isNamed_3 rfl ?_
  refine b_if hx (fun h1 hx => ?_) (fun h1 hx => ?_)
  · refine mm_icmp_eq 10 dX12_isNamed_5 (by decide) (fun _ => ?_) (fun h => absurd h1 h)
    refine mm_iconst (v := 0) dX12_isNamed_10 (by decide) ?_
    refine mm_istore [some (.ref a), some (.int p0), some (.int p1), some (.int p2), some (.int p3), some (.int 0)] dX12_isNamed_11 (by decide) rfl ?_
    refine mm_fewer [some (.ref a), some (.int p0), none, some (.int p2), some (.int p3), some (.int 0)] (few_ok (bs := [true, true, false, true, true, true]) rfl) ?_
    refine e_X12_isNamed_L13 hst hZ hn hs _ _ hx
  · refine mm_icmp_eq 10 dX12_isNamed_5 (by decide) (fun h => absurd h h1) (fun _ => ?_)
    refine mm_iconst (v := 0) dX12_isNamed_8 (by decide) ?_
    refine mm_iret dX12_isNamed_9 rfl rfl ?_ (by omega) (by omega)
    obtain rfl := fin1 hx
    exact ⟨rfl, rfl⟩
set_option maxHeartbeats 4000000 in
set_option maxRecDepth 100000 in
theorem e_X12_fieldNamed_68 {g : mm_G} {l : Launch} (hst : l.stackTraces = false) {Z : Nat → Nat → Option Nat} (hZ : HZ Z) {n : Nat} (hn : 1186 ≤ n) {z : Bool} {d : Nat} {U : Nat} {a : Nat} (hs : sh a = 12) {k9 : Int32 → Option (Int32)} {v1_ : Int32} {v2_ : Int32} {v3_ : Int32} {v4_ : Int32} {σ : SG} {r : Int32} (hk9 : ∀ (v4_ : Int32), k9 v4_ = some r → mm_V g l RX12 "fieldNamed" cX12_fieldNamed 5 (some .int) [] (d + 1) 0 0 (mm_nt (fun v S' => v = some (.int r) ∧ S' = (mem Z σ, n, z))) 9 [some (.ref a), some (.int v1_), some (.int v2_), some (.int v3_), some (.int v4_)] [] (mem Z σ, n, z) 0 0) (hx : x_X12_fieldNamed_68 U a k9 v1_ v2_ v3_ v4_ σ = some r) : mm_V g l RX12 "fieldNamed" cX12_fieldNamed 5 (some .int) [] (d + 1) 0 0 (mm_nt (fun v S' => v = some (.int r) ∧ S' = (mem Z σ, n, z))) 68 [some (.ref a), some (.int v1_), some (.int v2_), some (.int v3_), some (.int v4_)] [] (mem Z σ, n, z) 0 0 := by
  unfold x_X12_fieldNamed_68 at hx
  refine mm_iinc (v := v4_ + 1) [some (.ref a), some (.int v1_), some (.int v2_), some (.int v3_), some (.int (v4_ + 1))] dX12_fieldNamed_68 rfl rfl (by decide) rfl ?_
  refine mm_goto 9 dX12_fieldNamed_71 (by decide) ?_
  exact hk9 _ hx
set_option maxHeartbeats 4000000 in
set_option maxRecDepth 100000 in
theorem e_X12_fieldNamed_L9 {g : mm_G} {l : Launch} (hst : l.stackTraces = false) {Z : Nat → Nat → Option Nat} (hZ : HZ Z) {n : Nat} (hn : 1186 ≤ n) {z : Bool} {d : Nat} {U : Nat} {a : Nat} (hs : sh a = 12) {v1_ : Int32} {v2_ : Int32} {v3_ : Int32} {σ : SG} {r : Int32} : ∀ (U1 : Nat) (v4_ : Int32), x_X12_fieldNamed_L9 U a v1_ v2_ v3_ σ U1 v4_ = some r → mm_V g l RX12 "fieldNamed" cX12_fieldNamed 5 (some .int) [] (d + 1) 0 0 (mm_nt (fun v S' => v = some (.int r) ∧ S' = (mem Z σ, n, z))) 9 [some (.ref a), some (.int v1_), some (.int v2_), some (.int v3_), some (.int v4_)] [] (mem Z σ, n, z) 0 0 := by
  intro U1
  induction U1 with
  | zero => intro v4_ hx; exact absurd hx (by simp [x_X12_fieldNamed_L9])
  | succ U1 ih =>
    intro v4_ hx
    rw [x_X12_fieldNamed_L9] at hx
    refine mm_iload dX12_fieldNamed_9 rfl ?_
    refine mm_bipush (v := 60) dX12_fieldNamed_11 (by decide) ?_
    refine mm_aload_n dX12_fieldNamed_13 rfl rfl ?_
    refine s_getI (r := some a) (b := a) (ci := 12) (k := 80) in_X12 rfl (by decide) rfl kF_X12_587 dX12_fieldNamed_14 rfl hs (by decide) hn (by decide) rfl ?_
    refine mm_imul dX12_fieldNamed_17 ?_
    refine mm_aload_n dX12_fieldNamed_18 rfl rfl ?_
    refine s_getS (q := 1106) (r := some a) (b := a) (ci := 12) (k := 9) in_X12 rfl (by decide) rfl kF_X12_26 dX12_fieldNamed_19 rfl hs (by decide) hn (by decide) rfl rfl ?_
    refine mm_aload_n dX12_fieldNamed_22 rfl rfl ?_
    refine s_getI (r := some a) (b := a) (ci := 12) (k := 80) in_X12 rfl (by decide) rfl kF_X12_587 dX12_fieldNamed_23 rfl hs (by decide) hn (by decide) rfl ?_
    obtain ⟨j1, hj2, hb3, hl4, hx⟩ := ix_some hx
    refine s_iald (a := 1106) sa_1106 hn hj2 hb3 na_1106 dX12_fieldNamed_26 ?_
    refine mm_iadd dX12_fieldNamed_27 ?_
    refine b_if hx (fun h5 hx => ?_) (fun h5 hx => ?_)
    · refine mm_icmp_ge 74 dX12_fieldNamed_28 (by decide) (fun h => absurd h (Int32.not_le.mpr h5)) (fun _ => ?_)
      refine mm_aload_n dX12_fieldNamed_31 rfl rfl ?_
      refine s_getS (q := 1114) (r := some a) (b := a) (ci := 12) (k := 17) in_X12 rfl (by decide) rfl kF_X12_50 dX12_fieldNamed_32 rfl hs (by decide) hn (by decide) rfl rfl ?_
      refine mm_iload dX12_fieldNamed_35 rfl ?_
      obtain ⟨j6, hj7, hb8, hl9, hx⟩ := ix_some hx
      refine s_iald (a := 1114) sa_1114 hn hj7 hb8 na_1114 dX12_fieldNamed_37 ?_
      refine mm_iload_n dX12_fieldNamed_38 rfl ?_
      refine b_if hx (fun h10 hx => ?_) (fun h10 hx => ?_)
      · refine mm_icmp_ne 68 dX12_fieldNamed_39 (by decide) (fun h => absurd h10 h) (fun _ => ?_)
        refine mm_aload_n dX12_fieldNamed_42 rfl rfl ?_
        refine mm_iload_n dX12_fieldNamed_43 rfl ?_
        refine mm_iload_n dX12_fieldNamed_44 rfl ?_
        refine mm_aload_n dX12_fieldNamed_45 rfl rfl ?_
        refine s_getS (q := 1115) (r := some a) (b := a) (ci := 12) (k := 18) in_X12 rfl (by decide) rfl kF_X12_53 dX12_fieldNamed_46 rfl hs (by decide) hn (by decide) rfl rfl ?_
        refine mm_iload dX12_fieldNamed_49 rfl ?_
        obtain ⟨j11, hj12, hb13, hl14, hx⟩ := ix_some hx
        refine s_iald (a := 1115) sa_1115 hn hj12 hb13 na_1115 dX12_fieldNamed_51 ?_
        refine mm_aload_n dX12_fieldNamed_52 rfl rfl ?_
        refine s_getS (q := 1116) (r := some a) (b := a) (ci := 12) (k := 19) in_X12 rfl (by decide) rfl kF_X12_56 dX12_fieldNamed_53 rfl hs (by decide) hn (by decide) rfl rfl ?_
        refine mm_iload dX12_fieldNamed_56 rfl ?_
        obtain ⟨j15, hj16, hb17, hl18, hx⟩ := ix_some hx
        refine s_iald (a := 1116) sa_1116 hn hj16 hb17 na_1116 dX12_fieldNamed_58 ?_
        obtain ⟨v20, hc19, hx⟩ := b1_some hx
        refine mm_callV3 (a := a) (ci := 12) wM_X12_isNamed kM_X12_789 wI_X12_isNamed wS_X12_isNamed dX12_fieldNamed_59 (e_X12_isNamed hst hZ hn hs hc19) (mem_obj hs (by decide)) (sh_ltn hs (by decide) hn) rfl rfl rfl (Nat.le_of_ble_eq_true rfl) (by omega) (by omega) (fun v9 S9 hq => ?_)
        obtain ⟨rfl, rfl⟩ := hq
        refine ⟨fun h => ⟨h, rfl⟩, ?_⟩
        refine b_if hx (fun h21 hx => ?_) (fun h21 hx => ?_)
        · refine mm_if_eq 68 dX12_fieldNamed_62 (by decide) (fun _ => ?_) (fun h => absurd h21 h)
          exact e_X12_fieldNamed_68 hst hZ hn hs ih hx
        · refine mm_if_eq 68 dX12_fieldNamed_62 (by decide) (fun h => absurd h h21) (fun _ => ?_)
          refine mm_iload dX12_fieldNamed_65 rfl ?_
          refine mm_iret dX12_fieldNamed_67 rfl rfl ?_ (by omega) (by omega)
          obtain rfl := fin1 hx
          exact ⟨rfl, rfl⟩
      · refine mm_icmp_ne 68 dX12_fieldNamed_39 (by decide) (fun _ => ?_) (fun h => absurd h h10)
        exact e_X12_fieldNamed_68 hst hZ hn hs ih hx
    · refine mm_icmp_ge 74 dX12_fieldNamed_28 (by decide) (fun _ => ?_) (fun h => absurd (Int32.not_lt.mp h5) h)
      refine mm_iconst (v := (-1)) dX12_fieldNamed_74 (by decide) ?_
      refine mm_iret dX12_fieldNamed_75 rfl rfl ?_ (by omega) (by omega)
      obtain rfl := fin1 hx
      exact ⟨rfl, rfl⟩
set_option maxHeartbeats 4000000 in
set_option maxRecDepth 100000 in
theorem e_X12_fieldNamed {g : mm_G} {l : Launch} (hst : l.stackTraces = false) {Z : Nat → Nat → Option Nat} (hZ : HZ Z) {n : Nat} (hn : 1186 ≤ n) {z : Bool} {d : Nat} {U : Nat} {a : Nat} (hs : sh a = 12) {p0 : Int32} {p1 : Int32} {p2 : Int32} {σ : SG} {r : Int32} (hx : x_X12_fieldNamed U a p0 p1 p2 σ = some r) : mm_Cm g l yX12_fieldNamed (.code yX12_fieldNamed cX12_fieldNamed 5 (some .int)) (d + 1) 0 0 [.ref a, .int p0, .int p1, .int p2] (mem Z σ, n, z) (fun v S' => v = some (.int r) ∧ S' = (mem Z σ, n, z)) := by
  refine mm_Cm_of hst (by decide) (Nat.le_of_ble_eq_true rfl) ?_
  show mm_V g l RX12 "fieldNamed" cX12_fieldNamed 5 (some .int) [] (d + 1) 0 0 (mm_nt (fun v S' => v = some (.int r) ∧ S' = (mem Z σ, n, z))) 0 [some (.ref a), some (.int p0), some (.int p1), some (.int p2), none] [] (mem Z σ, n, z) 0 0
  unfold x_X12_fieldNamed at hx
  refine mm_bipush (v := 60) dX12_fieldNamed_0 (by decide) ?_
  refine mm_aload_n dX12_fieldNamed_2 rfl rfl ?_
  refine s_getI (r := some a) (b := a) (ci := 12) (k := 80) in_X12 rfl (by decide) rfl kF_X12_587 dX12_fieldNamed_3 rfl hs (by decide) hn (by decide) rfl ?_
  refine mm_imul dX12_fieldNamed_6 ?_
  refine mm_istore [some (.ref a), some (.int p0), some (.int p1), some (.int p2), some (.int (60 * (sI σ a 80)))] dX12_fieldNamed_7 (by decide) rfl ?_
  refine e_X12_fieldNamed_L9 hst hZ hn hs _ _ hx
set_option maxHeartbeats 4000000 in
set_option maxRecDepth 100000 in
theorem e_X12_isTape_L15 {g : mm_G} {l : Launch} (hst : l.stackTraces = false) {Z : Nat → Nat → Option Nat} (hZ : HZ Z) {n : Nat} (hn : 1186 ≤ n) {z : Bool} {d : Nat} {U : Nat} {a : Nat} (hs : sh a = 12) {k50 : Option (Int32)} {v1_ : Int32} {v2_ : Int32} {v3_ : Int32} {σ : SG} {r : Int32} (hk50 : k50 = some r → mm_V g l RX12 "isTape" cX12_isTape 5 (some .boolean) [] (d) 0 0 (mm_nt (fun v S' => v = some (.int r) ∧ S' = (mem Z σ, n, z))) 50 [some (.ref a), some (.int v1_), none, some (.int v3_), none] [] (mem Z σ, n, z) 0 0) : ∀ (U1 : Nat) (v4_ : Int32), x_X12_isTape_L15 U a k50 v1_ v2_ v3_ σ U1 v4_ = some r → mm_V g l RX12 "isTape" cX12_isTape 5 (some .boolean) [] (d) 0 0 (mm_nt (fun v S' => v = some (.int r) ∧ S' = (mem Z σ, n, z))) 15 [some (.ref a), some (.int v1_), some (.int v2_), some (.int v3_), some (.int v4_)] [] (mem Z σ, n, z) 0 0 := by
  intro U1
  induction U1 with
  | zero => intro v4_ hx; exact absurd hx (by simp [x_X12_isTape_L15])
  | succ U1 ih =>
    intro v4_ hx
    rw [x_X12_isTape_L15] at hx
    refine mm_iload dX12_isTape_15 rfl ?_
    refine mm_iload_n dX12_isTape_17 rfl ?_
    refine b_if hx (fun h2 hx => ?_) (fun h2 hx => ?_)
    · refine mm_icmp_ge 50 dX12_isTape_18 (by decide) (fun h => absurd h (Int32.not_le.mpr h2)) (fun _ => ?_)
      refine mm_aload_n dX12_isTape_21 rfl rfl ?_
      refine s_getS (q := 1102) (r := some a) (b := a) (ci := 12) (k := 0) in_X12 rfl (by decide) rfl kF_X12_7 dX12_isTape_22 rfl hs (by decide) hn (by decide) rfl rfl ?_
      refine mm_iload_n dX12_isTape_25 rfl ?_
      refine mm_iload dX12_isTape_26 rfl ?_
      refine mm_iadd dX12_isTape_28 ?_
      obtain ⟨j3, hj4, hb5, hl6, hx⟩ := ix_some hx
      refine s_iald (a := 1102) sa_1102 hn hj4 hb5 na_1102 dX12_isTape_29 ?_
      refine mm_aload_n dX12_isTape_30 rfl rfl ?_
      refine s_getS (q := 1127) (r := some a) (b := a) (ci := 12) (k := 30) in_X12 rfl (by decide) rfl kF_X12_90 dX12_isTape_31 rfl hs (by decide) hn (by decide) rfl rfl ?_
      refine mm_iload_n dX12_isTape_34 rfl ?_
      refine mm_iload dX12_isTape_35 rfl ?_
      refine mm_iadd dX12_isTape_37 ?_
      obtain ⟨j7, hj8, hb9, hl10, hx⟩ := ix_some hx
      refine s_iald (a := 1127) sa_1127 hn hj8 hb9 na_1127 dX12_isTape_38 ?_
      refine b_if hx (fun h11 hx => ?_) (fun h11 hx => ?_)
      · refine mm_icmp_eq 44 dX12_isTape_39 (by decide) (fun _ => ?_) (fun h => absurd h11 h)
        refine mm_iinc (v := v4_ + 1) [some (.ref a), some (.int v1_), some (.int v2_), some (.int v3_), some (.int (v4_ + 1))] dX12_isTape_44 rfl rfl (by decide) rfl ?_
        refine mm_goto 15 dX12_isTape_47 (by decide) ?_
        exact ih _ hx
      · refine mm_icmp_eq 44 dX12_isTape_39 (by decide) (fun h => absurd h h11) (fun _ => ?_)
        refine mm_iconst (v := 0) dX12_isTape_42 (by decide) ?_
        refine mm_iret dX12_isTape_43 rfl rfl ?_ (by omega) (by omega)
        obtain rfl := fin1 hx
        exact ⟨rfl, rfl⟩
    · refine mm_icmp_ge 50 dX12_isTape_18 (by decide) (fun _ => ?_) (fun h => absurd (Int32.not_lt.mp h2) h)
      refine mm_fewer [some (.ref a), some (.int v1_), none, some (.int v3_), none] (few_ok (bs := [true, true, false, true, false]) rfl) ?_
      exact hk50  hx
set_option maxHeartbeats 4000000 in
set_option maxRecDepth 100000 in
theorem e_X12_isTape {g : mm_G} {l : Launch} (hst : l.stackTraces = false) {Z : Nat → Nat → Option Nat} (hZ : HZ Z) {n : Nat} (hn : 1186 ≤ n) {z : Bool} {d : Nat} {U : Nat} {a : Nat} (hs : sh a = 12) {p0 : Int32} {p1 : Int32} {p2 : Int32} {σ : SG} {r : Int32} (hx : x_X12_isTape U a p0 p1 p2 σ = some r) : mm_Cm g l yX12_isTape (.code yX12_isTape cX12_isTape 5 (some .boolean)) (d) 0 0 [.ref a, .int p0, .int p1, .int p2] (mem Z σ, n, z) (fun v S' => v = some (.int r) ∧ S' = (mem Z σ, n, z)) := by
  refine mm_Cm_of hst (by decide) (Nat.le_of_ble_eq_true rfl) ?_
  show mm_V g l RX12 "isTape" cX12_isTape 5 (some .boolean) [] (d) 0 0 (mm_nt (fun v S' => v = some (.int r) ∧ S' = (mem Z σ, n, z))) 0 [some (.ref a), some (.int p0), some (.int p1), some (.int p2), none] [] (mem Z σ, n, z) 0 0
  unfold x_X12_isTape at hx
  refine mm_iload_n dX12_isTape_0 rfl ?_
  refine mm_iload_n dX12_isTape_1 rfl ?_
  refine mm_iadd dX12_isTape_2 ?_
  refine mm_aload_n dX12_isTape_3 rfl rfl ?_
  refine s_getI (r := some a) (b := a) (ci := 12) (k := 73) in_X12 rfl (by decide) rfl kF_X12_274 dX12_isTape_4 rfl hs (by decide) hn (by decide) rfl ?_
  refine b_if hx (fun h1 hx => ?_) (fun h1 hx => ?_)
  · refine mm_icmp_le 12 dX12_isTape_7 (by decide) (fun h => absurd h (Int32.not_le.mpr h1)) (fun _ => ?_)
    refine mm_iconst (v := 0) dX12_isTape_10 (by decide) ?_
    refine mm_iret dX12_isTape_11 rfl rfl ?_ (by omega) (by omega)
    obtain rfl := fin1 hx
    exact ⟨rfl, rfl⟩
  · refine mm_icmp_le 12 dX12_isTape_7 (by decide) (fun _ => ?_) (fun h => absurd (Int32.not_lt.mp h1) h)
    refine mm_iconst (v := 0) dX12_isTape_12 (by decide) ?_
    refine mm_istore [some (.ref a), some (.int p0), some (.int p1), some (.int p2), some (.int 0)] dX12_isTape_13 (by decide) rfl ?_
    refine e_X12_isTape_L15 hst hZ hn hs ?_ _ _ hx
    · intro  hx
      refine mm_iload_n dX12_isTape_50 rfl ?_
      refine mm_iload_n dX12_isTape_51 rfl ?_
      refine mm_iadd dX12_isTape_52 ?_
      refine mm_aload_n dX12_isTape_53 rfl rfl ?_
      refine s_getI (r := some a) (b := a) (ci := 12) (k := 73) in_X12 rfl (by decide) rfl kF_X12_274 dX12_isTape_54 rfl hs (by decide) hn (by decide) rfl ?_
      refine b_if hx (fun h12 hx => ?_) (fun h12 hx => ?_)
      · refine mm_icmp_eq 73 dX12_isTape_57 (by decide) (fun _ => ?_) (fun h => absurd h12 h)
        refine mm_iconst (v := 1) dX12_isTape_73 (by decide) ?_
        refine mm_goto 78 dX12_isTape_74 (by decide) ?_
        refine mm_iret dX12_isTape_78 rfl rfl ?_ (by omega) (by omega)
        obtain rfl := fin1 hx
        exact ⟨rfl, rfl⟩
      · refine mm_icmp_eq 73 dX12_isTape_57 (by decide) (fun h => absurd h h12) (fun _ => ?_)
        refine mm_aload_n dX12_isTape_60 rfl rfl ?_
        refine s_getS (q := 1102) (r := some a) (b := a) (ci := 12) (k := 0) in_X12 rfl (by decide) rfl kF_X12_7 dX12_isTape_61 rfl hs (by decide) hn (by decide) rfl rfl ?_
        refine mm_iload_n dX12_isTape_64 rfl ?_
        refine mm_iload_n dX12_isTape_65 rfl ?_
        refine mm_iadd dX12_isTape_66 ?_
        obtain ⟨j13, hj14, hb15, hl16, hx⟩ := ix_some hx
        refine s_iald (a := 1102) sa_1102 hn hj14 hb15 na_1102 dX12_isTape_67 ?_
        refine mm_bipush (v := 46) dX12_isTape_68 (by decide) ?_
        refine b_if hx (fun h17 hx => ?_) (fun h17 hx => ?_)
        · refine mm_icmp_ne 77 dX12_isTape_70 (by decide) (fun h => absurd h17 h) (fun _ => ?_)
          refine mm_iconst (v := 1) dX12_isTape_73 (by decide) ?_
          refine mm_goto 78 dX12_isTape_74 (by decide) ?_
          refine mm_iret dX12_isTape_78 rfl rfl ?_ (by omega) (by omega)
          obtain rfl := fin1 hx
          exact ⟨rfl, rfl⟩
        · refine mm_icmp_ne 77 dX12_isTape_70 (by decide) (fun _ => ?_) (fun h => absurd h h17)
          refine mm_iconst (v := 0) dX12_isTape_77 (by decide) ?_
          refine mm_iret dX12_isTape_78 rfl rfl ?_ (by omega) (by omega)
          obtain rfl := fin1 hx
          exact ⟨rfl, rfl⟩
set_option maxHeartbeats 4000000 in
set_option maxRecDepth 100000 in
theorem e_X12_named_63 {g : mm_G} {l : Launch} (hst : l.stackTraces = false) {Z : Nat → Nat → Option Nat} (hZ : HZ Z) {n : Nat} (hn : 1186 ≤ n) {z : Bool} {d : Nat} {U : Nat} {a : Nat} (hs : sh a = 12) {k6 : Int32 → Option (Int32)} {k55 : Int32 → Option (Int32)} {k69 : Option (Int32)} {v1_ : Int32} {v2_ : Int32} {v3_ : Int32} {v4_ : Int32} {σ : SG} {r : Int32} (hk6 : ∀ (v4_ : Int32), k6 v4_ = some r → mm_V g l RX12 "named" cX12_named 5 (some .int) [] (d + 1) 0 0 (mm_nt (fun v S' => v = some (.int r) ∧ S' = (mem Z σ, n, z))) 6 [some (.ref a), some (.int v1_), some (.int v2_), some (.int v3_), some (.int v4_)] [] (mem Z σ, n, z) 0 0) (hk55 : ∀ (v4_ : Int32), k55 v4_ = some r → mm_V g l RX12 "named" cX12_named 5 (some .int) [] (d + 1) 0 0 (mm_nt (fun v S' => v = some (.int r) ∧ S' = (mem Z σ, n, z))) 55 [none, some (.int v1_), none, none, some (.int v4_)] [] (mem Z σ, n, z) 0 0) (hk69 :  k69 = some r → mm_V g l RX12 "named" cX12_named 5 (some .int) [] (d + 1) 0 0 (mm_nt (fun v S' => v = some (.int r) ∧ S' = (mem Z σ, n, z))) 69 [some (.ref a), some (.int v1_), some (.int v2_), some (.int v3_), none] [] (mem Z σ, n, z) 0 0) (hx : x_X12_named_63 U a k6 k55 k69 v1_ v2_ v3_ v4_ σ = some r) : mm_V g l RX12 "named" cX12_named 5 (some .int) [] (d + 1) 0 0 (mm_nt (fun v S' => v = some (.int r) ∧ S' = (mem Z σ, n, z))) 63 [some (.ref a), some (.int v1_), some (.int v2_), some (.int v3_), some (.int v4_)] [] (mem Z σ, n, z) 0 0 := by
  unfold x_X12_named_63 at hx
  refine mm_iinc (v := v4_ + 1) [some (.ref a), some (.int v1_), some (.int v2_), some (.int v3_), some (.int (v4_ + 1))] dX12_named_63 rfl rfl (by decide) rfl ?_
  refine mm_goto 6 dX12_named_66 (by decide) ?_
  exact hk6 _ hx
set_option maxHeartbeats 4000000 in
set_option maxRecDepth 100000 in
theorem e_X12_named_L6 {g : mm_G} {l : Launch} (hst : l.stackTraces = false) {Z : Nat → Nat → Option Nat} (hZ : HZ Z) {n : Nat} (hn : 1186 ≤ n) {z : Bool} {d : Nat} {U : Nat} {a : Nat} (hs : sh a = 12) {k55 : Int32 → Option (Int32)} {k69 : Option (Int32)} {v1_ : Int32} {v2_ : Int32} {v3_ : Int32} {σ : SG} {r : Int32} (hk55 : ∀ (v4_ : Int32), k55 v4_ = some r → mm_V g l RX12 "named" cX12_named 5 (some .int) [] (d + 1) 0 0 (mm_nt (fun v S' => v = some (.int r) ∧ S' = (mem Z σ, n, z))) 55 [none, some (.int v1_), none, none, some (.int v4_)] [] (mem Z σ, n, z) 0 0) (hk69 : k69 = some r → mm_V g l RX12 "named" cX12_named 5 (some .int) [] (d + 1) 0 0 (mm_nt (fun v S' => v = some (.int r) ∧ S' = (mem Z σ, n, z))) 69 [some (.ref a), some (.int v1_), some (.int v2_), some (.int v3_), none] [] (mem Z σ, n, z) 0 0) : ∀ (U1 : Nat) (v4_ : Int32), x_X12_named_L6 U a k55 k69 v1_ v2_ v3_ σ U1 v4_ = some r → mm_V g l RX12 "named" cX12_named 5 (some .int) [] (d + 1) 0 0 (mm_nt (fun v S' => v = some (.int r) ∧ S' = (mem Z σ, n, z))) 6 [some (.ref a), some (.int v1_), some (.int v2_), some (.int v3_), some (.int v4_)] [] (mem Z σ, n, z) 0 0 := by
  intro U1
  induction U1 with
  | zero => intro v4_ hx; exact absurd hx (by simp [x_X12_named_L6])
  | succ U1 ih =>
    intro v4_ hx
    rw [x_X12_named_L6] at hx
    refine mm_iload dX12_named_6 rfl ?_
    refine mm_bipush (v := 16) dX12_named_8 (by decide) ?_
    refine mm_iload_n dX12_named_10 rfl ?_
    refine mm_imul dX12_named_11 ?_
    refine mm_aload_n dX12_named_12 rfl rfl ?_
    refine s_getS (q := 1104) (r := some a) (b := a) (ci := 12) (k := 7) in_X12 rfl (by decide) rfl kF_X12_20 dX12_named_13 rfl hs (by decide) hn (by decide) rfl rfl ?_
    refine mm_iload_n dX12_named_16 rfl ?_
    obtain ⟨j1, hj2, hb3, hl4, hx⟩ := ix_some hx
    refine s_iald (a := 1104) sa_1104 hn hj2 hb3 na_1104 dX12_named_17 ?_
    refine mm_iadd dX12_named_18 ?_
    refine b_if hx (fun h5 hx => ?_) (fun h5 hx => ?_)
    · refine mm_icmp_ge 69 dX12_named_19 (by decide) (fun h => absurd h (Int32.not_le.mpr h5)) (fun _ => ?_)
      refine mm_aload_n dX12_named_22 rfl rfl ?_
      refine s_getS (q := 1108) (r := some a) (b := a) (ci := 12) (k := 11) in_X12 rfl (by decide) rfl kF_X12_32 dX12_named_23 rfl hs (by decide) hn (by decide) rfl rfl ?_
      refine mm_iload dX12_named_26 rfl ?_
      obtain ⟨j6, hj7, hb8, hl9, hx⟩ := ix_some hx
      refine s_iald (a := 1108) sa_1108 hn hj7 hb8 na_1108 dX12_named_28 ?_
      refine mm_iload_n dX12_named_29 rfl ?_
      refine b_if hx (fun h10 hx => ?_) (fun h10 hx => ?_)
      · refine mm_icmp_ne 63 dX12_named_30 (by decide) (fun h => absurd h10 h) (fun _ => ?_)
        refine mm_aload_n dX12_named_33 rfl rfl ?_
        refine mm_iload_n dX12_named_34 rfl ?_
        refine mm_aload_n dX12_named_35 rfl rfl ?_
        refine s_getS (q := 1109) (r := some a) (b := a) (ci := 12) (k := 12) in_X12 rfl (by decide) rfl kF_X12_35 dX12_named_36 rfl hs (by decide) hn (by decide) rfl rfl ?_
        refine mm_iload dX12_named_39 rfl ?_
        obtain ⟨j11, hj12, hb13, hl14, hx⟩ := ix_some hx
        refine s_iald (a := 1109) sa_1109 hn hj12 hb13 na_1109 dX12_named_41 ?_
        refine mm_aload_n dX12_named_42 rfl rfl ?_
        refine s_getS (q := 1110) (r := some a) (b := a) (ci := 12) (k := 13) in_X12 rfl (by decide) rfl kF_X12_38 dX12_named_43 rfl hs (by decide) hn (by decide) rfl rfl ?_
        refine mm_iload dX12_named_46 rfl ?_
        obtain ⟨j15, hj16, hb17, hl18, hx⟩ := ix_some hx
        refine s_iald (a := 1110) sa_1110 hn hj16 hb17 na_1110 dX12_named_48 ?_
        obtain ⟨v20, hc19, hx⟩ := b1_some hx
        refine mm_callV3 (a := a) (ci := 12) wM_X12_isTape kM_X12_580 wI_X12_isTape wS_X12_isTape dX12_named_49 (e_X12_isTape hst hZ hn hs hc19) (mem_obj hs (by decide)) (sh_ltn hs (by decide) hn) rfl rfl rfl (Nat.le_of_ble_eq_true rfl) (by omega) (by omega) (fun v9 S9 hq => ?_)
        obtain ⟨rfl, rfl⟩ := hq
        refine ⟨fun h => ⟨h, rfl⟩, ?_⟩
        refine b_if hx (fun h21 hx => ?_) (fun h21 hx => ?_)
        · refine mm_if_eq 63 dX12_named_52 (by decide) (fun _ => ?_) (fun h => absurd h21 h)
          exact e_X12_named_63 hst hZ hn hs ih hk55 hk69 hx
        · refine mm_if_eq 63 dX12_named_52 (by decide) (fun h => absurd h h21) (fun _ => ?_)
          refine mm_fewer [none, some (.int v1_), none, none, some (.int v4_)] (few_ok (bs := [false, true, false, false, true]) rfl) ?_
          exact hk55 _ hx
      · refine mm_icmp_ne 63 dX12_named_30 (by decide) (fun _ => ?_) (fun h => absurd h h10)
        exact e_X12_named_63 hst hZ hn hs ih hk55 hk69 hx
    · refine mm_icmp_ge 69 dX12_named_19 (by decide) (fun _ => ?_) (fun h => absurd (Int32.not_lt.mp h5) h)
      refine mm_fewer [some (.ref a), some (.int v1_), some (.int v2_), some (.int v3_), none] (few_ok (bs := [true, true, true, true, false]) rfl) ?_
      exact hk69  hx
set_option maxHeartbeats 4000000 in
set_option maxRecDepth 100000 in
theorem e_X12_named_136 {g : mm_G} {l : Launch} (hst : l.stackTraces = false) {Z : Nat → Nat → Option Nat} (hZ : HZ Z) {n : Nat} (hn : 1186 ≤ n) {z : Bool} {d : Nat} {U : Nat} {a : Nat} (hs : sh a = 12) {k75 : Int32 → Option (Int32)} {k124 : Int32 → Option (Int32)} {v1_ : Int32} {v2_ : Int32} {v3_ : Int32} {v4_ : Int32} {σ : SG} {r : Int32} (hk75 : ∀ (v4_ : Int32), k75 v4_ = some r → mm_V g l RX12 "named" cX12_named 5 (some .int) [] (d + 1) 0 0 (mm_nt (fun v S' => v = some (.int r) ∧ S' = (mem Z σ, n, z))) 75 [some (.ref a), some (.int v1_), some (.int v2_), some (.int v3_), some (.int v4_)] [] (mem Z σ, n, z) 0 0) (hk124 : ∀ (v4_ : Int32), k124 v4_ = some r → mm_V g l RX12 "named" cX12_named 5 (some .int) [] (d + 1) 0 0 (mm_nt (fun v S' => v = some (.int r) ∧ S' = (mem Z σ, n, z))) 124 [none, some (.int v1_), none, none, some (.int v4_)] [] (mem Z σ, n, z) 0 0) (hx : x_X12_named_136 U a k75 k124 v1_ v2_ v3_ v4_ σ = some r) : mm_V g l RX12 "named" cX12_named 5 (some .int) [] (d + 1) 0 0 (mm_nt (fun v S' => v = some (.int r) ∧ S' = (mem Z σ, n, z))) 136 [some (.ref a), some (.int v1_), some (.int v2_), some (.int v3_), some (.int v4_)] [] (mem Z σ, n, z) 0 0 := by
  unfold x_X12_named_136 at hx
  refine mm_iinc (v := v4_ + 1) [some (.ref a), some (.int v1_), some (.int v2_), some (.int v3_), some (.int (v4_ + 1))] dX12_named_136 rfl rfl (by decide) rfl ?_
  refine mm_goto 75 dX12_named_139 (by decide) ?_
  exact hk75 _ hx
set_option maxHeartbeats 4000000 in
set_option maxRecDepth 100000 in
theorem e_X12_named_L75 {g : mm_G} {l : Launch} (hst : l.stackTraces = false) {Z : Nat → Nat → Option Nat} (hZ : HZ Z) {n : Nat} (hn : 1186 ≤ n) {z : Bool} {d : Nat} {U : Nat} {a : Nat} (hs : sh a = 12) {k124 : Int32 → Option (Int32)} {v1_ : Int32} {v2_ : Int32} {v3_ : Int32} {σ : SG} {r : Int32} (hk124 : ∀ (v4_ : Int32), k124 v4_ = some r → mm_V g l RX12 "named" cX12_named 5 (some .int) [] (d + 1) 0 0 (mm_nt (fun v S' => v = some (.int r) ∧ S' = (mem Z σ, n, z))) 124 [none, some (.int v1_), none, none, some (.int v4_)] [] (mem Z σ, n, z) 0 0) : ∀ (U1 : Nat) (v4_ : Int32), x_X12_named_L75 U a k124 v1_ v2_ v3_ σ U1 v4_ = some r → mm_V g l RX12 "named" cX12_named 5 (some .int) [] (d + 1) 0 0 (mm_nt (fun v S' => v = some (.int r) ∧ S' = (mem Z σ, n, z))) 75 [some (.ref a), some (.int v1_), some (.int v2_), some (.int v3_), some (.int v4_)] [] (mem Z σ, n, z) 0 0 := by
  intro U1
  induction U1 with
  | zero => intro v4_ hx; exact absurd hx (by simp [x_X12_named_L75])
  | succ U1 ih =>
    intro v4_ hx
    rw [x_X12_named_L75] at hx
    refine mm_iload dX12_named_75 rfl ?_
    refine mm_bipush (v := 8) dX12_named_77 (by decide) ?_
    refine mm_iload_n dX12_named_79 rfl ?_
    refine mm_imul dX12_named_80 ?_
    refine mm_aload_n dX12_named_81 rfl rfl ?_
    refine s_getS (q := 1105) (r := some a) (b := a) (ci := 12) (k := 8) in_X12 rfl (by decide) rfl kF_X12_23 dX12_named_82 rfl hs (by decide) hn (by decide) rfl rfl ?_
    refine mm_iload_n dX12_named_85 rfl ?_
    obtain ⟨j23, hj24, hb25, hl26, hx⟩ := ix_some hx
    refine s_iald (a := 1105) sa_1105 hn hj24 hb25 na_1105 dX12_named_86 ?_
    refine mm_iadd dX12_named_87 ?_
    refine b_if hx (fun h27 hx => ?_) (fun h27 hx => ?_)
    · refine mm_icmp_ge 142 dX12_named_88 (by decide) (fun h => absurd h (Int32.not_le.mpr h27)) (fun _ => ?_)
      refine mm_aload_n dX12_named_91 rfl rfl ?_
      refine s_getS (q := 1111) (r := some a) (b := a) (ci := 12) (k := 14) in_X12 rfl (by decide) rfl kF_X12_41 dX12_named_92 rfl hs (by decide) hn (by decide) rfl rfl ?_
      refine mm_iload dX12_named_95 rfl ?_
      obtain ⟨j28, hj29, hb30, hl31, hx⟩ := ix_some hx
      refine s_iald (a := 1111) sa_1111 hn hj29 hb30 na_1111 dX12_named_97 ?_
      refine mm_iload_n dX12_named_98 rfl ?_
      refine b_if hx (fun h32 hx => ?_) (fun h32 hx => ?_)
      · refine mm_icmp_ne 136 dX12_named_99 (by decide) (fun h => absurd h32 h) (fun _ => ?_)
        refine mm_aload_n dX12_named_102 rfl rfl ?_
        refine mm_iload_n dX12_named_103 rfl ?_
        refine mm_aload_n dX12_named_104 rfl rfl ?_
        refine s_getS (q := 1112) (r := some a) (b := a) (ci := 12) (k := 15) in_X12 rfl (by decide) rfl kF_X12_44 dX12_named_105 rfl hs (by decide) hn (by decide) rfl rfl ?_
        refine mm_iload dX12_named_108 rfl ?_
        obtain ⟨j33, hj34, hb35, hl36, hx⟩ := ix_some hx
        refine s_iald (a := 1112) sa_1112 hn hj34 hb35 na_1112 dX12_named_110 ?_
        refine mm_aload_n dX12_named_111 rfl rfl ?_
        refine s_getS (q := 1113) (r := some a) (b := a) (ci := 12) (k := 16) in_X12 rfl (by decide) rfl kF_X12_47 dX12_named_112 rfl hs (by decide) hn (by decide) rfl rfl ?_
        refine mm_iload dX12_named_115 rfl ?_
        obtain ⟨j37, hj38, hb39, hl40, hx⟩ := ix_some hx
        refine s_iald (a := 1113) sa_1113 hn hj38 hb39 na_1113 dX12_named_117 ?_
        obtain ⟨v42, hc41, hx⟩ := b1_some hx
        refine mm_callV3 (a := a) (ci := 12) wM_X12_isTape kM_X12_580 wI_X12_isTape wS_X12_isTape dX12_named_118 (e_X12_isTape hst hZ hn hs hc41) (mem_obj hs (by decide)) (sh_ltn hs (by decide) hn) rfl rfl rfl (Nat.le_of_ble_eq_true rfl) (by omega) (by omega) (fun v9 S9 hq => ?_)
        obtain ⟨rfl, rfl⟩ := hq
        refine ⟨fun h => ⟨h, rfl⟩, ?_⟩
        refine b_if hx (fun h43 hx => ?_) (fun h43 hx => ?_)
        · refine mm_if_eq 136 dX12_named_121 (by decide) (fun _ => ?_) (fun h => absurd h43 h)
          exact e_X12_named_136 hst hZ hn hs ih hk124 hx
        · refine mm_if_eq 136 dX12_named_121 (by decide) (fun h => absurd h h43) (fun _ => ?_)
          refine mm_fewer [none, some (.int v1_), none, none, some (.int v4_)] (few_ok (bs := [false, true, false, false, true]) rfl) ?_
          exact hk124 _ hx
      · refine mm_icmp_ne 136 dX12_named_99 (by decide) (fun _ => ?_) (fun h => absurd h h32)
        exact e_X12_named_136 hst hZ hn hs ih hk124 hx
    · refine mm_icmp_ge 142 dX12_named_88 (by decide) (fun _ => ?_) (fun h => absurd (Int32.not_lt.mp h27) h)
      refine mm_iconst (v := (-1)) dX12_named_142 (by decide) ?_
      refine mm_iret dX12_named_143 rfl rfl ?_ (by omega) (by omega)
      obtain rfl := fin1 hx
      exact ⟨rfl, rfl⟩
set_option maxHeartbeats 4000000 in
set_option maxRecDepth 100000 in
theorem e_X12_named {g : mm_G} {l : Launch} (hst : l.stackTraces = false) {Z : Nat → Nat → Option Nat} (hZ : HZ Z) {n : Nat} (hn : 1186 ≤ n) {z : Bool} {d : Nat} {U : Nat} {a : Nat} (hs : sh a = 12) {p0 : Int32} {p1 : Int32} {p2 : Int32} {σ : SG} {r : Int32} (hx : x_X12_named U a p0 p1 p2 σ = some r) : mm_Cm g l yX12_named (.code yX12_named cX12_named 5 (some .int)) (d + 1) 0 0 [.ref a, .int p0, .int p1, .int p2] (mem Z σ, n, z) (fun v S' => v = some (.int r) ∧ S' = (mem Z σ, n, z)) := by
  refine mm_Cm_of hst (by decide) (Nat.le_of_ble_eq_true rfl) ?_
  show mm_V g l RX12 "named" cX12_named 5 (some .int) [] (d + 1) 0 0 (mm_nt (fun v S' => v = some (.int r) ∧ S' = (mem Z σ, n, z))) 0 [some (.ref a), some (.int p0), some (.int p1), some (.int p2), none] [] (mem Z σ, n, z) 0 0
  unfold x_X12_named at hx
  refine mm_bipush (v := 16) dX12_named_0 (by decide) ?_
  refine mm_iload_n dX12_named_2 rfl ?_
  refine mm_imul dX12_named_3 ?_
  refine mm_istore [some (.ref a), some (.int p0), some (.int p1), some (.int p2), some (.int (16 * p0))] dX12_named_4 (by decide) rfl ?_
  refine e_X12_named_L6 hst hZ hn hs ?_ ?_ _ _ hx
  · intro w22 hx
    refine mm_iload dX12_named_55 rfl ?_
    refine mm_bipush (v := 16) dX12_named_57 (by decide) ?_
    refine mm_iload_n dX12_named_59 rfl ?_
    refine mm_imul dX12_named_60 ?_
    refine mm_isub dX12_named_61 ?_
    refine mm_iret dX12_named_62 rfl rfl ?_ (by omega) (by omega)
    obtain rfl := fin1 hx
    exact ⟨rfl, rfl⟩
  · intro  hx
    refine mm_bipush (v := 8) dX12_named_69 (by decide) ?_
    refine mm_iload_n dX12_named_71 rfl ?_
    refine mm_imul dX12_named_72 ?_
    refine mm_istore [some (.ref a), some (.int p0), some (.int p1), some (.int p2), some (.int (8 * p0))] dX12_named_73 (by decide) rfl ?_
    refine e_X12_named_L75 hst hZ hn hs ?_ _ _ hx
    · intro w44 hx
      refine mm_sipush (v := 1000) dX12_named_124 (by decide) ?_
      refine mm_iload dX12_named_127 rfl ?_
      refine mm_iadd dX12_named_129 ?_
      refine mm_bipush (v := 8) dX12_named_130 (by decide) ?_
      refine mm_iload_n dX12_named_132 rfl ?_
      refine mm_imul dX12_named_133 ?_
      refine mm_isub dX12_named_134 ?_
      refine mm_iret dX12_named_135 rfl rfl ?_ (by omega) (by omega)
      obtain rfl := fin1 hx
      exact ⟨rfl, rfl⟩
set_option maxHeartbeats 4000000 in
set_option maxRecDepth 100000 in
theorem e_X12_find_109 {g : mm_G} {l : Launch} (hst : l.stackTraces = false) {Z : Nat → Nat → Option Nat} (hZ : HZ Z) {n : Nat} (hn : 1186 ≤ n) {z : Bool} {d : Nat} {U : Nat} {a : Nat} (hs : sh a = 12) {k45 : Int32 → Int32 → Int32 → Option (Int32 × SG)} {k121 : Int32 → Option (Int32 × SG)} {v1_ : Int32} {v4_ : Int32} {v5_ : Int32} {s0_ : Int32} {s1_ : Int32} {σ : SG} {r : Int32} {σ' : SG} (hk45 : ∀ (v2_ : Int32) (v3_ : Int32) (v4_ : Int32), k45 v2_ v3_ v4_ = some (r, σ') → mm_V g l RX12 "find" cX12_find 7 (some .int) [] (d + 2) 0 0 (mm_nt (fun v S' => v = some (.int r) ∧ S' = (mem Z σ', n, z))) 45 [some (.ref a), some (.int v1_), some (.int v2_), some (.int v3_), some (.int v4_), none, none] [] (mem Z σ, n, z) 0 0) (hk121 : ∀ (v5_ : Int32), k121 v5_ = some (r, σ') → mm_V g l RX12 "find" cX12_find 7 (some .int) [] (d + 2) 0 0 (mm_nt (fun v S' => v = some (.int r) ∧ S' = (mem Z σ', n, z))) 121 [some (.ref a), some (.int v1_), none, none, none, some (.int v5_), none] [] (mem Z σ, n, z) 0 0) (hx : x_X12_find_109 U a k45 k121 v1_ v4_ v5_ s0_ s1_ σ = some (r, σ')) : mm_V g l RX12 "find" cX12_find 7 (some .int) [] (d + 2) 0 0 (mm_nt (fun v S' => v = some (.int r) ∧ S' = (mem Z σ', n, z))) 109 [some (.ref a), some (.int v1_), none, none, some (.int v4_), some (.int v5_), none] [.int s0_, .int s1_] (mem Z σ, n, z) 0 0 := by
  unfold x_X12_find_109 at hx
  refine mm_iadd dX12_find_109 ?_
  refine mm_istore [some (.ref a), some (.int v1_), none, none, some (.int v4_), some (.int v5_), some (.int (s1_ + s0_))] dX12_find_110 (by decide) rfl ?_
  refine mm_iload dX12_find_112 rfl ?_
  refine mm_aload_n dX12_find_114 rfl rfl ?_
  refine s_getI (r := some a) (b := a) (ci := 12) (k := 73) in_X12 rfl (by decide) rfl kF_X12_274 dX12_find_115 rfl hs (by decide) hn (by decide) rfl ?_
  refine b_if hx (fun h17 hx => ?_) (fun h17 hx => ?_)
  · refine mm_icmp_ne 148 dX12_find_118 (by decide) (fun h => absurd h17 h) (fun _ => ?_)
    refine mm_fewer [some (.ref a), some (.int v1_), none, none, none, some (.int v5_), none] (few_ok (bs := [true, true, false, false, false, true, false]) rfl) ?_
    exact hk121 _ hx
  · refine mm_icmp_ne 148 dX12_find_118 (by decide) (fun _ => ?_) (fun h => absurd h h17)
    refine mm_iload dX12_find_148 rfl ?_
    refine mm_sipush (v := 1000) dX12_find_150 (by decide) ?_
    refine b_if hx (fun h18 hx => ?_) (fun h18 hx => ?_)
    · refine mm_icmp_lt 158 dX12_find_153 (by decide) (fun _ => ?_) (fun h => absurd h18 h)
      refine mm_iload dX12_find_158 rfl ?_
      refine mm_istore_n [some (.ref a), some (.int v1_), some (.int v5_), none, some (.int v4_), some (.int v5_), some (.int (s1_ + s0_))] dX12_find_160 (by decide) rfl ?_
      refine mm_iload dX12_find_161 rfl ?_
      refine mm_iconst (v := 1) dX12_find_163 (by decide) ?_
      refine mm_iadd dX12_find_164 ?_
      refine mm_istore_n [some (.ref a), some (.int v1_), some (.int v5_), some (.int ((s1_ + s0_) + 1)), some (.int v4_), some (.int v5_), some (.int (s1_ + s0_))] dX12_find_165 (by decide) rfl ?_
      refine mm_iinc (v := v4_ + 1) [some (.ref a), some (.int v1_), some (.int v5_), some (.int ((s1_ + s0_) + 1)), some (.int (v4_ + 1)), some (.int v5_), some (.int (s1_ + s0_))] dX12_find_166 rfl rfl (by decide) rfl ?_
      refine mm_goto 45 dX12_find_169 (by decide) ?_
      refine mm_fewer [some (.ref a), some (.int v1_), some (.int v5_), some (.int ((s1_ + s0_) + 1)), some (.int (v4_ + 1)), none, none] (few_ok (bs := [true, true, true, true, true, false, false]) rfl) ?_
      exact hk45 _ _ _ hx
    · refine mm_icmp_lt 158 dX12_find_153 (by decide) (fun h => absurd h h18) (fun _ => ?_)
      refine mm_iconst (v := (-1)) dX12_find_156 (by decide) ?_
      refine mm_iret dX12_find_157 rfl rfl ?_ (by omega) (by omega)
      obtain ⟨rfl, rfl⟩ := fin2 hx
      exact ⟨rfl, rfl⟩
set_option maxHeartbeats 4000000 in
set_option maxRecDepth 100000 in
theorem e_X12_find_L45 {g : mm_G} {l : Launch} (hst : l.stackTraces = false) {Z : Nat → Nat → Option Nat} (hZ : HZ Z) {n : Nat} (hn : 1186 ≤ n) {z : Bool} {d : Nat} {U : Nat} {a : Nat} (hs : sh a = 12) {k121 : Int32 → Option (Int32 × SG)} {v1_ : Int32} {σ : SG} {r : Int32} {σ' : SG} (hk121 : ∀ (v5_ : Int32), k121 v5_ = some (r, σ') → mm_V g l RX12 "find" cX12_find 7 (some .int) [] (d + 2) 0 0 (mm_nt (fun v S' => v = some (.int r) ∧ S' = (mem Z σ', n, z))) 121 [some (.ref a), some (.int v1_), none, none, none, some (.int v5_), none] [] (mem Z σ, n, z) 0 0) : ∀ (U1 : Nat) (v2_ : Int32) (v3_ : Int32) (v4_ : Int32), x_X12_find_L45 U a k121 v1_ σ U1 v2_ v3_ v4_ = some (r, σ') → mm_V g l RX12 "find" cX12_find 7 (some .int) [] (d + 2) 0 0 (mm_nt (fun v S' => v = some (.int r) ∧ S' = (mem Z σ', n, z))) 45 [some (.ref a), some (.int v1_), some (.int v2_), some (.int v3_), some (.int v4_), none, none] [] (mem Z σ, n, z) 0 0 := by
  intro U1
  induction U1 with
  | zero => intro v2_ v3_ v4_ hx; exact absurd hx (by simp [x_X12_find_L45])
  | succ U1 ih =>
    intro v2_ v3_ v4_ hx
    rw [x_X12_find_L45] at hx
    refine mm_iload dX12_find_45 rfl ?_
    refine mm_bipush (v := 16) dX12_find_47 (by decide) ?_
    refine b_if hx (fun h8 hx => ?_) (fun h8 hx => ?_)
    · refine mm_icmp_gt 172 dX12_find_49 (by decide) (fun _ => ?_) (fun h => absurd h8 h)
      refine mm_iconst (v := (-1)) dX12_find_172 (by decide) ?_
      refine mm_iret dX12_find_173 rfl rfl ?_ (by omega) (by omega)
      obtain ⟨rfl, rfl⟩ := fin2 hx
      exact ⟨rfl, rfl⟩
    · refine mm_icmp_gt 172 dX12_find_49 (by decide) (fun h => absurd h h8) (fun _ => ?_)
      refine mm_aload_n dX12_find_52 rfl rfl ?_
      refine mm_iload_n dX12_find_53 rfl ?_
      refine mm_iload_n dX12_find_54 rfl ?_
      refine mm_iload_n dX12_find_55 rfl ?_
      obtain ⟨v10, hc9, hx⟩ := b1_some hx
      refine mm_callV3 (a := a) (ci := 12) wM_X12_named kM_X12_584 wI_X12_named wS_X12_named dX12_find_56 (e_X12_named hst hZ hn hs hc9) (mem_obj hs (by decide)) (sh_ltn hs (by decide) hn) rfl rfl rfl (Nat.le_of_ble_eq_true rfl) (by omega) (by omega) (fun v9 S9 hq => ?_)
      obtain ⟨rfl, rfl⟩ := hq
      refine ⟨fun h => ⟨h, rfl⟩, ?_⟩
      refine mm_istore [some (.ref a), some (.int v1_), some (.int v2_), some (.int v3_), some (.int v4_), some (.int v10), none] dX12_find_59 (by decide) rfl ?_
      refine mm_iload dX12_find_61 rfl ?_
      refine mm_iconst (v := (-1)) dX12_find_63 (by decide) ?_
      refine b_if hx (fun h11 hx => ?_) (fun h11 hx => ?_)
      · refine mm_icmp_ne 69 dX12_find_64 (by decide) (fun h => absurd h11 h) (fun _ => ?_)
        refine mm_iconst (v := (-1)) dX12_find_67 (by decide) ?_
        refine mm_iret dX12_find_68 rfl rfl ?_ (by omega) (by omega)
        obtain ⟨rfl, rfl⟩ := fin2 hx
        exact ⟨rfl, rfl⟩
      · refine mm_icmp_ne 69 dX12_find_64 (by decide) (fun _ => ?_) (fun h => absurd h h11)
        refine mm_iload_n dX12_find_69 rfl ?_
        refine mm_iload dX12_find_70 rfl ?_
        refine mm_sipush (v := 1000) dX12_find_72 (by decide) ?_
        refine b_if hx (fun h12 hx => ?_) (fun h12 hx => ?_)
        · refine mm_icmp_lt 97 dX12_find_75 (by decide) (fun _ => ?_) (fun h => absurd h12 h)
          refine mm_aload_n dX12_find_97 rfl rfl ?_
          refine s_getS (q := 1110) (r := some a) (b := a) (ci := 12) (k := 13) in_X12 rfl (by decide) rfl kF_X12_38 dX12_find_98 rfl hs (by decide) hn (by decide) rfl rfl ?_
          refine mm_bipush (v := 16) dX12_find_101 (by decide) ?_
          refine mm_iload_n dX12_find_103 rfl ?_
          refine mm_imul dX12_find_104 ?_
          refine mm_iload dX12_find_105 rfl ?_
          refine mm_iadd dX12_find_107 ?_
          obtain ⟨j13, hj14, hb15, hl16, hx⟩ := ix_some hx
          refine s_iald (a := 1110) sa_1110 hn hj14 hb15 na_1110 dX12_find_108 ?_
          refine mm_fewer [some (.ref a), some (.int v1_), none, none, some (.int v4_), some (.int v10), none] (few_ok (bs := [true, true, false, false, true, true, false]) rfl) ?_
          exact e_X12_find_109 hst hZ hn hs ih hk121 hx
        · refine mm_icmp_lt 97 dX12_find_75 (by decide) (fun h => absurd h h12) (fun _ => ?_)
          refine mm_aload_n dX12_find_78 rfl rfl ?_
          refine s_getS (q := 1113) (r := some a) (b := a) (ci := 12) (k := 16) in_X12 rfl (by decide) rfl kF_X12_47 dX12_find_79 rfl hs (by decide) hn (by decide) rfl rfl ?_
          refine mm_bipush (v := 8) dX12_find_82 (by decide) ?_
          refine mm_iload_n dX12_find_84 rfl ?_
          refine mm_imul dX12_find_85 ?_
          refine mm_iload dX12_find_86 rfl ?_
          refine mm_iadd dX12_find_88 ?_
          refine mm_sipush (v := 1000) dX12_find_89 (by decide) ?_
          refine mm_isub dX12_find_92 ?_
          obtain ⟨j19, hj20, hb21, hl22, hx⟩ := ix_some hx
          refine s_iald (a := 1113) sa_1113 hn hj20 hb21 na_1113 dX12_find_93 ?_
          refine mm_goto 109 dX12_find_94 (by decide) ?_
          refine mm_fewer [some (.ref a), some (.int v1_), none, none, some (.int v4_), some (.int v10), none] (few_ok (bs := [true, true, false, false, true, true, false]) rfl) ?_
          exact e_X12_find_109 hst hZ hn hs ih hk121 hx
set_option maxHeartbeats 4000000 in
set_option maxRecDepth 100000 in
theorem e_X12_find_26 {g : mm_G} {l : Launch} (hst : l.stackTraces = false) {Z : Nat → Nat → Option Nat} (hZ : HZ Z) {n : Nat} (hn : 1186 ≤ n) {z : Bool} {d : Nat} {U : Nat} {a : Nat} (hs : sh a = 12) {v1_ : Int32} {s0_ : Int32} {σ : SG} {r : Int32} {σ' : SG} (hx : x_X12_find_26 U a v1_ s0_ σ = some (r, σ')) : mm_V g l RX12 "find" cX12_find 7 (some .int) [] (d + 2) 0 0 (mm_nt (fun v S' => v = some (.int r) ∧ S' = (mem Z σ', n, z))) 26 [some (.ref a), some (.int v1_), none, none, none, none, none] [.int s0_, .ref a] (mem Z σ, n, z) 0 0 := by
  unfold x_X12_find_26 at hx
  refine s_putI (v := s0_) (r := some a) (b := a) (ci := 12) (k := 5) in_X12 rfl (by decide) rfl tyX12_ok nmX12 rfl kF_X12_265 dX12_find_26 (mm_fit_int _) rfl hs (by decide) hn (by decide) rfl hx (fun σ6 hx => ?_)
  refine mm_aload_n dX12_find_29 rfl rfl ?_
  refine s_getI (r := some a) (b := a) (ci := 12) (k := 5) in_X12 rfl (by decide) rfl kF_X12_265 dX12_find_30 rfl hs (by decide) hn (by decide) rfl ?_
  refine b_if hx (fun h7 hx => ?_) (fun h7 hx => ?_)
  · refine mm_if_eq 38 dX12_find_33 (by decide) (fun _ => ?_) (fun h => absurd h7 h)
    refine mm_iconst (v := (-1)) dX12_find_38 (by decide) ?_
    refine mm_istore_n [some (.ref a), some (.int v1_), some (.int (-1)), none, none, none, none] dX12_find_39 (by decide) rfl ?_
    refine mm_iconst (v := 0) dX12_find_40 (by decide) ?_
    refine mm_istore_n [some (.ref a), some (.int v1_), some (.int (-1)), some (.int 0), none, none, none] dX12_find_41 (by decide) rfl ?_
    refine mm_iconst (v := 0) dX12_find_42 (by decide) ?_
    refine mm_istore [some (.ref a), some (.int v1_), some (.int (-1)), some (.int 0), some (.int 0), none, none] dX12_find_43 (by decide) rfl ?_
    refine e_X12_find_L45 hst hZ hn hs ?_ _ _ _ _ hx
    · intro w23 hx
      refine mm_iload dX12_find_121 rfl ?_
      refine mm_sipush (v := 1000) dX12_find_123 (by decide) ?_
      refine b_if hx (fun h24 hx => ?_) (fun h24 hx => ?_)
      · refine mm_icmp_lt 145 dX12_find_126 (by decide) (fun _ => ?_) (fun h => absurd h24 h)
        refine mm_iload dX12_find_145 rfl ?_
        refine mm_iret dX12_find_147 rfl rfl ?_ (by omega) (by omega)
        obtain ⟨rfl, rfl⟩ := fin2 hx
        exact ⟨rfl, rfl⟩
      · refine mm_icmp_lt 145 dX12_find_126 (by decide) (fun h => absurd h h24) (fun _ => ?_)
        refine mm_aload_n dX12_find_129 rfl rfl ?_
        refine s_getS (q := 1104) (r := some a) (b := a) (ci := 12) (k := 7) in_X12 rfl (by decide) rfl kF_X12_20 dX12_find_130 rfl hs (by decide) hn (by decide) rfl rfl ?_
        refine mm_iload_n dX12_find_133 rfl ?_
        obtain ⟨j25, hj26, hb27, hl28, hx⟩ := ix_some hx
        refine s_iald (a := 1104) sa_1104 hn hj26 hb27 na_1104 dX12_find_134 ?_
        refine mm_iload dX12_find_135 rfl ?_
        refine mm_iadd dX12_find_137 ?_
        refine mm_sipush (v := 1000) dX12_find_138 (by decide) ?_
        refine mm_isub dX12_find_141 ?_
        refine mm_goto 147 dX12_find_142 (by decide) ?_
        refine mm_iret dX12_find_147 rfl rfl ?_ (by omega) (by omega)
        obtain ⟨rfl, rfl⟩ := fin2 hx
        exact ⟨rfl, rfl⟩
  · refine mm_if_eq 38 dX12_find_33 (by decide) (fun h => absurd h h7) (fun _ => ?_)
    refine mm_iconst (v := 0) dX12_find_36 (by decide) ?_
    refine mm_iret dX12_find_37 rfl rfl ?_ (by omega) (by omega)
    obtain ⟨rfl, rfl⟩ := fin2 hx
    exact ⟨rfl, rfl⟩
set_option maxHeartbeats 4000000 in
set_option maxRecDepth 100000 in
theorem e_X12_find {g : mm_G} {l : Launch} (hst : l.stackTraces = false) {Z : Nat → Nat → Option Nat} (hZ : HZ Z) {n : Nat} (hn : 1186 ≤ n) {z : Bool} {d : Nat} {U : Nat} {a : Nat} (hs : sh a = 12) {p0 : Int32} {σ : SG} {r : Int32} {σ' : SG} (hx : x_X12_find U a p0 σ = some (r, σ')) : mm_Cm g l yX12_find (.code yX12_find cX12_find 7 (some .int)) (d + 2) 0 0 [.ref a, .int p0] (mem Z σ, n, z) (fun v S' => v = some (.int r) ∧ S' = (mem Z σ', n, z)) := by
  refine mm_Cm_of hst (by decide) (Nat.le_of_ble_eq_true rfl) ?_
  show mm_V g l RX12 "find" cX12_find 7 (some .int) [] (d + 2) 0 0 (mm_nt (fun v S' => v = some (.int r) ∧ S' = (mem Z σ', n, z))) 0 [some (.ref a), some (.int p0), none, none, none, none, none] [] (mem Z σ, n, z) 0 0
  unfold x_X12_find at hx
  refine mm_aload_n dX12_find_0 rfl rfl ?_
  refine mm_aload_n dX12_find_1 rfl rfl ?_
  refine s_getI (r := some a) (b := a) (ci := 12) (k := 1) in_X12 rfl (by decide) rfl kF_X12_268 dX12_find_2 rfl hs (by decide) hn (by decide) rfl ?_
  refine s_putI (v := sI σ a 1) (r := some a) (b := a) (ci := 12) (k := 73) in_X12 rfl (by decide) rfl tyX12_ok nmX12 rfl kF_X12_274 dX12_find_5 (mm_fit_int _) rfl hs (by decide) hn (by decide) rfl hx (fun σ1 hx => ?_)
  refine mm_aload_n dX12_find_8 rfl rfl ?_
  refine mm_iconst (v := 0) dX12_find_9 (by decide) ?_
  refine s_putI (v := 0) (r := some a) (b := a) (ci := 12) (k := 1) in_X12 rfl (by decide) rfl tyX12_ok nmX12 rfl kF_X12_268 dX12_find_10 (mm_fit_int _) rfl hs (by decide) hn (by decide) rfl hx (fun σ2 hx => ?_)
  refine mm_aload_n dX12_find_13 rfl rfl ?_
  refine mm_iload_n dX12_find_14 rfl ?_
  obtain ⟨v4, hc3, hx⟩ := b1_some hx
  refine mm_callS wM_X12_isSchema kM_X12_548 wT_X12_isSchema dX12_find_15 (e_X12_isSchema hst hZ hn hc3) rfl rfl (Nat.le_of_ble_eq_true rfl) (by omega) (by omega) (fun v9 S9 hq => ?_)
  obtain ⟨rfl, rfl⟩ := hq
  refine ⟨fun h => ⟨h, rfl⟩, ?_⟩
  refine b_if hx (fun h5 hx => ?_) (fun h5 hx => ?_)
  · refine mm_if_eq 25 dX12_find_18 (by decide) (fun _ => ?_) (fun h => absurd h5 h)
    refine mm_iconst (v := 1) dX12_find_25 (by decide) ?_
    exact e_X12_find_26 hst hZ hn hs hx
  · refine mm_if_eq 25 dX12_find_18 (by decide) (fun h => absurd h h5) (fun _ => ?_)
    refine mm_iconst (v := 0) dX12_find_21 (by decide) ?_
    refine mm_goto 26 dX12_find_22 (by decide) ?_
    exact e_X12_find_26 hst hZ hn hs hx
set_option maxHeartbeats 4000000 in
set_option maxRecDepth 100000 in
theorem e_X12_isEight {g : mm_G} {l : Launch} (hst : l.stackTraces = false) {Z : Nat → Nat → Option Nat} (hZ : HZ Z) {n : Nat} (hn : 1186 ≤ n) {z : Bool} {d : Nat} {a : Nat} (hs : sh a = 12) {p0 : Int32} {σ : SG} {r : Int32} (hx : x_X12_isEight a p0 σ = some r) : mm_Cm g l yX12_isEight (.code yX12_isEight cX12_isEight 2 (some .boolean)) (d + 1) 0 0 [.ref a, .int p0] (mem Z σ, n, z) (fun v S' => v = some (.int r) ∧ S' = (mem Z σ, n, z)) := by
  refine mm_Cm_of hst (by decide) (Nat.le_of_ble_eq_true rfl) ?_
  show mm_V g l RX12 "isEight" cX12_isEight 2 (some .boolean) [] (d + 1) 0 0 (mm_nt (fun v S' => v = some (.int r) ∧ S' = (mem Z σ, n, z))) 0 [some (.ref a), some (.int p0)] [] (mem Z σ, n, z) 0 0
  unfold x_X12_isEight at hx
  refine mm_aload_n dX12_isEight_0 rfl rfl ?_
  refine mm_iload_n dX12_isEight_1 rfl ?_
  obtain ⟨v2, hc1, hx⟩ := b1_some hx
  refine mm_callV3 (a := a) (ci := 12) wM_X12_byteAt kM_X12_284 wI_X12_byteAt wS_X12_byteAt dX12_isEight_2 (e_X12_byteAt hst hZ hn hs hc1) (mem_obj hs (by decide)) (sh_ltn hs (by decide) hn) rfl rfl rfl (Nat.le_of_ble_eq_true rfl) (by omega) (by omega) (fun v9 S9 hq => ?_)
  obtain ⟨rfl, rfl⟩ := hq
  refine ⟨fun h => ⟨h, rfl⟩, ?_⟩
  refine mm_bipush (v := 48) dX12_isEight_5 (by decide) ?_
  refine b_if hx (fun h3 hx => ?_) (fun h3 hx => ?_)
  · refine mm_icmp_lt 24 dX12_isEight_7 (by decide) (fun _ => ?_) (fun h => absurd h3 h)
    refine mm_iconst (v := 0) dX12_isEight_24 (by decide) ?_
    refine mm_iret dX12_isEight_25 rfl rfl ?_ (by omega) (by omega)
    obtain rfl := fin1 hx
    exact ⟨rfl, rfl⟩
  · refine mm_icmp_lt 24 dX12_isEight_7 (by decide) (fun h => absurd h h3) (fun _ => ?_)
    refine mm_aload_n dX12_isEight_10 rfl rfl ?_
    refine mm_iload_n dX12_isEight_11 rfl ?_
    obtain ⟨v5, hc4, hx⟩ := b1_some hx
    refine mm_callV3 (a := a) (ci := 12) wM_X12_byteAt kM_X12_284 wI_X12_byteAt wS_X12_byteAt dX12_isEight_12 (e_X12_byteAt hst hZ hn hs hc4) (mem_obj hs (by decide)) (sh_ltn hs (by decide) hn) rfl rfl rfl (Nat.le_of_ble_eq_true rfl) (by omega) (by omega) (fun v9 S9 hq => ?_)
    obtain ⟨rfl, rfl⟩ := hq
    refine ⟨fun h => ⟨h, rfl⟩, ?_⟩
    refine mm_bipush (v := 55) dX12_isEight_15 (by decide) ?_
    refine b_if hx (fun h6 hx => ?_) (fun h6 hx => ?_)
    · refine mm_icmp_gt 24 dX12_isEight_17 (by decide) (fun _ => ?_) (fun h => absurd h6 h)
      refine mm_iconst (v := 0) dX12_isEight_24 (by decide) ?_
      refine mm_iret dX12_isEight_25 rfl rfl ?_ (by omega) (by omega)
      obtain rfl := fin1 hx
      exact ⟨rfl, rfl⟩
    · refine mm_icmp_gt 24 dX12_isEight_17 (by decide) (fun h => absurd h h6) (fun _ => ?_)
      refine mm_iconst (v := 1) dX12_isEight_20 (by decide) ?_
      refine mm_goto 25 dX12_isEight_21 (by decide) ?_
      refine mm_iret dX12_isEight_25 rfl rfl ?_ (by omega) (by omega)
      obtain rfl := fin1 hx
      exact ⟨rfl, rfl⟩
set_option maxHeartbeats 4000000 in
set_option maxRecDepth 100000 in
theorem e_X12_leastOf {g : mm_G} {l : Launch} (hst : l.stackTraces = false) {Z : Nat → Nat → Option Nat} (hZ : HZ Z) {n : Nat} (hn : 1186 ≤ n) {z : Bool} {d : Nat} {p0 : Int32} {σ : SG} {r : Int64} (hx : x_X12_leastOf p0 = some r) : mm_Cm g l yX12_leastOf (.code yX12_leastOf cX12_leastOf 1 (some .long)) (d) 0 0 [.int p0] (mem Z σ, n, z) (fun v S' => v = some (.long r) ∧ S' = (mem Z σ, n, z)) := by
  refine mm_Cm_of hst (by decide) (Nat.le_of_ble_eq_true rfl) ?_
  show mm_V g l RX12 "leastOf" cX12_leastOf 1 (some .long) [] (d) 0 0 (mm_nt (fun v S' => v = some (.long r) ∧ S' = (mem Z σ, n, z))) 0 [some (.int p0)] [] (mem Z σ, n, z) 0 0
  unfold x_X12_leastOf at hx
  refine mm_iload_n dX12_leastOf_0 rfl ?_
  refine mm_iconst (v := 1) dX12_leastOf_1 (by decide) ?_
  refine b_if hx (fun h1 hx => ?_) (fun h1 hx => ?_)
  · refine mm_icmp_eq 16 dX12_leastOf_2 (by decide) (fun _ => ?_) (fun h => absurd h1 h)
    refine mm_ldc2 kL_X12_792 dX12_leastOf_16 ?_
    refine mm_lret dX12_leastOf_19 rfl ?_ (by omega) (by omega)
    obtain rfl := fin1 hx
    exact ⟨rfl, rfl⟩
  · refine mm_icmp_eq 16 dX12_leastOf_2 (by decide) (fun h => absurd h h1) (fun _ => ?_)
    refine mm_iload_n dX12_leastOf_5 rfl ?_
    refine mm_iconst (v := 5) dX12_leastOf_6 (by decide) ?_
    refine b_if hx (fun h2 hx => ?_) (fun h2 hx => ?_)
    · refine mm_icmp_eq 16 dX12_leastOf_7 (by decide) (fun _ => ?_) (fun h => absurd h2 h)
      refine mm_ldc2 kL_X12_792 dX12_leastOf_16 ?_
      refine mm_lret dX12_leastOf_19 rfl ?_ (by omega) (by omega)
      obtain rfl := fin1 hx
      exact ⟨rfl, rfl⟩
    · refine mm_icmp_eq 16 dX12_leastOf_7 (by decide) (fun h => absurd h h2) (fun _ => ?_)
      refine mm_iload_n dX12_leastOf_10 rfl ?_
      refine mm_bipush (v := 9) dX12_leastOf_11 (by decide) ?_
      refine b_if hx (fun h3 hx => ?_) (fun h3 hx => ?_)
      · refine mm_icmp_ne 20 dX12_leastOf_13 (by decide) (fun h => absurd h3 h) (fun _ => ?_)
        refine mm_ldc2 kL_X12_792 dX12_leastOf_16 ?_
        refine mm_lret dX12_leastOf_19 rfl ?_ (by omega) (by omega)
        obtain rfl := fin1 hx
        exact ⟨rfl, rfl⟩
      · refine mm_icmp_ne 20 dX12_leastOf_13 (by decide) (fun _ => ?_) (fun h => absurd h h3)
        refine mm_iload_n dX12_leastOf_20 rfl ?_
        refine b_if hx (fun h4 hx => ?_) (fun h4 hx => ?_)
        · refine mm_if_eq 41 dX12_leastOf_21 (by decide) (fun _ => ?_) (fun h => absurd h4 h)
          refine mm_ldc2 kL_X12_528 dX12_leastOf_41 ?_
          refine mm_goto 48 dX12_leastOf_44 (by decide) ?_
          refine mm_lret dX12_leastOf_48 rfl ?_ (by omega) (by omega)
          obtain rfl := fin1 hx
          exact ⟨rfl, rfl⟩
        · refine mm_if_eq 41 dX12_leastOf_21 (by decide) (fun h => absurd h h4) (fun _ => ?_)
          refine mm_iload_n dX12_leastOf_24 rfl ?_
          refine mm_iconst (v := 4) dX12_leastOf_25 (by decide) ?_
          refine b_if hx (fun h5 hx => ?_) (fun h5 hx => ?_)
          · refine mm_icmp_eq 41 dX12_leastOf_26 (by decide) (fun _ => ?_) (fun h => absurd h5 h)
            refine mm_ldc2 kL_X12_528 dX12_leastOf_41 ?_
            refine mm_goto 48 dX12_leastOf_44 (by decide) ?_
            refine mm_lret dX12_leastOf_48 rfl ?_ (by omega) (by omega)
            obtain rfl := fin1 hx
            exact ⟨rfl, rfl⟩
          · refine mm_icmp_eq 41 dX12_leastOf_26 (by decide) (fun h => absurd h h5) (fun _ => ?_)
            refine mm_iload_n dX12_leastOf_29 rfl ?_
            refine mm_bipush (v := 8) dX12_leastOf_30 (by decide) ?_
            refine b_if hx (fun h6 hx => ?_) (fun h6 hx => ?_)
            · refine mm_icmp_eq 41 dX12_leastOf_32 (by decide) (fun _ => ?_) (fun h => absurd h6 h)
              refine mm_ldc2 kL_X12_528 dX12_leastOf_41 ?_
              refine mm_goto 48 dX12_leastOf_44 (by decide) ?_
              refine mm_lret dX12_leastOf_48 rfl ?_ (by omega) (by omega)
              obtain rfl := fin1 hx
              exact ⟨rfl, rfl⟩
            · refine mm_icmp_eq 41 dX12_leastOf_32 (by decide) (fun h => absurd h h6) (fun _ => ?_)
              refine mm_iload_n dX12_leastOf_35 rfl ?_
              refine mm_bipush (v := 14) dX12_leastOf_36 (by decide) ?_
              refine b_if hx (fun h7 hx => ?_) (fun h7 hx => ?_)
              · refine mm_icmp_ne 47 dX12_leastOf_38 (by decide) (fun h => absurd h7 h) (fun _ => ?_)
                refine mm_ldc2 kL_X12_528 dX12_leastOf_41 ?_
                refine mm_goto 48 dX12_leastOf_44 (by decide) ?_
                refine mm_lret dX12_leastOf_48 rfl ?_ (by omega) (by omega)
                obtain rfl := fin1 hx
                exact ⟨rfl, rfl⟩
              · refine mm_icmp_ne 47 dX12_leastOf_38 (by decide) (fun _ => ?_) (fun h => absurd h h7)
                refine mm_lconst (v := 0) dX12_leastOf_47 (by decide) ?_
                refine mm_lret dX12_leastOf_48 rfl ?_ (by omega) (by omega)
                obtain rfl := fin1 hx
                exact ⟨rfl, rfl⟩
set_option maxHeartbeats 4000000 in
set_option maxRecDepth 100000 in
theorem e_X12_many_22 {g : mm_G} {l : Launch} (hst : l.stackTraces = false) {Z : Nat → Nat → Option Nat} (hZ : HZ Z) {n : Nat} (hn : 1186 ≤ n) {z : Bool} {d : Nat} {a : Nat} (hs : sh a = 12) {v1_ : Int32} {v2_ : Int32} {s0_ : Int32} {σ : SG} {r : Int32} {σ' : SG} (hx : x_X12_many_22 a v1_ v2_ s0_ σ = some (r, σ')) : mm_V g l RX12 "many" cX12_many 3 (some .int) [] (d + 1) 0 0 (mm_nt (fun v S' => v = some (.int r) ∧ S' = (mem Z σ', n, z))) 22 [some (.ref a), some (.int v1_), some (.int v2_)] [.int s0_, .ref a] (mem Z σ, n, z) 0 0 := by
  unfold x_X12_many_22 at hx
  refine s_putI (v := s0_) (r := some a) (b := a) (ci := 12) (k := 5) in_X12 rfl (by decide) rfl tyX12_ok nmX12 rfl kF_X12_265 dX12_many_22 (mm_fit_int _) rfl hs (by decide) hn (by decide) rfl hx (fun σ4 hx => ?_)
  refine mm_aload_n dX12_many_25 rfl rfl ?_
  refine s_getI (r := some a) (b := a) (ci := 12) (k := 5) in_X12 rfl (by decide) rfl kF_X12_265 dX12_many_26 rfl hs (by decide) hn (by decide) rfl ?_
  refine b_if hx (fun h5 hx => ?_) (fun h5 hx => ?_)
  · refine mm_if_eq 34 dX12_many_29 (by decide) (fun _ => ?_) (fun h => absurd h5 h)
    refine mm_iload_n dX12_many_34 rfl ?_
    refine b_if hx (fun h6 hx => ?_) (fun h6 hx => ?_)
    · refine mm_if_ne 47 dX12_many_35 (by decide) (fun h => absurd h6 h) (fun _ => ?_)
      refine mm_aload_n dX12_many_38 rfl rfl ?_
      refine s_getS (q := 1104) (r := some a) (b := a) (ci := 12) (k := 7) in_X12 rfl (by decide) rfl kF_X12_20 dX12_many_39 rfl hs (by decide) hn (by decide) rfl rfl ?_
      refine mm_iload_n dX12_many_42 rfl ?_
      obtain ⟨j7, hj8, hb9, hl10, hx⟩ := ix_some hx
      refine s_iald (a := 1104) sa_1104 hn hj8 hb9 na_1104 dX12_many_43 ?_
      refine mm_goto 67 dX12_many_44 (by decide) ?_
      refine mm_iret dX12_many_67 rfl rfl ?_ (by omega) (by omega)
      obtain ⟨rfl, rfl⟩ := fin2 hx
      exact ⟨rfl, rfl⟩
    · refine mm_if_ne 47 dX12_many_35 (by decide) (fun _ => ?_) (fun h => absurd h h6)
      refine mm_iload_n dX12_many_47 rfl ?_
      refine mm_iconst (v := 1) dX12_many_48 (by decide) ?_
      refine b_if hx (fun h11 hx => ?_) (fun h11 hx => ?_)
      · refine mm_icmp_ne 61 dX12_many_49 (by decide) (fun h => absurd h11 h) (fun _ => ?_)
        refine mm_aload_n dX12_many_52 rfl rfl ?_
        refine s_getS (q := 1105) (r := some a) (b := a) (ci := 12) (k := 8) in_X12 rfl (by decide) rfl kF_X12_23 dX12_many_53 rfl hs (by decide) hn (by decide) rfl rfl ?_
        refine mm_iload_n dX12_many_56 rfl ?_
        obtain ⟨j12, hj13, hb14, hl15, hx⟩ := ix_some hx
        refine s_iald (a := 1105) sa_1105 hn hj13 hb14 na_1105 dX12_many_57 ?_
        refine mm_goto 67 dX12_many_58 (by decide) ?_
        refine mm_iret dX12_many_67 rfl rfl ?_ (by omega) (by omega)
        obtain ⟨rfl, rfl⟩ := fin2 hx
        exact ⟨rfl, rfl⟩
      · refine mm_icmp_ne 61 dX12_many_49 (by decide) (fun _ => ?_) (fun h => absurd h h11)
        refine mm_aload_n dX12_many_61 rfl rfl ?_
        refine s_getS (q := 1106) (r := some a) (b := a) (ci := 12) (k := 9) in_X12 rfl (by decide) rfl kF_X12_26 dX12_many_62 rfl hs (by decide) hn (by decide) rfl rfl ?_
        refine mm_iload_n dX12_many_65 rfl ?_
        obtain ⟨j16, hj17, hb18, hl19, hx⟩ := ix_some hx
        refine s_iald (a := 1106) sa_1106 hn hj17 hb18 na_1106 dX12_many_66 ?_
        refine mm_iret dX12_many_67 rfl rfl ?_ (by omega) (by omega)
        obtain ⟨rfl, rfl⟩ := fin2 hx
        exact ⟨rfl, rfl⟩
  · refine mm_if_eq 34 dX12_many_29 (by decide) (fun h => absurd h h5) (fun _ => ?_)
    refine mm_iconst (v := 0) dX12_many_32 (by decide) ?_
    refine mm_iret dX12_many_33 rfl rfl ?_ (by omega) (by omega)
    obtain ⟨rfl, rfl⟩ := fin2 hx
    exact ⟨rfl, rfl⟩
set_option maxHeartbeats 4000000 in
set_option maxRecDepth 100000 in
theorem e_X12_many_21 {g : mm_G} {l : Launch} (hst : l.stackTraces = false) {Z : Nat → Nat → Option Nat} (hZ : HZ Z) {n : Nat} (hn : 1186 ≤ n) {z : Bool} {d : Nat} {a : Nat} (hs : sh a = 12) {v1_ : Int32} {v2_ : Int32} {σ : SG} {r : Int32} {σ' : SG} (hx : x_X12_many_21 a v1_ v2_ σ = some (r, σ')) : mm_V g l RX12 "many" cX12_many 3 (some .int) [] (d + 1) 0 0 (mm_nt (fun v S' => v = some (.int r) ∧ S' = (mem Z σ', n, z))) 21 [some (.ref a), some (.int v1_), some (.int v2_)] [.ref a] (mem Z σ, n, z) 0 0 := by
  unfold x_X12_many_21 at hx
  refine mm_iconst (v := 1) dX12_many_21 (by decide) ?_
  exact e_X12_many_22 hst hZ hn hs hx
set_option maxHeartbeats 4000000 in
set_option maxRecDepth 100000 in
theorem e_X12_many {g : mm_G} {l : Launch} (hst : l.stackTraces = false) {Z : Nat → Nat → Option Nat} (hZ : HZ Z) {n : Nat} (hn : 1186 ≤ n) {z : Bool} {d : Nat} {a : Nat} (hs : sh a = 12) {p0 : Int32} {p1 : Int32} {σ : SG} {r : Int32} {σ' : SG} (hx : x_X12_many a p0 p1 σ = some (r, σ')) : mm_Cm g l yX12_many (.code yX12_many cX12_many 3 (some .int)) (d + 1) 0 0 [.ref a, .int p0, .int p1] (mem Z σ, n, z) (fun v S' => v = some (.int r) ∧ S' = (mem Z σ', n, z)) := by
  refine mm_Cm_of hst (by decide) (Nat.le_of_ble_eq_true rfl) ?_
  show mm_V g l RX12 "many" cX12_many 3 (some .int) [] (d + 1) 0 0 (mm_nt (fun v S' => v = some (.int r) ∧ S' = (mem Z σ', n, z))) 0 [some (.ref a), some (.int p0), some (.int p1)] [] (mem Z σ, n, z) 0 0
  unfold x_X12_many at hx
  refine mm_aload_n dX12_many_0 rfl rfl ?_
  refine mm_iload_n dX12_many_1 rfl ?_
  obtain ⟨v2, hc1, hx⟩ := b1_some hx
  refine mm_callS wM_X12_isSchema kM_X12_548 wT_X12_isSchema dX12_many_2 (e_X12_isSchema hst hZ hn hc1) rfl rfl (Nat.le_of_ble_eq_true rfl) (by omega) (by omega) (fun v9 S9 hq => ?_)
  obtain ⟨rfl, rfl⟩ := hq
  refine ⟨fun h => ⟨h, rfl⟩, ?_⟩
  refine b_if hx (fun h3 hx => ?_) (fun h3 hx => ?_)
  · refine mm_if_eq 21 dX12_many_5 (by decide) (fun _ => ?_) (fun h => absurd h3 h)
    exact e_X12_many_21 hst hZ hn hs hx
  · refine mm_if_eq 21 dX12_many_5 (by decide) (fun h => absurd h h3) (fun _ => ?_)
    refine mm_iload_n dX12_many_8 rfl ?_
    refine b_if hx (fun h20 hx => ?_) (fun h20 hx => ?_)
    · refine mm_if_lt 21 dX12_many_9 (by decide) (fun _ => ?_) (fun h => absurd h20 h)
      exact e_X12_many_21 hst hZ hn hs hx
    · refine mm_if_lt 21 dX12_many_9 (by decide) (fun h => absurd h h20) (fun _ => ?_)
      refine mm_iload_n dX12_many_12 rfl ?_
      refine mm_iconst (v := 2) dX12_many_13 (by decide) ?_
      refine b_if hx (fun h21 hx => ?_) (fun h21 hx => ?_)
      · refine mm_icmp_gt 21 dX12_many_14 (by decide) (fun _ => ?_) (fun h => absurd h21 h)
        exact e_X12_many_21 hst hZ hn hs hx
      · refine mm_icmp_gt 21 dX12_many_14 (by decide) (fun h => absurd h h21) (fun _ => ?_)
        refine mm_iconst (v := 0) dX12_many_17 (by decide) ?_
        refine mm_goto 22 dX12_many_18 (by decide) ?_
        exact e_X12_many_22 hst hZ hn hs hx
set_option maxHeartbeats 4000000 in
set_option maxRecDepth 100000 in
theorem e_X12_mostOf {g : mm_G} {l : Launch} (hst : l.stackTraces = false) {Z : Nat → Nat → Option Nat} (hZ : HZ Z) {n : Nat} (hn : 1186 ≤ n) {z : Bool} {d : Nat} {p0 : Int32} {σ : SG} {r : Int64} (hx : x_X12_mostOf p0 = some r) : mm_Cm g l yX12_mostOf (.code yX12_mostOf cX12_mostOf 1 (some .long)) (d) 0 0 [.int p0] (mem Z σ, n, z) (fun v S' => v = some (.long r) ∧ S' = (mem Z σ, n, z)) := by
  refine mm_Cm_of hst (by decide) (Nat.le_of_ble_eq_true rfl) ?_
  show mm_V g l RX12 "mostOf" cX12_mostOf 1 (some .long) [] (d) 0 0 (mm_nt (fun v S' => v = some (.long r) ∧ S' = (mem Z σ, n, z))) 0 [some (.int p0)] [] (mem Z σ, n, z) 0 0
  unfold x_X12_mostOf at hx
  refine mm_iload_n dX12_mostOf_0 rfl ?_
  refine mm_iconst (v := 3) dX12_mostOf_1 (by decide) ?_
  refine b_if hx (fun h1 hx => ?_) (fun h1 hx => ?_)
  · refine mm_icmp_eq 11 dX12_mostOf_2 (by decide) (fun _ => ?_) (fun h => absurd h1 h)
    refine mm_ldc2 kL_X12_794 dX12_mostOf_11 ?_
    refine mm_lret dX12_mostOf_14 rfl ?_ (by omega) (by omega)
    obtain rfl := fin1 hx
    exact ⟨rfl, rfl⟩
  · refine mm_icmp_eq 11 dX12_mostOf_2 (by decide) (fun h => absurd h h1) (fun _ => ?_)
    refine mm_iload_n dX12_mostOf_5 rfl ?_
    refine mm_bipush (v := 7) dX12_mostOf_6 (by decide) ?_
    refine b_if hx (fun h2 hx => ?_) (fun h2 hx => ?_)
    · refine mm_icmp_ne 15 dX12_mostOf_8 (by decide) (fun h => absurd h2 h) (fun _ => ?_)
      refine mm_ldc2 kL_X12_794 dX12_mostOf_11 ?_
      refine mm_lret dX12_mostOf_14 rfl ?_ (by omega) (by omega)
      obtain rfl := fin1 hx
      exact ⟨rfl, rfl⟩
    · refine mm_icmp_ne 15 dX12_mostOf_8 (by decide) (fun _ => ?_) (fun h => absurd h h2)
      refine mm_iload_n dX12_mostOf_15 rfl ?_
      refine mm_iconst (v := 1) dX12_mostOf_16 (by decide) ?_
      refine b_if hx (fun h3 hx => ?_) (fun h3 hx => ?_)
      · refine mm_icmp_eq 31 dX12_mostOf_17 (by decide) (fun _ => ?_) (fun h => absurd h3 h)
        refine mm_ldc2 kL_X12_796 dX12_mostOf_31 ?_
        refine mm_lret dX12_mostOf_34 rfl ?_ (by omega) (by omega)
        obtain rfl := fin1 hx
        exact ⟨rfl, rfl⟩
      · refine mm_icmp_eq 31 dX12_mostOf_17 (by decide) (fun h => absurd h h3) (fun _ => ?_)
        refine mm_iload_n dX12_mostOf_20 rfl ?_
        refine mm_iconst (v := 5) dX12_mostOf_21 (by decide) ?_
        refine b_if hx (fun h4 hx => ?_) (fun h4 hx => ?_)
        · refine mm_icmp_eq 31 dX12_mostOf_22 (by decide) (fun _ => ?_) (fun h => absurd h4 h)
          refine mm_ldc2 kL_X12_796 dX12_mostOf_31 ?_
          refine mm_lret dX12_mostOf_34 rfl ?_ (by omega) (by omega)
          obtain rfl := fin1 hx
          exact ⟨rfl, rfl⟩
        · refine mm_icmp_eq 31 dX12_mostOf_22 (by decide) (fun h => absurd h h4) (fun _ => ?_)
          refine mm_iload_n dX12_mostOf_25 rfl ?_
          refine mm_bipush (v := 9) dX12_mostOf_26 (by decide) ?_
          refine b_if hx (fun h5 hx => ?_) (fun h5 hx => ?_)
          · refine mm_icmp_ne 35 dX12_mostOf_28 (by decide) (fun h => absurd h5 h) (fun _ => ?_)
            refine mm_ldc2 kL_X12_796 dX12_mostOf_31 ?_
            refine mm_lret dX12_mostOf_34 rfl ?_ (by omega) (by omega)
            obtain rfl := fin1 hx
            exact ⟨rfl, rfl⟩
          · refine mm_icmp_ne 35 dX12_mostOf_28 (by decide) (fun _ => ?_) (fun h => absurd h h5)
            refine mm_iload_n dX12_mostOf_35 rfl ?_
            refine mm_iconst (v := 2) dX12_mostOf_36 (by decide) ?_
            refine b_if hx (fun h6 hx => ?_) (fun h6 hx => ?_)
            · refine mm_icmp_eq 46 dX12_mostOf_37 (by decide) (fun _ => ?_) (fun h => absurd h6 h)
              refine mm_ldc2 kL_X12_639 dX12_mostOf_46 ?_
              refine mm_goto 55 dX12_mostOf_49 (by decide) ?_
              refine mm_lret dX12_mostOf_55 rfl ?_ (by omega) (by omega)
              obtain rfl := fin1 hx
              exact ⟨rfl, rfl⟩
            · refine mm_icmp_eq 46 dX12_mostOf_37 (by decide) (fun h => absurd h h6) (fun _ => ?_)
              refine mm_iload_n dX12_mostOf_40 rfl ?_
              refine mm_bipush (v := 6) dX12_mostOf_41 (by decide) ?_
              refine b_if hx (fun h7 hx => ?_) (fun h7 hx => ?_)
              · refine mm_icmp_ne 52 dX12_mostOf_43 (by decide) (fun h => absurd h7 h) (fun _ => ?_)
                refine mm_ldc2 kL_X12_639 dX12_mostOf_46 ?_
                refine mm_goto 55 dX12_mostOf_49 (by decide) ?_
                refine mm_lret dX12_mostOf_55 rfl ?_ (by omega) (by omega)
                obtain rfl := fin1 hx
                exact ⟨rfl, rfl⟩
              · refine mm_icmp_ne 52 dX12_mostOf_43 (by decide) (fun _ => ?_) (fun h => absurd h h7)
                refine mm_ldc2 kL_X12_530 dX12_mostOf_52 ?_
                refine mm_lret dX12_mostOf_55 rfl ?_ (by omega) (by omega)
                obtain rfl := fin1 hx
                exact ⟨rfl, rfl⟩
set_option maxHeartbeats 4000000 in
set_option maxRecDepth 100000 in
theorem e_X12_nameEnd_L13 {g : mm_G} {l : Launch} (hst : l.stackTraces = false) {Z : Nat → Nat → Option Nat} (hZ : HZ Z) {n : Nat} (hn : 1186 ≤ n) {z : Bool} {d : Nat} {U : Nat} {a : Nat} (hs : sh a = 12) {σ : SG} {r : Int32} : ∀ (U1 : Nat) (v2_ : Int32), x_X12_nameEnd_L13 U a σ U1 v2_ = some r → mm_V g l RX12 "nameEnd" cX12_nameEnd 3 (some .int) [] (d + 2) 0 0 (mm_nt (fun v S' => v = some (.int r) ∧ S' = (mem Z σ, n, z))) 13 [some (.ref a), none, some (.int v2_)] [] (mem Z σ, n, z) 0 0 := by
  intro U1
  induction U1 with
  | zero => intro v2_ hx; exact absurd hx (by simp [x_X12_nameEnd_L13])
  | succ U1 ih =>
    intro v2_ hx
    rw [x_X12_nameEnd_L13] at hx
    refine mm_aload_n dX12_nameEnd_13 rfl rfl ?_
    refine mm_iload_n dX12_nameEnd_14 rfl ?_
    obtain ⟨v7, hc6, hx⟩ := b1_some hx
    refine mm_callV3 (a := a) (ci := 12) wM_X12_byteAt kM_X12_284 wI_X12_byteAt wS_X12_byteAt dX12_nameEnd_15 (e_X12_byteAt hst hZ hn hs hc6) (mem_obj hs (by decide)) (sh_ltn hs (by decide) hn) rfl rfl rfl (Nat.le_of_ble_eq_true rfl) (by omega) (by omega) (fun v9 S9 hq => ?_)
    obtain ⟨rfl, rfl⟩ := hq
    refine ⟨fun h => ⟨h, rfl⟩, ?_⟩
    obtain ⟨v9, hc8, hx⟩ := b1_some hx
    refine mm_callS wM_X12_isPart kM_X12_313 wT_X12_isPart dX12_nameEnd_18 (e_X12_isPart hst hZ hn hc8) rfl rfl (Nat.le_of_ble_eq_true rfl) (by omega) (by omega) (fun v9 S9 hq => ?_)
    obtain ⟨rfl, rfl⟩ := hq
    refine ⟨fun h => ⟨h, rfl⟩, ?_⟩
    refine b_if hx (fun h10 hx => ?_) (fun h10 hx => ?_)
    · refine mm_if_eq 30 dX12_nameEnd_21 (by decide) (fun _ => ?_) (fun h => absurd h10 h)
      refine mm_iload_n dX12_nameEnd_30 rfl ?_
      refine mm_iret dX12_nameEnd_31 rfl rfl ?_ (by omega) (by omega)
      obtain rfl := fin1 hx
      exact ⟨rfl, rfl⟩
    · refine mm_if_eq 30 dX12_nameEnd_21 (by decide) (fun h => absurd h h10) (fun _ => ?_)
      refine mm_iinc (v := v2_ + 1) [some (.ref a), none, some (.int (v2_ + 1))] dX12_nameEnd_24 rfl rfl (by decide) rfl ?_
      refine mm_goto 13 dX12_nameEnd_27 (by decide) ?_
      exact ih _ hx
set_option maxHeartbeats 4000000 in
set_option maxRecDepth 100000 in
theorem e_X12_nameEnd {g : mm_G} {l : Launch} (hst : l.stackTraces = false) {Z : Nat → Nat → Option Nat} (hZ : HZ Z) {n : Nat} (hn : 1186 ≤ n) {z : Bool} {d : Nat} {U : Nat} {a : Nat} (hs : sh a = 12) {p0 : Int32} {σ : SG} {r : Int32} (hx : x_X12_nameEnd U a p0 σ = some r) : mm_Cm g l yX12_nameEnd (.code yX12_nameEnd cX12_nameEnd 3 (some .int)) (d + 2) 0 0 [.ref a, .int p0] (mem Z σ, n, z) (fun v S' => v = some (.int r) ∧ S' = (mem Z σ, n, z)) := by
  refine mm_Cm_of hst (by decide) (Nat.le_of_ble_eq_true rfl) ?_
  show mm_V g l RX12 "nameEnd" cX12_nameEnd 3 (some .int) [] (d + 2) 0 0 (mm_nt (fun v S' => v = some (.int r) ∧ S' = (mem Z σ, n, z))) 0 [some (.ref a), some (.int p0), none] [] (mem Z σ, n, z) 0 0
  unfold x_X12_nameEnd at hx
  refine mm_iload_n dX12_nameEnd_0 rfl ?_
  refine mm_istore_n [some (.ref a), some (.int p0), some (.int p0)] dX12_nameEnd_1 (by decide) rfl ?_
  refine mm_aload_n dX12_nameEnd_2 rfl rfl ?_
  refine mm_iload_n dX12_nameEnd_3 rfl ?_
  obtain ⟨v2, hc1, hx⟩ := b1_some hx
  refine mm_callV3 (a := a) (ci := 12) wM_X12_byteAt kM_X12_284 wI_X12_byteAt wS_X12_byteAt dX12_nameEnd_4 (e_X12_byteAt hst hZ hn hs hc1) (mem_obj hs (by decide)) (sh_ltn hs (by decide) hn) rfl rfl rfl (Nat.le_of_ble_eq_true rfl) (by omega) (by omega) (fun v9 S9 hq => ?_)
  obtain ⟨rfl, rfl⟩ := hq
  refine ⟨fun h => ⟨h, rfl⟩, ?_⟩
  obtain ⟨v4, hc3, hx⟩ := b1_some hx
  refine mm_callS wM_X12_isLetter kM_X12_277 wT_X12_isLetter dX12_nameEnd_7 (e_X12_isLetter hst hZ hn hc3) rfl rfl (Nat.le_of_ble_eq_true rfl) (by omega) (by omega) (fun v9 S9 hq => ?_)
  obtain ⟨rfl, rfl⟩ := hq
  refine ⟨fun h => ⟨h, rfl⟩, ?_⟩
  refine b_if hx (fun h5 hx => ?_) (fun h5 hx => ?_)
  · refine mm_if_eq 30 dX12_nameEnd_10 (by decide) (fun _ => ?_) (fun h => absurd h5 h)
    refine mm_iload_n dX12_nameEnd_30 rfl ?_
    refine mm_iret dX12_nameEnd_31 rfl rfl ?_ (by omega) (by omega)
    obtain rfl := fin1 hx
    exact ⟨rfl, rfl⟩
  · refine mm_if_eq 30 dX12_nameEnd_10 (by decide) (fun h => absurd h h5) (fun _ => ?_)
    refine mm_fewer [some (.ref a), none, some (.int p0)] (few_ok (bs := [true, false, true]) rfl) ?_
    refine e_X12_nameEnd_L13 hst hZ hn hs _ _ hx
set_option maxHeartbeats 4000000 in
set_option maxRecDepth 100000 in
theorem e_X12_out_68 {g : mm_G} {l : Launch} (hst : l.stackTraces = false) {Z : Nat → Nat → Option Nat} (hZ : HZ Z) {n : Nat} (hn : 1186 ≤ n) {z : Bool} {d : Nat} {U : Nat} {a : Nat} (hs : sh a = 12) {k26 : Int64 → Int32 → Option (Int64 × SG)} {v1_ : Int32} {v4_ : Int32} {s0_ : Int32} {s1_ : Int64} {σ : SG} {r : Int64} {σ' : SG} (hk26 : ∀ (v2_ : Int64) (v4_ : Int32), k26 v2_ v4_ = some (r, σ') → mm_V g l RX12 "out" cX12_out 5 (some .long) [] (d) 0 0 (mm_nt (fun v S' => v = some (.long r) ∧ S' = (mem Z σ', n, z))) 26 [some (.ref a), some (.int v1_), some (.long v2_), none, some (.int v4_)] [] (mem Z σ, n, z) 0 0) (hx : x_X12_out_68 U a k26 v1_ v4_ s0_ s1_ σ = some (r, σ')) : mm_V g l RX12 "out" cX12_out 5 (some .long) [] (d) 0 0 (mm_nt (fun v S' => v = some (.long r) ∧ S' = (mem Z σ', n, z))) 68 [some (.ref a), some (.int v1_), none, none, some (.int v4_)] [.int s0_, .long s1_] (mem Z σ, n, z) 0 0 := by
  unfold x_X12_out_68 at hx
  refine mm_i2l dX12_out_68 ?_
  refine mm_lor dX12_out_69 ?_
  refine mm_lstore_n [some (.ref a), some (.int v1_), some (.long (s1_ ||| (Int32.toInt64 s0_))), none, some (.int v4_)] dX12_out_70 (by decide) rfl ?_
  refine mm_iinc (v := v4_ + 1) [some (.ref a), some (.int v1_), some (.long (s1_ ||| (Int32.toInt64 s0_))), none, some (.int (v4_ + 1))] dX12_out_71 rfl rfl (by decide) rfl ?_
  refine mm_goto 26 dX12_out_74 (by decide) ?_
  exact hk26 _ _ hx
set_option maxHeartbeats 4000000 in
set_option maxRecDepth 100000 in
theorem e_X12_out_L26 {g : mm_G} {l : Launch} (hst : l.stackTraces = false) {Z : Nat → Nat → Option Nat} (hZ : HZ Z) {n : Nat} (hn : 1186 ≤ n) {z : Bool} {d : Nat} {U : Nat} {a : Nat} (hs : sh a = 12) {v1_ : Int32} {σ : SG} {r : Int64} {σ' : SG} : ∀ (U1 : Nat) (v2_ : Int64) (v4_ : Int32), x_X12_out_L26 U a v1_ σ U1 v2_ v4_ = some (r, σ') → mm_V g l RX12 "out" cX12_out 5 (some .long) [] (d) 0 0 (mm_nt (fun v S' => v = some (.long r) ∧ S' = (mem Z σ', n, z))) 26 [some (.ref a), some (.int v1_), some (.long v2_), none, some (.int v4_)] [] (mem Z σ, n, z) 0 0 := by
  intro U1
  induction U1 with
  | zero => intro v2_ v4_ hx; exact absurd hx (by simp [x_X12_out_L26])
  | succ U1 ih =>
    intro v2_ v4_ hx
    rw [x_X12_out_L26] at hx
    refine mm_iload dX12_out_26 rfl ?_
    refine mm_bipush (v := 8) dX12_out_28 (by decide) ?_
    refine b_if hx (fun h3 hx => ?_) (fun h3 hx => ?_)
    · refine mm_icmp_ge 77 dX12_out_30 (by decide) (fun h => absurd h (Int32.not_le.mpr h3)) (fun _ => ?_)
      refine mm_aload_n dX12_out_33 rfl rfl ?_
      refine s_getI (r := some a) (b := a) (ci := 12) (k := 5) in_X12 rfl (by decide) rfl kF_X12_265 dX12_out_34 rfl hs (by decide) hn (by decide) rfl ?_
      refine b_if hx (fun h4 hx => ?_) (fun h4 hx => ?_)
      · refine mm_if_ne 77 dX12_out_37 (by decide) (fun h => absurd h4 h) (fun _ => ?_)
        refine mm_lload_n dX12_out_40 rfl ?_
        refine mm_bipush (v := 8) dX12_out_41 (by decide) ?_
        refine mm_lshl dX12_out_43 ?_
        refine mm_iload_n dX12_out_44 rfl ?_
        refine mm_iload dX12_out_45 rfl ?_
        refine mm_iadd dX12_out_47 ?_
        refine mm_aload_n dX12_out_48 rfl rfl ?_
        refine s_getI (r := some a) (b := a) (ci := 12) (k := 3) in_X12 rfl (by decide) rfl kF_X12_271 dX12_out_49 rfl hs (by decide) hn (by decide) rfl ?_
        refine b_if hx (fun h5 hx => ?_) (fun h5 hx => ?_)
        · refine mm_icmp_ge 67 dX12_out_52 (by decide) (fun h => absurd h (Int32.not_le.mpr h5)) (fun _ => ?_)
          refine mm_aload_n dX12_out_55 rfl rfl ?_
          refine s_getS (q := 1103) (r := some a) (b := a) (ci := 12) (k := 2) in_X12 rfl (by decide) rfl kF_X12_13 dX12_out_56 rfl hs (by decide) hn (by decide) rfl rfl ?_
          refine mm_iload_n dX12_out_59 rfl ?_
          refine mm_iload dX12_out_60 rfl ?_
          refine mm_iadd dX12_out_62 ?_
          obtain ⟨j6, hj7, hb8, hl9, hx⟩ := ix_some hx
          refine s_iald (a := 1103) sa_1103 hn hj7 hb8 na_1103 dX12_out_63 ?_
          refine mm_goto 68 dX12_out_64 (by decide) ?_
          refine mm_fewer [some (.ref a), some (.int v1_), none, none, some (.int v4_)] (few_ok (bs := [true, true, false, false, true]) rfl) ?_
          exact e_X12_out_68 hst hZ hn hs ih hx
        · refine mm_icmp_ge 67 dX12_out_52 (by decide) (fun _ => ?_) (fun h => absurd (Int32.not_lt.mp h5) h)
          refine mm_iconst (v := 0) dX12_out_67 (by decide) ?_
          refine mm_fewer [some (.ref a), some (.int v1_), none, none, some (.int v4_)] (few_ok (bs := [true, true, false, false, true]) rfl) ?_
          exact e_X12_out_68 hst hZ hn hs ih hx
      · refine mm_if_ne 77 dX12_out_37 (by decide) (fun _ => ?_) (fun h => absurd h h4)
        refine mm_lload_n dX12_out_77 rfl ?_
        refine mm_lret dX12_out_78 rfl ?_ (by omega) (by omega)
        obtain ⟨rfl, rfl⟩ := fin2 hx
        exact ⟨rfl, rfl⟩
    · refine mm_icmp_ge 77 dX12_out_30 (by decide) (fun _ => ?_) (fun h => absurd (Int32.not_lt.mp h3) h)
      refine mm_lload_n dX12_out_77 rfl ?_
      refine mm_lret dX12_out_78 rfl ?_ (by omega) (by omega)
      obtain ⟨rfl, rfl⟩ := fin2 hx
      exact ⟨rfl, rfl⟩
set_option maxHeartbeats 4000000 in
set_option maxRecDepth 100000 in
theorem e_X12_out_18 {g : mm_G} {l : Launch} (hst : l.stackTraces = false) {Z : Nat → Nat → Option Nat} (hZ : HZ Z) {n : Nat} (hn : 1186 ≤ n) {z : Bool} {d : Nat} {U : Nat} {a : Nat} (hs : sh a = 12) {v1_ : Int32} {s0_ : Int32} {σ : SG} {r : Int64} {σ' : SG} (hx : x_X12_out_18 U a v1_ s0_ σ = some (r, σ')) : mm_V g l RX12 "out" cX12_out 5 (some .long) [] (d) 0 0 (mm_nt (fun v S' => v = some (.long r) ∧ S' = (mem Z σ', n, z))) 18 [some (.ref a), some (.int v1_), none, none, none] [.int s0_, .ref a] (mem Z σ, n, z) 0 0 := by
  unfold x_X12_out_18 at hx
  refine s_putI (v := s0_) (r := some a) (b := a) (ci := 12) (k := 5) in_X12 rfl (by decide) rfl tyX12_ok nmX12 rfl kF_X12_265 dX12_out_18 (mm_fit_int _) rfl hs (by decide) hn (by decide) rfl hx (fun σ2 hx => ?_)
  refine mm_lconst (v := 0) dX12_out_21 (by decide) ?_
  refine mm_lstore_n [some (.ref a), some (.int v1_), some (.long 0), none, none] dX12_out_22 (by decide) rfl ?_
  refine mm_iconst (v := 0) dX12_out_23 (by decide) ?_
  refine mm_istore [some (.ref a), some (.int v1_), some (.long 0), none, some (.int 0)] dX12_out_24 (by decide) rfl ?_
  refine e_X12_out_L26 hst hZ hn hs _ _ _ hx
set_option maxHeartbeats 4000000 in
set_option maxRecDepth 100000 in
theorem e_X12_out_13 {g : mm_G} {l : Launch} (hst : l.stackTraces = false) {Z : Nat → Nat → Option Nat} (hZ : HZ Z) {n : Nat} (hn : 1186 ≤ n) {z : Bool} {d : Nat} {U : Nat} {a : Nat} (hs : sh a = 12) {v1_ : Int32} {σ : SG} {r : Int64} {σ' : SG} (hx : x_X12_out_13 U a v1_ σ = some (r, σ')) : mm_V g l RX12 "out" cX12_out 5 (some .long) [] (d) 0 0 (mm_nt (fun v S' => v = some (.long r) ∧ S' = (mem Z σ', n, z))) 13 [some (.ref a), some (.int v1_), none, none, none] [.ref a] (mem Z σ, n, z) 0 0 := by
  unfold x_X12_out_13 at hx
  refine mm_iconst (v := 1) dX12_out_13 (by decide) ?_
  refine mm_goto 18 dX12_out_14 (by decide) ?_
  exact e_X12_out_18 hst hZ hn hs hx
set_option maxHeartbeats 4000000 in
set_option maxRecDepth 100000 in
theorem e_X12_out {g : mm_G} {l : Launch} (hst : l.stackTraces = false) {Z : Nat → Nat → Option Nat} (hZ : HZ Z) {n : Nat} (hn : 1186 ≤ n) {z : Bool} {d : Nat} {U : Nat} {a : Nat} (hs : sh a = 12) {p0 : Int32} {σ : SG} {r : Int64} {σ' : SG} (hx : x_X12_out U a p0 σ = some (r, σ')) : mm_Cm g l yX12_out (.code yX12_out cX12_out 5 (some .long)) (d) 0 0 [.ref a, .int p0] (mem Z σ, n, z) (fun v S' => v = some (.long r) ∧ S' = (mem Z σ', n, z)) := by
  refine mm_Cm_of hst (by decide) (Nat.le_of_ble_eq_true rfl) ?_
  show mm_V g l RX12 "out" cX12_out 5 (some .long) [] (d) 0 0 (mm_nt (fun v S' => v = some (.long r) ∧ S' = (mem Z σ', n, z))) 0 [some (.ref a), some (.int p0), none, none, none] [] (mem Z σ, n, z) 0 0
  unfold x_X12_out at hx
  refine mm_aload_n dX12_out_0 rfl rfl ?_
  refine mm_iload_n dX12_out_1 rfl ?_
  refine b_if hx (fun h1 hx => ?_) (fun h1 hx => ?_)
  · refine mm_if_lt 13 dX12_out_2 (by decide) (fun _ => ?_) (fun h => absurd h1 h)
    exact e_X12_out_13 hst hZ hn hs hx
  · refine mm_if_lt 13 dX12_out_2 (by decide) (fun h => absurd h h1) (fun _ => ?_)
    refine mm_iload_n dX12_out_5 rfl ?_
    refine mm_aload_n dX12_out_6 rfl rfl ?_
    refine s_getI (r := some a) (b := a) (ci := 12) (k := 3) in_X12 rfl (by decide) rfl kF_X12_271 dX12_out_7 rfl hs (by decide) hn (by decide) rfl ?_
    refine b_if hx (fun h10 hx => ?_) (fun h10 hx => ?_)
    · refine mm_icmp_lt 17 dX12_out_10 (by decide) (fun _ => ?_) (fun h => absurd h10 h)
      refine mm_iconst (v := 0) dX12_out_17 (by decide) ?_
      exact e_X12_out_18 hst hZ hn hs hx
    · refine mm_icmp_lt 17 dX12_out_10 (by decide) (fun h => absurd h h10) (fun _ => ?_)
      exact e_X12_out_13 hst hZ hn hs hx
set_option maxHeartbeats 4000000 in
set_option maxRecDepth 100000 in
theorem e_X12_textBlanks_L33 {g : mm_G} {l : Launch} (hst : l.stackTraces = false) {Z : Nat → Nat → Option Nat} (hZ : HZ Z) {n : Nat} (hn : 1186 ≤ n) {z : Bool} {d : Nat} {U : Nat} {a : Nat} (hs : sh a = 12) {k2 : Int32 → Option (Int32)} {σ : SG} {r : Int32} (hk2 : ∀ (v2_ : Int32), k2 v2_ = some r → mm_V g l RX12 "textBlanks" cX12_textBlanks 3 (some .int) [] (d + 1) 0 0 (mm_nt (fun v S' => v = some (.int r) ∧ S' = (mem Z σ, n, z))) 2 [some (.ref a), none, some (.int v2_)] [] (mem Z σ, n, z) 0 0) : ∀ (U1 : Nat) (v2_ : Int32), x_X12_textBlanks_L33 U a k2 σ U1 v2_ = some r → mm_V g l RX12 "textBlanks" cX12_textBlanks 3 (some .int) [] (d + 1) 0 0 (mm_nt (fun v S' => v = some (.int r) ∧ S' = (mem Z σ, n, z))) 33 [some (.ref a), none, some (.int v2_)] [] (mem Z σ, n, z) 0 0 := by
  intro U1
  induction U1 with
  | zero => intro v2_ hx; exact absurd hx (by simp [x_X12_textBlanks_L33])
  | succ U1 ih =>
    intro v2_ hx
    rw [x_X12_textBlanks_L33] at hx
    refine mm_iload_n dX12_textBlanks_33 rfl ?_
    refine mm_aload_n dX12_textBlanks_34 rfl rfl ?_
    refine s_getI (r := some a) (b := a) (ci := 12) (k := 73) in_X12 rfl (by decide) rfl kF_X12_274 dX12_textBlanks_35 rfl hs (by decide) hn (by decide) rfl ?_
    refine b_if hx (fun h12 hx => ?_) (fun h12 hx => ?_)
    · refine mm_icmp_ge 2 dX12_textBlanks_38 (by decide) (fun h => absurd h (Int32.not_le.mpr h12)) (fun _ => ?_)
      refine mm_aload_n dX12_textBlanks_41 rfl rfl ?_
      refine mm_iload_n dX12_textBlanks_42 rfl ?_
      obtain ⟨v14, hc13, hx⟩ := b1_some hx
      refine mm_callV3 (a := a) (ci := 12) wM_X12_byteAt kM_X12_284 wI_X12_byteAt wS_X12_byteAt dX12_textBlanks_43 (e_X12_byteAt hst hZ hn hs hc13) (mem_obj hs (by decide)) (sh_ltn hs (by decide) hn) rfl rfl rfl (Nat.le_of_ble_eq_true rfl) (by omega) (by omega) (fun v9 S9 hq => ?_)
      obtain ⟨rfl, rfl⟩ := hq
      refine ⟨fun h => ⟨h, rfl⟩, ?_⟩
      refine mm_bipush (v := 10) dX12_textBlanks_46 (by decide) ?_
      refine b_if hx (fun h15 hx => ?_) (fun h15 hx => ?_)
      · refine mm_icmp_eq 2 dX12_textBlanks_48 (by decide) (fun _ => ?_) (fun h => absurd h15 h)
        exact hk2 _ hx
      · refine mm_icmp_eq 2 dX12_textBlanks_48 (by decide) (fun h => absurd h h15) (fun _ => ?_)
        refine mm_iinc (v := v2_ + 1) [some (.ref a), none, some (.int (v2_ + 1))] dX12_textBlanks_51 rfl rfl (by decide) rfl ?_
        refine mm_goto 33 dX12_textBlanks_54 (by decide) ?_
        exact ih _ hx
    · refine mm_icmp_ge 2 dX12_textBlanks_38 (by decide) (fun _ => ?_) (fun h => absurd (Int32.not_lt.mp h12) h)
      exact hk2 _ hx
