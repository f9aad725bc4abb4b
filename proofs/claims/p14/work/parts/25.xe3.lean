set_option maxHeartbeats 4000000 in
set_option maxRecDepth 100000 in
theorem e_X12_takeOneof {g : mm_G} {l : Launch} (hst : l.stackTraces = false) {Z : Nat → Nat → Option Nat} (hZ : HZ Z) {n : Nat} (hn : 1186 ≤ n) {z : Bool} {d : Nat} {U : Nat} {a : Nat} (hs : sh a = 12) {p0 : Int32} {σ : SG} {σ' : SG} (hx : x_X12_takeOneof U a p0 σ = some σ') : mm_Cm g l yX12_takeOneof (.code yX12_takeOneof cX12_takeOneof 4 none) (d + 8) 0 0 [.ref a, .int p0] (mem Z σ, n, z) (fun v S' => v = none ∧ S' = (mem Z σ', n, z)) := by
  refine mm_Cm_of hst (by decide) (Nat.le_of_ble_eq_true rfl) ?_
  show mm_V g l RX12 "takeOneof" cX12_takeOneof 4 none [] (d + 8) 0 0 (mm_nt (fun v S' => v = none ∧ S' = (mem Z σ', n, z))) 0 [some (.ref a), some (.int p0), none, none] [] (mem Z σ, n, z) 0 0
  unfold x_X12_takeOneof at hx
  refine mm_aload_n dX12_takeOneof_0 rfl rfl ?_
  obtain ⟨σ2, hc1, hx⟩ := b1_some hx
  refine mm_callV3 (a := a) (ci := 12) wM_X12_next kM_X12_357 wI_X12_next wS_X12_next dX12_takeOneof_1 (e_X12_next hst hZ hn hs hc1) (mem_obj hs (by decide)) (sh_ltn hs (by decide) hn) rfl rfl rfl (Nat.le_of_ble_eq_true rfl) (by omega) (by omega) (fun v9 S9 hq => ?_)
  obtain ⟨rfl, rfl⟩ := hq
  refine ⟨fun h => ⟨h, rfl⟩, ?_⟩
  refine mm_aload_n dX12_takeOneof_4 rfl rfl ?_
  refine mm_iload_n dX12_takeOneof_5 rfl ?_
  obtain ⟨σ4, hc3, hx⟩ := b1_some hx
  refine mm_callV3 (a := a) (ci := 12) wM_X12_declare kM_X12_463 wI_X12_declare wS_X12_declare dX12_takeOneof_6 (e_X12_declare hst hZ hn hs hc3) (mem_obj hs (by decide)) (sh_ltn hs (by decide) hn) rfl rfl rfl (Nat.le_of_ble_eq_true rfl) (by omega) (by omega) (fun v9 S9 hq => ?_)
  obtain ⟨rfl, rfl⟩ := hq
  refine ⟨fun h => ⟨h, rfl⟩, ?_⟩
  refine mm_aload_n dX12_takeOneof_9 rfl rfl ?_
  refine mm_bipush (v := 123) dX12_takeOneof_10 (by decide) ?_
  obtain ⟨σ6, hc5, hx⟩ := b1_some hx
  refine mm_callV3 (a := a) (ci := 12) wM_X12_takeSign kM_X12_450 wI_X12_takeSign wS_X12_takeSign dX12_takeOneof_12 (e_X12_takeSign hst hZ hn hs hc5) (mem_obj hs (by decide)) (sh_ltn hs (by decide) hn) rfl rfl rfl (Nat.le_of_ble_eq_true rfl) (by omega) (by omega) (fun v9 S9 hq => ?_)
  obtain ⟨rfl, rfl⟩ := hq
  refine ⟨fun h => ⟨h, rfl⟩, ?_⟩
  refine mm_aload_n dX12_takeOneof_15 rfl rfl ?_
  refine s_getI (r := some a) (b := a) (ci := 12) (k := 36) in_X12 rfl (by decide) rfl kF_X12_475 dX12_takeOneof_16 rfl hs (by decide) hn (by decide) rfl ?_
  refine mm_istore_n [some (.ref a), some (.int p0), some (.int (sI σ6 a 36)), none] dX12_takeOneof_19 (by decide) rfl ?_
  refine mm_aload_n dX12_takeOneof_20 rfl rfl ?_
  refine mm_dup dX12_takeOneof_21 rfl ?_
  refine s_getI (r := some a) (b := a) (ci := 12) (k := 36) in_X12 rfl (by decide) rfl kF_X12_475 dX12_takeOneof_22 rfl hs (by decide) hn (by decide) rfl ?_
  refine mm_iconst (v := 1) dX12_takeOneof_25 (by decide) ?_
  refine mm_iadd dX12_takeOneof_26 ?_
  refine s_putI (v := (sI σ6 a 36) + 1) (r := some a) (b := a) (ci := 12) (k := 36) in_X12 rfl (by decide) rfl tyX12_ok nmX12 rfl kF_X12_475 dX12_takeOneof_27 (mm_fit_int _) rfl hs (by decide) hn (by decide) rfl hx (fun σ7 hx => ?_)
  refine mm_iconst (v := 1) dX12_takeOneof_30 (by decide) ?_
  refine mm_istore_n [some (.ref a), some (.int p0), some (.int (sI σ6 a 36)), some (.int 1)] dX12_takeOneof_31 (by decide) rfl ?_
  refine e_X12_takeOneof_L32 hst hZ hn hs ?_ _ _ _ hx
  · intro  σ21 hx
    exact e_X12_takeOneof_93 hst hZ hn hs hx
set_option maxHeartbeats 4000000 in
set_option maxRecDepth 100000 in
theorem e_X12_takeMember {g : mm_G} {l : Launch} (hst : l.stackTraces = false) {Z : Nat → Nat → Option Nat} (hZ : HZ Z) {n : Nat} (hn : 1186 ≤ n) {z : Bool} {d : Nat} {U : Nat} {a : Nat} (hs : sh a = 12) {p0 : Int32} {σ : SG} {r : Int32} {σ' : SG} (hx : x_X12_takeMember U a p0 σ = some (r, σ')) : mm_Cm g l yX12_takeMember (.code yX12_takeMember cX12_takeMember 3 (some .int)) (d + 9) 0 0 [.ref a, .int p0] (mem Z σ, n, z) (fun v S' => v = some (.int r) ∧ S' = (mem Z σ', n, z)) := by
  refine mm_Cm_of hst (by decide) (Nat.le_of_ble_eq_true rfl) ?_
  show mm_V g l RX12 "takeMember" cX12_takeMember 3 (some .int) [] (d + 9) 0 0 (mm_nt (fun v S' => v = some (.int r) ∧ S' = (mem Z σ', n, z))) 0 [some (.ref a), some (.int p0), none] [] (mem Z σ, n, z) 0 0
  unfold x_X12_takeMember at hx
  refine mm_aload_n dX12_takeMember_0 rfl rfl ?_
  refine s_getS (q := 1159) (r := some a) (b := a) (ci := 12) (k := 78) in_X12 rfl (by decide) rfl kF_X12_187 dX12_takeMember_1 rfl hs (by decide) hn (by decide) rfl rfl ?_
  refine mm_iload_n dX12_takeMember_4 rfl ?_
  refine mm_iconst (v := 1) dX12_takeMember_5 (by decide) ?_
  refine mm_isub dX12_takeMember_6 ?_
  obtain ⟨j1, hj2, hb3, hl4, hx⟩ := ix_some hx
  refine s_iald (a := 1159) sa_1159 hn hj2 hb3 na_1159 dX12_takeMember_7 ?_
  refine mm_istore_n [some (.ref a), some (.int p0), some (.int (sI σ 1159 j1))] dX12_takeMember_8 (by decide) rfl ?_
  refine mm_aload_n dX12_takeMember_9 rfl rfl ?_
  refine mm_bipush (v := 125) dX12_takeMember_10 (by decide) ?_
  obtain ⟨v6, hc5, hx⟩ := b1_some hx
  refine mm_callV3 (a := a) (ci := 12) wM_X12_isSign kM_X12_354 wI_X12_isSign wS_X12_isSign dX12_takeMember_12 (e_X12_isSign hst hZ hn hs hc5) (mem_obj hs (by decide)) (sh_ltn hs (by decide) hn) rfl rfl rfl (Nat.le_of_ble_eq_true rfl) (by omega) (by omega) (fun v9 S9 hq => ?_)
  obtain ⟨rfl, rfl⟩ := hq
  refine ⟨fun h => ⟨h, rfl⟩, ?_⟩
  refine b_if hx (fun h7 hx => ?_) (fun h7 hx => ?_)
  · refine mm_if_eq 26 dX12_takeMember_15 (by decide) (fun _ => ?_) (fun h => absurd h7 h)
    refine mm_aload_n dX12_takeMember_26 rfl rfl ?_
    refine mm_bipush (v := 59) dX12_takeMember_27 (by decide) ?_
    obtain ⟨v9, hc8, hx⟩ := b1_some hx
    refine mm_callV3 (a := a) (ci := 12) wM_X12_isSign kM_X12_354 wI_X12_isSign wS_X12_isSign dX12_takeMember_29 (e_X12_isSign hst hZ hn hs hc8) (mem_obj hs (by decide)) (sh_ltn hs (by decide) hn) rfl rfl rfl (Nat.le_of_ble_eq_true rfl) (by omega) (by omega) (fun v9 S9 hq => ?_)
    obtain ⟨rfl, rfl⟩ := hq
    refine ⟨fun h => ⟨h, rfl⟩, ?_⟩
    refine b_if hx (fun h10 hx => ?_) (fun h10 hx => ?_)
    · refine mm_if_eq 42 dX12_takeMember_32 (by decide) (fun _ => ?_) (fun h => absurd h10 h)
      refine mm_aload_n dX12_takeMember_42 rfl rfl ?_
      obtain ⟨v12, hc11, hx⟩ := b1_some hx
      refine mm_callV3 (a := a) (ci := 12) wM_X12_isForeign kM_X12_478 wI_X12_isForeign wS_X12_isForeign dX12_takeMember_43 (e_X12_isForeign hst hZ hn hs hc11) (mem_obj hs (by decide)) (sh_ltn hs (by decide) hn) rfl rfl rfl (Nat.le_of_ble_eq_true rfl) (by omega) (by omega) (fun v9 S9 hq => ?_)
      obtain ⟨rfl, rfl⟩ := hq
      refine ⟨fun h => ⟨h, rfl⟩, ?_⟩
      refine b_if hx (fun h13 hx => ?_) (fun h13 hx => ?_)
      · refine mm_if_eq 61 dX12_takeMember_46 (by decide) (fun _ => ?_) (fun h => absurd h13 h)
        refine mm_aload_n dX12_takeMember_61 rfl rfl ?_
        refine mm_ldc2 kL_X12_423 dX12_takeMember_62 ?_
        obtain ⟨v15, hc14, hx⟩ := b1_some hx
        refine mm_callV3 (a := a) (ci := 12) wM_X12_isWord kM_X12_364 wI_X12_isWord wS_X12_isWord dX12_takeMember_65 (e_X12_isWord hst hZ hn hs hc14) (mem_obj hs (by decide)) (sh_ltn hs (by decide) hn) rfl rfl rfl (Nat.le_of_ble_eq_true rfl) (by omega) (by omega) (fun v9 S9 hq => ?_)
        obtain ⟨rfl, rfl⟩ := hq
        refine ⟨fun h => ⟨h, rfl⟩, ?_⟩
        refine b_if hx (fun h16 hx => ?_) (fun h16 hx => ?_)
        · refine mm_if_eq 77 dX12_takeMember_68 (by decide) (fun _ => ?_) (fun h => absurd h16 h)
          refine mm_aload_n dX12_takeMember_77 rfl rfl ?_
          refine mm_ldc2 kL_X12_425 dX12_takeMember_78 ?_
          obtain ⟨v18, hc17, hx⟩ := b1_some hx
          refine mm_callV3 (a := a) (ci := 12) wM_X12_isWord kM_X12_364 wI_X12_isWord wS_X12_isWord dX12_takeMember_81 (e_X12_isWord hst hZ hn hs hc17) (mem_obj hs (by decide)) (sh_ltn hs (by decide) hn) rfl rfl rfl (Nat.le_of_ble_eq_true rfl) (by omega) (by omega) (fun v9 S9 hq => ?_)
          obtain ⟨rfl, rfl⟩ := hq
          refine ⟨fun h => ⟨h, rfl⟩, ?_⟩
          refine b_if hx (fun h19 hx => ?_) (fun h19 hx => ?_)
          · refine mm_if_eq 95 dX12_takeMember_84 (by decide) (fun _ => ?_) (fun h => absurd h19 h)
            refine mm_aload_n dX12_takeMember_95 rfl rfl ?_
            refine mm_ldc2 kL_X12_427 dX12_takeMember_96 ?_
            obtain ⟨v21, hc20, hx⟩ := b1_some hx
            refine mm_callV3 (a := a) (ci := 12) wM_X12_isWord kM_X12_364 wI_X12_isWord wS_X12_isWord dX12_takeMember_99 (e_X12_isWord hst hZ hn hs hc20) (mem_obj hs (by decide)) (sh_ltn hs (by decide) hn) rfl rfl rfl (Nat.le_of_ble_eq_true rfl) (by omega) (by omega) (fun v9 S9 hq => ?_)
            obtain ⟨rfl, rfl⟩ := hq
            refine ⟨fun h => ⟨h, rfl⟩, ?_⟩
            refine b_if hx (fun h22 hx => ?_) (fun h22 hx => ?_)
            · refine mm_if_eq 113 dX12_takeMember_102 (by decide) (fun _ => ?_) (fun h => absurd h22 h)
              refine mm_aload_n dX12_takeMember_113 rfl rfl ?_
              refine mm_iload_n dX12_takeMember_114 rfl ?_
              refine mm_iconst (v := (-1)) dX12_takeMember_115 (by decide) ?_
              obtain ⟨σ24, hc23, hx⟩ := b1_some hx
              refine mm_callV3 (a := a) (ci := 12) wM_X12_takeField kM_X12_481 wI_X12_takeField wS_X12_takeField dX12_takeMember_116 (e_X12_takeField hst hZ hn hs hc23) (mem_obj hs (by decide)) (sh_ltn hs (by decide) hn) rfl rfl rfl (Nat.le_of_ble_eq_true rfl) (by omega) (by omega) (fun v9 S9 hq => ?_)
              obtain ⟨rfl, rfl⟩ := hq
              refine ⟨fun h => ⟨h, rfl⟩, ?_⟩
              refine mm_iload_n dX12_takeMember_119 rfl ?_
              refine mm_iret dX12_takeMember_120 rfl rfl ?_ (by omega) (by omega)
              obtain ⟨rfl, rfl⟩ := fin2 hx
              exact ⟨rfl, rfl⟩
            · refine mm_if_eq 113 dX12_takeMember_102 (by decide) (fun h => absurd h h22) (fun _ => ?_)
              refine mm_aload_n dX12_takeMember_105 rfl rfl ?_
              refine mm_iload_n dX12_takeMember_106 rfl ?_
              obtain ⟨σ26, hc25, hx⟩ := b1_some hx
              refine mm_callV3 (a := a) (ci := 12) wM_X12_takeOneof kM_X12_502 wI_X12_takeOneof wS_X12_takeOneof dX12_takeMember_107 (e_X12_takeOneof hst hZ hn hs hc25) (mem_obj hs (by decide)) (sh_ltn hs (by decide) hn) rfl rfl rfl (Nat.le_of_ble_eq_true rfl) (by omega) (by omega) (fun v9 S9 hq => ?_)
              obtain ⟨rfl, rfl⟩ := hq
              refine ⟨fun h => ⟨h, rfl⟩, ?_⟩
              refine mm_goto 119 dX12_takeMember_110 (by decide) ?_
              refine mm_iload_n dX12_takeMember_119 rfl ?_
              refine mm_iret dX12_takeMember_120 rfl rfl ?_ (by omega) (by omega)
              obtain ⟨rfl, rfl⟩ := fin2 hx
              exact ⟨rfl, rfl⟩
          · refine mm_if_eq 95 dX12_takeMember_84 (by decide) (fun h => absurd h h19) (fun _ => ?_)
            refine mm_aload_n dX12_takeMember_87 rfl rfl ?_
            refine mm_iload_n dX12_takeMember_88 rfl ?_
            obtain ⟨σ28, hc27, hx⟩ := b1_some hx
            refine mm_callV3 (a := a) (ci := 12) wM_X12_takeEnum kM_X12_499 wI_X12_takeEnum wS_X12_takeEnum dX12_takeMember_89 (e_X12_takeEnum hst hZ hn hs hc27) (mem_obj hs (by decide)) (sh_ltn hs (by decide) hn) rfl rfl rfl (Nat.le_of_ble_eq_true rfl) (by omega) (by omega) (fun v9 S9 hq => ?_)
            obtain ⟨rfl, rfl⟩ := hq
            refine ⟨fun h => ⟨h, rfl⟩, ?_⟩
            refine mm_goto 119 dX12_takeMember_92 (by decide) ?_
            refine mm_iload_n dX12_takeMember_119 rfl ?_
            refine mm_iret dX12_takeMember_120 rfl rfl ?_ (by omega) (by omega)
            obtain ⟨rfl, rfl⟩ := fin2 hx
            exact ⟨rfl, rfl⟩
        · refine mm_if_eq 77 dX12_takeMember_68 (by decide) (fun h => absurd h h16) (fun _ => ?_)
          refine mm_aload_n dX12_takeMember_71 rfl rfl ?_
          refine mm_iload_n dX12_takeMember_72 rfl ?_
          obtain ⟨v30, σ31, hc29, hx⟩ := b2_some hx
          refine mm_callV3 (a := a) (ci := 12) wM_X12_beginMessage kM_X12_496 wI_X12_beginMessage wS_X12_beginMessage dX12_takeMember_73 (e_X12_beginMessage hst hZ hn hs hc29) (mem_obj hs (by decide)) (sh_ltn hs (by decide) hn) rfl rfl rfl (Nat.le_of_ble_eq_true rfl) (by omega) (by omega) (fun v9 S9 hq => ?_)
          obtain ⟨rfl, rfl⟩ := hq
          refine ⟨fun h => ⟨h, rfl⟩, ?_⟩
          refine mm_iret dX12_takeMember_76 rfl rfl ?_ (by omega) (by omega)
          obtain ⟨rfl, rfl⟩ := fin2 hx
          exact ⟨rfl, rfl⟩
      · refine mm_if_eq 61 dX12_takeMember_46 (by decide) (fun h => absurd h h13) (fun _ => ?_)
        refine mm_aload_n dX12_takeMember_49 rfl rfl ?_
        refine mm_iconst (v := 2) dX12_takeMember_50 (by decide) ?_
        refine mm_aload_n dX12_takeMember_51 rfl rfl ?_
        refine s_getI (r := some a) (b := a) (ci := 12) (k := 71) in_X12 rfl (by decide) rfl kF_X12_305 dX12_takeMember_52 rfl hs (by decide) hn (by decide) rfl ?_
        obtain ⟨σ33, hc32, hx⟩ := b1_some hx
        refine mm_callV3 (a := a) (ci := 12) wM_X12_fail kM_X12_360 wI_X12_fail wS_X12_fail dX12_takeMember_55 (e_X12_fail hst hZ hn hs hc32) (mem_obj hs (by decide)) (sh_ltn hs (by decide) hn) rfl rfl rfl (Nat.le_of_ble_eq_true rfl) (by omega) (by omega) (fun v9 S9 hq => ?_)
        obtain ⟨rfl, rfl⟩ := hq
        refine ⟨fun h => ⟨h, rfl⟩, ?_⟩
        refine mm_goto 119 dX12_takeMember_58 (by decide) ?_
        refine mm_iload_n dX12_takeMember_119 rfl ?_
        refine mm_iret dX12_takeMember_120 rfl rfl ?_ (by omega) (by omega)
        obtain ⟨rfl, rfl⟩ := fin2 hx
        exact ⟨rfl, rfl⟩
    · refine mm_if_eq 42 dX12_takeMember_32 (by decide) (fun h => absurd h h10) (fun _ => ?_)
      refine mm_aload_n dX12_takeMember_35 rfl rfl ?_
      obtain ⟨σ35, hc34, hx⟩ := b1_some hx
      refine mm_callV3 (a := a) (ci := 12) wM_X12_next kM_X12_357 wI_X12_next wS_X12_next dX12_takeMember_36 (e_X12_next hst hZ hn hs hc34) (mem_obj hs (by decide)) (sh_ltn hs (by decide) hn) rfl rfl rfl (Nat.le_of_ble_eq_true rfl) (by omega) (by omega) (fun v9 S9 hq => ?_)
      obtain ⟨rfl, rfl⟩ := hq
      refine ⟨fun h => ⟨h, rfl⟩, ?_⟩
      refine mm_goto 119 dX12_takeMember_39 (by decide) ?_
      refine mm_iload_n dX12_takeMember_119 rfl ?_
      refine mm_iret dX12_takeMember_120 rfl rfl ?_ (by omega) (by omega)
      obtain ⟨rfl, rfl⟩ := fin2 hx
      exact ⟨rfl, rfl⟩
  · refine mm_if_eq 26 dX12_takeMember_15 (by decide) (fun h => absurd h h7) (fun _ => ?_)
    refine mm_aload_n dX12_takeMember_18 rfl rfl ?_
    obtain ⟨σ37, hc36, hx⟩ := b1_some hx
    refine mm_callV3 (a := a) (ci := 12) wM_X12_next kM_X12_357 wI_X12_next wS_X12_next dX12_takeMember_19 (e_X12_next hst hZ hn hs hc36) (mem_obj hs (by decide)) (sh_ltn hs (by decide) hn) rfl rfl rfl (Nat.le_of_ble_eq_true rfl) (by omega) (by omega) (fun v9 S9 hq => ?_)
    obtain ⟨rfl, rfl⟩ := hq
    refine ⟨fun h => ⟨h, rfl⟩, ?_⟩
    refine mm_iload_n dX12_takeMember_22 rfl ?_
    refine mm_iconst (v := 1) dX12_takeMember_23 (by decide) ?_
    refine mm_isub dX12_takeMember_24 ?_
    refine mm_iret dX12_takeMember_25 rfl rfl ?_ (by omega) (by omega)
    obtain ⟨rfl, rfl⟩ := fin2 hx
    exact ⟨rfl, rfl⟩
set_option maxHeartbeats 4000000 in
set_option maxRecDepth 100000 in
theorem e_X12_readSchema_123 {g : mm_G} {l : Launch} (hst : l.stackTraces = false) {Z : Nat → Nat → Option Nat} (hZ : HZ Z) {n : Nat} (hn : 1186 ≤ n) {z : Bool} {d : Nat} {U : Nat} {a : Nat} (hs : sh a = 12) {k105 : Int32 → SG → Option (SG)} {v1_ : Int32} {σ : SG} {σ' : SG} (hk105 : ∀ (v1_ : Int32) (σ8 : SG), k105 v1_ σ8 = some σ' → mm_V g l RX12 "readSchema" cX12_readSchema 2 none [] (d + 10) 0 0 (mm_nt (fun v S' => v = none ∧ S' = (mem Z σ', n, z))) 105 [some (.ref a), some (.int v1_)] [] (mem Z σ8, n, z) 0 0) (hx : x_X12_readSchema_123 U a k105 v1_ σ = some σ') : mm_V g l RX12 "readSchema" cX12_readSchema 2 none [] (d + 10) 0 0 (mm_nt (fun v S' => v = none ∧ S' = (mem Z σ', n, z))) 123 [some (.ref a), some (.int v1_)] [] (mem Z σ, n, z) 0 0 := by
  unfold x_X12_readSchema_123 at hx
  refine mm_iload_n dX12_readSchema_123 rfl ?_
  refine b_if hx (fun h29 hx => ?_) (fun h29 hx => ?_)
  · refine mm_if_le 136 dX12_readSchema_124 (by decide) (fun h => absurd h (Int32.not_le.mpr h29)) (fun _ => ?_)
    refine mm_aload_n dX12_readSchema_127 rfl rfl ?_
    refine mm_iload_n dX12_readSchema_128 rfl ?_
    obtain ⟨v31, σ32, hc30, hx⟩ := b2_some hx
    refine mm_callV3 (a := a) (ci := 12) wM_X12_takeMember kM_X12_512 wI_X12_takeMember wS_X12_takeMember dX12_readSchema_129 (e_X12_takeMember hst hZ hn hs hc30) (mem_obj hs (by decide)) (sh_ltn hs (by decide) hn) rfl rfl rfl (Nat.le_of_ble_eq_true rfl) (by omega) (by omega) (fun v9 S9 hq => ?_)
    obtain ⟨rfl, rfl⟩ := hq
    refine ⟨fun h => ⟨h, rfl⟩, ?_⟩
    refine mm_istore_n [some (.ref a), some (.int v31)] dX12_readSchema_132 (by decide) rfl ?_
    refine mm_goto 105 dX12_readSchema_133 (by decide) ?_
    exact hk105 _ _ hx
  · refine mm_if_le 136 dX12_readSchema_124 (by decide) (fun _ => ?_) (fun h => absurd (Int32.not_lt.mp h29) h)
    refine mm_aload_n dX12_readSchema_136 rfl rfl ?_
    obtain ⟨v34, hc33, hx⟩ := b1_some hx
    refine mm_callV3 (a := a) (ci := 12) wM_X12_isForeign kM_X12_478 wI_X12_isForeign wS_X12_isForeign dX12_readSchema_137 (e_X12_isForeign hst hZ hn hs hc33) (mem_obj hs (by decide)) (sh_ltn hs (by decide) hn) rfl rfl rfl (Nat.le_of_ble_eq_true rfl) (by omega) (by omega) (fun v9 S9 hq => ?_)
    obtain ⟨rfl, rfl⟩ := hq
    refine ⟨fun h => ⟨h, rfl⟩, ?_⟩
    refine b_if hx (fun h35 hx => ?_) (fun h35 hx => ?_)
    · refine mm_if_eq 155 dX12_readSchema_140 (by decide) (fun _ => ?_) (fun h => absurd h35 h)
      refine mm_aload_n dX12_readSchema_155 rfl rfl ?_
      refine mm_ldc2 kL_X12_423 dX12_readSchema_156 ?_
      obtain ⟨v37, hc36, hx⟩ := b1_some hx
      refine mm_callV3 (a := a) (ci := 12) wM_X12_isWord kM_X12_364 wI_X12_isWord wS_X12_isWord dX12_readSchema_159 (e_X12_isWord hst hZ hn hs hc36) (mem_obj hs (by decide)) (sh_ltn hs (by decide) hn) rfl rfl rfl (Nat.le_of_ble_eq_true rfl) (by omega) (by omega) (fun v9 S9 hq => ?_)
      obtain ⟨rfl, rfl⟩ := hq
      refine ⟨fun h => ⟨h, rfl⟩, ?_⟩
      refine b_if hx (fun h38 hx => ?_) (fun h38 hx => ?_)
      · refine mm_if_eq 174 dX12_readSchema_162 (by decide) (fun _ => ?_) (fun h => absurd h38 h)
        refine mm_aload_n dX12_readSchema_174 rfl rfl ?_
        refine mm_ldc2 kL_X12_425 dX12_readSchema_175 ?_
        obtain ⟨v40, hc39, hx⟩ := b1_some hx
        refine mm_callV3 (a := a) (ci := 12) wM_X12_isWord kM_X12_364 wI_X12_isWord wS_X12_isWord dX12_readSchema_178 (e_X12_isWord hst hZ hn hs hc39) (mem_obj hs (by decide)) (sh_ltn hs (by decide) hn) rfl rfl rfl (Nat.le_of_ble_eq_true rfl) (by omega) (by omega) (fun v9 S9 hq => ?_)
        obtain ⟨rfl, rfl⟩ := hq
        refine ⟨fun h => ⟨h, rfl⟩, ?_⟩
        refine b_if hx (fun h41 hx => ?_) (fun h41 hx => ?_)
        · refine mm_if_eq 192 dX12_readSchema_181 (by decide) (fun _ => ?_) (fun h => absurd h41 h)
          refine mm_aload_n dX12_readSchema_192 rfl rfl ?_
          refine mm_iconst (v := 1) dX12_readSchema_193 (by decide) ?_
          refine mm_aload_n dX12_readSchema_194 rfl rfl ?_
          refine s_getI (r := some a) (b := a) (ci := 12) (k := 71) in_X12 rfl (by decide) rfl kF_X12_305 dX12_readSchema_195 rfl hs (by decide) hn (by decide) rfl ?_
          obtain ⟨σ43, hc42, hx⟩ := b1_some hx
          refine mm_callV3 (a := a) (ci := 12) wM_X12_fail kM_X12_360 wI_X12_fail wS_X12_fail dX12_readSchema_198 (e_X12_fail hst hZ hn hs hc42) (mem_obj hs (by decide)) (sh_ltn hs (by decide) hn) rfl rfl rfl (Nat.le_of_ble_eq_true rfl) (by omega) (by omega) (fun v9 S9 hq => ?_)
          obtain ⟨rfl, rfl⟩ := hq
          refine ⟨fun h => ⟨h, rfl⟩, ?_⟩
          refine mm_goto 105 dX12_readSchema_201 (by decide) ?_
          exact hk105 _ _ hx
        · refine mm_if_eq 192 dX12_readSchema_181 (by decide) (fun h => absurd h h41) (fun _ => ?_)
          refine mm_aload_n dX12_readSchema_184 rfl rfl ?_
          refine mm_iconst (v := (-1)) dX12_readSchema_185 (by decide) ?_
          obtain ⟨σ45, hc44, hx⟩ := b1_some hx
          refine mm_callV3 (a := a) (ci := 12) wM_X12_takeEnum kM_X12_499 wI_X12_takeEnum wS_X12_takeEnum dX12_readSchema_186 (e_X12_takeEnum hst hZ hn hs hc44) (mem_obj hs (by decide)) (sh_ltn hs (by decide) hn) rfl rfl rfl (Nat.le_of_ble_eq_true rfl) (by omega) (by omega) (fun v9 S9 hq => ?_)
          obtain ⟨rfl, rfl⟩ := hq
          refine ⟨fun h => ⟨h, rfl⟩, ?_⟩
          refine mm_goto 105 dX12_readSchema_189 (by decide) ?_
          exact hk105 _ _ hx
      · refine mm_if_eq 174 dX12_readSchema_162 (by decide) (fun h => absurd h h38) (fun _ => ?_)
        refine mm_aload_n dX12_readSchema_165 rfl rfl ?_
        refine mm_iconst (v := 0) dX12_readSchema_166 (by decide) ?_
        obtain ⟨v47, σ48, hc46, hx⟩ := b2_some hx
        refine mm_callV3 (a := a) (ci := 12) wM_X12_beginMessage kM_X12_496 wI_X12_beginMessage wS_X12_beginMessage dX12_readSchema_167 (e_X12_beginMessage hst hZ hn hs hc46) (mem_obj hs (by decide)) (sh_ltn hs (by decide) hn) rfl rfl rfl (Nat.le_of_ble_eq_true rfl) (by omega) (by omega) (fun v9 S9 hq => ?_)
        obtain ⟨rfl, rfl⟩ := hq
        refine ⟨fun h => ⟨h, rfl⟩, ?_⟩
        refine mm_istore_n [some (.ref a), some (.int v47)] dX12_readSchema_170 (by decide) rfl ?_
        refine mm_goto 105 dX12_readSchema_171 (by decide) ?_
        exact hk105 _ _ hx
    · refine mm_if_eq 155 dX12_readSchema_140 (by decide) (fun h => absurd h h35) (fun _ => ?_)
      refine mm_aload_n dX12_readSchema_143 rfl rfl ?_
      refine mm_iconst (v := 2) dX12_readSchema_144 (by decide) ?_
      refine mm_aload_n dX12_readSchema_145 rfl rfl ?_
      refine s_getI (r := some a) (b := a) (ci := 12) (k := 71) in_X12 rfl (by decide) rfl kF_X12_305 dX12_readSchema_146 rfl hs (by decide) hn (by decide) rfl ?_
      obtain ⟨σ50, hc49, hx⟩ := b1_some hx
      refine mm_callV3 (a := a) (ci := 12) wM_X12_fail kM_X12_360 wI_X12_fail wS_X12_fail dX12_readSchema_149 (e_X12_fail hst hZ hn hs hc49) (mem_obj hs (by decide)) (sh_ltn hs (by decide) hn) rfl rfl rfl (Nat.le_of_ble_eq_true rfl) (by omega) (by omega) (fun v9 S9 hq => ?_)
      obtain ⟨rfl, rfl⟩ := hq
      refine ⟨fun h => ⟨h, rfl⟩, ?_⟩
      refine mm_goto 105 dX12_readSchema_152 (by decide) ?_
      exact hk105 _ _ hx
set_option maxHeartbeats 4000000 in
set_option maxRecDepth 100000 in
theorem e_X12_readSchema_L105 {g : mm_G} {l : Launch} (hst : l.stackTraces = false) {Z : Nat → Nat → Option Nat} (hZ : HZ Z) {n : Nat} (hn : 1186 ≤ n) {z : Bool} {d : Nat} {U : Nat} {a : Nat} (hs : sh a = 12) {σ' : SG} : ∀ (U1 : Nat) (v1_ : Int32) (σ : SG), x_X12_readSchema_L105 U a U1 v1_ σ = some σ' → mm_V g l RX12 "readSchema" cX12_readSchema 2 none [] (d + 10) 0 0 (mm_nt (fun v S' => v = none ∧ S' = (mem Z σ', n, z))) 105 [some (.ref a), some (.int v1_)] [] (mem Z σ, n, z) 0 0 := by
  intro U1
  induction U1 with
  | zero => intro v1_ σ hx; exact absurd hx (by simp [x_X12_readSchema_L105])
  | succ U1 ih =>
    intro v1_ σ hx
    rw [x_X12_readSchema_L105] at hx
    refine mm_aload_n dX12_readSchema_105 rfl rfl ?_
    refine s_getI (r := some a) (b := a) (ci := 12) (k := 74) in_X12 rfl (by decide) rfl kF_X12_328 dX12_readSchema_106 rfl hs (by decide) hn (by decide) rfl ?_
    refine b_if hx (fun h27 hx => ?_) (fun h27 hx => ?_)
    · refine mm_if_ne 204 dX12_readSchema_109 (by decide) (fun h => absurd h27 h) (fun _ => ?_)
      refine mm_iload_n dX12_readSchema_112 rfl ?_
      refine b_if hx (fun h28 hx => ?_) (fun h28 hx => ?_)
      · refine mm_if_gt 123 dX12_readSchema_113 (by decide) (fun _ => ?_) (fun h => absurd h28 h)
        exact e_X12_readSchema_123 hst hZ hn hs ih hx
      · refine mm_if_gt 123 dX12_readSchema_113 (by decide) (fun h => absurd h h28) (fun _ => ?_)
        refine mm_aload_n dX12_readSchema_116 rfl rfl ?_
        refine s_getI (r := some a) (b := a) (ci := 12) (k := 70) in_X12 rfl (by decide) rfl kF_X12_298 dX12_readSchema_117 rfl hs (by decide) hn (by decide) rfl ?_
        refine b_if hx (fun h51 hx => ?_) (fun h51 hx => ?_)
        · refine mm_if_eq 204 dX12_readSchema_120 (by decide) (fun _ => ?_) (fun h => absurd h51 h)
          refine mm_vret dX12_readSchema_204 rfl ?_ (by omega) (by omega)
          obtain rfl := fin1 hx
          exact ⟨rfl, rfl⟩
        · refine mm_if_eq 204 dX12_readSchema_120 (by decide) (fun h => absurd h h51) (fun _ => ?_)
          exact e_X12_readSchema_123 hst hZ hn hs ih hx
    · refine mm_if_ne 204 dX12_readSchema_109 (by decide) (fun _ => ?_) (fun h => absurd h h27)
      refine mm_vret dX12_readSchema_204 rfl ?_ (by omega) (by omega)
      obtain rfl := fin1 hx
      exact ⟨rfl, rfl⟩
set_option maxHeartbeats 4000000 in
set_option maxRecDepth 100000 in
theorem e_X12_readSchema_97 {g : mm_G} {l : Launch} (hst : l.stackTraces = false) {Z : Nat → Nat → Option Nat} (hZ : HZ Z) {n : Nat} (hn : 1186 ≤ n) {z : Bool} {d : Nat} {U : Nat} {a : Nat} (hs : sh a = 12) {σ : SG} {σ' : SG} (hx : x_X12_readSchema_97 U a σ = some σ') : mm_V g l RX12 "readSchema" cX12_readSchema 2 none [] (d + 10) 0 0 (mm_nt (fun v S' => v = none ∧ S' = (mem Z σ', n, z))) 97 [some (.ref a), none] [] (mem Z σ, n, z) 0 0 := by
  unfold x_X12_readSchema_97 at hx
  refine mm_aload_n dX12_readSchema_97 rfl rfl ?_
  refine mm_bipush (v := 59) dX12_readSchema_98 (by decide) ?_
  obtain ⟨σ26, hc25, hx⟩ := b1_some hx
  refine mm_callV3 (a := a) (ci := 12) wM_X12_takeSign kM_X12_450 wI_X12_takeSign wS_X12_takeSign dX12_readSchema_100 (e_X12_takeSign hst hZ hn hs hc25) (mem_obj hs (by decide)) (sh_ltn hs (by decide) hn) rfl rfl rfl (Nat.le_of_ble_eq_true rfl) (by omega) (by omega) (fun v9 S9 hq => ?_)
  obtain ⟨rfl, rfl⟩ := hq
  refine ⟨fun h => ⟨h, rfl⟩, ?_⟩
  refine mm_iconst (v := 0) dX12_readSchema_103 (by decide) ?_
  refine mm_istore_n [some (.ref a), some (.int 0)] dX12_readSchema_104 (by decide) rfl ?_
  refine e_X12_readSchema_L105 hst hZ hn hs _ _ _ hx
set_option maxHeartbeats 4000000 in
set_option maxRecDepth 100000 in
theorem e_X12_readSchema_86 {g : mm_G} {l : Launch} (hst : l.stackTraces = false) {Z : Nat → Nat → Option Nat} (hZ : HZ Z) {n : Nat} (hn : 1186 ≤ n) {z : Bool} {d : Nat} {U : Nat} {a : Nat} (hs : sh a = 12) {σ : SG} {σ' : SG} (hx : x_X12_readSchema_86 U a σ = some σ') : mm_V g l RX12 "readSchema" cX12_readSchema 2 none [] (d + 10) 0 0 (mm_nt (fun v S' => v = none ∧ S' = (mem Z σ', n, z))) 86 [some (.ref a), none] [] (mem Z σ, n, z) 0 0 := by
  unfold x_X12_readSchema_86 at hx
  refine mm_aload_n dX12_readSchema_86 rfl rfl ?_
  refine s_getI (r := some a) (b := a) (ci := 12) (k := 74) in_X12 rfl (by decide) rfl kF_X12_328 dX12_readSchema_87 rfl hs (by decide) hn (by decide) rfl ?_
  refine b_if hx (fun h22 hx => ?_) (fun h22 hx => ?_)
  · refine mm_if_ne 97 dX12_readSchema_90 (by decide) (fun h => absurd h22 h) (fun _ => ?_)
    refine mm_aload_n dX12_readSchema_93 rfl rfl ?_
    obtain ⟨σ24, hc23, hx⟩ := b1_some hx
    refine mm_callV3 (a := a) (ci := 12) wM_X12_next kM_X12_357 wI_X12_next wS_X12_next dX12_readSchema_94 (e_X12_next hst hZ hn hs hc23) (mem_obj hs (by decide)) (sh_ltn hs (by decide) hn) rfl rfl rfl (Nat.le_of_ble_eq_true rfl) (by omega) (by omega) (fun v9 S9 hq => ?_)
    obtain ⟨rfl, rfl⟩ := hq
    refine ⟨fun h => ⟨h, rfl⟩, ?_⟩
    exact e_X12_readSchema_97 hst hZ hn hs hx
  · refine mm_if_ne 97 dX12_readSchema_90 (by decide) (fun _ => ?_) (fun h => absurd h h22)
    exact e_X12_readSchema_97 hst hZ hn hs hx
set_option maxHeartbeats 4000000 in
set_option maxRecDepth 100000 in
theorem e_X12_readSchema {g : mm_G} {l : Launch} (hst : l.stackTraces = false) {Z : Nat → Nat → Option Nat} (hZ : HZ Z) {n : Nat} (hn : 1186 ≤ n) {z : Bool} {d : Nat} {U : Nat} {a : Nat} (hs : sh a = 12) {σ : SG} {σ' : SG} (hx : x_X12_readSchema U a σ = some σ') : mm_Cm g l yX12_readSchema (.code yX12_readSchema cX12_readSchema 2 none) (d + 10) 0 0 [.ref a] (mem Z σ, n, z) (fun v S' => v = none ∧ S' = (mem Z σ', n, z)) := by
  refine mm_Cm_of hst (by decide) (Nat.le_of_ble_eq_true rfl) ?_
  show mm_V g l RX12 "readSchema" cX12_readSchema 2 none [] (d + 10) 0 0 (mm_nt (fun v S' => v = none ∧ S' = (mem Z σ', n, z))) 0 [some (.ref a), none] [] (mem Z σ, n, z) 0 0
  unfold x_X12_readSchema at hx
  refine mm_aload_n dX12_readSchema_0 rfl rfl ?_
  refine mm_iconst (v := 0) dX12_readSchema_1 (by decide) ?_
  refine s_putI (v := 0) (r := some a) (b := a) (ci := 12) (k := 74) in_X12 rfl (by decide) rfl tyX12_ok nmX12 rfl kF_X12_328 dX12_readSchema_2 (mm_fit_int _) rfl hs (by decide) hn (by decide) rfl hx (fun σ1 hx => ?_)
  refine mm_aload_n dX12_readSchema_5 rfl rfl ?_
  refine mm_iconst (v := 0) dX12_readSchema_6 (by decide) ?_
  refine s_putI (v := 0) (r := some a) (b := a) (ci := 12) (k := 76) in_X12 rfl (by decide) rfl tyX12_ok nmX12 rfl kF_X12_288 dX12_readSchema_7 mm_fit_z0 rfl hs (by decide) hn (by decide) rfl hx (fun σ2 hx => ?_)
  refine mm_aload_n dX12_readSchema_10 rfl rfl ?_
  refine mm_iconst (v := 0) dX12_readSchema_11 (by decide) ?_
  refine s_putI (v := 0) (r := some a) (b := a) (ci := 12) (k := 32) in_X12 rfl (by decide) rfl tyX12_ok nmX12 rfl kF_X12_493 dX12_readSchema_12 (mm_fit_int _) rfl hs (by decide) hn (by decide) rfl hx (fun σ3 hx => ?_)
  refine mm_aload_n dX12_readSchema_15 rfl rfl ?_
  refine mm_iconst (v := 0) dX12_readSchema_16 (by decide) ?_
  refine s_putI (v := 0) (r := some a) (b := a) (ci := 12) (k := 33) in_X12 rfl (by decide) rfl tyX12_ok nmX12 rfl kF_X12_487 dX12_readSchema_17 (mm_fit_int _) rfl hs (by decide) hn (by decide) rfl hx (fun σ4 hx => ?_)
  refine mm_aload_n dX12_readSchema_20 rfl rfl ?_
  refine mm_iconst (v := 0) dX12_readSchema_21 (by decide) ?_
  refine s_putI (v := 0) (r := some a) (b := a) (ci := 12) (k := 34) in_X12 rfl (by decide) rfl tyX12_ok nmX12 rfl kF_X12_457 dX12_readSchema_22 (mm_fit_int _) rfl hs (by decide) hn (by decide) rfl hx (fun σ5 hx => ?_)
  refine mm_aload_n dX12_readSchema_25 rfl rfl ?_
  refine mm_iconst (v := 0) dX12_readSchema_26 (by decide) ?_
  refine s_putI (v := 0) (r := some a) (b := a) (ci := 12) (k := 35) in_X12 rfl (by decide) rfl tyX12_ok nmX12 rfl kF_X12_484 dX12_readSchema_27 (mm_fit_int _) rfl hs (by decide) hn (by decide) rfl hx (fun σ6 hx => ?_)
  refine mm_aload_n dX12_readSchema_30 rfl rfl ?_
  refine mm_iconst (v := 0) dX12_readSchema_31 (by decide) ?_
  refine s_putI (v := 0) (r := some a) (b := a) (ci := 12) (k := 36) in_X12 rfl (by decide) rfl tyX12_ok nmX12 rfl kF_X12_475 dX12_readSchema_32 (mm_fit_int _) rfl hs (by decide) hn (by decide) rfl hx (fun σ7 hx => ?_)
  refine mm_aload_n dX12_readSchema_35 rfl rfl ?_
  refine mm_iconst (v := 0) dX12_readSchema_36 (by decide) ?_
  refine s_putI (v := 0) (r := some a) (b := a) (ci := 12) (k := 37) in_X12 rfl (by decide) rfl tyX12_ok nmX12 rfl kF_X12_431 dX12_readSchema_37 (mm_fit_int _) rfl hs (by decide) hn (by decide) rfl hx (fun σ8 hx => ?_)
  refine mm_aload_n dX12_readSchema_40 rfl rfl ?_
  refine mm_iconst (v := 0) dX12_readSchema_41 (by decide) ?_
  refine s_putI (v := 0) (r := some a) (b := a) (ci := 12) (k := 38) in_X12 rfl (by decide) rfl tyX12_ok nmX12 rfl kF_X12_394 dX12_readSchema_42 (mm_fit_int _) rfl hs (by decide) hn (by decide) rfl hx (fun σ9 hx => ?_)
  refine mm_aload_n dX12_readSchema_45 rfl rfl ?_
  refine mm_iconst (v := 0) dX12_readSchema_46 (by decide) ?_
  obtain ⟨σ11, hc10, hx⟩ := b1_some hx
  refine mm_callV3 (a := a) (ci := 12) wM_X12_look kM_X12_350 wI_X12_look wS_X12_look dX12_readSchema_47 (e_X12_look hst hZ hn hs hc10) (mem_obj hs (by decide)) (sh_ltn hs (by decide) hn) rfl rfl rfl (Nat.le_of_ble_eq_true rfl) (by omega) (by omega) (fun v9 S9 hq => ?_)
  obtain ⟨rfl, rfl⟩ := hq
  refine ⟨fun h => ⟨h, rfl⟩, ?_⟩
  refine mm_aload_n dX12_readSchema_50 rfl rfl ?_
  refine mm_ldc2 kL_X12_507 dX12_readSchema_51 ?_
  obtain ⟨σ13, hc12, hx⟩ := b1_some hx
  refine mm_callV3 (a := a) (ci := 12) wM_X12_takeWord kM_X12_446 wI_X12_takeWord wS_X12_takeWord dX12_readSchema_54 (e_X12_takeWord hst hZ hn hs hc12) (mem_obj hs (by decide)) (sh_ltn hs (by decide) hn) rfl rfl rfl (Nat.le_of_ble_eq_true rfl) (by omega) (by omega) (fun v9 S9 hq => ?_)
  obtain ⟨rfl, rfl⟩ := hq
  refine ⟨fun h => ⟨h, rfl⟩, ?_⟩
  refine mm_aload_n dX12_readSchema_57 rfl rfl ?_
  refine mm_bipush (v := 61) dX12_readSchema_58 (by decide) ?_
  obtain ⟨σ15, hc14, hx⟩ := b1_some hx
  refine mm_callV3 (a := a) (ci := 12) wM_X12_takeSign kM_X12_450 wI_X12_takeSign wS_X12_takeSign dX12_readSchema_60 (e_X12_takeSign hst hZ hn hs hc14) (mem_obj hs (by decide)) (sh_ltn hs (by decide) hn) rfl rfl rfl (Nat.le_of_ble_eq_true rfl) (by omega) (by omega) (fun v9 S9 hq => ?_)
  obtain ⟨rfl, rfl⟩ := hq
  refine ⟨fun h => ⟨h, rfl⟩, ?_⟩
  refine mm_aload_n dX12_readSchema_63 rfl rfl ?_
  refine s_getI (r := some a) (b := a) (ci := 12) (k := 74) in_X12 rfl (by decide) rfl kF_X12_328 dX12_readSchema_64 rfl hs (by decide) hn (by decide) rfl ?_
  refine b_if hx (fun h16 hx => ?_) (fun h16 hx => ?_)
  · refine mm_if_ne 86 dX12_readSchema_67 (by decide) (fun h => absurd h16 h) (fun _ => ?_)
    refine mm_aload_n dX12_readSchema_70 rfl rfl ?_
    obtain ⟨v18, hc17, hx⟩ := b1_some hx
    refine mm_callV3 (a := a) (ci := 12) wM_X12_isProto3 kM_X12_509 wI_X12_isProto3 wS_X12_isProto3 dX12_readSchema_71 (e_X12_isProto3 hst hZ hn hs hc17) (mem_obj hs (by decide)) (sh_ltn hs (by decide) hn) rfl rfl rfl (Nat.le_of_ble_eq_true rfl) (by omega) (by omega) (fun v9 S9 hq => ?_)
    obtain ⟨rfl, rfl⟩ := hq
    refine ⟨fun h => ⟨h, rfl⟩, ?_⟩
    refine b_if hx (fun h19 hx => ?_) (fun h19 hx => ?_)
    · refine mm_if_ne 86 dX12_readSchema_74 (by decide) (fun h => absurd h19 h) (fun _ => ?_)
      refine mm_aload_n dX12_readSchema_77 rfl rfl ?_
      refine mm_iconst (v := 1) dX12_readSchema_78 (by decide) ?_
      refine mm_aload_n dX12_readSchema_79 rfl rfl ?_
      refine s_getI (r := some a) (b := a) (ci := 12) (k := 71) in_X12 rfl (by decide) rfl kF_X12_305 dX12_readSchema_80 rfl hs (by decide) hn (by decide) rfl ?_
      obtain ⟨σ21, hc20, hx⟩ := b1_some hx
      refine mm_callV3 (a := a) (ci := 12) wM_X12_fail kM_X12_360 wI_X12_fail wS_X12_fail dX12_readSchema_83 (e_X12_fail hst hZ hn hs hc20) (mem_obj hs (by decide)) (sh_ltn hs (by decide) hn) rfl rfl rfl (Nat.le_of_ble_eq_true rfl) (by omega) (by omega) (fun v9 S9 hq => ?_)
      obtain ⟨rfl, rfl⟩ := hq
      refine ⟨fun h => ⟨h, rfl⟩, ?_⟩
      exact e_X12_readSchema_86 hst hZ hn hs hx
    · refine mm_if_ne 86 dX12_readSchema_74 (by decide) (fun _ => ?_) (fun h => absurd h h19)
      exact e_X12_readSchema_86 hst hZ hn hs hx
  · refine mm_if_ne 86 dX12_readSchema_67 (by decide) (fun _ => ?_) (fun h => absurd h h16)
    exact e_X12_readSchema_86 hst hZ hn hs hx
set_option maxHeartbeats 4000000 in
set_option maxRecDepth 100000 in
theorem e_X12_keepName_L8 {g : mm_G} {l : Launch} (hst : l.stackTraces = false) {Z : Nat → Nat → Option Nat} (hZ : HZ Z) {n : Nat} (hn : 1186 ≤ n) {z : Bool} {d : Nat} {U : Nat} {a : Nat} (hs : sh a = 12) {k38 : SG → Option (Int32 × SG)} {v1_ : Int32} {v2_ : Int32} {v3_ : Int32} {r : Int32} {σ' : SG} (hk38 : ∀ (σ8 : SG), k38 σ8 = some (r, σ') → mm_V g l RX12 "keepName" cX12_keepName 5 (some .int) [] (d) 0 0 (mm_nt (fun v S' => v = some (.int r) ∧ S' = (mem Z σ', n, z))) 38 [some (.ref a), none, some (.int v2_), some (.int v3_), none] [] (mem Z σ8, n, z) 0 0) : ∀ (U1 : Nat) (v4_ : Int32) (σ : SG), x_X12_keepName_L8 U a k38 v1_ v2_ v3_ U1 v4_ σ = some (r, σ') → mm_V g l RX12 "keepName" cX12_keepName 5 (some .int) [] (d) 0 0 (mm_nt (fun v S' => v = some (.int r) ∧ S' = (mem Z σ', n, z))) 8 [some (.ref a), some (.int v1_), some (.int v2_), some (.int v3_), some (.int v4_)] [] (mem Z σ, n, z) 0 0 := by
  intro U1
  induction U1 with
  | zero => intro v4_ σ hx; exact absurd hx (by simp [x_X12_keepName_L8])
  | succ U1 ih =>
    intro v4_ σ hx
    rw [x_X12_keepName_L8] at hx
    refine mm_iload dX12_keepName_8 rfl ?_
    refine mm_iload_n dX12_keepName_10 rfl ?_
    refine b_if hx (fun h1 hx => ?_) (fun h1 hx => ?_)
    · refine mm_icmp_ge 38 dX12_keepName_11 (by decide) (fun h => absurd h (Int32.not_le.mpr h1)) (fun _ => ?_)
      refine mm_aload_n dX12_keepName_14 rfl rfl ?_
      refine s_getS (q := 1127) (r := some a) (b := a) (ci := 12) (k := 30) in_X12 rfl (by decide) rfl kF_X12_90 dX12_keepName_15 rfl hs (by decide) hn (by decide) rfl rfl ?_
      refine mm_iload_n dX12_keepName_18 rfl ?_
      refine mm_iload dX12_keepName_19 rfl ?_
      refine mm_iadd dX12_keepName_21 ?_
      refine mm_aload_n dX12_keepName_22 rfl rfl ?_
      refine s_getS (q := 1102) (r := some a) (b := a) (ci := 12) (k := 0) in_X12 rfl (by decide) rfl kF_X12_7 dX12_keepName_23 rfl hs (by decide) hn (by decide) rfl rfl ?_
      refine mm_iload_n dX12_keepName_26 rfl ?_
      refine mm_iload dX12_keepName_27 rfl ?_
      refine mm_iadd dX12_keepName_29 ?_
      obtain ⟨j2, hj3, hb4, hl5, hx⟩ := ix_some hx
      refine s_iald (a := 1102) sa_1102 hn hj3 hb4 na_1102 dX12_keepName_30 ?_
      obtain ⟨j6, hj7, hb8, hl9, hx⟩ := ix_some hx
      refine s_iast (a := 1127) (v := sI σ 1102 j2) sa_1127 hn hj7 hb8 na_1127 dX12_keepName_31 hx (fun σ10 hx => ?_)
      refine mm_iinc (v := v4_ + 1) [some (.ref a), some (.int v1_), some (.int v2_), some (.int v3_), some (.int (v4_ + 1))] dX12_keepName_32 rfl rfl (by decide) rfl ?_
      refine mm_goto 8 dX12_keepName_35 (by decide) ?_
      exact ih _ _ hx
    · refine mm_icmp_ge 38 dX12_keepName_11 (by decide) (fun _ => ?_) (fun h => absurd (Int32.not_lt.mp h1) h)
      refine mm_fewer [some (.ref a), none, some (.int v2_), some (.int v3_), none] (few_ok (bs := [true, false, true, true, false]) rfl) ?_
      exact hk38  _ hx
set_option maxHeartbeats 4000000 in
set_option maxRecDepth 100000 in
theorem e_X12_keepName {g : mm_G} {l : Launch} (hst : l.stackTraces = false) {Z : Nat → Nat → Option Nat} (hZ : HZ Z) {n : Nat} (hn : 1186 ≤ n) {z : Bool} {d : Nat} {U : Nat} {a : Nat} (hs : sh a = 12) {p0 : Int32} {p1 : Int32} {σ : SG} {r : Int32} {σ' : SG} (hx : x_X12_keepName U a p0 p1 σ = some (r, σ')) : mm_Cm g l yX12_keepName (.code yX12_keepName cX12_keepName 5 (some .int)) (d) 0 0 [.ref a, .int p0, .int p1] (mem Z σ, n, z) (fun v S' => v = some (.int r) ∧ S' = (mem Z σ', n, z)) := by
  refine mm_Cm_of hst (by decide) (Nat.le_of_ble_eq_true rfl) ?_
  show mm_V g l RX12 "keepName" cX12_keepName 5 (some .int) [] (d) 0 0 (mm_nt (fun v S' => v = some (.int r) ∧ S' = (mem Z σ', n, z))) 0 [some (.ref a), some (.int p0), some (.int p1), none, none] [] (mem Z σ, n, z) 0 0
  unfold x_X12_keepName at hx
  refine mm_aload_n dX12_keepName_0 rfl rfl ?_
  refine s_getI (r := some a) (b := a) (ci := 12) (k := 31) in_X12 rfl (by decide) rfl kF_X12_542 dX12_keepName_1 rfl hs (by decide) hn (by decide) rfl ?_
  refine mm_istore_n [some (.ref a), some (.int p0), some (.int p1), some (.int (sI σ a 31)), none] dX12_keepName_4 (by decide) rfl ?_
  refine mm_iconst (v := 0) dX12_keepName_5 (by decide) ?_
  refine mm_istore [some (.ref a), some (.int p0), some (.int p1), some (.int (sI σ a 31)), some (.int 0)] dX12_keepName_6 (by decide) rfl ?_
  refine e_X12_keepName_L8 hst hZ hn hs ?_ _ _ _ hx
  · intro  σ11 hx
    refine mm_aload_n dX12_keepName_38 rfl rfl ?_
    refine mm_dup dX12_keepName_39 rfl ?_
    refine s_getI (r := some a) (b := a) (ci := 12) (k := 31) in_X12 rfl (by decide) rfl kF_X12_542 dX12_keepName_40 rfl hs (by decide) hn (by decide) rfl ?_
    refine mm_iload_n dX12_keepName_43 rfl ?_
    refine mm_iadd dX12_keepName_44 ?_
    refine s_putI (v := (sI σ11 a 31) + p1) (r := some a) (b := a) (ci := 12) (k := 31) in_X12 rfl (by decide) rfl tyX12_ok nmX12 rfl kF_X12_542 dX12_keepName_45 (mm_fit_int _) rfl hs (by decide) hn (by decide) rfl hx (fun σ12 hx => ?_)
    refine mm_iload_n dX12_keepName_48 rfl ?_
    refine mm_iret dX12_keepName_49 rfl rfl ?_ (by omega) (by omega)
    obtain ⟨rfl, rfl⟩ := fin2 hx
    exact ⟨rfl, rfl⟩
set_option maxHeartbeats 4000000 in
set_option maxRecDepth 100000 in
theorem e_X12_keep_L51 {g : mm_G} {l : Launch} (hst : l.stackTraces = false) {Z : Nat → Nat → Option Nat} (hZ : HZ Z) {n : Nat} (hn : 1186 ≤ n) {z : Bool} {d : Nat} {U : Nat} {a : Nat} (hs : sh a = 12) {k126 : SG → Option (SG)} {v1_ : Int32} {σ' : SG} (hk126 : ∀ (σ8 : SG), k126 σ8 = some σ' → mm_V g l RX12 "keep" cX12_keep 4 none [] (d + 1) 0 0 (mm_nt (fun v S' => v = none ∧ S' = (mem Z σ', n, z))) 126 [some (.ref a), some (.int v1_), none, none] [] (mem Z σ8, n, z) 0 0) : ∀ (U1 : Nat) (v2_ : Int32) (σ : SG), x_X12_keep_L51 U a k126 v1_ U1 v2_ σ = some σ' → mm_V g l RX12 "keep" cX12_keep 4 none [] (d + 1) 0 0 (mm_nt (fun v S' => v = none ∧ S' = (mem Z σ', n, z))) 51 [some (.ref a), some (.int v1_), some (.int v2_), none] [] (mem Z σ, n, z) 0 0 := by
  intro U1
  induction U1 with
  | zero => intro v2_ σ hx; exact absurd hx (by simp [x_X12_keep_L51])
  | succ U1 ih =>
    intro v2_ σ hx
    rw [x_X12_keep_L51] at hx
    refine mm_iload_n dX12_keep_51 rfl ?_
    refine mm_aload_n dX12_keep_52 rfl rfl ?_
    refine s_getI (r := some a) (b := a) (ci := 12) (k := 32) in_X12 rfl (by decide) rfl kF_X12_493 dX12_keep_53 rfl hs (by decide) hn (by decide) rfl ?_
    refine b_if hx (fun h22 hx => ?_) (fun h22 hx => ?_)
    · refine mm_icmp_ge 126 dX12_keep_56 (by decide) (fun h => absurd h (Int32.not_le.mpr h22)) (fun _ => ?_)
      refine mm_aload_n dX12_keep_59 rfl rfl ?_
      refine s_getS (q := 1108) (r := some a) (b := a) (ci := 12) (k := 11) in_X12 rfl (by decide) rfl kF_X12_32 dX12_keep_60 rfl hs (by decide) hn (by decide) rfl rfl ?_
      refine mm_bipush (v := 16) dX12_keep_63 (by decide) ?_
      refine mm_iload_n dX12_keep_65 rfl ?_
      refine mm_imul dX12_keep_66 ?_
      refine mm_iload_n dX12_keep_67 rfl ?_
      refine mm_iadd dX12_keep_68 ?_
      refine mm_aload_n dX12_keep_69 rfl rfl ?_
      refine s_getS (q := 1128) (r := some a) (b := a) (ci := 12) (k := 39) in_X12 rfl (by decide) rfl kF_X12_93 dX12_keep_70 rfl hs (by decide) hn (by decide) rfl rfl ?_
      refine mm_iload_n dX12_keep_73 rfl ?_
      obtain ⟨j23, hj24, hb25, hl26, hx⟩ := ix_some hx
      refine s_iald (a := 1128) sa_1128 hn hj24 hb25 na_1128 dX12_keep_74 ?_
      obtain ⟨j27, hj28, hb29, hl30, hx⟩ := ix_some hx
      refine s_iast (a := 1108) (v := sI σ 1128 j23) sa_1108 hn hj28 hb29 na_1108 dX12_keep_75 hx (fun σ31 hx => ?_)
      refine mm_aload_n dX12_keep_76 rfl rfl ?_
      refine s_getS (q := 1109) (r := some a) (b := a) (ci := 12) (k := 12) in_X12 rfl (by decide) rfl kF_X12_35 dX12_keep_77 rfl hs (by decide) hn (by decide) rfl rfl ?_
      refine mm_bipush (v := 16) dX12_keep_80 (by decide) ?_
      refine mm_iload_n dX12_keep_82 rfl ?_
      refine mm_imul dX12_keep_83 ?_
      refine mm_iload_n dX12_keep_84 rfl ?_
      refine mm_iadd dX12_keep_85 ?_
      refine mm_aload_n dX12_keep_86 rfl rfl ?_
      refine mm_aload_n dX12_keep_87 rfl rfl ?_
      refine s_getS (q := 1129) (r := some a) (b := a) (ci := 12) (k := 40) in_X12 rfl (by decide) rfl kF_X12_96 dX12_keep_88 rfl hs (by decide) hn (by decide) rfl rfl ?_
      refine mm_iload_n dX12_keep_91 rfl ?_
      obtain ⟨j32, hj33, hb34, hl35, hx⟩ := ix_some hx
      refine s_iald (a := 1129) sa_1129 hn hj33 hb34 na_1129 dX12_keep_92 ?_
      refine mm_aload_n dX12_keep_93 rfl rfl ?_
      refine s_getS (q := 1130) (r := some a) (b := a) (ci := 12) (k := 41) in_X12 rfl (by decide) rfl kF_X12_99 dX12_keep_94 rfl hs (by decide) hn (by decide) rfl rfl ?_
      refine mm_iload_n dX12_keep_97 rfl ?_
      obtain ⟨j36, hj37, hb38, hl39, hx⟩ := ix_some hx
      refine s_iald (a := 1130) sa_1130 hn hj37 hb38 na_1130 dX12_keep_98 ?_
      obtain ⟨v41, σ42, hc40, hx⟩ := b2_some hx
      refine mm_callV3 (a := a) (ci := 12) wM_X12_keepName kM_X12_545 wI_X12_keepName wS_X12_keepName dX12_keep_99 (e_X12_keepName hst hZ hn hs hc40) (mem_obj hs (by decide)) (sh_ltn hs (by decide) hn) rfl rfl rfl (Nat.le_of_ble_eq_true rfl) (by omega) (by omega) (fun v9 S9 hq => ?_)
      obtain ⟨rfl, rfl⟩ := hq
      refine ⟨fun h => ⟨h, rfl⟩, ?_⟩
      obtain ⟨j43, hj44, hb45, hl46, hx⟩ := ix_some hx
      refine s_iast (a := 1109) (v := v41) sa_1109 hn hj44 hb45 na_1109 dX12_keep_102 hx (fun σ47 hx => ?_)
      refine mm_aload_n dX12_keep_103 rfl rfl ?_
      refine s_getS (q := 1110) (r := some a) (b := a) (ci := 12) (k := 13) in_X12 rfl (by decide) rfl kF_X12_38 dX12_keep_104 rfl hs (by decide) hn (by decide) rfl rfl ?_
      refine mm_bipush (v := 16) dX12_keep_107 (by decide) ?_
      refine mm_iload_n dX12_keep_109 rfl ?_
      refine mm_imul dX12_keep_110 ?_
      refine mm_iload_n dX12_keep_111 rfl ?_
      refine mm_iadd dX12_keep_112 ?_
      refine mm_aload_n dX12_keep_113 rfl rfl ?_
      refine s_getS (q := 1130) (r := some a) (b := a) (ci := 12) (k := 41) in_X12 rfl (by decide) rfl kF_X12_99 dX12_keep_114 rfl hs (by decide) hn (by decide) rfl rfl ?_
      refine mm_iload_n dX12_keep_117 rfl ?_
      obtain ⟨j48, hj49, hb50, hl51, hx⟩ := ix_some hx
      refine s_iald (a := 1130) sa_1130 hn hj49 hb50 na_1130 dX12_keep_118 ?_
      obtain ⟨j52, hj53, hb54, hl55, hx⟩ := ix_some hx
      refine s_iast (a := 1110) (v := sI σ47 1130 j48) sa_1110 hn hj53 hb54 na_1110 dX12_keep_119 hx (fun σ56 hx => ?_)
      refine mm_iinc (v := v2_ + 1) [some (.ref a), some (.int v1_), some (.int (v2_ + 1)), none] dX12_keep_120 rfl rfl (by decide) rfl ?_
      refine mm_goto 51 dX12_keep_123 (by decide) ?_
      exact ih _ _ hx
    · refine mm_icmp_ge 126 dX12_keep_56 (by decide) (fun _ => ?_) (fun h => absurd (Int32.not_lt.mp h22) h)
      refine mm_fewer [some (.ref a), some (.int v1_), none, none] (few_ok (bs := [true, true, false, false]) rfl) ?_
      exact hk126  _ hx
set_option maxHeartbeats 4000000 in
set_option maxRecDepth 100000 in
theorem e_X12_keep_L128 {g : mm_G} {l : Launch} (hst : l.stackTraces = false) {Z : Nat → Nat → Option Nat} (hZ : HZ Z) {n : Nat} (hn : 1186 ≤ n) {z : Bool} {d : Nat} {U : Nat} {a : Nat} (hs : sh a = 12) {k203 : SG → Option (SG)} {v1_ : Int32} {σ' : SG} (hk203 : ∀ (σ8 : SG), k203 σ8 = some σ' → mm_V g l RX12 "keep" cX12_keep 4 none [] (d + 1) 0 0 (mm_nt (fun v S' => v = none ∧ S' = (mem Z σ', n, z))) 203 [some (.ref a), some (.int v1_), none, none] [] (mem Z σ8, n, z) 0 0) : ∀ (U1 : Nat) (v2_ : Int32) (σ : SG), x_X12_keep_L128 U a k203 v1_ U1 v2_ σ = some σ' → mm_V g l RX12 "keep" cX12_keep 4 none [] (d + 1) 0 0 (mm_nt (fun v S' => v = none ∧ S' = (mem Z σ', n, z))) 128 [some (.ref a), some (.int v1_), some (.int v2_), none] [] (mem Z σ, n, z) 0 0 := by
  intro U1
  induction U1 with
  | zero => intro v2_ σ hx; exact absurd hx (by simp [x_X12_keep_L128])
  | succ U1 ih =>
    intro v2_ σ hx
    rw [x_X12_keep_L128] at hx
    refine mm_iload_n dX12_keep_128 rfl ?_
    refine mm_aload_n dX12_keep_129 rfl rfl ?_
    refine s_getI (r := some a) (b := a) (ci := 12) (k := 33) in_X12 rfl (by decide) rfl kF_X12_487 dX12_keep_130 rfl hs (by decide) hn (by decide) rfl ?_
    refine b_if hx (fun h58 hx => ?_) (fun h58 hx => ?_)
    · refine mm_icmp_ge 203 dX12_keep_133 (by decide) (fun h => absurd h (Int32.not_le.mpr h58)) (fun _ => ?_)
      refine mm_aload_n dX12_keep_136 rfl rfl ?_
      refine s_getS (q := 1111) (r := some a) (b := a) (ci := 12) (k := 14) in_X12 rfl (by decide) rfl kF_X12_41 dX12_keep_137 rfl hs (by decide) hn (by decide) rfl rfl ?_
      refine mm_bipush (v := 8) dX12_keep_140 (by decide) ?_
      refine mm_iload_n dX12_keep_142 rfl ?_
      refine mm_imul dX12_keep_143 ?_
      refine mm_iload_n dX12_keep_144 rfl ?_
      refine mm_iadd dX12_keep_145 ?_
      refine mm_aload_n dX12_keep_146 rfl rfl ?_
      refine s_getS (q := 1131) (r := some a) (b := a) (ci := 12) (k := 42) in_X12 rfl (by decide) rfl kF_X12_102 dX12_keep_147 rfl hs (by decide) hn (by decide) rfl rfl ?_
      refine mm_iload_n dX12_keep_150 rfl ?_
      obtain ⟨j59, hj60, hb61, hl62, hx⟩ := ix_some hx
      refine s_iald (a := 1131) sa_1131 hn hj60 hb61 na_1131 dX12_keep_151 ?_
      obtain ⟨j63, hj64, hb65, hl66, hx⟩ := ix_some hx
      refine s_iast (a := 1111) (v := sI σ 1131 j59) sa_1111 hn hj64 hb65 na_1111 dX12_keep_152 hx (fun σ67 hx => ?_)
      refine mm_aload_n dX12_keep_153 rfl rfl ?_
      refine s_getS (q := 1112) (r := some a) (b := a) (ci := 12) (k := 15) in_X12 rfl (by decide) rfl kF_X12_44 dX12_keep_154 rfl hs (by decide) hn (by decide) rfl rfl ?_
      refine mm_bipush (v := 8) dX12_keep_157 (by decide) ?_
      refine mm_iload_n dX12_keep_159 rfl ?_
      refine mm_imul dX12_keep_160 ?_
      refine mm_iload_n dX12_keep_161 rfl ?_
      refine mm_iadd dX12_keep_162 ?_
      refine mm_aload_n dX12_keep_163 rfl rfl ?_
      refine mm_aload_n dX12_keep_164 rfl rfl ?_
      refine s_getS (q := 1132) (r := some a) (b := a) (ci := 12) (k := 43) in_X12 rfl (by decide) rfl kF_X12_105 dX12_keep_165 rfl hs (by decide) hn (by decide) rfl rfl ?_
      refine mm_iload_n dX12_keep_168 rfl ?_
      obtain ⟨j68, hj69, hb70, hl71, hx⟩ := ix_some hx
      refine s_iald (a := 1132) sa_1132 hn hj69 hb70 na_1132 dX12_keep_169 ?_
      refine mm_aload_n dX12_keep_170 rfl rfl ?_
      refine s_getS (q := 1133) (r := some a) (b := a) (ci := 12) (k := 44) in_X12 rfl (by decide) rfl kF_X12_108 dX12_keep_171 rfl hs (by decide) hn (by decide) rfl rfl ?_
      refine mm_iload_n dX12_keep_174 rfl ?_
      obtain ⟨j72, hj73, hb74, hl75, hx⟩ := ix_some hx
      refine s_iald (a := 1133) sa_1133 hn hj73 hb74 na_1133 dX12_keep_175 ?_
      obtain ⟨v77, σ78, hc76, hx⟩ := b2_some hx
      refine mm_callV3 (a := a) (ci := 12) wM_X12_keepName kM_X12_545 wI_X12_keepName wS_X12_keepName dX12_keep_176 (e_X12_keepName hst hZ hn hs hc76) (mem_obj hs (by decide)) (sh_ltn hs (by decide) hn) rfl rfl rfl (Nat.le_of_ble_eq_true rfl) (by omega) (by omega) (fun v9 S9 hq => ?_)
      obtain ⟨rfl, rfl⟩ := hq
      refine ⟨fun h => ⟨h, rfl⟩, ?_⟩
      obtain ⟨j79, hj80, hb81, hl82, hx⟩ := ix_some hx
      refine s_iast (a := 1112) (v := v77) sa_1112 hn hj80 hb81 na_1112 dX12_keep_179 hx (fun σ83 hx => ?_)
      refine mm_aload_n dX12_keep_180 rfl rfl ?_
      refine s_getS (q := 1113) (r := some a) (b := a) (ci := 12) (k := 16) in_X12 rfl (by decide) rfl kF_X12_47 dX12_keep_181 rfl hs (by decide) hn (by decide) rfl rfl ?_
      refine mm_bipush (v := 8) dX12_keep_184 (by decide) ?_
      refine mm_iload_n dX12_keep_186 rfl ?_
      refine mm_imul dX12_keep_187 ?_
      refine mm_iload_n dX12_keep_188 rfl ?_
      refine mm_iadd dX12_keep_189 ?_
      refine mm_aload_n dX12_keep_190 rfl rfl ?_
      refine s_getS (q := 1133) (r := some a) (b := a) (ci := 12) (k := 44) in_X12 rfl (by decide) rfl kF_X12_108 dX12_keep_191 rfl hs (by decide) hn (by decide) rfl rfl ?_
      refine mm_iload_n dX12_keep_194 rfl ?_
      obtain ⟨j84, hj85, hb86, hl87, hx⟩ := ix_some hx
      refine s_iald (a := 1133) sa_1133 hn hj85 hb86 na_1133 dX12_keep_195 ?_
      obtain ⟨j88, hj89, hb90, hl91, hx⟩ := ix_some hx
      refine s_iast (a := 1113) (v := sI σ83 1133 j84) sa_1113 hn hj89 hb90 na_1113 dX12_keep_196 hx (fun σ92 hx => ?_)
      refine mm_iinc (v := v2_ + 1) [some (.ref a), some (.int v1_), some (.int (v2_ + 1)), none] dX12_keep_197 rfl rfl (by decide) rfl ?_
      refine mm_goto 128 dX12_keep_200 (by decide) ?_
      exact ih _ _ hx
    · refine mm_icmp_ge 203 dX12_keep_133 (by decide) (fun _ => ?_) (fun h => absurd (Int32.not_lt.mp h58) h)
      refine mm_fewer [some (.ref a), some (.int v1_), none, none] (few_ok (bs := [true, true, false, false]) rfl) ?_
      exact hk203  _ hx
set_option maxHeartbeats 4000000 in
set_option maxRecDepth 100000 in
theorem e_X12_keep_356 {g : mm_G} {l : Launch} (hst : l.stackTraces = false) {Z : Nat → Nat → Option Nat} (hZ : HZ Z) {n : Nat} (hn : 1186 ≤ n) {z : Bool} {d : Nat} {U : Nat} {a : Nat} (hs : sh a = 12) {k205 : Int32 → SG → Option (SG)} {k375 : SG → Option (SG)} {v1_ : Int32} {v2_ : Int32} {v3_ : Int32} {s0_ : Int32} {s1_ : Int32} {σ : SG} {σ' : SG} (hk205 : ∀ (v2_ : Int32) (σ8 : SG), k205 v2_ σ8 = some σ' → mm_V g l RX12 "keep" cX12_keep 4 none [] (d + 1) 0 0 (mm_nt (fun v S' => v = none ∧ S' = (mem Z σ', n, z))) 205 [some (.ref a), some (.int v1_), some (.int v2_), none] [] (mem Z σ8, n, z) 0 0) (hk375 : ∀ (σ8 : SG), k375 σ8 = some σ' → mm_V g l RX12 "keep" cX12_keep 4 none [] (d + 1) 0 0 (mm_nt (fun v S' => v = none ∧ S' = (mem Z σ', n, z))) 375 [some (.ref a), some (.int v1_), none, none] [] (mem Z σ8, n, z) 0 0) (hx : x_X12_keep_356 U a k205 k375 v1_ v2_ v3_ s0_ s1_ σ = some σ') : mm_V g l RX12 "keep" cX12_keep 4 none [] (d + 1) 0 0 (mm_nt (fun v S' => v = none ∧ S' = (mem Z σ', n, z))) 356 [some (.ref a), some (.int v1_), some (.int v2_), some (.int v3_)] [.int s0_, .int s1_, .ref 1121] (mem Z σ, n, z) 0 0 := by
  unfold x_X12_keep_356 at hx
  obtain ⟨j170, hj171, hb172, hl173, hx⟩ := ix_some hx
  refine s_zast (a := 1121) (v := s0_) sa_1121 hn hj171 hb172 na_1121 dX12_keep_356 hx (fun σ174 hx => ?_)
  refine mm_aload_n dX12_keep_357 rfl rfl ?_
  refine s_getS (q := 1122) (r := some a) (b := a) (ci := 12) (k := 25) in_X12 rfl (by decide) rfl kF_X12_75 dX12_keep_358 rfl hs (by decide) hn (by decide) rfl rfl ?_
  refine mm_iload_n dX12_keep_361 rfl ?_
  refine mm_aload_n dX12_keep_362 rfl rfl ?_
  refine s_getS (q := 1148) (r := some a) (b := a) (ci := 12) (k := 59) in_X12 rfl (by decide) rfl kF_X12_154 dX12_keep_363 rfl hs (by decide) hn (by decide) rfl rfl ?_
  refine mm_iload_n dX12_keep_366 rfl ?_
  obtain ⟨j175, hj176, hb177, hl178, hx⟩ := ix_some hx
  refine s_iald (a := 1148) sa_1148 hn hj176 hb177 na_1148 dX12_keep_367 ?_
  obtain ⟨j179, hj180, hb181, hl182, hx⟩ := ix_some hx
  refine s_iast (a := 1122) (v := sI σ174 1148 j175) sa_1122 hn hj180 hb181 na_1122 dX12_keep_368 hx (fun σ183 hx => ?_)
  refine mm_iinc (v := v2_ + 1) [some (.ref a), some (.int v1_), some (.int (v2_ + 1)), some (.int v3_)] dX12_keep_369 rfl rfl (by decide) rfl ?_
  refine mm_goto 205 dX12_keep_372 (by decide) ?_
  refine mm_fewer [some (.ref a), some (.int v1_), some (.int (v2_ + 1)), none] (few_ok (bs := [true, true, true, false]) rfl) ?_
  exact hk205 _ _ hx
set_option maxHeartbeats 4000000 in
set_option maxRecDepth 100000 in
theorem e_X12_keep_355 {g : mm_G} {l : Launch} (hst : l.stackTraces = false) {Z : Nat → Nat → Option Nat} (hZ : HZ Z) {n : Nat} (hn : 1186 ≤ n) {z : Bool} {d : Nat} {U : Nat} {a : Nat} (hs : sh a = 12) {k205 : Int32 → SG → Option (SG)} {k375 : SG → Option (SG)} {v1_ : Int32} {v2_ : Int32} {v3_ : Int32} {s0_ : Int32} {σ : SG} {σ' : SG} (hk205 : ∀ (v2_ : Int32) (σ8 : SG), k205 v2_ σ8 = some σ' → mm_V g l RX12 "keep" cX12_keep 4 none [] (d + 1) 0 0 (mm_nt (fun v S' => v = none ∧ S' = (mem Z σ', n, z))) 205 [some (.ref a), some (.int v1_), some (.int v2_), none] [] (mem Z σ8, n, z) 0 0) (hk375 : ∀ (σ8 : SG), k375 σ8 = some σ' → mm_V g l RX12 "keep" cX12_keep 4 none [] (d + 1) 0 0 (mm_nt (fun v S' => v = none ∧ S' = (mem Z σ', n, z))) 375 [some (.ref a), some (.int v1_), none, none] [] (mem Z σ8, n, z) 0 0) (hx : x_X12_keep_355 U a k205 k375 v1_ v2_ v3_ s0_ σ = some σ') : mm_V g l RX12 "keep" cX12_keep 4 none [] (d + 1) 0 0 (mm_nt (fun v S' => v = none ∧ S' = (mem Z σ', n, z))) 355 [some (.ref a), some (.int v1_), some (.int v2_), some (.int v3_)] [.int s0_, .ref 1121] (mem Z σ, n, z) 0 0 := by
  unfold x_X12_keep_355 at hx
  refine mm_iconst (v := 0) dX12_keep_355 (by decide) ?_
  exact e_X12_keep_356 hst hZ hn hs hk205 hk375 hx
set_option maxHeartbeats 4000000 in
set_option maxRecDepth 100000 in
theorem e_X12_keep_L205 {g : mm_G} {l : Launch} (hst : l.stackTraces = false) {Z : Nat → Nat → Option Nat} (hZ : HZ Z) {n : Nat} (hn : 1186 ≤ n) {z : Bool} {d : Nat} {U : Nat} {a : Nat} (hs : sh a = 12) {k375 : SG → Option (SG)} {v1_ : Int32} {σ' : SG} (hk375 : ∀ (σ8 : SG), k375 σ8 = some σ' → mm_V g l RX12 "keep" cX12_keep 4 none [] (d + 1) 0 0 (mm_nt (fun v S' => v = none ∧ S' = (mem Z σ', n, z))) 375 [some (.ref a), some (.int v1_), none, none] [] (mem Z σ8, n, z) 0 0) : ∀ (U1 : Nat) (v2_ : Int32) (σ : SG), x_X12_keep_L205 U a k375 v1_ U1 v2_ σ = some σ' → mm_V g l RX12 "keep" cX12_keep 4 none [] (d + 1) 0 0 (mm_nt (fun v S' => v = none ∧ S' = (mem Z σ', n, z))) 205 [some (.ref a), some (.int v1_), some (.int v2_), none] [] (mem Z σ, n, z) 0 0 := by
  intro U1
  induction U1 with
  | zero => intro v2_ σ hx; exact absurd hx (by simp [x_X12_keep_L205])
  | succ U1 ih =>
    intro v2_ σ hx
    rw [x_X12_keep_L205] at hx
    refine mm_iload_n dX12_keep_205 rfl ?_
    refine mm_aload_n dX12_keep_206 rfl rfl ?_
    refine s_getI (r := some a) (b := a) (ci := 12) (k := 34) in_X12 rfl (by decide) rfl kF_X12_457 dX12_keep_207 rfl hs (by decide) hn (by decide) rfl ?_
    refine b_if hx (fun h94 hx => ?_) (fun h94 hx => ?_)
    · refine mm_icmp_ge 375 dX12_keep_210 (by decide) (fun h => absurd h (Int32.not_le.mpr h94)) (fun _ => ?_)
      refine mm_bipush (v := 60) dX12_keep_213 (by decide) ?_
      refine mm_iload_n dX12_keep_215 rfl ?_
      refine mm_imul dX12_keep_216 ?_
      refine mm_iload_n dX12_keep_217 rfl ?_
      refine mm_iadd dX12_keep_218 ?_
      refine mm_istore_n [some (.ref a), some (.int v1_), some (.int v2_), some (.int ((60 * v1_) + v2_))] dX12_keep_219 (by decide) rfl ?_
      refine mm_aload_n dX12_keep_220 rfl rfl ?_
      refine s_getS (q := 1114) (r := some a) (b := a) (ci := 12) (k := 17) in_X12 rfl (by decide) rfl kF_X12_50 dX12_keep_221 rfl hs (by decide) hn (by decide) rfl rfl ?_
      refine mm_iload_n dX12_keep_224 rfl ?_
      refine mm_aload_n dX12_keep_225 rfl rfl ?_
      refine s_getS (q := 1134) (r := some a) (b := a) (ci := 12) (k := 45) in_X12 rfl (by decide) rfl kF_X12_111 dX12_keep_226 rfl hs (by decide) hn (by decide) rfl rfl ?_
      refine mm_iload_n dX12_keep_229 rfl ?_
      obtain ⟨j95, hj96, hb97, hl98, hx⟩ := ix_some hx
      refine s_iald (a := 1134) sa_1134 hn hj96 hb97 na_1134 dX12_keep_230 ?_
      obtain ⟨j99, hj100, hb101, hl102, hx⟩ := ix_some hx
      refine s_iast (a := 1114) (v := sI σ 1134 j95) sa_1114 hn hj100 hb101 na_1114 dX12_keep_231 hx (fun σ103 hx => ?_)
      refine mm_aload_n dX12_keep_232 rfl rfl ?_
      refine s_getS (q := 1115) (r := some a) (b := a) (ci := 12) (k := 18) in_X12 rfl (by decide) rfl kF_X12_53 dX12_keep_233 rfl hs (by decide) hn (by decide) rfl rfl ?_
      refine mm_iload_n dX12_keep_236 rfl ?_
      refine mm_aload_n dX12_keep_237 rfl rfl ?_
      refine mm_aload_n dX12_keep_238 rfl rfl ?_
      refine s_getS (q := 1135) (r := some a) (b := a) (ci := 12) (k := 46) in_X12 rfl (by decide) rfl kF_X12_114 dX12_keep_239 rfl hs (by decide) hn (by decide) rfl rfl ?_
      refine mm_iload_n dX12_keep_242 rfl ?_
      obtain ⟨j104, hj105, hb106, hl107, hx⟩ := ix_some hx
      refine s_iald (a := 1135) sa_1135 hn hj105 hb106 na_1135 dX12_keep_243 ?_
      refine mm_aload_n dX12_keep_244 rfl rfl ?_
      refine s_getS (q := 1136) (r := some a) (b := a) (ci := 12) (k := 47) in_X12 rfl (by decide) rfl kF_X12_117 dX12_keep_245 rfl hs (by decide) hn (by decide) rfl rfl ?_
      refine mm_iload_n dX12_keep_248 rfl ?_
      obtain ⟨j108, hj109, hb110, hl111, hx⟩ := ix_some hx
      refine s_iald (a := 1136) sa_1136 hn hj109 hb110 na_1136 dX12_keep_249 ?_
      obtain ⟨v113, σ114, hc112, hx⟩ := b2_some hx
      refine mm_callV3 (a := a) (ci := 12) wM_X12_keepName kM_X12_545 wI_X12_keepName wS_X12_keepName dX12_keep_250 (e_X12_keepName hst hZ hn hs hc112) (mem_obj hs (by decide)) (sh_ltn hs (by decide) hn) rfl rfl rfl (Nat.le_of_ble_eq_true rfl) (by omega) (by omega) (fun v9 S9 hq => ?_)
      obtain ⟨rfl, rfl⟩ := hq
      refine ⟨fun h => ⟨h, rfl⟩, ?_⟩
      obtain ⟨j115, hj116, hb117, hl118, hx⟩ := ix_some hx
      refine s_iast (a := 1115) (v := v113) sa_1115 hn hj116 hb117 na_1115 dX12_keep_253 hx (fun σ119 hx => ?_)
      refine mm_aload_n dX12_keep_254 rfl rfl ?_
      refine s_getS (q := 1116) (r := some a) (b := a) (ci := 12) (k := 19) in_X12 rfl (by decide) rfl kF_X12_56 dX12_keep_255 rfl hs (by decide) hn (by decide) rfl rfl ?_
      refine mm_iload_n dX12_keep_258 rfl ?_
      refine mm_aload_n dX12_keep_259 rfl rfl ?_
      refine s_getS (q := 1136) (r := some a) (b := a) (ci := 12) (k := 47) in_X12 rfl (by decide) rfl kF_X12_117 dX12_keep_260 rfl hs (by decide) hn (by decide) rfl rfl ?_
      refine mm_iload_n dX12_keep_263 rfl ?_
      obtain ⟨j120, hj121, hb122, hl123, hx⟩ := ix_some hx
      refine s_iald (a := 1136) sa_1136 hn hj121 hb122 na_1136 dX12_keep_264 ?_
      obtain ⟨j124, hj125, hb126, hl127, hx⟩ := ix_some hx
      refine s_iast (a := 1116) (v := sI σ119 1136 j120) sa_1116 hn hj125 hb126 na_1116 dX12_keep_265 hx (fun σ128 hx => ?_)
      refine mm_aload_n dX12_keep_266 rfl rfl ?_
      refine s_getS (q := 1117) (r := some a) (b := a) (ci := 12) (k := 20) in_X12 rfl (by decide) rfl kF_X12_59 dX12_keep_267 rfl hs (by decide) hn (by decide) rfl rfl ?_
      refine mm_iload_n dX12_keep_270 rfl ?_
      refine mm_aload_n dX12_keep_271 rfl rfl ?_
      refine s_getS (q := 1137) (r := some a) (b := a) (ci := 12) (k := 48) in_X12 rfl (by decide) rfl kF_X12_120 dX12_keep_272 rfl hs (by decide) hn (by decide) rfl rfl ?_
      refine mm_iload_n dX12_keep_275 rfl ?_
      obtain ⟨j129, hj130, hb131, hl132, hx⟩ := ix_some hx
      refine s_lald (a := 1137) sa_1137 hn hj130 hb131 na_1137 dX12_keep_276 ?_
      refine mm_l2i dX12_keep_277 ?_
      obtain ⟨j133, hj134, hb135, hl136, hx⟩ := ix_some hx
      refine s_iast (a := 1117) (v := Int64.toInt32 (sL σ128 1137 j129)) sa_1117 hn hj134 hb135 na_1117 dX12_keep_278 hx (fun σ137 hx => ?_)
      refine mm_aload_n dX12_keep_279 rfl rfl ?_
      refine s_getS (q := 1118) (r := some a) (b := a) (ci := 12) (k := 21) in_X12 rfl (by decide) rfl kF_X12_62 dX12_keep_280 rfl hs (by decide) hn (by decide) rfl rfl ?_
      refine mm_iload_n dX12_keep_283 rfl ?_
      refine mm_aload_n dX12_keep_284 rfl rfl ?_
      refine s_getS (q := 1139) (r := some a) (b := a) (ci := 12) (k := 50) in_X12 rfl (by decide) rfl kF_X12_127 dX12_keep_285 rfl hs (by decide) hn (by decide) rfl rfl ?_
      refine mm_iload_n dX12_keep_288 rfl ?_
      obtain ⟨j138, hj139, hb140, hl141, hx⟩ := ix_some hx
      refine s_iald (a := 1139) sa_1139 hn hj139 hb140 na_1139 dX12_keep_289 ?_
      obtain ⟨j142, hj143, hb144, hl145, hx⟩ := ix_some hx
      refine s_iast (a := 1118) (v := sI σ137 1139 j138) sa_1118 hn hj143 hb144 na_1118 dX12_keep_290 hx (fun σ146 hx => ?_)
      refine mm_aload_n dX12_keep_291 rfl rfl ?_
      refine s_getS (q := 1119) (r := some a) (b := a) (ci := 12) (k := 22) in_X12 rfl (by decide) rfl kF_X12_65 dX12_keep_292 rfl hs (by decide) hn (by decide) rfl rfl ?_
      refine mm_iload_n dX12_keep_295 rfl ?_
      refine mm_aload_n dX12_keep_296 rfl rfl ?_
      refine s_getS (q := 1141) (r := some a) (b := a) (ci := 12) (k := 52) in_X12 rfl (by decide) rfl kF_X12_133 dX12_keep_297 rfl hs (by decide) hn (by decide) rfl rfl ?_
      refine mm_iload_n dX12_keep_300 rfl ?_
      obtain ⟨j147, hj148, hb149, hl150, hx⟩ := ix_some hx
      refine s_iald (a := 1141) sa_1141 hn hj148 hb149 na_1141 dX12_keep_301 ?_
      obtain ⟨j151, hj152, hb153, hl154, hx⟩ := ix_some hx
      refine s_iast (a := 1119) (v := sI σ146 1141 j147) sa_1119 hn hj152 hb153 na_1119 dX12_keep_302 hx (fun σ155 hx => ?_)
      refine mm_aload_n dX12_keep_303 rfl rfl ?_
      refine s_getS (q := 1120) (r := some a) (b := a) (ci := 12) (k := 23) in_X12 rfl (by decide) rfl kF_X12_68 dX12_keep_304 rfl hs (by decide) hn (by decide) rfl rfl ?_
      refine mm_iload_n dX12_keep_307 rfl ?_
      refine mm_aload_n dX12_keep_308 rfl rfl ?_
      refine s_getS (q := 1145) (r := some a) (b := a) (ci := 12) (k := 56) in_X12 rfl (by decide) rfl kF_X12_145 dX12_keep_309 rfl hs (by decide) hn (by decide) rfl rfl ?_
      refine mm_iload_n dX12_keep_312 rfl ?_
      obtain ⟨j156, hj157, hb158, hl159, hx⟩ := ix_some hx
      refine s_zald (a := 1145) sa_1145 hn hj157 hb158 na_1145 dX12_keep_313 ?_
      obtain ⟨j160, hj161, hb162, hl163, hx⟩ := ix_some hx
      refine s_zast (a := 1120) (v := sI σ155 1145 j156) sa_1120 hn hj161 hb162 na_1120 dX12_keep_314 hx (fun σ164 hx => ?_)
      refine mm_aload_n dX12_keep_315 rfl rfl ?_
      refine s_getS (q := 1121) (r := some a) (b := a) (ci := 12) (k := 24) in_X12 rfl (by decide) rfl kF_X12_72 dX12_keep_316 rfl hs (by decide) hn (by decide) rfl rfl ?_
      refine mm_iload_n dX12_keep_319 rfl ?_
      refine mm_aload_n dX12_keep_320 rfl rfl ?_
      refine s_getS (q := 1145) (r := some a) (b := a) (ci := 12) (k := 56) in_X12 rfl (by decide) rfl kF_X12_145 dX12_keep_321 rfl hs (by decide) hn (by decide) rfl rfl ?_
      refine mm_iload_n dX12_keep_324 rfl ?_
      obtain ⟨j165, hj166, hb167, hl168, hx⟩ := ix_some hx
      refine s_zald (a := 1145) sa_1145 hn hj166 hb167 na_1145 dX12_keep_325 ?_
      refine b_if hx (fun h169 hx => ?_) (fun h169 hx => ?_)
      · refine mm_if_eq 355 dX12_keep_326 (by decide) (fun _ => ?_) (fun h => absurd h169 h)
        exact e_X12_keep_355 hst hZ hn hs ih hk375 hx
      · refine mm_if_eq 355 dX12_keep_326 (by decide) (fun h => absurd h h169) (fun _ => ?_)
        refine mm_aload_n dX12_keep_329 rfl rfl ?_
        refine s_getS (q := 1139) (r := some a) (b := a) (ci := 12) (k := 50) in_X12 rfl (by decide) rfl kF_X12_127 dX12_keep_330 rfl hs (by decide) hn (by decide) rfl rfl ?_
        refine mm_iload_n dX12_keep_333 rfl ?_
        obtain ⟨j184, hj185, hb186, hl187, hx⟩ := ix_some hx
        refine s_iald (a := 1139) sa_1139 hn hj185 hb186 na_1139 dX12_keep_334 ?_
        obtain ⟨v189, hc188, hx⟩ := b1_some hx
        refine mm_callS wM_X12_isNumbers kM_X12_539 wT_X12_isNumbers dX12_keep_335 (e_X12_isNumbers hst hZ hn hc188) rfl rfl (Nat.le_of_ble_eq_true rfl) (by omega) (by omega) (fun v9 S9 hq => ?_)
        obtain ⟨rfl, rfl⟩ := hq
        refine ⟨fun h => ⟨h, rfl⟩, ?_⟩
        refine b_if hx (fun h190 hx => ?_) (fun h190 hx => ?_)
        · refine mm_if_eq 355 dX12_keep_338 (by decide) (fun _ => ?_) (fun h => absurd h190 h)
          exact e_X12_keep_355 hst hZ hn hs ih hk375 hx
        · refine mm_if_eq 355 dX12_keep_338 (by decide) (fun h => absurd h h190) (fun _ => ?_)
          refine mm_aload_n dX12_keep_341 rfl rfl ?_
          refine s_getS (q := 1146) (r := some a) (b := a) (ci := 12) (k := 57) in_X12 rfl (by decide) rfl kF_X12_148 dX12_keep_342 rfl hs (by decide) hn (by decide) rfl rfl ?_
          refine mm_iload_n dX12_keep_345 rfl ?_
          obtain ⟨j191, hj192, hb193, hl194, hx⟩ := ix_some hx
          refine s_iald (a := 1146) sa_1146 hn hj192 hb193 na_1146 dX12_keep_346 ?_
          refine mm_iconst (v := 2) dX12_keep_347 (by decide) ?_
          refine b_if hx (fun h195 hx => ?_) (fun h195 hx => ?_)
          · refine mm_icmp_eq 355 dX12_keep_348 (by decide) (fun _ => ?_) (fun h => absurd h195 h)
            exact e_X12_keep_355 hst hZ hn hs ih hk375 hx
          · refine mm_icmp_eq 355 dX12_keep_348 (by decide) (fun h => absurd h h195) (fun _ => ?_)
            refine mm_iconst (v := 1) dX12_keep_351 (by decide) ?_
            refine mm_goto 356 dX12_keep_352 (by decide) ?_
            exact e_X12_keep_356 hst hZ hn hs ih hk375 hx
    · refine mm_icmp_ge 375 dX12_keep_210 (by decide) (fun _ => ?_) (fun h => absurd (Int32.not_lt.mp h94) h)
      refine mm_fewer [some (.ref a), some (.int v1_), none, none] (few_ok (bs := [true, true, false, false]) rfl) ?_
      exact hk375  _ hx
set_option maxHeartbeats 4000000 in
set_option maxRecDepth 100000 in
theorem e_X12_keep_L377 {g : mm_G} {l : Launch} (hst : l.stackTraces = false) {Z : Nat → Nat → Option Nat} (hZ : HZ Z) {n : Nat} (hn : 1186 ≤ n) {z : Bool} {d : Nat} {U : Nat} {a : Nat} (hs : sh a = 12) {v1_ : Int32} {σ' : SG} : ∀ (U1 : Nat) (v2_ : Int32) (σ : SG), x_X12_keep_L377 U a v1_ U1 v2_ σ = some σ' → mm_V g l RX12 "keep" cX12_keep 4 none [] (d + 1) 0 0 (mm_nt (fun v S' => v = none ∧ S' = (mem Z σ', n, z))) 377 [some (.ref a), some (.int v1_), some (.int v2_), none] [] (mem Z σ, n, z) 0 0 := by
  intro U1
  induction U1 with
  | zero => intro v2_ σ hx; exact absurd hx (by simp [x_X12_keep_L377])
  | succ U1 ih =>
    intro v2_ σ hx
    rw [x_X12_keep_L377] at hx
    refine mm_iload_n dX12_keep_377 rfl ?_
    refine mm_aload_n dX12_keep_378 rfl rfl ?_
    refine s_getI (r := some a) (b := a) (ci := 12) (k := 35) in_X12 rfl (by decide) rfl kF_X12_484 dX12_keep_379 rfl hs (by decide) hn (by decide) rfl ?_
    refine b_if hx (fun h197 hx => ?_) (fun h197 hx => ?_)
    · refine mm_icmp_ge 457 dX12_keep_382 (by decide) (fun h => absurd h (Int32.not_le.mpr h197)) (fun _ => ?_)
      refine mm_bipush (v := 40) dX12_keep_385 (by decide) ?_
      refine mm_iload_n dX12_keep_387 rfl ?_
      refine mm_imul dX12_keep_388 ?_
      refine mm_iload_n dX12_keep_389 rfl ?_
      refine mm_iadd dX12_keep_390 ?_
      refine mm_istore_n [some (.ref a), some (.int v1_), some (.int v2_), some (.int ((40 * v1_) + v2_))] dX12_keep_391 (by decide) rfl ?_
      refine mm_aload_n dX12_keep_392 rfl rfl ?_
      refine s_getS (q := 1123) (r := some a) (b := a) (ci := 12) (k := 26) in_X12 rfl (by decide) rfl kF_X12_78 dX12_keep_393 rfl hs (by decide) hn (by decide) rfl rfl ?_
      refine mm_iload_n dX12_keep_396 rfl ?_
      refine mm_aload_n dX12_keep_397 rfl rfl ?_
      refine s_getS (q := 1149) (r := some a) (b := a) (ci := 12) (k := 60) in_X12 rfl (by decide) rfl kF_X12_157 dX12_keep_398 rfl hs (by decide) hn (by decide) rfl rfl ?_
      refine mm_iload_n dX12_keep_401 rfl ?_
      obtain ⟨j198, hj199, hb200, hl201, hx⟩ := ix_some hx
      refine s_iald (a := 1149) sa_1149 hn hj199 hb200 na_1149 dX12_keep_402 ?_
      obtain ⟨j202, hj203, hb204, hl205, hx⟩ := ix_some hx
      refine s_iast (a := 1123) (v := sI σ 1149 j198) sa_1123 hn hj203 hb204 na_1123 dX12_keep_403 hx (fun σ206 hx => ?_)
      refine mm_aload_n dX12_keep_404 rfl rfl ?_
      refine s_getS (q := 1124) (r := some a) (b := a) (ci := 12) (k := 27) in_X12 rfl (by decide) rfl kF_X12_81 dX12_keep_405 rfl hs (by decide) hn (by decide) rfl rfl ?_
      refine mm_iload_n dX12_keep_408 rfl ?_
      refine mm_aload_n dX12_keep_409 rfl rfl ?_
      refine mm_aload_n dX12_keep_410 rfl rfl ?_
      refine s_getS (q := 1150) (r := some a) (b := a) (ci := 12) (k := 61) in_X12 rfl (by decide) rfl kF_X12_160 dX12_keep_411 rfl hs (by decide) hn (by decide) rfl rfl ?_
      refine mm_iload_n dX12_keep_414 rfl ?_
      obtain ⟨j207, hj208, hb209, hl210, hx⟩ := ix_some hx
      refine s_iald (a := 1150) sa_1150 hn hj208 hb209 na_1150 dX12_keep_415 ?_
      refine mm_aload_n dX12_keep_416 rfl rfl ?_
      refine s_getS (q := 1151) (r := some a) (b := a) (ci := 12) (k := 62) in_X12 rfl (by decide) rfl kF_X12_163 dX12_keep_417 rfl hs (by decide) hn (by decide) rfl rfl ?_
      refine mm_iload_n dX12_keep_420 rfl ?_
      obtain ⟨j211, hj212, hb213, hl214, hx⟩ := ix_some hx
      refine s_iald (a := 1151) sa_1151 hn hj212 hb213 na_1151 dX12_keep_421 ?_
      obtain ⟨v216, σ217, hc215, hx⟩ := b2_some hx
      refine mm_callV3 (a := a) (ci := 12) wM_X12_keepName kM_X12_545 wI_X12_keepName wS_X12_keepName dX12_keep_422 (e_X12_keepName hst hZ hn hs hc215) (mem_obj hs (by decide)) (sh_ltn hs (by decide) hn) rfl rfl rfl (Nat.le_of_ble_eq_true rfl) (by omega) (by omega) (fun v9 S9 hq => ?_)
      obtain ⟨rfl, rfl⟩ := hq
      refine ⟨fun h => ⟨h, rfl⟩, ?_⟩
      obtain ⟨j218, hj219, hb220, hl221, hx⟩ := ix_some hx
      refine s_iast (a := 1124) (v := v216) sa_1124 hn hj219 hb220 na_1124 dX12_keep_425 hx (fun σ222 hx => ?_)
      refine mm_aload_n dX12_keep_426 rfl rfl ?_
      refine s_getS (q := 1125) (r := some a) (b := a) (ci := 12) (k := 28) in_X12 rfl (by decide) rfl kF_X12_84 dX12_keep_427 rfl hs (by decide) hn (by decide) rfl rfl ?_
      refine mm_iload_n dX12_keep_430 rfl ?_
      refine mm_aload_n dX12_keep_431 rfl rfl ?_
      refine s_getS (q := 1151) (r := some a) (b := a) (ci := 12) (k := 62) in_X12 rfl (by decide) rfl kF_X12_163 dX12_keep_432 rfl hs (by decide) hn (by decide) rfl rfl ?_
      refine mm_iload_n dX12_keep_435 rfl ?_
      obtain ⟨j223, hj224, hb225, hl226, hx⟩ := ix_some hx
      refine s_iald (a := 1151) sa_1151 hn hj224 hb225 na_1151 dX12_keep_436 ?_
      obtain ⟨j227, hj228, hb229, hl230, hx⟩ := ix_some hx
      refine s_iast (a := 1125) (v := sI σ222 1151 j223) sa_1125 hn hj228 hb229 na_1125 dX12_keep_437 hx (fun σ231 hx => ?_)
      refine mm_aload_n dX12_keep_438 rfl rfl ?_
      refine s_getS (q := 1126) (r := some a) (b := a) (ci := 12) (k := 29) in_X12 rfl (by decide) rfl kF_X12_87 dX12_keep_439 rfl hs (by decide) hn (by decide) rfl rfl ?_
      refine mm_iload_n dX12_keep_442 rfl ?_
      refine mm_aload_n dX12_keep_443 rfl rfl ?_
      refine s_getS (q := 1152) (r := some a) (b := a) (ci := 12) (k := 63) in_X12 rfl (by decide) rfl kF_X12_166 dX12_keep_444 rfl hs (by decide) hn (by decide) rfl rfl ?_
      refine mm_iload_n dX12_keep_447 rfl ?_
      obtain ⟨j232, hj233, hb234, hl235, hx⟩ := ix_some hx
      refine s_lald (a := 1152) sa_1152 hn hj233 hb234 na_1152 dX12_keep_448 ?_
      refine mm_l2i dX12_keep_449 ?_
      obtain ⟨j236, hj237, hb238, hl239, hx⟩ := ix_some hx
      refine s_iast (a := 1126) (v := Int64.toInt32 (sL σ231 1152 j232)) sa_1126 hn hj237 hb238 na_1126 dX12_keep_450 hx (fun σ240 hx => ?_)
      refine mm_iinc (v := v2_ + 1) [some (.ref a), some (.int v1_), some (.int (v2_ + 1)), some (.int ((40 * v1_) + v2_))] dX12_keep_451 rfl rfl (by decide) rfl ?_
      refine mm_goto 377 dX12_keep_454 (by decide) ?_
      refine mm_fewer [some (.ref a), some (.int v1_), some (.int (v2_ + 1)), none] (few_ok (bs := [true, true, true, false]) rfl) ?_
      exact ih _ _ hx
    · refine mm_icmp_ge 457 dX12_keep_382 (by decide) (fun _ => ?_) (fun h => absurd (Int32.not_lt.mp h197) h)
      refine mm_vret dX12_keep_457 rfl ?_ (by omega) (by omega)
      obtain rfl := fin1 hx
      exact ⟨rfl, rfl⟩
set_option maxHeartbeats 4000000 in
set_option maxRecDepth 100000 in
theorem e_X12_keep {g : mm_G} {l : Launch} (hst : l.stackTraces = false) {Z : Nat → Nat → Option Nat} (hZ : HZ Z) {n : Nat} (hn : 1186 ≤ n) {z : Bool} {d : Nat} {U : Nat} {a : Nat} (hs : sh a = 12) {p0 : Int32} {σ : SG} {σ' : SG} (hx : x_X12_keep U a p0 σ = some σ') : mm_Cm g l yX12_keep (.code yX12_keep cX12_keep 4 none) (d + 1) 0 0 [.ref a, .int p0] (mem Z σ, n, z) (fun v S' => v = none ∧ S' = (mem Z σ', n, z)) := by
  refine mm_Cm_of hst (by decide) (Nat.le_of_ble_eq_true rfl) ?_
  show mm_V g l RX12 "keep" cX12_keep 4 none [] (d + 1) 0 0 (mm_nt (fun v S' => v = none ∧ S' = (mem Z σ', n, z))) 0 [some (.ref a), some (.int p0), none, none] [] (mem Z σ, n, z) 0 0
  unfold x_X12_keep at hx
  refine mm_aload_n dX12_keep_0 rfl rfl ?_
  refine mm_sipush (v := 600) dX12_keep_1 (by decide) ?_
  refine mm_iload_n dX12_keep_4 rfl ?_
  refine mm_imul dX12_keep_5 ?_
  refine s_putI (v := 600 * p0) (r := some a) (b := a) (ci := 12) (k := 31) in_X12 rfl (by decide) rfl tyX12_ok nmX12 rfl kF_X12_542 dX12_keep_6 (mm_fit_int _) rfl hs (by decide) hn (by decide) rfl hx (fun σ1 hx => ?_)
  refine mm_aload_n dX12_keep_9 rfl rfl ?_
  refine s_getS (q := 1104) (r := some a) (b := a) (ci := 12) (k := 7) in_X12 rfl (by decide) rfl kF_X12_20 dX12_keep_10 rfl hs (by decide) hn (by decide) rfl rfl ?_
  refine mm_iload_n dX12_keep_13 rfl ?_
  refine mm_aload_n dX12_keep_14 rfl rfl ?_
  refine s_getI (r := some a) (b := a) (ci := 12) (k := 32) in_X12 rfl (by decide) rfl kF_X12_493 dX12_keep_15 rfl hs (by decide) hn (by decide) rfl ?_
  obtain ⟨j2, hj3, hb4, hl5, hx⟩ := ix_some hx
  refine s_iast (a := 1104) (v := sI σ1 a 32) sa_1104 hn hj3 hb4 na_1104 dX12_keep_18 hx (fun σ6 hx => ?_)
  refine mm_aload_n dX12_keep_19 rfl rfl ?_
  refine s_getS (q := 1105) (r := some a) (b := a) (ci := 12) (k := 8) in_X12 rfl (by decide) rfl kF_X12_23 dX12_keep_20 rfl hs (by decide) hn (by decide) rfl rfl ?_
  refine mm_iload_n dX12_keep_23 rfl ?_
  refine mm_aload_n dX12_keep_24 rfl rfl ?_
  refine s_getI (r := some a) (b := a) (ci := 12) (k := 33) in_X12 rfl (by decide) rfl kF_X12_487 dX12_keep_25 rfl hs (by decide) hn (by decide) rfl ?_
  obtain ⟨j7, hj8, hb9, hl10, hx⟩ := ix_some hx
  refine s_iast (a := 1105) (v := sI σ6 a 33) sa_1105 hn hj8 hb9 na_1105 dX12_keep_28 hx (fun σ11 hx => ?_)
  refine mm_aload_n dX12_keep_29 rfl rfl ?_
  refine s_getS (q := 1106) (r := some a) (b := a) (ci := 12) (k := 9) in_X12 rfl (by decide) rfl kF_X12_26 dX12_keep_30 rfl hs (by decide) hn (by decide) rfl rfl ?_
  refine mm_iload_n dX12_keep_33 rfl ?_
  refine mm_aload_n dX12_keep_34 rfl rfl ?_
  refine s_getI (r := some a) (b := a) (ci := 12) (k := 34) in_X12 rfl (by decide) rfl kF_X12_457 dX12_keep_35 rfl hs (by decide) hn (by decide) rfl ?_
  obtain ⟨j12, hj13, hb14, hl15, hx⟩ := ix_some hx
  refine s_iast (a := 1106) (v := sI σ11 a 34) sa_1106 hn hj13 hb14 na_1106 dX12_keep_38 hx (fun σ16 hx => ?_)
  refine mm_aload_n dX12_keep_39 rfl rfl ?_
  refine s_getS (q := 1107) (r := some a) (b := a) (ci := 12) (k := 10) in_X12 rfl (by decide) rfl kF_X12_29 dX12_keep_40 rfl hs (by decide) hn (by decide) rfl rfl ?_
  refine mm_iload_n dX12_keep_43 rfl ?_
  refine mm_aload_n dX12_keep_44 rfl rfl ?_
  refine s_getI (r := some a) (b := a) (ci := 12) (k := 35) in_X12 rfl (by decide) rfl kF_X12_484 dX12_keep_45 rfl hs (by decide) hn (by decide) rfl ?_
  obtain ⟨j17, hj18, hb19, hl20, hx⟩ := ix_some hx
  refine s_iast (a := 1107) (v := sI σ16 a 35) sa_1107 hn hj18 hb19 na_1107 dX12_keep_48 hx (fun σ21 hx => ?_)
  refine mm_iconst (v := 0) dX12_keep_49 (by decide) ?_
  refine mm_istore_n [some (.ref a), some (.int p0), some (.int 0), none] dX12_keep_50 (by decide) rfl ?_
  refine e_X12_keep_L51 hst hZ hn hs ?_ _ _ _ hx
  · intro  σ57 hx
    refine mm_iconst (v := 0) dX12_keep_126 (by decide) ?_
    refine mm_istore_n [some (.ref a), some (.int p0), some (.int 0), none] dX12_keep_127 (by decide) rfl ?_
    refine e_X12_keep_L128 hst hZ hn hs ?_ _ _ _ hx
    · intro  σ93 hx
      refine mm_iconst (v := 0) dX12_keep_203 (by decide) ?_
      refine mm_istore_n [some (.ref a), some (.int p0), some (.int 0), none] dX12_keep_204 (by decide) rfl ?_
      refine e_X12_keep_L205 hst hZ hn hs ?_ _ _ _ hx
      · intro  σ196 hx
        refine mm_iconst (v := 0) dX12_keep_375 (by decide) ?_
        refine mm_istore_n [some (.ref a), some (.int p0), some (.int 0), none] dX12_keep_376 (by decide) rfl ?_
        refine e_X12_keep_L377 hst hZ hn hs _ _ _ hx
set_option maxHeartbeats 4000000 in
set_option maxRecDepth 100000 in
theorem e_X12_compile_93 {g : mm_G} {l : Launch} (hst : l.stackTraces = false) {Z : Nat → Nat → Option Nat} (hZ : HZ Z) {n : Nat} (hn : 1186 ≤ n) {z : Bool} {d : Nat} {U : Nat} {a : Nat} (hs : sh a = 12) {v1_ : Int32} {s0_ : Int32} {σ : SG} {r : Int32} {σ' : SG} (hx : x_X12_compile_93 U a v1_ s0_ σ = some (r, σ')) : mm_V g l RX12 "compile" cX12_compile 2 (some .int) [] (d + 11) 0 0 (mm_nt (fun v S' => v = some (.int r) ∧ S' = (mem Z σ', n, z))) 93 [some (.ref a), some (.int v1_)] [.int s0_, .ref a] (mem Z σ, n, z) 0 0 := by
  unfold x_X12_compile_93 at hx
  refine s_putI (v := s0_) (r := some a) (b := a) (ci := 12) (k := 6) in_X12 rfl (by decide) rfl tyX12_ok nmX12 rfl kF_X12_16 dX12_compile_93 (mm_fit_int _) rfl hs (by decide) hn (by decide) rfl hx (fun σ22 hx => ?_)
  refine mm_aload_n dX12_compile_96 rfl rfl ?_
  refine s_getI (r := some a) (b := a) (ci := 12) (k := 74) in_X12 rfl (by decide) rfl kF_X12_328 dX12_compile_97 rfl hs (by decide) hn (by decide) rfl ?_
  refine b_if hx (fun h23 hx => ?_) (fun h23 hx => ?_)
  · refine mm_if_ne 111 dX12_compile_100 (by decide) (fun h => absurd h23 h) (fun _ => ?_)
    refine mm_aload_n dX12_compile_103 rfl rfl ?_
    refine mm_iload_n dX12_compile_104 rfl ?_
    obtain ⟨σ25, hc24, hx⟩ := b1_some hx
    refine mm_callV3 (a := a) (ci := 12) wM_X12_keep kM_X12_569 wI_X12_keep wS_X12_keep dX12_compile_105 (e_X12_keep hst hZ hn hs hc24) (mem_obj hs (by decide)) (sh_ltn hs (by decide) hn) rfl rfl rfl (Nat.le_of_ble_eq_true rfl) (by omega) (by omega) (fun v9 S9 hq => ?_)
    obtain ⟨rfl, rfl⟩ := hq
    refine ⟨fun h => ⟨h, rfl⟩, ?_⟩
    refine mm_goto 139 dX12_compile_108 (by decide) ?_
    refine mm_aload_n dX12_compile_139 rfl rfl ?_
    refine s_getI (r := some a) (b := a) (ci := 12) (k := 74) in_X12 rfl (by decide) rfl kF_X12_328 dX12_compile_140 rfl hs (by decide) hn (by decide) rfl ?_
    refine mm_iret dX12_compile_143 rfl rfl ?_ (by omega) (by omega)
    obtain ⟨rfl, rfl⟩ := fin2 hx
    exact ⟨rfl, rfl⟩
  · refine mm_if_ne 111 dX12_compile_100 (by decide) (fun _ => ?_) (fun h => absurd h h23)
    refine mm_aload_n dX12_compile_111 rfl rfl ?_
    refine s_getS (q := 1104) (r := some a) (b := a) (ci := 12) (k := 7) in_X12 rfl (by decide) rfl kF_X12_20 dX12_compile_112 rfl hs (by decide) hn (by decide) rfl rfl ?_
    refine mm_iload_n dX12_compile_115 rfl ?_
    refine mm_iconst (v := 0) dX12_compile_116 (by decide) ?_
    obtain ⟨j26, hj27, hb28, hl29, hx⟩ := ix_some hx
    refine s_iast (a := 1104) (v := 0) sa_1104 hn hj27 hb28 na_1104 dX12_compile_117 hx (fun σ30 hx => ?_)
    refine mm_aload_n dX12_compile_118 rfl rfl ?_
    refine s_getS (q := 1105) (r := some a) (b := a) (ci := 12) (k := 8) in_X12 rfl (by decide) rfl kF_X12_23 dX12_compile_119 rfl hs (by decide) hn (by decide) rfl rfl ?_
    refine mm_iload_n dX12_compile_122 rfl ?_
    refine mm_iconst (v := 0) dX12_compile_123 (by decide) ?_
    obtain ⟨j31, hj32, hb33, hl34, hx⟩ := ix_some hx
    refine s_iast (a := 1105) (v := 0) sa_1105 hn hj32 hb33 na_1105 dX12_compile_124 hx (fun σ35 hx => ?_)
    refine mm_aload_n dX12_compile_125 rfl rfl ?_
    refine s_getS (q := 1106) (r := some a) (b := a) (ci := 12) (k := 9) in_X12 rfl (by decide) rfl kF_X12_26 dX12_compile_126 rfl hs (by decide) hn (by decide) rfl rfl ?_
    refine mm_iload_n dX12_compile_129 rfl ?_
    refine mm_iconst (v := 0) dX12_compile_130 (by decide) ?_
    obtain ⟨j36, hj37, hb38, hl39, hx⟩ := ix_some hx
    refine s_iast (a := 1106) (v := 0) sa_1106 hn hj37 hb38 na_1106 dX12_compile_131 hx (fun σ40 hx => ?_)
    refine mm_aload_n dX12_compile_132 rfl rfl ?_
    refine s_getS (q := 1107) (r := some a) (b := a) (ci := 12) (k := 10) in_X12 rfl (by decide) rfl kF_X12_29 dX12_compile_133 rfl hs (by decide) hn (by decide) rfl rfl ?_
    refine mm_iload_n dX12_compile_136 rfl ?_
    refine mm_iconst (v := 0) dX12_compile_137 (by decide) ?_
    obtain ⟨j41, hj42, hb43, hl44, hx⟩ := ix_some hx
    refine s_iast (a := 1107) (v := 0) sa_1107 hn hj42 hb43 na_1107 dX12_compile_138 hx (fun σ45 hx => ?_)
    refine mm_aload_n dX12_compile_139 rfl rfl ?_
    refine s_getI (r := some a) (b := a) (ci := 12) (k := 74) in_X12 rfl (by decide) rfl kF_X12_328 dX12_compile_140 rfl hs (by decide) hn (by decide) rfl ?_
    refine mm_iret dX12_compile_143 rfl rfl ?_ (by omega) (by omega)
    obtain ⟨rfl, rfl⟩ := fin2 hx
    exact ⟨rfl, rfl⟩
set_option maxHeartbeats 4000000 in
set_option maxRecDepth 100000 in
theorem e_X12_compile_77 {g : mm_G} {l : Launch} (hst : l.stackTraces = false) {Z : Nat → Nat → Option Nat} (hZ : HZ Z) {n : Nat} (hn : 1186 ≤ n) {z : Bool} {d : Nat} {U : Nat} {a : Nat} (hs : sh a = 12) {v1_ : Int32} {σ : SG} {r : Int32} {σ' : SG} (hx : x_X12_compile_77 U a v1_ σ = some (r, σ')) : mm_V g l RX12 "compile" cX12_compile 2 (some .int) [] (d + 11) 0 0 (mm_nt (fun v S' => v = some (.int r) ∧ S' = (mem Z σ', n, z))) 77 [some (.ref a), some (.int v1_)] [] (mem Z σ, n, z) 0 0 := by
  unfold x_X12_compile_77 at hx
  refine mm_aload_n dX12_compile_77 rfl rfl ?_
  refine mm_aload_n dX12_compile_78 rfl rfl ?_
  refine s_getI (r := some a) (b := a) (ci := 12) (k := 74) in_X12 rfl (by decide) rfl kF_X12_328 dX12_compile_79 rfl hs (by decide) hn (by decide) rfl ?_
  refine b_if hx (fun h21 hx => ?_) (fun h21 hx => ?_)
  · refine mm_if_ne 89 dX12_compile_82 (by decide) (fun h => absurd h21 h) (fun _ => ?_)
    refine mm_iconst (v := (-1)) dX12_compile_85 (by decide) ?_
    refine mm_goto 93 dX12_compile_86 (by decide) ?_
    exact e_X12_compile_93 hst hZ hn hs hx
  · refine mm_if_ne 89 dX12_compile_82 (by decide) (fun _ => ?_) (fun h => absurd h h21)
    refine mm_aload_n dX12_compile_89 rfl rfl ?_
    refine s_getI (r := some a) (b := a) (ci := 12) (k := 75) in_X12 rfl (by decide) rfl kF_X12_331 dX12_compile_90 rfl hs (by decide) hn (by decide) rfl ?_
    exact e_X12_compile_93 hst hZ hn hs hx
set_option maxHeartbeats 4000000 in
set_option maxRecDepth 100000 in
theorem e_X12_compile_13 {g : mm_G} {l : Launch} (hst : l.stackTraces = false) {Z : Nat → Nat → Option Nat} (hZ : HZ Z) {n : Nat} (hn : 1186 ≤ n) {z : Bool} {d : Nat} {U : Nat} {a : Nat} (hs : sh a = 12) {v1_ : Int32} {s0_ : Int32} {σ : SG} {r : Int32} {σ' : SG} (hx : x_X12_compile_13 U a v1_ s0_ σ = some (r, σ')) : mm_V g l RX12 "compile" cX12_compile 2 (some .int) [] (d + 11) 0 0 (mm_nt (fun v S' => v = some (.int r) ∧ S' = (mem Z σ', n, z))) 13 [some (.ref a), some (.int v1_)] [.int s0_, .ref a] (mem Z σ, n, z) 0 0 := by
  unfold x_X12_compile_13 at hx
  refine s_putI (v := s0_) (r := some a) (b := a) (ci := 12) (k := 5) in_X12 rfl (by decide) rfl tyX12_ok nmX12 rfl kF_X12_265 dX12_compile_13 (mm_fit_int _) rfl hs (by decide) hn (by decide) rfl hx (fun σ4 hx => ?_)
  refine mm_aload_n dX12_compile_16 rfl rfl ?_
  refine s_getI (r := some a) (b := a) (ci := 12) (k := 5) in_X12 rfl (by decide) rfl kF_X12_265 dX12_compile_17 rfl hs (by decide) hn (by decide) rfl ?_
  refine b_if hx (fun h5 hx => ?_) (fun h5 hx => ?_)
  · refine mm_if_eq 25 dX12_compile_20 (by decide) (fun _ => ?_) (fun h => absurd h5 h)
    refine mm_aload_n dX12_compile_25 rfl rfl ?_
    refine mm_aload_n dX12_compile_26 rfl rfl ?_
    refine s_getI (r := some a) (b := a) (ci := 12) (k := 1) in_X12 rfl (by decide) rfl kF_X12_268 dX12_compile_27 rfl hs (by decide) hn (by decide) rfl ?_
    refine s_putI (v := sI σ4 a 1) (r := some a) (b := a) (ci := 12) (k := 73) in_X12 rfl (by decide) rfl tyX12_ok nmX12 rfl kF_X12_274 dX12_compile_30 (mm_fit_int _) rfl hs (by decide) hn (by decide) rfl hx (fun σ6 hx => ?_)
    refine mm_aload_n dX12_compile_33 rfl rfl ?_
    refine mm_iconst (v := 0) dX12_compile_34 (by decide) ?_
    refine s_putI (v := 0) (r := some a) (b := a) (ci := 12) (k := 1) in_X12 rfl (by decide) rfl tyX12_ok nmX12 rfl kF_X12_268 dX12_compile_35 (mm_fit_int _) rfl hs (by decide) hn (by decide) rfl hx (fun σ7 hx => ?_)
    refine mm_aload_n dX12_compile_38 rfl rfl ?_
    refine mm_iconst (v := 0) dX12_compile_39 (by decide) ?_
    refine s_putI (v := 0) (r := some a) (b := a) (ci := 12) (k := 79) in_X12 rfl (by decide) rfl tyX12_ok nmX12 rfl kF_X12_551 dX12_compile_40 mm_fit_z0 rfl hs (by decide) hn (by decide) rfl hx (fun σ8 hx => ?_)
    refine mm_aload_n dX12_compile_43 rfl rfl ?_
    obtain ⟨σ10, hc9, hx⟩ := b1_some hx
    refine mm_callV3 (a := a) (ci := 12) wM_X12_readSchema kM_X12_554 wI_X12_readSchema wS_X12_readSchema dX12_compile_44 (e_X12_readSchema hst hZ hn hs hc9) (mem_obj hs (by decide)) (sh_ltn hs (by decide) hn) rfl rfl rfl (Nat.le_of_ble_eq_true rfl) (by omega) (by omega) (fun v9 S9 hq => ?_)
    obtain ⟨rfl, rfl⟩ := hq
    refine ⟨fun h => ⟨h, rfl⟩, ?_⟩
    refine mm_aload_n dX12_compile_47 rfl rfl ?_
    refine s_getI (r := some a) (b := a) (ci := 12) (k := 74) in_X12 rfl (by decide) rfl kF_X12_328 dX12_compile_48 rfl hs (by decide) hn (by decide) rfl ?_
    refine b_if hx (fun h11 hx => ?_) (fun h11 hx => ?_)
    · refine mm_if_ne 77 dX12_compile_51 (by decide) (fun h => absurd h11 h) (fun _ => ?_)
      refine mm_aload_n dX12_compile_54 rfl rfl ?_
      obtain ⟨σ13, hc12, hx⟩ := b1_some hx
      refine mm_callV3 (a := a) (ci := 12) wM_X12_checkNames kM_X12_557 wI_X12_checkNames wS_X12_checkNames dX12_compile_55 (e_X12_checkNames hst hZ hn hs hc12) (mem_obj hs (by decide)) (sh_ltn hs (by decide) hn) rfl rfl rfl (Nat.le_of_ble_eq_true rfl) (by omega) (by omega) (fun v9 S9 hq => ?_)
      obtain ⟨rfl, rfl⟩ := hq
      refine ⟨fun h => ⟨h, rfl⟩, ?_⟩
      refine mm_aload_n dX12_compile_58 rfl rfl ?_
      obtain ⟨σ15, hc14, hx⟩ := b1_some hx
      refine mm_callV3 (a := a) (ci := 12) wM_X12_checkNumbers kM_X12_560 wI_X12_checkNumbers wS_X12_checkNumbers dX12_compile_59 (e_X12_checkNumbers hst hZ hn hs hc14) (mem_obj hs (by decide)) (sh_ltn hs (by decide) hn) rfl rfl rfl (Nat.le_of_ble_eq_true rfl) (by omega) (by omega) (fun v9 S9 hq => ?_)
      obtain ⟨rfl, rfl⟩ := hq
      refine ⟨fun h => ⟨h, rfl⟩, ?_⟩
      refine mm_aload_n dX12_compile_62 rfl rfl ?_
      obtain ⟨σ17, hc16, hx⟩ := b1_some hx
      refine mm_callV3 (a := a) (ci := 12) wM_X12_checkTypes kM_X12_563 wI_X12_checkTypes wS_X12_checkTypes dX12_compile_63 (e_X12_checkTypes hst hZ hn hs hc16) (mem_obj hs (by decide)) (sh_ltn hs (by decide) hn) rfl rfl rfl (Nat.le_of_ble_eq_true rfl) (by omega) (by omega) (fun v9 S9 hq => ?_)
      obtain ⟨rfl, rfl⟩ := hq
      refine ⟨fun h => ⟨h, rfl⟩, ?_⟩
      refine mm_aload_n dX12_compile_66 rfl rfl ?_
      refine s_getI (r := some a) (b := a) (ci := 12) (k := 74) in_X12 rfl (by decide) rfl kF_X12_328 dX12_compile_67 rfl hs (by decide) hn (by decide) rfl ?_
      refine b_if hx (fun h18 hx => ?_) (fun h18 hx => ?_)
      · refine mm_if_ne 77 dX12_compile_70 (by decide) (fun h => absurd h18 h) (fun _ => ?_)
        refine mm_aload_n dX12_compile_73 rfl rfl ?_
        obtain ⟨σ20, hc19, hx⟩ := b1_some hx
        refine mm_callV3 (a := a) (ci := 12) wM_X12_checkLimits kM_X12_566 wI_X12_checkLimits wS_X12_checkLimits dX12_compile_74 (e_X12_checkLimits hst hZ hn hs hc19) (mem_obj hs (by decide)) (sh_ltn hs (by decide) hn) rfl rfl rfl (Nat.le_of_ble_eq_true rfl) (by omega) (by omega) (fun v9 S9 hq => ?_)
        obtain ⟨rfl, rfl⟩ := hq
        refine ⟨fun h => ⟨h, rfl⟩, ?_⟩
        exact e_X12_compile_77 hst hZ hn hs hx
      · refine mm_if_ne 77 dX12_compile_70 (by decide) (fun _ => ?_) (fun h => absurd h h18)
        exact e_X12_compile_77 hst hZ hn hs hx
    · refine mm_if_ne 77 dX12_compile_51 (by decide) (fun _ => ?_) (fun h => absurd h h11)
      exact e_X12_compile_77 hst hZ hn hs hx
  · refine mm_if_eq 25 dX12_compile_20 (by decide) (fun h => absurd h h5) (fun _ => ?_)
    refine mm_iconst (v := 0) dX12_compile_23 (by decide) ?_
    refine mm_iret dX12_compile_24 rfl rfl ?_ (by omega) (by omega)
    obtain ⟨rfl, rfl⟩ := fin2 hx
    exact ⟨rfl, rfl⟩
set_option maxHeartbeats 4000000 in
set_option maxRecDepth 100000 in
theorem e_X12_compile {g : mm_G} {l : Launch} (hst : l.stackTraces = false) {Z : Nat → Nat → Option Nat} (hZ : HZ Z) {n : Nat} (hn : 1186 ≤ n) {z : Bool} {d : Nat} {U : Nat} {a : Nat} (hs : sh a = 12) {p0 : Int32} {σ : SG} {r : Int32} {σ' : SG} (hx : x_X12_compile U a p0 σ = some (r, σ')) : mm_Cm g l yX12_compile (.code yX12_compile cX12_compile 2 (some .int)) (d + 11) 0 0 [.ref a, .int p0] (mem Z σ, n, z) (fun v S' => v = some (.int r) ∧ S' = (mem Z σ', n, z)) := by
  refine mm_Cm_of hst (by decide) (Nat.le_of_ble_eq_true rfl) ?_
  show mm_V g l RX12 "compile" cX12_compile 2 (some .int) [] (d + 11) 0 0 (mm_nt (fun v S' => v = some (.int r) ∧ S' = (mem Z σ', n, z))) 0 [some (.ref a), some (.int p0)] [] (mem Z σ, n, z) 0 0
  unfold x_X12_compile at hx
  refine mm_aload_n dX12_compile_0 rfl rfl ?_
  refine mm_iload_n dX12_compile_1 rfl ?_
  obtain ⟨v2, hc1, hx⟩ := b1_some hx
  refine mm_callS wM_X12_isSchema kM_X12_548 wT_X12_isSchema dX12_compile_2 (e_X12_isSchema hst hZ hn hc1) rfl rfl (Nat.le_of_ble_eq_true rfl) (by omega) (by omega) (fun v9 S9 hq => ?_)
  obtain ⟨rfl, rfl⟩ := hq
  refine ⟨fun h => ⟨h, rfl⟩, ?_⟩
  refine b_if hx (fun h3 hx => ?_) (fun h3 hx => ?_)
  · refine mm_if_eq 12 dX12_compile_5 (by decide) (fun _ => ?_) (fun h => absurd h3 h)
    refine mm_iconst (v := 1) dX12_compile_12 (by decide) ?_
    exact e_X12_compile_13 hst hZ hn hs hx
  · refine mm_if_eq 12 dX12_compile_5 (by decide) (fun h => absurd h h3) (fun _ => ?_)
    refine mm_iconst (v := 0) dX12_compile_8 (by decide) ?_
    refine mm_goto 13 dX12_compile_9 (by decide) ?_
    exact e_X12_compile_13 hst hZ hn hs hx
set_option maxHeartbeats 4000000 in
set_option maxRecDepth 100000 in
theorem e_X12_takeVarint_88 {g : mm_G} {l : Launch} (hst : l.stackTraces = false) {Z : Nat → Nat → Option Nat} (hZ : HZ Z) {n : Nat} (hn : 1186 ≤ n) {z : Bool} {d : Nat} {U : Nat} {a : Nat} (hs : sh a = 12) {k7 : Int32 → SG → Option (SG)} {k21 : SG → Option (SG)} {k102 : SG → Option (SG)} {v1_ : Int32} {v2_ : Int32} {v3_ : Int32} {σ : SG} {σ' : SG} (hk7 : ∀ (v2_ : Int32) (σ8 : SG), k7 v2_ σ8 = some σ' → mm_V g l RX12 "takeVarint" cX12_takeVarint 4 none [] (d) 0 0 (mm_nt (fun v S' => v = none ∧ S' = (mem Z σ', n, z))) 7 [some (.ref a), some (.int v1_), some (.int v2_), none] [] (mem Z σ8, n, z) 0 0) (hk21 : ∀ (σ8 : SG), k21 σ8 = some σ' → mm_V g l RX12 "takeVarint" cX12_takeVarint 4 none [] (d) 0 0 (mm_nt (fun v S' => v = none ∧ S' = (mem Z σ', n, z))) 21 [some (.ref a), none, none, none] [] (mem Z σ8, n, z) 0 0) (hk102 : ∀ (σ8 : SG), k102 σ8 = some σ' → mm_V g l RX12 "takeVarint" cX12_takeVarint 4 none [] (d) 0 0 (mm_nt (fun v S' => v = none ∧ S' = (mem Z σ', n, z))) 102 [some (.ref a), none, none, none] [] (mem Z σ8, n, z) 0 0) (hx : x_X12_takeVarint_88 U a k7 k21 k102 v1_ v2_ v3_ σ = some σ') : mm_V g l RX12 "takeVarint" cX12_takeVarint 4 none [] (d) 0 0 (mm_nt (fun v S' => v = none ∧ S' = (mem Z σ', n, z))) 88 [some (.ref a), some (.int v1_), some (.int v2_), some (.int v3_)] [] (mem Z σ, n, z) 0 0 := by
  unfold x_X12_takeVarint_88 at hx
  refine mm_iload_n dX12_takeVarint_88 rfl ?_
  refine mm_sipush (v := 128) dX12_takeVarint_89 (by decide) ?_
  refine b_if hx (fun h12 hx => ?_) (fun h12 hx => ?_)
  · refine mm_icmp_ge 96 dX12_takeVarint_92 (by decide) (fun h => absurd h (Int32.not_le.mpr h12)) (fun _ => ?_)
    refine mm_vret dX12_takeVarint_95 rfl ?_ (by omega) (by omega)
    obtain rfl := fin1 hx
    exact ⟨rfl, rfl⟩
  · refine mm_icmp_ge 96 dX12_takeVarint_92 (by decide) (fun _ => ?_) (fun h => absurd (Int32.not_lt.mp h12) h)
    refine mm_iinc (v := v2_ + 1) [some (.ref a), some (.int v1_), some (.int (v2_ + 1)), some (.int v3_)] dX12_takeVarint_96 rfl rfl (by decide) rfl ?_
    refine mm_goto 7 dX12_takeVarint_99 (by decide) ?_
    refine mm_fewer [some (.ref a), some (.int v1_), some (.int (v2_ + 1)), none] (few_ok (bs := [true, true, true, false]) rfl) ?_
    exact hk7 _ _ hx
set_option maxHeartbeats 4000000 in
set_option maxRecDepth 100000 in
theorem e_X12_takeVarint_77 {g : mm_G} {l : Launch} (hst : l.stackTraces = false) {Z : Nat → Nat → Option Nat} (hZ : HZ Z) {n : Nat} (hn : 1186 ≤ n) {z : Bool} {d : Nat} {U : Nat} {a : Nat} (hs : sh a = 12) {k7 : Int32 → SG → Option (SG)} {k21 : SG → Option (SG)} {k102 : SG → Option (SG)} {v1_ : Int32} {v2_ : Int32} {v3_ : Int32} {s0_ : Int32} {s1_ : Int32} {s2_ : Int64} {σ : SG} {σ' : SG} (hk7 : ∀ (v2_ : Int32) (σ8 : SG), k7 v2_ σ8 = some σ' → mm_V g l RX12 "takeVarint" cX12_takeVarint 4 none [] (d) 0 0 (mm_nt (fun v S' => v = none ∧ S' = (mem Z σ', n, z))) 7 [some (.ref a), some (.int v1_), some (.int v2_), none] [] (mem Z σ8, n, z) 0 0) (hk21 : ∀ (σ8 : SG), k21 σ8 = some σ' → mm_V g l RX12 "takeVarint" cX12_takeVarint 4 none [] (d) 0 0 (mm_nt (fun v S' => v = none ∧ S' = (mem Z σ', n, z))) 21 [some (.ref a), none, none, none] [] (mem Z σ8, n, z) 0 0) (hk102 : ∀ (σ8 : SG), k102 σ8 = some σ' → mm_V g l RX12 "takeVarint" cX12_takeVarint 4 none [] (d) 0 0 (mm_nt (fun v S' => v = none ∧ S' = (mem Z σ', n, z))) 102 [some (.ref a), none, none, none] [] (mem Z σ8, n, z) 0 0) (hx : x_X12_takeVarint_77 U a k7 k21 k102 v1_ v2_ v3_ s0_ s1_ s2_ σ = some σ') : mm_V g l RX12 "takeVarint" cX12_takeVarint 4 none [] (d) 0 0 (mm_nt (fun v S' => v = none ∧ S' = (mem Z σ', n, z))) 77 [some (.ref a), some (.int v1_), some (.int v2_), some (.int v3_)] [.int s0_, .int s1_, .long s2_, .ref a] (mem Z σ, n, z) 0 0 := by
  unfold x_X12_takeVarint_77 at hx
  refine mm_iand dX12_takeVarint_77 ?_
  refine mm_i2l dX12_takeVarint_78 ?_
  refine mm_bipush (v := 7) dX12_takeVarint_79 (by decide) ?_
  refine mm_iload_n dX12_takeVarint_81 rfl ?_
  refine mm_imul dX12_takeVarint_82 ?_
  refine mm_lshl dX12_takeVarint_83 ?_
  refine mm_lor dX12_takeVarint_84 ?_
  refine s_putL (v := s2_ ||| (lshl9 (Int32.toInt64 (s1_ &&& s0_)) (7 * v2_))) (r := some a) (b := a) (ci := 12) (k := 108) in_X12 rfl (by decide) rfl tyX12_ok nmX12 rfl kF_X12_633 dX12_takeVarint_85 (mm_fit_long _) rfl hs (by decide) hn (by decide) rfl hx (fun σ11 hx => ?_)
  exact e_X12_takeVarint_88 hst hZ hn hs hk7 hk21 hk102 hx
set_option maxHeartbeats 4000000 in
set_option maxRecDepth 100000 in
theorem e_X12_takeVarint_59 {g : mm_G} {l : Launch} (hst : l.stackTraces = false) {Z : Nat → Nat → Option Nat} (hZ : HZ Z) {n : Nat} (hn : 1186 ≤ n) {z : Bool} {d : Nat} {U : Nat} {a : Nat} (hs : sh a = 12) {k7 : Int32 → SG → Option (SG)} {k21 : SG → Option (SG)} {k102 : SG → Option (SG)} {v1_ : Int32} {v2_ : Int32} {v3_ : Int32} {σ : SG} {σ' : SG} (hk7 : ∀ (v2_ : Int32) (σ8 : SG), k7 v2_ σ8 = some σ' → mm_V g l RX12 "takeVarint" cX12_takeVarint 4 none [] (d) 0 0 (mm_nt (fun v S' => v = none ∧ S' = (mem Z σ', n, z))) 7 [some (.ref a), some (.int v1_), some (.int v2_), none] [] (mem Z σ8, n, z) 0 0) (hk21 : ∀ (σ8 : SG), k21 σ8 = some σ' → mm_V g l RX12 "takeVarint" cX12_takeVarint 4 none [] (d) 0 0 (mm_nt (fun v S' => v = none ∧ S' = (mem Z σ', n, z))) 21 [some (.ref a), none, none, none] [] (mem Z σ8, n, z) 0 0) (hk102 : ∀ (σ8 : SG), k102 σ8 = some σ' → mm_V g l RX12 "takeVarint" cX12_takeVarint 4 none [] (d) 0 0 (mm_nt (fun v S' => v = none ∧ S' = (mem Z σ', n, z))) 102 [some (.ref a), none, none, none] [] (mem Z σ8, n, z) 0 0) (hx : x_X12_takeVarint_59 U a k7 k21 k102 v1_ v2_ v3_ σ = some σ') : mm_V g l RX12 "takeVarint" cX12_takeVarint 4 none [] (d) 0 0 (mm_nt (fun v S' => v = none ∧ S' = (mem Z σ', n, z))) 59 [some (.ref a), some (.int v1_), some (.int v2_), some (.int v3_)] [] (mem Z σ, n, z) 0 0 := by
  unfold x_X12_takeVarint_59 at hx
  refine mm_aload_n dX12_takeVarint_59 rfl rfl ?_
  refine mm_dup dX12_takeVarint_60 rfl ?_
  refine s_getL (r := some a) (b := a) (ci := 12) (k := 108) in_X12 rfl (by decide) rfl kF_X12_633 dX12_takeVarint_61 rfl hs (by decide) hn (by decide) rfl ?_
  refine mm_iload_n dX12_takeVarint_64 rfl ?_
  refine mm_iload_n dX12_takeVarint_65 rfl ?_
  refine mm_bipush (v := 9) dX12_takeVarint_66 (by decide) ?_
  refine b_if hx (fun h10 hx => ?_) (fun h10 hx => ?_)
  · refine mm_icmp_ge 76 dX12_takeVarint_68 (by decide) (fun h => absurd h (Int32.not_le.mpr h10)) (fun _ => ?_)
    refine mm_bipush (v := 127) dX12_takeVarint_71 (by decide) ?_
    refine mm_goto 77 dX12_takeVarint_73 (by decide) ?_
    exact e_X12_takeVarint_77 hst hZ hn hs hk7 hk21 hk102 hx
  · refine mm_icmp_ge 76 dX12_takeVarint_68 (by decide) (fun _ => ?_) (fun h => absurd (Int32.not_lt.mp h10) h)
    refine mm_iconst (v := 1) dX12_takeVarint_76 (by decide) ?_
    exact e_X12_takeVarint_77 hst hZ hn hs hk7 hk21 hk102 hx
set_option maxHeartbeats 4000000 in
set_option maxRecDepth 100000 in
theorem e_X12_takeVarint_L7 {g : mm_G} {l : Launch} (hst : l.stackTraces = false) {Z : Nat → Nat → Option Nat} (hZ : HZ Z) {n : Nat} (hn : 1186 ≤ n) {z : Bool} {d : Nat} {U : Nat} {a : Nat} (hs : sh a = 12) {k21 : SG → Option (SG)} {k102 : SG → Option (SG)} {v1_ : Int32} {σ' : SG} (hk21 : ∀ (σ8 : SG), k21 σ8 = some σ' → mm_V g l RX12 "takeVarint" cX12_takeVarint 4 none [] (d) 0 0 (mm_nt (fun v S' => v = none ∧ S' = (mem Z σ', n, z))) 21 [some (.ref a), none, none, none] [] (mem Z σ8, n, z) 0 0) (hk102 : ∀ (σ8 : SG), k102 σ8 = some σ' → mm_V g l RX12 "takeVarint" cX12_takeVarint 4 none [] (d) 0 0 (mm_nt (fun v S' => v = none ∧ S' = (mem Z σ', n, z))) 102 [some (.ref a), none, none, none] [] (mem Z σ8, n, z) 0 0) : ∀ (U1 : Nat) (v2_ : Int32) (σ : SG), x_X12_takeVarint_L7 U a k21 k102 v1_ U1 v2_ σ = some σ' → mm_V g l RX12 "takeVarint" cX12_takeVarint 4 none [] (d) 0 0 (mm_nt (fun v S' => v = none ∧ S' = (mem Z σ', n, z))) 7 [some (.ref a), some (.int v1_), some (.int v2_), none] [] (mem Z σ, n, z) 0 0 := by
  intro U1
  induction U1 with
  | zero => intro v2_ σ hx; exact absurd hx (by simp [x_X12_takeVarint_L7])
  | succ U1 ih =>
    intro v2_ σ hx
    rw [x_X12_takeVarint_L7] at hx
    refine mm_iload_n dX12_takeVarint_7 rfl ?_
    refine mm_bipush (v := 10) dX12_takeVarint_8 (by decide) ?_
    refine b_if hx (fun h2 hx => ?_) (fun h2 hx => ?_)
    · refine mm_icmp_ge 102 dX12_takeVarint_10 (by decide) (fun h => absurd h (Int32.not_le.mpr h2)) (fun _ => ?_)
      refine mm_aload_n dX12_takeVarint_13 rfl rfl ?_
      refine s_getI (r := some a) (b := a) (ci := 12) (k := 109) in_X12 rfl (by decide) rfl kF_X12_636 dX12_takeVarint_14 rfl hs (by decide) hn (by decide) rfl ?_
      refine mm_iload_n dX12_takeVarint_17 rfl ?_
      refine b_if hx (fun h3 hx => ?_) (fun h3 hx => ?_)
      · refine mm_icmp_lt 27 dX12_takeVarint_18 (by decide) (fun _ => ?_) (fun h => absurd h3 h)
        refine mm_aload_n dX12_takeVarint_27 rfl rfl ?_
        refine s_getS (q := 1102) (r := some a) (b := a) (ci := 12) (k := 0) in_X12 rfl (by decide) rfl kF_X12_7 dX12_takeVarint_28 rfl hs (by decide) hn (by decide) rfl rfl ?_
        refine mm_aload_n dX12_takeVarint_31 rfl rfl ?_
        refine s_getI (r := some a) (b := a) (ci := 12) (k := 109) in_X12 rfl (by decide) rfl kF_X12_636 dX12_takeVarint_32 rfl hs (by decide) hn (by decide) rfl ?_
        obtain ⟨j4, hj5, hb6, hl7, hx⟩ := ix_some hx
        refine s_iald (a := 1102) sa_1102 hn hj5 hb6 na_1102 dX12_takeVarint_35 ?_
        refine mm_istore_n [some (.ref a), some (.int v1_), some (.int v2_), some (.int (sI σ 1102 j4))] dX12_takeVarint_36 (by decide) rfl ?_
        refine mm_aload_n dX12_takeVarint_37 rfl rfl ?_
        refine mm_dup dX12_takeVarint_38 rfl ?_
        refine s_getI (r := some a) (b := a) (ci := 12) (k := 109) in_X12 rfl (by decide) rfl kF_X12_636 dX12_takeVarint_39 rfl hs (by decide) hn (by decide) rfl ?_
        refine mm_iconst (v := 1) dX12_takeVarint_42 (by decide) ?_
        refine mm_iadd dX12_takeVarint_43 ?_
        refine s_putI (v := (sI σ a 109) + 1) (r := some a) (b := a) (ci := 12) (k := 109) in_X12 rfl (by decide) rfl tyX12_ok nmX12 rfl kF_X12_636 dX12_takeVarint_44 (mm_fit_int _) rfl hs (by decide) hn (by decide) rfl hx (fun σ8 hx => ?_)
        refine mm_iload_n dX12_takeVarint_47 rfl ?_
        refine mm_bipush (v := 9) dX12_takeVarint_48 (by decide) ?_
        refine b_if hx (fun h9 hx => ?_) (fun h9 hx => ?_)
        · refine mm_icmp_lt 59 dX12_takeVarint_50 (by decide) (fun _ => ?_) (fun h => absurd h9 h)
          exact e_X12_takeVarint_59 hst hZ hn hs ih hk21 hk102 hx
        · refine mm_icmp_lt 59 dX12_takeVarint_50 (by decide) (fun h => absurd h h9) (fun _ => ?_)
          refine mm_iload_n dX12_takeVarint_53 rfl ?_
          refine mm_iconst (v := 1) dX12_takeVarint_54 (by decide) ?_
          refine mm_iand dX12_takeVarint_55 ?_
          refine b_if hx (fun h13 hx => ?_) (fun h13 hx => ?_)
          · refine mm_if_eq 88 dX12_takeVarint_56 (by decide) (fun _ => ?_) (fun h => absurd h13 h)
            exact e_X12_takeVarint_88 hst hZ hn hs ih hk21 hk102 hx
          · refine mm_if_eq 88 dX12_takeVarint_56 (by decide) (fun h => absurd h h13) (fun _ => ?_)
            exact e_X12_takeVarint_59 hst hZ hn hs ih hk21 hk102 hx
      · refine mm_icmp_lt 27 dX12_takeVarint_18 (by decide) (fun h => absurd h h3) (fun _ => ?_)
        refine mm_fewer [some (.ref a), none, none, none] (few_ok (bs := [true, false, false, false]) rfl) ?_
        exact hk21  _ hx
    · refine mm_icmp_ge 102 dX12_takeVarint_10 (by decide) (fun _ => ?_) (fun h => absurd (Int32.not_lt.mp h2) h)
      refine mm_fewer [some (.ref a), none, none, none] (few_ok (bs := [true, false, false, false]) rfl) ?_
      exact hk102  _ hx
set_option maxHeartbeats 4000000 in
set_option maxRecDepth 100000 in
theorem e_X12_takeVarint {g : mm_G} {l : Launch} (hst : l.stackTraces = false) {Z : Nat → Nat → Option Nat} (hZ : HZ Z) {n : Nat} (hn : 1186 ≤ n) {z : Bool} {d : Nat} {U : Nat} {a : Nat} (hs : sh a = 12) {p0 : Int32} {σ : SG} {σ' : SG} (hx : x_X12_takeVarint U a p0 σ = some σ') : mm_Cm g l yX12_takeVarint (.code yX12_takeVarint cX12_takeVarint 4 none) (d) 0 0 [.ref a, .int p0] (mem Z σ, n, z) (fun v S' => v = none ∧ S' = (mem Z σ', n, z)) := by
  refine mm_Cm_of hst (by decide) (Nat.le_of_ble_eq_true rfl) ?_
  show mm_V g l RX12 "takeVarint" cX12_takeVarint 4 none [] (d) 0 0 (mm_nt (fun v S' => v = none ∧ S' = (mem Z σ', n, z))) 0 [some (.ref a), some (.int p0), none, none] [] (mem Z σ, n, z) 0 0
  unfold x_X12_takeVarint at hx
  refine mm_aload_n dX12_takeVarint_0 rfl rfl ?_
  refine mm_lconst (v := 0) dX12_takeVarint_1 (by decide) ?_
  refine s_putL (v := 0) (r := some a) (b := a) (ci := 12) (k := 108) in_X12 rfl (by decide) rfl tyX12_ok nmX12 rfl kF_X12_633 dX12_takeVarint_2 (mm_fit_long _) rfl hs (by decide) hn (by decide) rfl hx (fun σ1 hx => ?_)
  refine mm_iconst (v := 0) dX12_takeVarint_5 (by decide) ?_
  refine mm_istore_n [some (.ref a), some (.int p0), some (.int 0), none] dX12_takeVarint_6 (by decide) rfl ?_
  refine e_X12_takeVarint_L7 hst hZ hn hs ?_ ?_ _ _ _ hx
  · intro  σ14 hx
    refine mm_aload_n dX12_takeVarint_21 rfl rfl ?_
    refine mm_iconst (v := 1) dX12_takeVarint_22 (by decide) ?_
    refine s_putI (v := 1) (r := some a) (b := a) (ci := 12) (k := 107) in_X12 rfl (by decide) rfl tyX12_ok nmX12 rfl kF_X12_590 dX12_takeVarint_23 mm_fit_z1 rfl hs (by decide) hn (by decide) rfl hx (fun σ15 hx => ?_)
    refine mm_vret dX12_takeVarint_26 rfl ?_ (by omega) (by omega)
    obtain rfl := fin1 hx
    exact ⟨rfl, rfl⟩
  · intro  σ16 hx
    refine mm_aload_n dX12_takeVarint_102 rfl rfl ?_
    refine mm_iconst (v := 1) dX12_takeVarint_103 (by decide) ?_
    refine s_putI (v := 1) (r := some a) (b := a) (ci := 12) (k := 107) in_X12 rfl (by decide) rfl tyX12_ok nmX12 rfl kF_X12_590 dX12_takeVarint_104 mm_fit_z1 rfl hs (by decide) hn (by decide) rfl hx (fun σ17 hx => ?_)
    refine mm_vret dX12_takeVarint_107 rfl ?_ (by omega) (by omega)
    obtain rfl := fin1 hx
    exact ⟨rfl, rfl⟩
set_option maxHeartbeats 4000000 in
set_option maxRecDepth 100000 in
theorem e_X12_fieldNumbered_51 {g : mm_G} {l : Launch} (hst : l.stackTraces = false) {Z : Nat → Nat → Option Nat} (hZ : HZ Z) {n : Nat} (hn : 1186 ≤ n) {z : Bool} {d : Nat} {U : Nat} {a : Nat} (hs : sh a = 12) {k8 : Int32 → Option (Int32)} {v1_ : Int32} {v2_ : Int32} {v3_ : Int32} {σ : SG} {r : Int32} (hk8 : ∀ (v3_ : Int32), k8 v3_ = some r → mm_V g l RX12 "fieldNumbered" cX12_fieldNumbered 4 (some .int) [] (d) 0 0 (mm_nt (fun v S' => v = some (.int r) ∧ S' = (mem Z σ, n, z))) 8 [some (.ref a), some (.int v1_), some (.int v2_), some (.int v3_)] [] (mem Z σ, n, z) 0 0) (hx : x_X12_fieldNumbered_51 U a k8 v1_ v2_ v3_ σ = some r) : mm_V g l RX12 "fieldNumbered" cX12_fieldNumbered 4 (some .int) [] (d) 0 0 (mm_nt (fun v S' => v = some (.int r) ∧ S' = (mem Z σ, n, z))) 51 [some (.ref a), some (.int v1_), some (.int v2_), some (.int v3_)] [] (mem Z σ, n, z) 0 0 := by
  unfold x_X12_fieldNumbered_51 at hx
  refine mm_iinc (v := v3_ + 1) [some (.ref a), some (.int v1_), some (.int v2_), some (.int (v3_ + 1))] dX12_fieldNumbered_51 rfl rfl (by decide) rfl ?_
  refine mm_goto 8 dX12_fieldNumbered_54 (by decide) ?_
  exact hk8 _ hx
set_option maxHeartbeats 4000000 in
set_option maxRecDepth 100000 in
theorem e_X12_fieldNumbered_L8 {g : mm_G} {l : Launch} (hst : l.stackTraces = false) {Z : Nat → Nat → Option Nat} (hZ : HZ Z) {n : Nat} (hn : 1186 ≤ n) {z : Bool} {d : Nat} {U : Nat} {a : Nat} (hs : sh a = 12) {v1_ : Int32} {v2_ : Int32} {σ : SG} {r : Int32} : ∀ (U1 : Nat) (v3_ : Int32), x_X12_fieldNumbered_L8 U a v1_ v2_ σ U1 v3_ = some r → mm_V g l RX12 "fieldNumbered" cX12_fieldNumbered 4 (some .int) [] (d) 0 0 (mm_nt (fun v S' => v = some (.int r) ∧ S' = (mem Z σ, n, z))) 8 [some (.ref a), some (.int v1_), some (.int v2_), some (.int v3_)] [] (mem Z σ, n, z) 0 0 := by
  intro U1
  induction U1 with
  | zero => intro v3_ hx; exact absurd hx (by simp [x_X12_fieldNumbered_L8])
  | succ U1 ih =>
    intro v3_ hx
    rw [x_X12_fieldNumbered_L8] at hx
    refine mm_iload_n dX12_fieldNumbered_8 rfl ?_
    refine mm_bipush (v := 60) dX12_fieldNumbered_9 (by decide) ?_
    refine mm_aload_n dX12_fieldNumbered_11 rfl rfl ?_
    refine s_getI (r := some a) (b := a) (ci := 12) (k := 80) in_X12 rfl (by decide) rfl kF_X12_587 dX12_fieldNumbered_12 rfl hs (by decide) hn (by decide) rfl ?_
    refine mm_imul dX12_fieldNumbered_15 ?_
    refine mm_aload_n dX12_fieldNumbered_16 rfl rfl ?_
    refine s_getS (q := 1106) (r := some a) (b := a) (ci := 12) (k := 9) in_X12 rfl (by decide) rfl kF_X12_26 dX12_fieldNumbered_17 rfl hs (by decide) hn (by decide) rfl rfl ?_
    refine mm_aload_n dX12_fieldNumbered_20 rfl rfl ?_
    refine s_getI (r := some a) (b := a) (ci := 12) (k := 80) in_X12 rfl (by decide) rfl kF_X12_587 dX12_fieldNumbered_21 rfl hs (by decide) hn (by decide) rfl ?_
    obtain ⟨j1, hj2, hb3, hl4, hx⟩ := ix_some hx
    refine s_iald (a := 1106) sa_1106 hn hj2 hb3 na_1106 dX12_fieldNumbered_24 ?_
    refine mm_iadd dX12_fieldNumbered_25 ?_
    refine b_if hx (fun h5 hx => ?_) (fun h5 hx => ?_)
    · refine mm_icmp_ge 57 dX12_fieldNumbered_26 (by decide) (fun h => absurd h (Int32.not_le.mpr h5)) (fun _ => ?_)
      refine mm_aload_n dX12_fieldNumbered_29 rfl rfl ?_
      refine s_getS (q := 1114) (r := some a) (b := a) (ci := 12) (k := 17) in_X12 rfl (by decide) rfl kF_X12_50 dX12_fieldNumbered_30 rfl hs (by decide) hn (by decide) rfl rfl ?_
      refine mm_iload_n dX12_fieldNumbered_33 rfl ?_
      obtain ⟨j6, hj7, hb8, hl9, hx⟩ := ix_some hx
      refine s_iald (a := 1114) sa_1114 hn hj7 hb8 na_1114 dX12_fieldNumbered_34 ?_
      refine mm_iload_n dX12_fieldNumbered_35 rfl ?_
      refine b_if hx (fun h10 hx => ?_) (fun h10 hx => ?_)
      · refine mm_icmp_ne 51 dX12_fieldNumbered_36 (by decide) (fun h => absurd h10 h) (fun _ => ?_)
        refine mm_aload_n dX12_fieldNumbered_39 rfl rfl ?_
        refine s_getS (q := 1117) (r := some a) (b := a) (ci := 12) (k := 20) in_X12 rfl (by decide) rfl kF_X12_59 dX12_fieldNumbered_40 rfl hs (by decide) hn (by decide) rfl rfl ?_
        refine mm_iload_n dX12_fieldNumbered_43 rfl ?_
        obtain ⟨j11, hj12, hb13, hl14, hx⟩ := ix_some hx
        refine s_iald (a := 1117) sa_1117 hn hj12 hb13 na_1117 dX12_fieldNumbered_44 ?_
        refine mm_iload_n dX12_fieldNumbered_45 rfl ?_
        refine b_if hx (fun h15 hx => ?_) (fun h15 hx => ?_)
        · refine mm_icmp_ne 51 dX12_fieldNumbered_46 (by decide) (fun h => absurd h15 h) (fun _ => ?_)
          refine mm_iload_n dX12_fieldNumbered_49 rfl ?_
          refine mm_iret dX12_fieldNumbered_50 rfl rfl ?_ (by omega) (by omega)
          obtain rfl := fin1 hx
          exact ⟨rfl, rfl⟩
        · refine mm_icmp_ne 51 dX12_fieldNumbered_46 (by decide) (fun _ => ?_) (fun h => absurd h h15)
          exact e_X12_fieldNumbered_51 hst hZ hn hs ih hx
      · refine mm_icmp_ne 51 dX12_fieldNumbered_36 (by decide) (fun _ => ?_) (fun h => absurd h h10)
        exact e_X12_fieldNumbered_51 hst hZ hn hs ih hx
    · refine mm_icmp_ge 57 dX12_fieldNumbered_26 (by decide) (fun _ => ?_) (fun h => absurd (Int32.not_lt.mp h5) h)
      refine mm_iconst (v := (-1)) dX12_fieldNumbered_57 (by decide) ?_
      refine mm_iret dX12_fieldNumbered_58 rfl rfl ?_ (by omega) (by omega)
      obtain rfl := fin1 hx
      exact ⟨rfl, rfl⟩
set_option maxHeartbeats 4000000 in
set_option maxRecDepth 100000 in
theorem e_X12_fieldNumbered {g : mm_G} {l : Launch} (hst : l.stackTraces = false) {Z : Nat → Nat → Option Nat} (hZ : HZ Z) {n : Nat} (hn : 1186 ≤ n) {z : Bool} {d : Nat} {U : Nat} {a : Nat} (hs : sh a = 12) {p0 : Int32} {p1 : Int32} {σ : SG} {r : Int32} (hx : x_X12_fieldNumbered U a p0 p1 σ = some r) : mm_Cm g l yX12_fieldNumbered (.code yX12_fieldNumbered cX12_fieldNumbered 4 (some .int)) (d) 0 0 [.ref a, .int p0, .int p1] (mem Z σ, n, z) (fun v S' => v = some (.int r) ∧ S' = (mem Z σ, n, z)) := by
  refine mm_Cm_of hst (by decide) (Nat.le_of_ble_eq_true rfl) ?_
  show mm_V g l RX12 "fieldNumbered" cX12_fieldNumbered 4 (some .int) [] (d) 0 0 (mm_nt (fun v S' => v = some (.int r) ∧ S' = (mem Z σ, n, z))) 0 [some (.ref a), some (.int p0), some (.int p1), none] [] (mem Z σ, n, z) 0 0
  unfold x_X12_fieldNumbered at hx
  refine mm_bipush (v := 60) dX12_fieldNumbered_0 (by decide) ?_
  refine mm_aload_n dX12_fieldNumbered_2 rfl rfl ?_
  refine s_getI (r := some a) (b := a) (ci := 12) (k := 80) in_X12 rfl (by decide) rfl kF_X12_587 dX12_fieldNumbered_3 rfl hs (by decide) hn (by decide) rfl ?_
  refine mm_imul dX12_fieldNumbered_6 ?_
  refine mm_istore_n [some (.ref a), some (.int p0), some (.int p1), some (.int (60 * (sI σ a 80)))] dX12_fieldNumbered_7 (by decide) rfl ?_
  refine e_X12_fieldNumbered_L8 hst hZ hn hs _ _ hx
set_option maxHeartbeats 4000000 in
set_option maxRecDepth 100000 in
theorem e_X12_kindOf {g : mm_G} {l : Launch} (hst : l.stackTraces = false) {Z : Nat → Nat → Option Nat} (hZ : HZ Z) {n : Nat} (hn : 1186 ≤ n) {z : Bool} {d : Nat} {p0 : Int32} {σ : SG} {r : Int32} (hx : x_X12_kindOf p0 = some r) : mm_Cm g l yX12_kindOf (.code yX12_kindOf cX12_kindOf 1 (some .int)) (d) 0 0 [.int p0] (mem Z σ, n, z) (fun v S' => v = some (.int r) ∧ S' = (mem Z σ, n, z)) := by
  refine mm_Cm_of hst (by decide) (Nat.le_of_ble_eq_true rfl) ?_
  show mm_V g l RX12 "kindOf" cX12_kindOf 1 (some .int) [] (d) 0 0 (mm_nt (fun v S' => v = some (.int r) ∧ S' = (mem Z σ, n, z))) 0 [some (.int p0)] [] (mem Z σ, n, z) 0 0
  unfold x_X12_kindOf at hx
  refine mm_iload_n dX12_kindOf_0 rfl ?_
  refine mm_bipush (v := 7) dX12_kindOf_1 (by decide) ?_
  refine b_if hx (fun h1 hx => ?_) (fun h1 hx => ?_)
  · refine mm_icmp_eq 12 dX12_kindOf_3 (by decide) (fun _ => ?_) (fun h => absurd h1 h)
    refine mm_iconst (v := 1) dX12_kindOf_12 (by decide) ?_
    refine mm_iret dX12_kindOf_13 rfl rfl ?_ (by omega) (by omega)
    obtain rfl := fin1 hx
    exact ⟨rfl, rfl⟩
  · refine mm_icmp_eq 12 dX12_kindOf_3 (by decide) (fun h => absurd h h1) (fun _ => ?_)
    refine mm_iload_n dX12_kindOf_6 rfl ?_
    refine mm_bipush (v := 9) dX12_kindOf_7 (by decide) ?_
    refine b_if hx (fun h2 hx => ?_) (fun h2 hx => ?_)
    · refine mm_icmp_ne 14 dX12_kindOf_9 (by decide) (fun h => absurd h2 h) (fun _ => ?_)
      refine mm_iconst (v := 1) dX12_kindOf_12 (by decide) ?_
      refine mm_iret dX12_kindOf_13 rfl rfl ?_ (by omega) (by omega)
      obtain rfl := fin1 hx
      exact ⟨rfl, rfl⟩
    · refine mm_icmp_ne 14 dX12_kindOf_9 (by decide) (fun _ => ?_) (fun h => absurd h h2)
      refine mm_iload_n dX12_kindOf_14 rfl ?_
      refine mm_bipush (v := 6) dX12_kindOf_15 (by decide) ?_
      refine b_if hx (fun h3 hx => ?_) (fun h3 hx => ?_)
      · refine mm_icmp_eq 26 dX12_kindOf_17 (by decide) (fun _ => ?_) (fun h => absurd h3 h)
        refine mm_iconst (v := 5) dX12_kindOf_26 (by decide) ?_
        refine mm_iret dX12_kindOf_27 rfl rfl ?_ (by omega) (by omega)
        obtain rfl := fin1 hx
        exact ⟨rfl, rfl⟩
      · refine mm_icmp_eq 26 dX12_kindOf_17 (by decide) (fun h => absurd h h3) (fun _ => ?_)
        refine mm_iload_n dX12_kindOf_20 rfl ?_
        refine mm_bipush (v := 8) dX12_kindOf_21 (by decide) ?_
        refine b_if hx (fun h4 hx => ?_) (fun h4 hx => ?_)
        · refine mm_icmp_ne 28 dX12_kindOf_23 (by decide) (fun h => absurd h4 h) (fun _ => ?_)
          refine mm_iconst (v := 5) dX12_kindOf_26 (by decide) ?_
          refine mm_iret dX12_kindOf_27 rfl rfl ?_ (by omega) (by omega)
          obtain rfl := fin1 hx
          exact ⟨rfl, rfl⟩
        · refine mm_icmp_ne 28 dX12_kindOf_23 (by decide) (fun _ => ?_) (fun h => absurd h h4)
          refine mm_iload_n dX12_kindOf_28 rfl ?_
          refine mm_bipush (v := 11) dX12_kindOf_29 (by decide) ?_
          refine b_if hx (fun h5 hx => ?_) (fun h5 hx => ?_)
          · refine mm_icmp_eq 46 dX12_kindOf_31 (by decide) (fun _ => ?_) (fun h => absurd h5 h)
            refine mm_iconst (v := 2) dX12_kindOf_46 (by decide) ?_
            refine mm_goto 51 dX12_kindOf_47 (by decide) ?_
            refine mm_iret dX12_kindOf_51 rfl rfl ?_ (by omega) (by omega)
            obtain rfl := fin1 hx
            exact ⟨rfl, rfl⟩
          · refine mm_icmp_eq 46 dX12_kindOf_31 (by decide) (fun h => absurd h h5) (fun _ => ?_)
            refine mm_iload_n dX12_kindOf_34 rfl ?_
            refine mm_bipush (v := 12) dX12_kindOf_35 (by decide) ?_
            refine b_if hx (fun h6 hx => ?_) (fun h6 hx => ?_)
            · refine mm_icmp_eq 46 dX12_kindOf_37 (by decide) (fun _ => ?_) (fun h => absurd h6 h)
              refine mm_iconst (v := 2) dX12_kindOf_46 (by decide) ?_
              refine mm_goto 51 dX12_kindOf_47 (by decide) ?_
              refine mm_iret dX12_kindOf_51 rfl rfl ?_ (by omega) (by omega)
              obtain rfl := fin1 hx
              exact ⟨rfl, rfl⟩
            · refine mm_icmp_eq 46 dX12_kindOf_37 (by decide) (fun h => absurd h h6) (fun _ => ?_)
              refine mm_iload_n dX12_kindOf_40 rfl ?_
              refine mm_bipush (v := 13) dX12_kindOf_41 (by decide) ?_
              refine b_if hx (fun h7 hx => ?_) (fun h7 hx => ?_)
              · refine mm_icmp_ne 50 dX12_kindOf_43 (by decide) (fun h => absurd h7 h) (fun _ => ?_)
                refine mm_iconst (v := 2) dX12_kindOf_46 (by decide) ?_
                refine mm_goto 51 dX12_kindOf_47 (by decide) ?_
                refine mm_iret dX12_kindOf_51 rfl rfl ?_ (by omega) (by omega)
                obtain rfl := fin1 hx
                exact ⟨rfl, rfl⟩
              · refine mm_icmp_ne 50 dX12_kindOf_43 (by decide) (fun _ => ?_) (fun h => absurd h h7)
                refine mm_iconst (v := 0) dX12_kindOf_50 (by decide) ?_
                refine mm_iret dX12_kindOf_51 rfl rfl ?_ (by omega) (by omega)
                obtain rfl := fin1 hx
                exact ⟨rfl, rfl⟩
set_option maxHeartbeats 4000000 in
set_option maxRecDepth 100000 in
theorem e_X12_rowOf_41 {g : mm_G} {l : Launch} (hst : l.stackTraces = false) {Z : Nat → Nat → Option Nat} (hZ : HZ Z) {n : Nat} (hn : 1186 ≤ n) {z : Bool} {d : Nat} {U : Nat} {a : Nat} (hs : sh a = 12) {k2 : Int32 → Option (Int32)} {v1_ : Int32} {v2_ : Int32} {v3_ : Int32} {σ : SG} {r : Int32} (hk2 : ∀ (v3_ : Int32), k2 v3_ = some r → mm_V g l RX12 "rowOf" cX12_rowOf 4 (some .int) [] (d) 0 0 (mm_nt (fun v S' => v = some (.int r) ∧ S' = (mem Z σ, n, z))) 2 [some (.ref a), some (.int v1_), some (.int v2_), some (.int v3_)] [] (mem Z σ, n, z) 0 0) (hx : x_X12_rowOf_41 U a k2 v1_ v2_ v3_ σ = some r) : mm_V g l RX12 "rowOf" cX12_rowOf 4 (some .int) [] (d) 0 0 (mm_nt (fun v S' => v = some (.int r) ∧ S' = (mem Z σ, n, z))) 41 [some (.ref a), some (.int v1_), some (.int v2_), some (.int v3_)] [] (mem Z σ, n, z) 0 0 := by
  unfold x_X12_rowOf_41 at hx
  refine mm_iinc (v := v3_ + 1) [some (.ref a), some (.int v1_), some (.int v2_), some (.int (v3_ + 1))] dX12_rowOf_41 rfl rfl (by decide) rfl ?_
  refine mm_goto 2 dX12_rowOf_44 (by decide) ?_
  exact hk2 _ hx
set_option maxHeartbeats 4000000 in
set_option maxRecDepth 100000 in
theorem e_X12_rowOf_L2 {g : mm_G} {l : Launch} (hst : l.stackTraces = false) {Z : Nat → Nat → Option Nat} (hZ : HZ Z) {n : Nat} (hn : 1186 ≤ n) {z : Bool} {d : Nat} {U : Nat} {a : Nat} (hs : sh a = 12) {v1_ : Int32} {v2_ : Int32} {σ : SG} {r : Int32} : ∀ (U1 : Nat) (v3_ : Int32), x_X12_rowOf_L2 U a v1_ v2_ σ U1 v3_ = some r → mm_V g l RX12 "rowOf" cX12_rowOf 4 (some .int) [] (d) 0 0 (mm_nt (fun v S' => v = some (.int r) ∧ S' = (mem Z σ, n, z))) 2 [some (.ref a), some (.int v1_), some (.int v2_), some (.int v3_)] [] (mem Z σ, n, z) 0 0 := by
  intro U1
  induction U1 with
  | zero => intro v3_ hx; exact absurd hx (by simp [x_X12_rowOf_L2])
  | succ U1 ih =>
    intro v3_ hx
    rw [x_X12_rowOf_L2] at hx
    refine mm_iload_n dX12_rowOf_2 rfl ?_
    refine mm_aload_n dX12_rowOf_3 rfl rfl ?_
    refine s_getI (r := some a) (b := a) (ci := 12) (k := 82) in_X12 rfl (by decide) rfl kF_X12_596 dX12_rowOf_4 rfl hs (by decide) hn (by decide) rfl ?_
    refine b_if hx (fun h1 hx => ?_) (fun h1 hx => ?_)
    · refine mm_icmp_ge 47 dX12_rowOf_7 (by decide) (fun h => absurd h (Int32.not_le.mpr h1)) (fun _ => ?_)
      refine mm_aload_n dX12_rowOf_10 rfl rfl ?_
      refine s_getS (q := 1171) (r := some a) (b := a) (ci := 12) (k := 97) in_X12 rfl (by decide) rfl kF_X12_223 dX12_rowOf_11 rfl hs (by decide) hn (by decide) rfl rfl ?_
      refine mm_iload_n dX12_rowOf_14 rfl ?_
      obtain ⟨j2, hj3, hb4, hl5, hx⟩ := ix_some hx
      refine s_zald (a := 1171) sa_1171 hn hj3 hb4 na_1171 dX12_rowOf_15 ?_
      refine b_if hx (fun h6 hx => ?_) (fun h6 hx => ?_)
      · refine mm_if_eq 41 dX12_rowOf_16 (by decide) (fun _ => ?_) (fun h => absurd h6 h)
        exact e_X12_rowOf_41 hst hZ hn hs ih hx
      · refine mm_if_eq 41 dX12_rowOf_16 (by decide) (fun h => absurd h h6) (fun _ => ?_)
        refine mm_aload_n dX12_rowOf_19 rfl rfl ?_
        refine s_getS (q := 1165) (r := some a) (b := a) (ci := 12) (k := 91) in_X12 rfl (by decide) rfl kF_X12_205 dX12_rowOf_20 rfl hs (by decide) hn (by decide) rfl rfl ?_
        refine mm_iload_n dX12_rowOf_23 rfl ?_
        obtain ⟨j7, hj8, hb9, hl10, hx⟩ := ix_some hx
        refine s_iald (a := 1165) sa_1165 hn hj8 hb9 na_1165 dX12_rowOf_24 ?_
        refine mm_iload_n dX12_rowOf_25 rfl ?_
        refine b_if hx (fun h11 hx => ?_) (fun h11 hx => ?_)
        · refine mm_icmp_ne 41 dX12_rowOf_26 (by decide) (fun h => absurd h11 h) (fun _ => ?_)
          refine mm_aload_n dX12_rowOf_29 rfl rfl ?_
          refine s_getS (q := 1166) (r := some a) (b := a) (ci := 12) (k := 92) in_X12 rfl (by decide) rfl kF_X12_208 dX12_rowOf_30 rfl hs (by decide) hn (by decide) rfl rfl ?_
          refine mm_iload_n dX12_rowOf_33 rfl ?_
          obtain ⟨j12, hj13, hb14, hl15, hx⟩ := ix_some hx
          refine s_iald (a := 1166) sa_1166 hn hj13 hb14 na_1166 dX12_rowOf_34 ?_
          refine mm_iload_n dX12_rowOf_35 rfl ?_
          refine b_if hx (fun h16 hx => ?_) (fun h16 hx => ?_)
          · refine mm_icmp_ne 41 dX12_rowOf_36 (by decide) (fun h => absurd h16 h) (fun _ => ?_)
            refine mm_iload_n dX12_rowOf_39 rfl ?_
            refine mm_iret dX12_rowOf_40 rfl rfl ?_ (by omega) (by omega)
            obtain rfl := fin1 hx
            exact ⟨rfl, rfl⟩
          · refine mm_icmp_ne 41 dX12_rowOf_36 (by decide) (fun _ => ?_) (fun h => absurd h h16)
            exact e_X12_rowOf_41 hst hZ hn hs ih hx
        · refine mm_icmp_ne 41 dX12_rowOf_26 (by decide) (fun _ => ?_) (fun h => absurd h h11)
          exact e_X12_rowOf_41 hst hZ hn hs ih hx
    · refine mm_icmp_ge 47 dX12_rowOf_7 (by decide) (fun _ => ?_) (fun h => absurd (Int32.not_lt.mp h1) h)
      refine mm_iconst (v := (-1)) dX12_rowOf_47 (by decide) ?_
      refine mm_iret dX12_rowOf_48 rfl rfl ?_ (by omega) (by omega)
      obtain rfl := fin1 hx
      exact ⟨rfl, rfl⟩
set_option maxHeartbeats 4000000 in
set_option maxRecDepth 100000 in
theorem e_X12_rowOf {g : mm_G} {l : Launch} (hst : l.stackTraces = false) {Z : Nat → Nat → Option Nat} (hZ : HZ Z) {n : Nat} (hn : 1186 ≤ n) {z : Bool} {d : Nat} {U : Nat} {a : Nat} (hs : sh a = 12) {p0 : Int32} {p1 : Int32} {σ : SG} {r : Int32} (hx : x_X12_rowOf U a p0 p1 σ = some r) : mm_Cm g l yX12_rowOf (.code yX12_rowOf cX12_rowOf 4 (some .int)) (d) 0 0 [.ref a, .int p0, .int p1] (mem Z σ, n, z) (fun v S' => v = some (.int r) ∧ S' = (mem Z σ, n, z)) := by
  refine mm_Cm_of hst (by decide) (Nat.le_of_ble_eq_true rfl) ?_
  show mm_V g l RX12 "rowOf" cX12_rowOf 4 (some .int) [] (d) 0 0 (mm_nt (fun v S' => v = some (.int r) ∧ S' = (mem Z σ, n, z))) 0 [some (.ref a), some (.int p0), some (.int p1), none] [] (mem Z σ, n, z) 0 0
  unfold x_X12_rowOf at hx
  refine mm_iconst (v := 0) dX12_rowOf_0 (by decide) ?_
  refine mm_istore_n [some (.ref a), some (.int p0), some (.int p1), some (.int 0)] dX12_rowOf_1 (by decide) rfl ?_
  refine e_X12_rowOf_L2 hst hZ hn hs _ _ hx
set_option maxHeartbeats 4000000 in
set_option maxRecDepth 100000 in
theorem e_X12_rowFor_116 {g : mm_G} {l : Launch} (hst : l.stackTraces = false) {Z : Nat → Nat → Option Nat} (hZ : HZ Z) {n : Nat} (hn : 1186 ≤ n) {z : Bool} {d : Nat} {U : Nat} {a : Nat} (hs : sh a = 12) {k18 : Int32 → SG → Option (Int32 × SG)} {k122 : SG → Option (Int32 × SG)} {v1_ : Int32} {v2_ : Int32} {v3_ : Int32} {σ : SG} {r : Int32} {σ' : SG} (hk18 : ∀ (v3_ : Int32) (σ8 : SG), k18 v3_ σ8 = some (r, σ') → mm_V g l RX12 "rowFor" cX12_rowFor 5 (some .int) [] (d + 1) 0 0 (mm_nt (fun v S' => v = some (.int r) ∧ S' = (mem Z σ', n, z))) 18 [some (.ref a), some (.int v1_), some (.int v2_), some (.int v3_), none] [] (mem Z σ8, n, z) 0 0) (hk122 : ∀ (σ8 : SG), k122 σ8 = some (r, σ') → mm_V g l RX12 "rowFor" cX12_rowFor 5 (some .int) [] (d + 1) 0 0 (mm_nt (fun v S' => v = some (.int r) ∧ S' = (mem Z σ', n, z))) 122 [some (.ref a), some (.int v1_), some (.int v2_), none, none] [] (mem Z σ8, n, z) 0 0) (hx : x_X12_rowFor_116 U a k18 k122 v1_ v2_ v3_ σ = some (r, σ')) : mm_V g l RX12 "rowFor" cX12_rowFor 5 (some .int) [] (d + 1) 0 0 (mm_nt (fun v S' => v = some (.int r) ∧ S' = (mem Z σ', n, z))) 116 [some (.ref a), some (.int v1_), some (.int v2_), some (.int v3_), none] [] (mem Z σ, n, z) 0 0 := by
  unfold x_X12_rowFor_116 at hx
  refine mm_iinc (v := v3_ + 1) [some (.ref a), some (.int v1_), some (.int v2_), some (.int (v3_ + 1)), none] dX12_rowFor_116 rfl rfl (by decide) rfl ?_
  refine mm_goto 18 dX12_rowFor_119 (by decide) ?_
  exact hk18 _ _ hx
set_option maxHeartbeats 4000000 in
set_option maxRecDepth 100000 in
theorem e_X12_rowFor_109 {g : mm_G} {l : Launch} (hst : l.stackTraces = false) {Z : Nat → Nat → Option Nat} (hZ : HZ Z) {n : Nat} (hn : 1186 ≤ n) {z : Bool} {d : Nat} {U : Nat} {a : Nat} (hs : sh a = 12) {k18 : Int32 → SG → Option (Int32 × SG)} {k122 : SG → Option (Int32 × SG)} {v1_ : Int32} {v2_ : Int32} {v3_ : Int32} {σ : SG} {r : Int32} {σ' : SG} (hk18 : ∀ (v3_ : Int32) (σ8 : SG), k18 v3_ σ8 = some (r, σ') → mm_V g l RX12 "rowFor" cX12_rowFor 5 (some .int) [] (d + 1) 0 0 (mm_nt (fun v S' => v = some (.int r) ∧ S' = (mem Z σ', n, z))) 18 [some (.ref a), some (.int v1_), some (.int v2_), some (.int v3_), none] [] (mem Z σ8, n, z) 0 0) (hk122 : ∀ (σ8 : SG), k122 σ8 = some (r, σ') → mm_V g l RX12 "rowFor" cX12_rowFor 5 (some .int) [] (d + 1) 0 0 (mm_nt (fun v S' => v = some (.int r) ∧ S' = (mem Z σ', n, z))) 122 [some (.ref a), some (.int v1_), some (.int v2_), none, none] [] (mem Z σ8, n, z) 0 0) (hx : x_X12_rowFor_109 U a k18 k122 v1_ v2_ v3_ σ = some (r, σ')) : mm_V g l RX12 "rowFor" cX12_rowFor 5 (some .int) [] (d + 1) 0 0 (mm_nt (fun v S' => v = some (.int r) ∧ S' = (mem Z σ', n, z))) 109 [some (.ref a), some (.int v1_), some (.int v2_), some (.int v3_), none] [] (mem Z σ, n, z) 0 0 := by
  unfold x_X12_rowFor_109 at hx
  refine mm_aload_n dX12_rowFor_109 rfl rfl ?_
  refine s_getS (q := 1171) (r := some a) (b := a) (ci := 12) (k := 97) in_X12 rfl (by decide) rfl kF_X12_223 dX12_rowFor_110 rfl hs (by decide) hn (by decide) rfl rfl ?_
  refine mm_iload_n dX12_rowFor_113 rfl ?_
  refine mm_iconst (v := 0) dX12_rowFor_114 (by decide) ?_
  obtain ⟨j28, hj29, hb30, hl31, hx⟩ := ix_some hx
  refine s_zast (a := 1171) (v := 0) sa_1171 hn hj29 hb30 na_1171 dX12_rowFor_115 hx (fun σ32 hx => ?_)
  exact e_X12_rowFor_116 hst hZ hn hs hk18 hk122 hx
set_option maxHeartbeats 4000000 in
set_option maxRecDepth 100000 in
theorem e_X12_rowFor_71 {g : mm_G} {l : Launch} (hst : l.stackTraces = false) {Z : Nat → Nat → Option Nat} (hZ : HZ Z) {n : Nat} (hn : 1186 ≤ n) {z : Bool} {d : Nat} {U : Nat} {a : Nat} (hs : sh a = 12) {k18 : Int32 → SG → Option (Int32 × SG)} {k122 : SG → Option (Int32 × SG)} {v1_ : Int32} {v2_ : Int32} {v3_ : Int32} {s0_ : Int32} {σ : SG} {r : Int32} {σ' : SG} (hk18 : ∀ (v3_ : Int32) (σ8 : SG), k18 v3_ σ8 = some (r, σ') → mm_V g l RX12 "rowFor" cX12_rowFor 5 (some .int) [] (d + 1) 0 0 (mm_nt (fun v S' => v = some (.int r) ∧ S' = (mem Z σ', n, z))) 18 [some (.ref a), some (.int v1_), some (.int v2_), some (.int v3_), none] [] (mem Z σ8, n, z) 0 0) (hk122 : ∀ (σ8 : SG), k122 σ8 = some (r, σ') → mm_V g l RX12 "rowFor" cX12_rowFor 5 (some .int) [] (d + 1) 0 0 (mm_nt (fun v S' => v = some (.int r) ∧ S' = (mem Z σ', n, z))) 122 [some (.ref a), some (.int v1_), some (.int v2_), none, none] [] (mem Z σ8, n, z) 0 0) (hx : x_X12_rowFor_71 U a k18 k122 v1_ v2_ v3_ s0_ σ = some (r, σ')) : mm_V g l RX12 "rowFor" cX12_rowFor 5 (some .int) [] (d + 1) 0 0 (mm_nt (fun v S' => v = some (.int r) ∧ S' = (mem Z σ', n, z))) 71 [some (.ref a), some (.int v1_), some (.int v2_), some (.int v3_), none] [.int s0_] (mem Z σ, n, z) 0 0 := by
  unfold x_X12_rowFor_71 at hx
  refine mm_istore [some (.ref a), some (.int v1_), some (.int v2_), some (.int v3_), some (.int s0_)] dX12_rowFor_71 (by decide) rfl ?_
  refine mm_aload_n dX12_rowFor_73 rfl rfl ?_
  refine s_getS (q := 1165) (r := some a) (b := a) (ci := 12) (k := 91) in_X12 rfl (by decide) rfl kF_X12_205 dX12_rowFor_74 rfl hs (by decide) hn (by decide) rfl rfl ?_
  refine mm_iload_n dX12_rowFor_77 rfl ?_
  obtain ⟨j12, hj13, hb14, hl15, hx⟩ := ix_some hx
  refine s_iald (a := 1165) sa_1165 hn hj13 hb14 na_1165 dX12_rowFor_78 ?_
  refine mm_iload_n dX12_rowFor_79 rfl ?_
  refine b_if hx (fun h16 hx => ?_) (fun h16 hx => ?_)
  · refine mm_icmp_ne 116 dX12_rowFor_80 (by decide) (fun h => absurd h16 h) (fun _ => ?_)
    refine mm_iload dX12_rowFor_83 rfl ?_
    refine b_if hx (fun h17 hx => ?_) (fun h17 hx => ?_)
    · refine mm_if_ne 109 dX12_rowFor_85 (by decide) (fun h => absurd h17 h) (fun _ => ?_)
      refine mm_aload_n dX12_rowFor_88 rfl rfl ?_
      refine s_getS (q := 1166) (r := some a) (b := a) (ci := 12) (k := 92) in_X12 rfl (by decide) rfl kF_X12_208 dX12_rowFor_89 rfl hs (by decide) hn (by decide) rfl rfl ?_
      refine mm_iload_n dX12_rowFor_92 rfl ?_
      obtain ⟨j18, hj19, hb20, hl21, hx⟩ := ix_some hx
      refine s_iald (a := 1166) sa_1166 hn hj19 hb20 na_1166 dX12_rowFor_93 ?_
      refine mm_iload_n dX12_rowFor_94 rfl ?_
      refine b_if hx (fun h22 hx => ?_) (fun h22 hx => ?_)
      · refine mm_icmp_ne 116 dX12_rowFor_95 (by decide) (fun h => absurd h22 h) (fun _ => ?_)
        refine mm_aload_n dX12_rowFor_98 rfl rfl ?_
        refine s_getS (q := 1118) (r := some a) (b := a) (ci := 12) (k := 21) in_X12 rfl (by decide) rfl kF_X12_62 dX12_rowFor_99 rfl hs (by decide) hn (by decide) rfl rfl ?_
        refine mm_iload_n dX12_rowFor_102 rfl ?_
        obtain ⟨j23, hj24, hb25, hl26, hx⟩ := ix_some hx
        refine s_iald (a := 1118) sa_1118 hn hj24 hb25 na_1118 dX12_rowFor_103 ?_
        refine mm_bipush (v := 13) dX12_rowFor_104 (by decide) ?_
        refine b_if hx (fun h27 hx => ?_) (fun h27 hx => ?_)
        · refine mm_icmp_eq 116 dX12_rowFor_106 (by decide) (fun _ => ?_) (fun h => absurd h27 h)
          refine mm_fewer [some (.ref a), some (.int v1_), some (.int v2_), some (.int v3_), none] (few_ok (bs := [true, true, true, true, false]) rfl) ?_
          exact e_X12_rowFor_116 hst hZ hn hs hk18 hk122 hx
        · refine mm_icmp_eq 116 dX12_rowFor_106 (by decide) (fun h => absurd h h27) (fun _ => ?_)
          refine mm_fewer [some (.ref a), some (.int v1_), some (.int v2_), some (.int v3_), none] (few_ok (bs := [true, true, true, true, false]) rfl) ?_
          exact e_X12_rowFor_109 hst hZ hn hs hk18 hk122 hx
      · refine mm_icmp_ne 116 dX12_rowFor_95 (by decide) (fun _ => ?_) (fun h => absurd h h22)
        refine mm_fewer [some (.ref a), some (.int v1_), some (.int v2_), some (.int v3_), none] (few_ok (bs := [true, true, true, true, false]) rfl) ?_
        exact e_X12_rowFor_116 hst hZ hn hs hk18 hk122 hx
    · refine mm_if_ne 109 dX12_rowFor_85 (by decide) (fun _ => ?_) (fun h => absurd h h17)
      refine mm_fewer [some (.ref a), some (.int v1_), some (.int v2_), some (.int v3_), none] (few_ok (bs := [true, true, true, true, false]) rfl) ?_
      exact e_X12_rowFor_109 hst hZ hn hs hk18 hk122 hx
  · refine mm_icmp_ne 116 dX12_rowFor_80 (by decide) (fun _ => ?_) (fun h => absurd h h16)
    refine mm_fewer [some (.ref a), some (.int v1_), some (.int v2_), some (.int v3_), none] (few_ok (bs := [true, true, true, true, false]) rfl) ?_
    exact e_X12_rowFor_116 hst hZ hn hs hk18 hk122 hx
set_option maxHeartbeats 4000000 in
set_option maxRecDepth 100000 in
theorem e_X12_rowFor_70 {g : mm_G} {l : Launch} (hst : l.stackTraces = false) {Z : Nat → Nat → Option Nat} (hZ : HZ Z) {n : Nat} (hn : 1186 ≤ n) {z : Bool} {d : Nat} {U : Nat} {a : Nat} (hs : sh a = 12) {k18 : Int32 → SG → Option (Int32 × SG)} {k122 : SG → Option (Int32 × SG)} {v1_ : Int32} {v2_ : Int32} {v3_ : Int32} {σ : SG} {r : Int32} {σ' : SG} (hk18 : ∀ (v3_ : Int32) (σ8 : SG), k18 v3_ σ8 = some (r, σ') → mm_V g l RX12 "rowFor" cX12_rowFor 5 (some .int) [] (d + 1) 0 0 (mm_nt (fun v S' => v = some (.int r) ∧ S' = (mem Z σ', n, z))) 18 [some (.ref a), some (.int v1_), some (.int v2_), some (.int v3_), none] [] (mem Z σ8, n, z) 0 0) (hk122 : ∀ (σ8 : SG), k122 σ8 = some (r, σ') → mm_V g l RX12 "rowFor" cX12_rowFor 5 (some .int) [] (d + 1) 0 0 (mm_nt (fun v S' => v = some (.int r) ∧ S' = (mem Z σ', n, z))) 122 [some (.ref a), some (.int v1_), some (.int v2_), none, none] [] (mem Z σ8, n, z) 0 0) (hx : x_X12_rowFor_70 U a k18 k122 v1_ v2_ v3_ σ = some (r, σ')) : mm_V g l RX12 "rowFor" cX12_rowFor 5 (some .int) [] (d + 1) 0 0 (mm_nt (fun v S' => v = some (.int r) ∧ S' = (mem Z σ', n, z))) 70 [some (.ref a), some (.int v1_), some (.int v2_), some (.int v3_), none] [] (mem Z σ, n, z) 0 0 := by
  unfold x_X12_rowFor_70 at hx
  refine mm_iconst (v := 0) dX12_rowFor_70 (by decide) ?_
  exact e_X12_rowFor_71 hst hZ hn hs hk18 hk122 hx
set_option maxHeartbeats 4000000 in
set_option maxRecDepth 100000 in
theorem e_X12_rowFor_L18 {g : mm_G} {l : Launch} (hst : l.stackTraces = false) {Z : Nat → Nat → Option Nat} (hZ : HZ Z) {n : Nat} (hn : 1186 ≤ n) {z : Bool} {d : Nat} {U : Nat} {a : Nat} (hs : sh a = 12) {k122 : SG → Option (Int32 × SG)} {v1_ : Int32} {v2_ : Int32} {r : Int32} {σ' : SG} (hk122 : ∀ (σ8 : SG), k122 σ8 = some (r, σ') → mm_V g l RX12 "rowFor" cX12_rowFor 5 (some .int) [] (d + 1) 0 0 (mm_nt (fun v S' => v = some (.int r) ∧ S' = (mem Z σ', n, z))) 122 [some (.ref a), some (.int v1_), some (.int v2_), none, none] [] (mem Z σ8, n, z) 0 0) : ∀ (U1 : Nat) (v3_ : Int32) (σ : SG), x_X12_rowFor_L18 U a k122 v1_ v2_ U1 v3_ σ = some (r, σ') → mm_V g l RX12 "rowFor" cX12_rowFor 5 (some .int) [] (d + 1) 0 0 (mm_nt (fun v S' => v = some (.int r) ∧ S' = (mem Z σ', n, z))) 18 [some (.ref a), some (.int v1_), some (.int v2_), some (.int v3_), none] [] (mem Z σ, n, z) 0 0 := by
  intro U1
  induction U1 with
  | zero => intro v3_ σ hx; exact absurd hx (by simp [x_X12_rowFor_L18])
  | succ U1 ih =>
    intro v3_ σ hx
    rw [x_X12_rowFor_L18] at hx
    refine mm_iload_n dX12_rowFor_18 rfl ?_
    refine mm_aload_n dX12_rowFor_19 rfl rfl ?_
    refine s_getI (r := some a) (b := a) (ci := 12) (k := 82) in_X12 rfl (by decide) rfl kF_X12_596 dX12_rowFor_20 rfl hs (by decide) hn (by decide) rfl ?_
    refine b_if hx (fun h6 hx => ?_) (fun h6 hx => ?_)
    · refine mm_icmp_ge 122 dX12_rowFor_23 (by decide) (fun h => absurd h (Int32.not_le.mpr h6)) (fun _ => ?_)
      refine mm_aload_n dX12_rowFor_26 rfl rfl ?_
      refine s_getS (q := 1166) (r := some a) (b := a) (ci := 12) (k := 92) in_X12 rfl (by decide) rfl kF_X12_208 dX12_rowFor_27 rfl hs (by decide) hn (by decide) rfl rfl ?_
      refine mm_iload_n dX12_rowFor_30 rfl ?_
      obtain ⟨j7, hj8, hb9, hl10, hx⟩ := ix_some hx
      refine s_iald (a := 1166) sa_1166 hn hj8 hb9 na_1166 dX12_rowFor_31 ?_
      refine mm_iload_n dX12_rowFor_32 rfl ?_
      refine b_if hx (fun h11 hx => ?_) (fun h11 hx => ?_)
      · refine mm_icmp_eq 70 dX12_rowFor_33 (by decide) (fun _ => ?_) (fun h => absurd h11 h)
        exact e_X12_rowFor_70 hst hZ hn hs ih hk122 hx
      · refine mm_icmp_eq 70 dX12_rowFor_33 (by decide) (fun h => absurd h h11) (fun _ => ?_)
        refine mm_aload_n dX12_rowFor_36 rfl rfl ?_
        refine s_getS (q := 1122) (r := some a) (b := a) (ci := 12) (k := 25) in_X12 rfl (by decide) rfl kF_X12_75 dX12_rowFor_37 rfl hs (by decide) hn (by decide) rfl rfl ?_
        refine mm_iload_n dX12_rowFor_40 rfl ?_
        obtain ⟨j33, hj34, hb35, hl36, hx⟩ := ix_some hx
        refine s_iald (a := 1122) sa_1122 hn hj34 hb35 na_1122 dX12_rowFor_41 ?_
        refine mm_iconst (v := (-1)) dX12_rowFor_42 (by decide) ?_
        refine b_if hx (fun h37 hx => ?_) (fun h37 hx => ?_)
        · refine mm_icmp_eq 70 dX12_rowFor_43 (by decide) (fun _ => ?_) (fun h => absurd h37 h)
          exact e_X12_rowFor_70 hst hZ hn hs ih hk122 hx
        · refine mm_icmp_eq 70 dX12_rowFor_43 (by decide) (fun h => absurd h h37) (fun _ => ?_)
          refine mm_aload_n dX12_rowFor_46 rfl rfl ?_
          refine s_getS (q := 1122) (r := some a) (b := a) (ci := 12) (k := 25) in_X12 rfl (by decide) rfl kF_X12_75 dX12_rowFor_47 rfl hs (by decide) hn (by decide) rfl rfl ?_
          refine mm_aload_n dX12_rowFor_50 rfl rfl ?_
          refine s_getS (q := 1166) (r := some a) (b := a) (ci := 12) (k := 92) in_X12 rfl (by decide) rfl kF_X12_208 dX12_rowFor_51 rfl hs (by decide) hn (by decide) rfl rfl ?_
          refine mm_iload_n dX12_rowFor_54 rfl ?_
          obtain ⟨j38, hj39, hb40, hl41, hx⟩ := ix_some hx
          refine s_iald (a := 1166) sa_1166 hn hj39 hb40 na_1166 dX12_rowFor_55 ?_
          obtain ⟨j42, hj43, hb44, hl45, hx⟩ := ix_some hx
          refine s_iald (a := 1122) sa_1122 hn hj43 hb44 na_1122 dX12_rowFor_56 ?_
          refine mm_aload_n dX12_rowFor_57 rfl rfl ?_
          refine s_getS (q := 1122) (r := some a) (b := a) (ci := 12) (k := 25) in_X12 rfl (by decide) rfl kF_X12_75 dX12_rowFor_58 rfl hs (by decide) hn (by decide) rfl rfl ?_
          refine mm_iload_n dX12_rowFor_61 rfl ?_
          obtain ⟨j46, hj47, hb48, hl49, hx⟩ := ix_some hx
          refine s_iald (a := 1122) sa_1122 hn hj47 hb48 na_1122 dX12_rowFor_62 ?_
          refine b_if hx (fun h50 hx => ?_) (fun h50 hx => ?_)
          · refine mm_icmp_ne 70 dX12_rowFor_63 (by decide) (fun h => absurd h50 h) (fun _ => ?_)
            refine mm_iconst (v := 1) dX12_rowFor_66 (by decide) ?_
            refine mm_goto 71 dX12_rowFor_67 (by decide) ?_
            exact e_X12_rowFor_71 hst hZ hn hs ih hk122 hx
          · refine mm_icmp_ne 70 dX12_rowFor_63 (by decide) (fun _ => ?_) (fun h => absurd h h50)
            exact e_X12_rowFor_70 hst hZ hn hs ih hk122 hx
    · refine mm_icmp_ge 122 dX12_rowFor_23 (by decide) (fun _ => ?_) (fun h => absurd (Int32.not_lt.mp h6) h)
      refine mm_fewer [some (.ref a), some (.int v1_), some (.int v2_), none, none] (few_ok (bs := [true, true, true, false, false]) rfl) ?_
      exact hk122  _ hx
set_option maxHeartbeats 4000000 in
set_option maxRecDepth 100000 in
theorem e_X12_rowFor {g : mm_G} {l : Launch} (hst : l.stackTraces = false) {Z : Nat → Nat → Option Nat} (hZ : HZ Z) {n : Nat} (hn : 1186 ≤ n) {z : Bool} {d : Nat} {U : Nat} {a : Nat} (hs : sh a = 12) {p0 : Int32} {p1 : Int32} {σ : SG} {r : Int32} {σ' : SG} (hx : x_X12_rowFor U a p0 p1 σ = some (r, σ')) : mm_Cm g l yX12_rowFor (.code yX12_rowFor cX12_rowFor 5 (some .int)) (d + 1) 0 0 [.ref a, .int p0, .int p1] (mem Z σ, n, z) (fun v S' => v = some (.int r) ∧ S' = (mem Z σ', n, z)) := by
  refine mm_Cm_of hst (by decide) (Nat.le_of_ble_eq_true rfl) ?_
  show mm_V g l RX12 "rowFor" cX12_rowFor 5 (some .int) [] (d + 1) 0 0 (mm_nt (fun v S' => v = some (.int r) ∧ S' = (mem Z σ', n, z))) 0 [some (.ref a), some (.int p0), some (.int p1), none, none] [] (mem Z σ, n, z) 0 0
  unfold x_X12_rowFor at hx
  refine mm_aload_n dX12_rowFor_0 rfl rfl ?_
  refine s_getS (q := 1120) (r := some a) (b := a) (ci := 12) (k := 23) in_X12 rfl (by decide) rfl kF_X12_68 dX12_rowFor_1 rfl hs (by decide) hn (by decide) rfl rfl ?_
  refine mm_iload_n dX12_rowFor_4 rfl ?_
  obtain ⟨j1, hj2, hb3, hl4, hx⟩ := ix_some hx
  refine s_zald (a := 1120) sa_1120 hn hj2 hb3 na_1120 dX12_rowFor_5 ?_
  refine b_if hx (fun h5 hx => ?_) (fun h5 hx => ?_)
  · refine mm_if_eq 16 dX12_rowFor_6 (by decide) (fun _ => ?_) (fun h => absurd h5 h)
    refine mm_iconst (v := 0) dX12_rowFor_16 (by decide) ?_
    refine mm_istore_n [some (.ref a), some (.int p0), some (.int p1), some (.int 0), none] dX12_rowFor_17 (by decide) rfl ?_
    refine e_X12_rowFor_L18 hst hZ hn hs ?_ _ _ _ hx
    · intro  σ51 hx
      refine mm_aload_n dX12_rowFor_122 rfl rfl ?_
      refine mm_iload_n dX12_rowFor_123 rfl ?_
      refine mm_iload_n dX12_rowFor_124 rfl ?_
      obtain ⟨v53, hc52, hx⟩ := b1_some hx
      refine mm_callV3 (a := a) (ci := 12) wM_X12_rowOf kM_X12_614 wI_X12_rowOf wS_X12_rowOf dX12_rowFor_125 (e_X12_rowOf hst hZ hn hs hc52) (mem_obj hs (by decide)) (sh_ltn hs (by decide) hn) rfl rfl rfl (Nat.le_of_ble_eq_true rfl) (by omega) (by omega) (fun v9 S9 hq => ?_)
      obtain ⟨rfl, rfl⟩ := hq
      refine ⟨fun h => ⟨h, rfl⟩, ?_⟩
      refine mm_istore_n [some (.ref a), some (.int p0), some (.int p1), some (.int v53), none] dX12_rowFor_128 (by decide) rfl ?_
      refine mm_iload_n dX12_rowFor_129 rfl ?_
      refine mm_iconst (v := (-1)) dX12_rowFor_130 (by decide) ?_
      refine b_if hx (fun h54 hx => ?_) (fun h54 hx => ?_)
      · refine mm_icmp_ne 143 dX12_rowFor_131 (by decide) (fun h => absurd h54 h) (fun _ => ?_)
        refine mm_aload_n dX12_rowFor_134 rfl rfl ?_
        refine mm_iload_n dX12_rowFor_135 rfl ?_
        refine mm_iload_n dX12_rowFor_136 rfl ?_
        obtain ⟨v56, σ57, hc55, hx⟩ := b2_some hx
        refine mm_callV3 (a := a) (ci := 12) wM_X12_addRow kM_X12_611 wI_X12_addRow wS_X12_addRow dX12_rowFor_137 (e_X12_addRow hst hZ hn hs hc55) (mem_obj hs (by decide)) (sh_ltn hs (by decide) hn) rfl rfl rfl (Nat.le_of_ble_eq_true rfl) (by omega) (by omega) (fun v9 S9 hq => ?_)
        obtain ⟨rfl, rfl⟩ := hq
        refine ⟨fun h => ⟨h, rfl⟩, ?_⟩
        refine mm_goto 144 dX12_rowFor_140 (by decide) ?_
        refine mm_iret dX12_rowFor_144 rfl rfl ?_ (by omega) (by omega)
        obtain ⟨rfl, rfl⟩ := fin2 hx
        exact ⟨rfl, rfl⟩
      · refine mm_icmp_ne 143 dX12_rowFor_131 (by decide) (fun _ => ?_) (fun h => absurd h h54)
        refine mm_iload_n dX12_rowFor_143 rfl ?_
        refine mm_iret dX12_rowFor_144 rfl rfl ?_ (by omega) (by omega)
        obtain ⟨rfl, rfl⟩ := fin2 hx
        exact ⟨rfl, rfl⟩
  · refine mm_if_eq 16 dX12_rowFor_6 (by decide) (fun h => absurd h h5) (fun _ => ?_)
    refine mm_aload_n dX12_rowFor_9 rfl rfl ?_
    refine mm_iload_n dX12_rowFor_10 rfl ?_
    refine mm_iload_n dX12_rowFor_11 rfl ?_
    obtain ⟨v59, σ60, hc58, hx⟩ := b2_some hx
    refine mm_callV3 (a := a) (ci := 12) wM_X12_addRow kM_X12_611 wI_X12_addRow wS_X12_addRow dX12_rowFor_12 (e_X12_addRow hst hZ hn hs hc58) (mem_obj hs (by decide)) (sh_ltn hs (by decide) hn) rfl rfl rfl (Nat.le_of_ble_eq_true rfl) (by omega) (by omega) (fun v9 S9 hq => ?_)
    obtain ⟨rfl, rfl⟩ := hq
    refine ⟨fun h => ⟨h, rfl⟩, ?_⟩
    refine mm_iret dX12_rowFor_15 rfl rfl ?_ (by omega) (by omega)
    obtain ⟨rfl, rfl⟩ := fin2 hx
    exact ⟨rfl, rfl⟩
set_option maxHeartbeats 4000000 in
set_option maxRecDepth 100000 in
theorem e_X12_putMessage_42 {g : mm_G} {l : Launch} (hst : l.stackTraces = false) {Z : Nat → Nat → Option Nat} (hZ : HZ Z) {n : Nat} (hn : 1186 ≤ n) {z : Bool} {d : Nat} {U : Nat} {a : Nat} (hs : sh a = 12) {v3_ : Int32} {σ : SG} {r : Int32} {σ' : SG} (hx : x_X12_putMessage_42 U a v3_ σ = some (r, σ')) : mm_V g l RX12 "putMessage" cX12_putMessage 4 (some .int) [] (d + 2) 0 0 (mm_nt (fun v S' => v = some (.int r) ∧ S' = (mem Z σ', n, z))) 42 [some (.ref a), none, none, some (.int v3_)] [] (mem Z σ, n, z) 0 0 := by
  unfold x_X12_putMessage_42 at hx
  refine mm_aload_n dX12_putMessage_42 rfl rfl ?_
  refine s_getS (q := 1170) (r := some a) (b := a) (ci := 12) (k := 96) in_X12 rfl (by decide) rfl kF_X12_220 dX12_putMessage_43 rfl hs (by decide) hn (by decide) rfl rfl ?_
  refine mm_iload_n dX12_putMessage_46 rfl ?_
  obtain ⟨j25, hj26, hb27, hl28, hx⟩ := ix_some hx
  refine s_iald (a := 1170) sa_1170 hn hj26 hb27 na_1170 dX12_putMessage_47 ?_
  refine mm_iret dX12_putMessage_48 rfl rfl ?_ (by omega) (by omega)
  obtain ⟨rfl, rfl⟩ := fin2 hx
  exact ⟨rfl, rfl⟩
set_option maxHeartbeats 4000000 in
set_option maxRecDepth 100000 in
theorem e_X12_putMessage {g : mm_G} {l : Launch} (hst : l.stackTraces = false) {Z : Nat → Nat → Option Nat} (hZ : HZ Z) {n : Nat} (hn : 1186 ≤ n) {z : Bool} {d : Nat} {U : Nat} {a : Nat} (hs : sh a = 12) {p0 : Int32} {p1 : Int32} {σ : SG} {r : Int32} {σ' : SG} (hx : x_X12_putMessage U a p0 p1 σ = some (r, σ')) : mm_Cm g l yX12_putMessage (.code yX12_putMessage cX12_putMessage 4 (some .int)) (d + 2) 0 0 [.ref a, .int p0, .int p1] (mem Z σ, n, z) (fun v S' => v = some (.int r) ∧ S' = (mem Z σ', n, z)) := by
  refine mm_Cm_of hst (by decide) (Nat.le_of_ble_eq_true rfl) ?_
  show mm_V g l RX12 "putMessage" cX12_putMessage 4 (some .int) [] (d + 2) 0 0 (mm_nt (fun v S' => v = some (.int r) ∧ S' = (mem Z σ', n, z))) 0 [some (.ref a), some (.int p0), some (.int p1), none] [] (mem Z σ, n, z) 0 0
  unfold x_X12_putMessage at hx
  refine mm_aload_n dX12_putMessage_0 rfl rfl ?_
  refine mm_iload_n dX12_putMessage_1 rfl ?_
  refine mm_iload_n dX12_putMessage_2 rfl ?_
  obtain ⟨v2, σ3, hc1, hx⟩ := b2_some hx
  refine mm_callV3 (a := a) (ci := 12) wM_X12_rowFor kM_X12_617 wI_X12_rowFor wS_X12_rowFor dX12_putMessage_3 (e_X12_rowFor hst hZ hn hs hc1) (mem_obj hs (by decide)) (sh_ltn hs (by decide) hn) rfl rfl rfl (Nat.le_of_ble_eq_true rfl) (by omega) (by omega) (fun v9 S9 hq => ?_)
  obtain ⟨rfl, rfl⟩ := hq
  refine ⟨fun h => ⟨h, rfl⟩, ?_⟩
  refine mm_istore_n [some (.ref a), some (.int p0), some (.int p1), some (.int v2)] dX12_putMessage_6 (by decide) rfl ?_
  refine mm_aload_n dX12_putMessage_7 rfl rfl ?_
  refine s_getS (q := 1170) (r := some a) (b := a) (ci := 12) (k := 96) in_X12 rfl (by decide) rfl kF_X12_220 dX12_putMessage_8 rfl hs (by decide) hn (by decide) rfl rfl ?_
  refine mm_iload_n dX12_putMessage_11 rfl ?_
  obtain ⟨j4, hj5, hb6, hl7, hx⟩ := ix_some hx
  refine s_iald (a := 1170) sa_1170 hn hj5 hb6 na_1170 dX12_putMessage_12 ?_
  refine mm_iconst (v := (-1)) dX12_putMessage_13 (by decide) ?_
  refine b_if hx (fun h8 hx => ?_) (fun h8 hx => ?_)
  · refine mm_icmp_ne 42 dX12_putMessage_14 (by decide) (fun h => absurd h8 h) (fun _ => ?_)
    refine mm_aload_n dX12_putMessage_17 rfl rfl ?_
    refine s_getS (q := 1170) (r := some a) (b := a) (ci := 12) (k := 96) in_X12 rfl (by decide) rfl kF_X12_220 dX12_putMessage_18 rfl hs (by decide) hn (by decide) rfl rfl ?_
    refine mm_iload_n dX12_putMessage_21 rfl ?_
    refine mm_aload_n dX12_putMessage_22 rfl rfl ?_
    refine mm_aload_n dX12_putMessage_23 rfl rfl ?_
    refine s_getS (q := 1119) (r := some a) (b := a) (ci := 12) (k := 22) in_X12 rfl (by decide) rfl kF_X12_65 dX12_putMessage_24 rfl hs (by decide) hn (by decide) rfl rfl ?_
    refine mm_iload_n dX12_putMessage_27 rfl ?_
    obtain ⟨j9, hj10, hb11, hl12, hx⟩ := ix_some hx
    refine s_iald (a := 1119) sa_1119 hn hj10 hb11 na_1119 dX12_putMessage_28 ?_
    refine mm_iload_n dX12_putMessage_29 rfl ?_
    refine mm_aload_n dX12_putMessage_30 rfl rfl ?_
    refine s_getS (q := 1162) (r := some a) (b := a) (ci := 12) (k := 88) in_X12 rfl (by decide) rfl kF_X12_196 dX12_putMessage_31 rfl hs (by decide) hn (by decide) rfl rfl ?_
    refine mm_iload_n dX12_putMessage_34 rfl ?_
    obtain ⟨j13, hj14, hb15, hl16, hx⟩ := ix_some hx
    refine s_iald (a := 1162) sa_1162 hn hj14 hb15 na_1162 dX12_putMessage_35 ?_
    refine mm_iconst (v := 1) dX12_putMessage_36 (by decide) ?_
    refine mm_iadd dX12_putMessage_37 ?_
    obtain ⟨v18, σ19, hc17, hx⟩ := b2_some hx
    refine mm_callV3 (a := a) (ci := 12) wM_X12_addNode kM_X12_608 wI_X12_addNode wS_X12_addNode dX12_putMessage_38 (e_X12_addNode hst hZ hn hs hc17) (mem_obj hs (by decide)) (sh_ltn hs (by decide) hn) rfl rfl rfl (Nat.le_of_ble_eq_true rfl) (by omega) (by omega) (fun v9 S9 hq => ?_)
    obtain ⟨rfl, rfl⟩ := hq
    refine ⟨fun h => ⟨h, rfl⟩, ?_⟩
    obtain ⟨j20, hj21, hb22, hl23, hx⟩ := ix_some hx
    refine s_iast (a := 1170) (v := v18) sa_1170 hn hj21 hb22 na_1170 dX12_putMessage_41 hx (fun σ24 hx => ?_)
    refine mm_fewer [some (.ref a), none, none, some (.int v2)] (few_ok (bs := [true, false, false, true]) rfl) ?_
    exact e_X12_putMessage_42 hst hZ hn hs hx
  · refine mm_icmp_ne 42 dX12_putMessage_14 (by decide) (fun _ => ?_) (fun h => absurd h h8)
    refine mm_fewer [some (.ref a), none, none, some (.int v2)] (few_ok (bs := [true, false, false, true]) rfl) ?_
    exact e_X12_putMessage_42 hst hZ hn hs hx
set_option maxHeartbeats 4000000 in
set_option maxRecDepth 100000 in
theorem e_X12_isUtf8_L133 {g : mm_G} {l : Launch} (hst : l.stackTraces = false) {Z : Nat → Nat → Option Nat} (hZ : HZ Z) {n : Nat} (hn : 1186 ≤ n) {z : Bool} {d : Nat} {U : Nat} {a : Nat} (hs : sh a = 12) {k187 : Int32 → Option (Int32)} {v1_ : Int32} {v2_ : Int32} {v3_ : Int32} {v5_ : Int32} {σ : SG} {r : Int32} (hk187 : ∀ (v6_ : Int32), k187 v6_ = some r → mm_V g l RX12 "isUtf8" cX12_isUtf8 8 (some .boolean) [] (d) 0 0 (mm_nt (fun v S' => v = some (.int r) ∧ S' = (mem Z σ, n, z))) 187 [some (.ref a), some (.int v1_), some (.int v2_), some (.int v3_), none, some (.int v5_), some (.int v6_), none] [] (mem Z σ, n, z) 0 0) : ∀ (U1 : Nat) (v6_ : Int32) (v7_ : Int32), x_X12_isUtf8_L133 U a k187 v1_ v2_ v3_ v5_ σ U1 v6_ v7_ = some r → mm_V g l RX12 "isUtf8" cX12_isUtf8 8 (some .boolean) [] (d) 0 0 (mm_nt (fun v S' => v = some (.int r) ∧ S' = (mem Z σ, n, z))) 133 [some (.ref a), some (.int v1_), some (.int v2_), some (.int v3_), none, some (.int v5_), some (.int v6_), some (.int v7_)] [] (mem Z σ, n, z) 0 0 := by
  intro U1
  induction U1 with
  | zero => intro v6_ v7_ hx; exact absurd hx (by simp [x_X12_isUtf8_L133])
  | succ U1 ih =>
    intro v6_ v7_ hx
    rw [x_X12_isUtf8_L133] at hx
    refine mm_iload dX12_isUtf8_133 rfl ?_
    refine mm_iload dX12_isUtf8_135 rfl ?_
    refine b_if hx (fun h10 hx => ?_) (fun h10 hx => ?_)
    · refine mm_icmp_gt 187 dX12_isUtf8_137 (by decide) (fun _ => ?_) (fun h => absurd h10 h)
      refine mm_fewer [some (.ref a), some (.int v1_), some (.int v2_), some (.int v3_), none, some (.int v5_), some (.int v6_), none] (few_ok (bs := [true, true, true, true, false, true, true, false]) rfl) ?_
      exact hk187 _ hx
    · refine mm_icmp_gt 187 dX12_isUtf8_137 (by decide) (fun h => absurd h h10) (fun _ => ?_)
      refine mm_aload_n dX12_isUtf8_140 rfl rfl ?_
      refine s_getS (q := 1175) (r := some a) (b := a) (ci := 12) (k := 101) in_X12 rfl (by decide) rfl kF_X12_235 dX12_isUtf8_141 rfl hs (by decide) hn (by decide) rfl rfl ?_
      refine mm_iload_n dX12_isUtf8_144 rfl ?_
      refine mm_iload dX12_isUtf8_145 rfl ?_
      refine mm_iadd dX12_isUtf8_147 ?_
      obtain ⟨j11, hj12, hb13, hl14, hx⟩ := ix_some hx
      refine s_iald (a := 1175) sa_1175 hn hj12 hb13 na_1175 dX12_isUtf8_148 ?_
      refine mm_sipush (v := 192) dX12_isUtf8_149 (by decide) ?_
      refine mm_iand dX12_isUtf8_152 ?_
      refine mm_sipush (v := 128) dX12_isUtf8_153 (by decide) ?_
      refine b_if hx (fun h15 hx => ?_) (fun h15 hx => ?_)
      · refine mm_icmp_eq 161 dX12_isUtf8_156 (by decide) (fun _ => ?_) (fun h => absurd h15 h)
        refine mm_bipush (v := 64) dX12_isUtf8_161 (by decide) ?_
        refine mm_iload dX12_isUtf8_163 rfl ?_
        refine mm_imul dX12_isUtf8_165 ?_
        refine mm_aload_n dX12_isUtf8_166 rfl rfl ?_
        refine s_getS (q := 1175) (r := some a) (b := a) (ci := 12) (k := 101) in_X12 rfl (by decide) rfl kF_X12_235 dX12_isUtf8_167 rfl hs (by decide) hn (by decide) rfl rfl ?_
        refine mm_iload_n dX12_isUtf8_170 rfl ?_
        refine mm_iload dX12_isUtf8_171 rfl ?_
        refine mm_iadd dX12_isUtf8_173 ?_
        obtain ⟨j16, hj17, hb18, hl19, hx⟩ := ix_some hx
        refine s_iald (a := 1175) sa_1175 hn hj17 hb18 na_1175 dX12_isUtf8_174 ?_
        refine mm_bipush (v := 63) dX12_isUtf8_175 (by decide) ?_
        refine mm_iand dX12_isUtf8_177 ?_
        refine mm_iadd dX12_isUtf8_178 ?_
        refine mm_istore [some (.ref a), some (.int v1_), some (.int v2_), some (.int v3_), none, some (.int v5_), some (.int ((64 * v6_) + ((sI σ 1175 j16) &&& 63))), some (.int v7_)] dX12_isUtf8_179 (by decide) rfl ?_
        refine mm_iinc (v := v7_ + 1) [some (.ref a), some (.int v1_), some (.int v2_), some (.int v3_), none, some (.int v5_), some (.int ((64 * v6_) + ((sI σ 1175 j16) &&& 63))), some (.int (v7_ + 1))] dX12_isUtf8_181 rfl rfl (by decide) rfl ?_
        refine mm_goto 133 dX12_isUtf8_184 (by decide) ?_
        exact ih _ _ hx
      · refine mm_icmp_eq 161 dX12_isUtf8_156 (by decide) (fun h => absurd h h15) (fun _ => ?_)
        refine mm_iconst (v := 0) dX12_isUtf8_159 (by decide) ?_
        refine mm_iret dX12_isUtf8_160 rfl rfl ?_ (by omega) (by omega)
        obtain rfl := fin1 hx
        exact ⟨rfl, rfl⟩
set_option maxHeartbeats 4000000 in
set_option maxRecDepth 100000 in
theorem e_X12_isUtf8_241 {g : mm_G} {l : Launch} (hst : l.stackTraces = false) {Z : Nat → Nat → Option Nat} (hZ : HZ Z) {n : Nat} (hn : 1186 ≤ n) {z : Bool} {d : Nat} {U : Nat} {a : Nat} (hs : sh a = 12) {k2 : Int32 → Option (Int32)} {v1_ : Int32} {v2_ : Int32} {v3_ : Int32} {v5_ : Int32} {v6_ : Int32} {σ : SG} {r : Int32} (hk2 : ∀ (v3_ : Int32), k2 v3_ = some r → mm_V g l RX12 "isUtf8" cX12_isUtf8 8 (some .boolean) [] (d) 0 0 (mm_nt (fun v S' => v = some (.int r) ∧ S' = (mem Z σ, n, z))) 2 [some (.ref a), some (.int v1_), some (.int v2_), some (.int v3_), none, none, none, none] [] (mem Z σ, n, z) 0 0) (hx : x_X12_isUtf8_241 U a k2 v1_ v2_ v3_ v5_ v6_ σ = some r) : mm_V g l RX12 "isUtf8" cX12_isUtf8 8 (some .boolean) [] (d) 0 0 (mm_nt (fun v S' => v = some (.int r) ∧ S' = (mem Z σ, n, z))) 241 [some (.ref a), some (.int v1_), some (.int v2_), some (.int v3_), none, some (.int v5_), some (.int v6_), none] [] (mem Z σ, n, z) 0 0 := by
  unfold x_X12_isUtf8_241 at hx
  refine mm_iload dX12_isUtf8_241 rfl ?_
  refine mm_ldcw kK_X12_623 dX12_isUtf8_243 ?_
  refine b_if hx (fun h24 hx => ?_) (fun h24 hx => ?_)
  · refine mm_icmp_le 251 dX12_isUtf8_246 (by decide) (fun h => absurd h (Int32.not_le.mpr h24)) (fun _ => ?_)
    refine mm_iconst (v := 0) dX12_isUtf8_249 (by decide) ?_
    refine mm_iret dX12_isUtf8_250 rfl rfl ?_ (by omega) (by omega)
    obtain rfl := fin1 hx
    exact ⟨rfl, rfl⟩
  · refine mm_icmp_le 251 dX12_isUtf8_246 (by decide) (fun _ => ?_) (fun h => absurd (Int32.not_lt.mp h24) h)
    refine mm_iload_n dX12_isUtf8_251 rfl ?_
    refine mm_iload dX12_isUtf8_252 rfl ?_
    refine mm_iconst (v := 1) dX12_isUtf8_254 (by decide) ?_
    refine mm_iadd dX12_isUtf8_255 ?_
    refine mm_iadd dX12_isUtf8_256 ?_
    refine mm_istore_n [some (.ref a), some (.int v1_), some (.int v2_), some (.int (v3_ + (v5_ + 1))), none, some (.int v5_), some (.int v6_), none] dX12_isUtf8_257 (by decide) rfl ?_
    refine mm_goto 2 dX12_isUtf8_258 (by decide) ?_
    refine mm_fewer [some (.ref a), some (.int v1_), some (.int v2_), some (.int (v3_ + (v5_ + 1))), none, none, none, none] (few_ok (bs := [true, true, true, true, false, false, false, false]) rfl) ?_
    exact hk2 _ hx
set_option maxHeartbeats 4000000 in
set_option maxRecDepth 100000 in
theorem e_X12_isUtf8_218 {g : mm_G} {l : Launch} (hst : l.stackTraces = false) {Z : Nat → Nat → Option Nat} (hZ : HZ Z) {n : Nat} (hn : 1186 ≤ n) {z : Bool} {d : Nat} {U : Nat} {a : Nat} (hs : sh a = 12) {k2 : Int32 → Option (Int32)} {v1_ : Int32} {v2_ : Int32} {v3_ : Int32} {v5_ : Int32} {v6_ : Int32} {s0_ : Int32} {σ : SG} {r : Int32} (hk2 : ∀ (v3_ : Int32), k2 v3_ = some r → mm_V g l RX12 "isUtf8" cX12_isUtf8 8 (some .boolean) [] (d) 0 0 (mm_nt (fun v S' => v = some (.int r) ∧ S' = (mem Z σ, n, z))) 2 [some (.ref a), some (.int v1_), some (.int v2_), some (.int v3_), none, none, none, none] [] (mem Z σ, n, z) 0 0) (hx : x_X12_isUtf8_218 U a k2 v1_ v2_ v3_ v5_ v6_ s0_ σ = some r) : mm_V g l RX12 "isUtf8" cX12_isUtf8 8 (some .boolean) [] (d) 0 0 (mm_nt (fun v S' => v = some (.int r) ∧ S' = (mem Z σ, n, z))) 218 [some (.ref a), some (.int v1_), some (.int v2_), some (.int v3_), none, some (.int v5_), some (.int v6_), none] [.int s0_] (mem Z σ, n, z) 0 0 := by
  unfold x_X12_isUtf8_218 at hx
  refine mm_istore [some (.ref a), some (.int v1_), some (.int v2_), some (.int v3_), none, some (.int v5_), some (.int v6_), some (.int s0_)] dX12_isUtf8_218 (by decide) rfl ?_
  refine mm_iload dX12_isUtf8_220 rfl ?_
  refine b_if hx (fun h22 hx => ?_) (fun h22 hx => ?_)
  · refine mm_if_eq 249 dX12_isUtf8_222 (by decide) (fun _ => ?_) (fun h => absurd h22 h)
    refine mm_iconst (v := 0) dX12_isUtf8_249 (by decide) ?_
    refine mm_iret dX12_isUtf8_250 rfl rfl ?_ (by omega) (by omega)
    obtain rfl := fin1 hx
    exact ⟨rfl, rfl⟩
  · refine mm_if_eq 249 dX12_isUtf8_222 (by decide) (fun h => absurd h h22) (fun _ => ?_)
    refine mm_iload dX12_isUtf8_225 rfl ?_
    refine mm_ldcw kK_X12_621 dX12_isUtf8_227 ?_
    refine b_if hx (fun h23 hx => ?_) (fun h23 hx => ?_)
    · refine mm_icmp_lt 241 dX12_isUtf8_230 (by decide) (fun _ => ?_) (fun h => absurd h23 h)
      refine mm_fewer [some (.ref a), some (.int v1_), some (.int v2_), some (.int v3_), none, some (.int v5_), some (.int v6_), none] (few_ok (bs := [true, true, true, true, false, true, true, false]) rfl) ?_
      exact e_X12_isUtf8_241 hst hZ hn hs hk2 hx
    · refine mm_icmp_lt 241 dX12_isUtf8_230 (by decide) (fun h => absurd h h23) (fun _ => ?_)
      refine mm_iload dX12_isUtf8_233 rfl ?_
      refine mm_ldcw kK_X12_622 dX12_isUtf8_235 ?_
      refine b_if hx (fun h25 hx => ?_) (fun h25 hx => ?_)
      · refine mm_icmp_le 249 dX12_isUtf8_238 (by decide) (fun h => absurd h (Int32.not_le.mpr h25)) (fun _ => ?_)
        refine mm_fewer [some (.ref a), some (.int v1_), some (.int v2_), some (.int v3_), none, some (.int v5_), some (.int v6_), none] (few_ok (bs := [true, true, true, true, false, true, true, false]) rfl) ?_
        exact e_X12_isUtf8_241 hst hZ hn hs hk2 hx
      · refine mm_icmp_le 249 dX12_isUtf8_238 (by decide) (fun _ => ?_) (fun h => absurd (Int32.not_lt.mp h25) h)
        refine mm_iconst (v := 0) dX12_isUtf8_249 (by decide) ?_
        refine mm_iret dX12_isUtf8_250 rfl rfl ?_ (by omega) (by omega)
        obtain rfl := fin1 hx
        exact ⟨rfl, rfl⟩
set_option maxHeartbeats 4000000 in
set_option maxRecDepth 100000 in
theorem e_X12_isUtf8_213 {g : mm_G} {l : Launch} (hst : l.stackTraces = false) {Z : Nat → Nat → Option Nat} (hZ : HZ Z) {n : Nat} (hn : 1186 ≤ n) {z : Bool} {d : Nat} {U : Nat} {a : Nat} (hs : sh a = 12) {k2 : Int32 → Option (Int32)} {v1_ : Int32} {v2_ : Int32} {v3_ : Int32} {v5_ : Int32} {v6_ : Int32} {σ : SG} {r : Int32} (hk2 : ∀ (v3_ : Int32), k2 v3_ = some r → mm_V g l RX12 "isUtf8" cX12_isUtf8 8 (some .boolean) [] (d) 0 0 (mm_nt (fun v S' => v = some (.int r) ∧ S' = (mem Z σ, n, z))) 2 [some (.ref a), some (.int v1_), some (.int v2_), some (.int v3_), none, none, none, none] [] (mem Z σ, n, z) 0 0) (hx : x_X12_isUtf8_213 U a k2 v1_ v2_ v3_ v5_ v6_ σ = some r) : mm_V g l RX12 "isUtf8" cX12_isUtf8 8 (some .boolean) [] (d) 0 0 (mm_nt (fun v S' => v = some (.int r) ∧ S' = (mem Z σ, n, z))) 213 [some (.ref a), some (.int v1_), some (.int v2_), some (.int v3_), none, some (.int v5_), some (.int v6_), none] [] (mem Z σ, n, z) 0 0 := by
  unfold x_X12_isUtf8_213 at hx
  refine mm_iconst (v := 1) dX12_isUtf8_213 (by decide) ?_
  refine mm_goto 218 dX12_isUtf8_214 (by decide) ?_
  exact e_X12_isUtf8_218 hst hZ hn hs hk2 hx
set_option maxHeartbeats 4000000 in
set_option maxRecDepth 100000 in
theorem e_X12_isUtf8_210 {g : mm_G} {l : Launch} (hst : l.stackTraces = false) {Z : Nat → Nat → Option Nat} (hZ : HZ Z) {n : Nat} (hn : 1186 ≤ n) {z : Bool} {d : Nat} {U : Nat} {a : Nat} (hs : sh a = 12) {k2 : Int32 → Option (Int32)} {v1_ : Int32} {v2_ : Int32} {v3_ : Int32} {v5_ : Int32} {v6_ : Int32} {s0_ : Int32} {s1_ : Int32} {σ : SG} {r : Int32} (hk2 : ∀ (v3_ : Int32), k2 v3_ = some r → mm_V g l RX12 "isUtf8" cX12_isUtf8 8 (some .boolean) [] (d) 0 0 (mm_nt (fun v S' => v = some (.int r) ∧ S' = (mem Z σ, n, z))) 2 [some (.ref a), some (.int v1_), some (.int v2_), some (.int v3_), none, none, none, none] [] (mem Z σ, n, z) 0 0) (hx : x_X12_isUtf8_210 U a k2 v1_ v2_ v3_ v5_ v6_ s0_ s1_ σ = some r) : mm_V g l RX12 "isUtf8" cX12_isUtf8 8 (some .boolean) [] (d) 0 0 (mm_nt (fun v S' => v = some (.int r) ∧ S' = (mem Z σ, n, z))) 210 [some (.ref a), some (.int v1_), some (.int v2_), some (.int v3_), none, some (.int v5_), some (.int v6_), none] [.int s0_, .int s1_] (mem Z σ, n, z) 0 0 := by
  unfold x_X12_isUtf8_210 at hx
  refine b_if hx (fun h27 hx => ?_) (fun h27 hx => ?_)
  · refine mm_icmp_lt 217 dX12_isUtf8_210 (by decide) (fun _ => ?_) (fun h => absurd h27 h)
    refine mm_iconst (v := 0) dX12_isUtf8_217 (by decide) ?_
    exact e_X12_isUtf8_218 hst hZ hn hs hk2 hx
  · refine mm_icmp_lt 217 dX12_isUtf8_210 (by decide) (fun h => absurd h h27) (fun _ => ?_)
    exact e_X12_isUtf8_213 hst hZ hn hs hk2 hx
set_option maxHeartbeats 4000000 in
set_option maxRecDepth 100000 in
theorem e_X12_isUtf8_128 {g : mm_G} {l : Launch} (hst : l.stackTraces = false) {Z : Nat → Nat → Option Nat} (hZ : HZ Z) {n : Nat} (hn : 1186 ≤ n) {z : Bool} {d : Nat} {U : Nat} {a : Nat} (hs : sh a = 12) {k2 : Int32 → Option (Int32)} {v1_ : Int32} {v2_ : Int32} {v3_ : Int32} {v5_ : Int32} {s0_ : Int32} {σ : SG} {r : Int32} (hk2 : ∀ (v3_ : Int32), k2 v3_ = some r → mm_V g l RX12 "isUtf8" cX12_isUtf8 8 (some .boolean) [] (d) 0 0 (mm_nt (fun v S' => v = some (.int r) ∧ S' = (mem Z σ, n, z))) 2 [some (.ref a), some (.int v1_), some (.int v2_), some (.int v3_), none, none, none, none] [] (mem Z σ, n, z) 0 0) (hx : x_X12_isUtf8_128 U a k2 v1_ v2_ v3_ v5_ s0_ σ = some r) : mm_V g l RX12 "isUtf8" cX12_isUtf8 8 (some .boolean) [] (d) 0 0 (mm_nt (fun v S' => v = some (.int r) ∧ S' = (mem Z σ, n, z))) 128 [some (.ref a), some (.int v1_), some (.int v2_), some (.int v3_), none, some (.int v5_), none, none] [.int s0_] (mem Z σ, n, z) 0 0 := by
  unfold x_X12_isUtf8_128 at hx
  refine mm_istore [some (.ref a), some (.int v1_), some (.int v2_), some (.int v3_), none, some (.int v5_), some (.int s0_), none] dX12_isUtf8_128 (by decide) rfl ?_
  refine mm_iconst (v := 1) dX12_isUtf8_130 (by decide) ?_
  refine mm_istore [some (.ref a), some (.int v1_), some (.int v2_), some (.int v3_), none, some (.int v5_), some (.int s0_), some (.int 1)] dX12_isUtf8_131 (by decide) rfl ?_
  refine e_X12_isUtf8_L133 hst hZ hn hs ?_ _ _ _ hx
  · intro w20 hx
    refine mm_iload dX12_isUtf8_187 rfl ?_
    refine mm_iconst (v := 2) dX12_isUtf8_189 (by decide) ?_
    refine b_if hx (fun h21 hx => ?_) (fun h21 hx => ?_)
    · refine mm_icmp_lt 213 dX12_isUtf8_190 (by decide) (fun _ => ?_) (fun h => absurd h21 h)
      exact e_X12_isUtf8_213 hst hZ hn hs hk2 hx
    · refine mm_icmp_lt 213 dX12_isUtf8_190 (by decide) (fun h => absurd h h21) (fun _ => ?_)
      refine mm_iload dX12_isUtf8_193 rfl ?_
      refine mm_iload dX12_isUtf8_195 rfl ?_
      refine mm_iconst (v := 2) dX12_isUtf8_197 (by decide) ?_
      refine b_if hx (fun h26 hx => ?_) (fun h26 hx => ?_)
      · refine mm_icmp_ne 207 dX12_isUtf8_198 (by decide) (fun h => absurd h26 h) (fun _ => ?_)
        refine mm_sipush (v := 2048) dX12_isUtf8_201 (by decide) ?_
        refine mm_goto 210 dX12_isUtf8_204 (by decide) ?_
        exact e_X12_isUtf8_210 hst hZ hn hs hk2 hx
      · refine mm_icmp_ne 207 dX12_isUtf8_198 (by decide) (fun _ => ?_) (fun h => absurd h h26)
        refine mm_ldcw kK_X12_620 dX12_isUtf8_207 ?_
        exact e_X12_isUtf8_210 hst hZ hn hs hk2 hx
set_option maxHeartbeats 4000000 in
set_option maxRecDepth 100000 in
theorem e_X12_isUtf8_90 {g : mm_G} {l : Launch} (hst : l.stackTraces = false) {Z : Nat → Nat → Option Nat} (hZ : HZ Z) {n : Nat} (hn : 1186 ≤ n) {z : Bool} {d : Nat} {U : Nat} {a : Nat} (hs : sh a = 12) {k2 : Int32 → Option (Int32)} {v1_ : Int32} {v2_ : Int32} {v3_ : Int32} {v4_ : Int32} {s0_ : Int32} {σ : SG} {r : Int32} (hk2 : ∀ (v3_ : Int32), k2 v3_ = some r → mm_V g l RX12 "isUtf8" cX12_isUtf8 8 (some .boolean) [] (d) 0 0 (mm_nt (fun v S' => v = some (.int r) ∧ S' = (mem Z σ, n, z))) 2 [some (.ref a), some (.int v1_), some (.int v2_), some (.int v3_), none, none, none, none] [] (mem Z σ, n, z) 0 0) (hx : x_X12_isUtf8_90 U a k2 v1_ v2_ v3_ v4_ s0_ σ = some r) : mm_V g l RX12 "isUtf8" cX12_isUtf8 8 (some .boolean) [] (d) 0 0 (mm_nt (fun v S' => v = some (.int r) ∧ S' = (mem Z σ, n, z))) 90 [some (.ref a), some (.int v1_), some (.int v2_), some (.int v3_), some (.int v4_), none, none, none] [.int s0_] (mem Z σ, n, z) 0 0 := by
  unfold x_X12_isUtf8_90 at hx
  refine mm_istore [some (.ref a), some (.int v1_), some (.int v2_), some (.int v3_), some (.int v4_), some (.int s0_), none, none] dX12_isUtf8_90 (by decide) rfl ?_
  refine mm_iload dX12_isUtf8_92 rfl ?_
  refine mm_iconst (v := (-1)) dX12_isUtf8_94 (by decide) ?_
  refine b_if hx (fun h7 hx => ?_) (fun h7 hx => ?_)
  · refine mm_icmp_eq 108 dX12_isUtf8_95 (by decide) (fun _ => ?_) (fun h => absurd h7 h)
    refine mm_iconst (v := 0) dX12_isUtf8_108 (by decide) ?_
    refine mm_iret dX12_isUtf8_109 rfl rfl ?_ (by omega) (by omega)
    obtain rfl := fin1 hx
    exact ⟨rfl, rfl⟩
  · refine mm_icmp_eq 108 dX12_isUtf8_95 (by decide) (fun h => absurd h h7) (fun _ => ?_)
    refine mm_iload_n dX12_isUtf8_98 rfl ?_
    refine mm_iload dX12_isUtf8_99 rfl ?_
    refine mm_iadd dX12_isUtf8_101 ?_
    refine mm_iload_n dX12_isUtf8_102 rfl ?_
    refine mm_iload_n dX12_isUtf8_103 rfl ?_
    refine mm_iadd dX12_isUtf8_104 ?_
    refine b_if hx (fun h8 hx => ?_) (fun h8 hx => ?_)
    · refine mm_icmp_lt 110 dX12_isUtf8_105 (by decide) (fun _ => ?_) (fun h => absurd h8 h)
      refine mm_iload dX12_isUtf8_110 rfl ?_
      refine b_if hx (fun h9 hx => ?_) (fun h9 hx => ?_)
      · refine mm_if_ne 120 dX12_isUtf8_112 (by decide) (fun h => absurd h9 h) (fun _ => ?_)
        refine mm_iload dX12_isUtf8_115 rfl ?_
        refine mm_goto 128 dX12_isUtf8_117 (by decide) ?_
        refine mm_fewer [some (.ref a), some (.int v1_), some (.int v2_), some (.int v3_), none, some (.int s0_), none, none] (few_ok (bs := [true, true, true, true, false, true, false, false]) rfl) ?_
        exact e_X12_isUtf8_128 hst hZ hn hs hk2 hx
      · refine mm_if_ne 120 dX12_isUtf8_112 (by decide) (fun _ => ?_) (fun h => absurd h h9)
        refine mm_iload dX12_isUtf8_120 rfl ?_
        refine mm_bipush (v := 63) dX12_isUtf8_122 (by decide) ?_
        refine mm_iload dX12_isUtf8_124 rfl ?_
        refine mm_ishr dX12_isUtf8_126 ?_
        refine mm_iand dX12_isUtf8_127 ?_
        refine mm_fewer [some (.ref a), some (.int v1_), some (.int v2_), some (.int v3_), none, some (.int s0_), none, none] (few_ok (bs := [true, true, true, true, false, true, false, false]) rfl) ?_
        exact e_X12_isUtf8_128 hst hZ hn hs hk2 hx
    · refine mm_icmp_lt 110 dX12_isUtf8_105 (by decide) (fun h => absurd h h8) (fun _ => ?_)
      refine mm_iconst (v := 0) dX12_isUtf8_108 (by decide) ?_
      refine mm_iret dX12_isUtf8_109 rfl rfl ?_ (by omega) (by omega)
      obtain rfl := fin1 hx
      exact ⟨rfl, rfl⟩
set_option maxHeartbeats 4000000 in
set_option maxRecDepth 100000 in
theorem e_X12_isUtf8_89 {g : mm_G} {l : Launch} (hst : l.stackTraces = false) {Z : Nat → Nat → Option Nat} (hZ : HZ Z) {n : Nat} (hn : 1186 ≤ n) {z : Bool} {d : Nat} {U : Nat} {a : Nat} (hs : sh a = 12) {k2 : Int32 → Option (Int32)} {v1_ : Int32} {v2_ : Int32} {v3_ : Int32} {v4_ : Int32} {σ : SG} {r : Int32} (hk2 : ∀ (v3_ : Int32), k2 v3_ = some r → mm_V g l RX12 "isUtf8" cX12_isUtf8 8 (some .boolean) [] (d) 0 0 (mm_nt (fun v S' => v = some (.int r) ∧ S' = (mem Z σ, n, z))) 2 [some (.ref a), some (.int v1_), some (.int v2_), some (.int v3_), none, none, none, none] [] (mem Z σ, n, z) 0 0) (hx : x_X12_isUtf8_89 U a k2 v1_ v2_ v3_ v4_ σ = some r) : mm_V g l RX12 "isUtf8" cX12_isUtf8 8 (some .boolean) [] (d) 0 0 (mm_nt (fun v S' => v = some (.int r) ∧ S' = (mem Z σ, n, z))) 89 [some (.ref a), some (.int v1_), some (.int v2_), some (.int v3_), some (.int v4_), none, none, none] [] (mem Z σ, n, z) 0 0 := by
  unfold x_X12_isUtf8_89 at hx
  refine mm_iconst (v := (-1)) dX12_isUtf8_89 (by decide) ?_
  exact e_X12_isUtf8_90 hst hZ hn hs hk2 hx
set_option maxHeartbeats 4000000 in
set_option maxRecDepth 100000 in
theorem e_X12_isUtf8_69 {g : mm_G} {l : Launch} (hst : l.stackTraces = false) {Z : Nat → Nat → Option Nat} (hZ : HZ Z) {n : Nat} (hn : 1186 ≤ n) {z : Bool} {d : Nat} {U : Nat} {a : Nat} (hs : sh a = 12) {k2 : Int32 → Option (Int32)} {v1_ : Int32} {v2_ : Int32} {v3_ : Int32} {v4_ : Int32} {σ : SG} {r : Int32} (hk2 : ∀ (v3_ : Int32), k2 v3_ = some r → mm_V g l RX12 "isUtf8" cX12_isUtf8 8 (some .boolean) [] (d) 0 0 (mm_nt (fun v S' => v = some (.int r) ∧ S' = (mem Z σ, n, z))) 2 [some (.ref a), some (.int v1_), some (.int v2_), some (.int v3_), none, none, none, none] [] (mem Z σ, n, z) 0 0) (hx : x_X12_isUtf8_69 U a k2 v1_ v2_ v3_ v4_ σ = some r) : mm_V g l RX12 "isUtf8" cX12_isUtf8 8 (some .boolean) [] (d) 0 0 (mm_nt (fun v S' => v = some (.int r) ∧ S' = (mem Z σ, n, z))) 69 [some (.ref a), some (.int v1_), some (.int v2_), some (.int v3_), some (.int v4_), none, none, none] [] (mem Z σ, n, z) 0 0 := by
  unfold x_X12_isUtf8_69 at hx
  refine mm_iload dX12_isUtf8_69 rfl ?_
  refine mm_sipush (v := 240) dX12_isUtf8_71 (by decide) ?_
  refine b_if hx (fun h30 hx => ?_) (fun h30 hx => ?_)
  · refine mm_icmp_lt 89 dX12_isUtf8_74 (by decide) (fun _ => ?_) (fun h => absurd h30 h)
    exact e_X12_isUtf8_89 hst hZ hn hs hk2 hx
  · refine mm_icmp_lt 89 dX12_isUtf8_74 (by decide) (fun h => absurd h h30) (fun _ => ?_)
    refine mm_iload dX12_isUtf8_77 rfl ?_
    refine mm_sipush (v := 244) dX12_isUtf8_79 (by decide) ?_
    refine b_if hx (fun h31 hx => ?_) (fun h31 hx => ?_)
    · refine mm_icmp_gt 89 dX12_isUtf8_82 (by decide) (fun _ => ?_) (fun h => absurd h31 h)
      exact e_X12_isUtf8_89 hst hZ hn hs hk2 hx
    · refine mm_icmp_gt 89 dX12_isUtf8_82 (by decide) (fun h => absurd h h31) (fun _ => ?_)
      refine mm_iconst (v := 3) dX12_isUtf8_85 (by decide) ?_
      refine mm_goto 90 dX12_isUtf8_86 (by decide) ?_
      exact e_X12_isUtf8_90 hst hZ hn hs hk2 hx
set_option maxHeartbeats 4000000 in
set_option maxRecDepth 100000 in
theorem e_X12_isUtf8_49 {g : mm_G} {l : Launch} (hst : l.stackTraces = false) {Z : Nat → Nat → Option Nat} (hZ : HZ Z) {n : Nat} (hn : 1186 ≤ n) {z : Bool} {d : Nat} {U : Nat} {a : Nat} (hs : sh a = 12) {k2 : Int32 → Option (Int32)} {v1_ : Int32} {v2_ : Int32} {v3_ : Int32} {v4_ : Int32} {σ : SG} {r : Int32} (hk2 : ∀ (v3_ : Int32), k2 v3_ = some r → mm_V g l RX12 "isUtf8" cX12_isUtf8 8 (some .boolean) [] (d) 0 0 (mm_nt (fun v S' => v = some (.int r) ∧ S' = (mem Z σ, n, z))) 2 [some (.ref a), some (.int v1_), some (.int v2_), some (.int v3_), none, none, none, none] [] (mem Z σ, n, z) 0 0) (hx : x_X12_isUtf8_49 U a k2 v1_ v2_ v3_ v4_ σ = some r) : mm_V g l RX12 "isUtf8" cX12_isUtf8 8 (some .boolean) [] (d) 0 0 (mm_nt (fun v S' => v = some (.int r) ∧ S' = (mem Z σ, n, z))) 49 [some (.ref a), some (.int v1_), some (.int v2_), some (.int v3_), some (.int v4_), none, none, none] [] (mem Z σ, n, z) 0 0 := by
  unfold x_X12_isUtf8_49 at hx
  refine mm_iload dX12_isUtf8_49 rfl ?_
  refine mm_sipush (v := 224) dX12_isUtf8_51 (by decide) ?_
  refine b_if hx (fun h29 hx => ?_) (fun h29 hx => ?_)
  · refine mm_icmp_lt 69 dX12_isUtf8_54 (by decide) (fun _ => ?_) (fun h => absurd h29 h)
    exact e_X12_isUtf8_69 hst hZ hn hs hk2 hx
  · refine mm_icmp_lt 69 dX12_isUtf8_54 (by decide) (fun h => absurd h h29) (fun _ => ?_)
    refine mm_iload dX12_isUtf8_57 rfl ?_
    refine mm_sipush (v := 239) dX12_isUtf8_59 (by decide) ?_
    refine b_if hx (fun h32 hx => ?_) (fun h32 hx => ?_)
    · refine mm_icmp_gt 69 dX12_isUtf8_62 (by decide) (fun _ => ?_) (fun h => absurd h32 h)
      exact e_X12_isUtf8_69 hst hZ hn hs hk2 hx
    · refine mm_icmp_gt 69 dX12_isUtf8_62 (by decide) (fun h => absurd h h32) (fun _ => ?_)
      refine mm_iconst (v := 2) dX12_isUtf8_65 (by decide) ?_
      refine mm_goto 90 dX12_isUtf8_66 (by decide) ?_
      exact e_X12_isUtf8_90 hst hZ hn hs hk2 hx
set_option maxHeartbeats 4000000 in
set_option maxRecDepth 100000 in
theorem e_X12_isUtf8_L2 {g : mm_G} {l : Launch} (hst : l.stackTraces = false) {Z : Nat → Nat → Option Nat} (hZ : HZ Z) {n : Nat} (hn : 1186 ≤ n) {z : Bool} {d : Nat} {U : Nat} {a : Nat} (hs : sh a = 12) {v1_ : Int32} {v2_ : Int32} {σ : SG} {r : Int32} : ∀ (U1 : Nat) (v3_ : Int32), x_X12_isUtf8_L2 U a v1_ v2_ σ U1 v3_ = some r → mm_V g l RX12 "isUtf8" cX12_isUtf8 8 (some .boolean) [] (d) 0 0 (mm_nt (fun v S' => v = some (.int r) ∧ S' = (mem Z σ, n, z))) 2 [some (.ref a), some (.int v1_), some (.int v2_), some (.int v3_), none, none, none, none] [] (mem Z σ, n, z) 0 0 := by
  intro U1
  induction U1 with
  | zero => intro v3_ hx; exact absurd hx (by simp [x_X12_isUtf8_L2])
  | succ U1 ih =>
    intro v3_ hx
    rw [x_X12_isUtf8_L2] at hx
    refine mm_iload_n dX12_isUtf8_2 rfl ?_
    refine mm_iload_n dX12_isUtf8_3 rfl ?_
    refine mm_iload_n dX12_isUtf8_4 rfl ?_
    refine mm_iadd dX12_isUtf8_5 ?_
    refine b_if hx (fun h1 hx => ?_) (fun h1 hx => ?_)
    · refine mm_icmp_ge 261 dX12_isUtf8_6 (by decide) (fun h => absurd h (Int32.not_le.mpr h1)) (fun _ => ?_)
      refine mm_aload_n dX12_isUtf8_9 rfl rfl ?_
      refine s_getS (q := 1175) (r := some a) (b := a) (ci := 12) (k := 101) in_X12 rfl (by decide) rfl kF_X12_235 dX12_isUtf8_10 rfl hs (by decide) hn (by decide) rfl rfl ?_
      refine mm_iload_n dX12_isUtf8_13 rfl ?_
      obtain ⟨j2, hj3, hb4, hl5, hx⟩ := ix_some hx
      refine s_iald (a := 1175) sa_1175 hn hj3 hb4 na_1175 dX12_isUtf8_14 ?_
      refine mm_istore [some (.ref a), some (.int v1_), some (.int v2_), some (.int v3_), some (.int (sI σ 1175 j2)), none, none, none] dX12_isUtf8_15 (by decide) rfl ?_
      refine mm_iload dX12_isUtf8_17 rfl ?_
      refine mm_sipush (v := 128) dX12_isUtf8_19 (by decide) ?_
      refine b_if hx (fun h6 hx => ?_) (fun h6 hx => ?_)
      · refine mm_icmp_ge 29 dX12_isUtf8_22 (by decide) (fun h => absurd h (Int32.not_le.mpr h6)) (fun _ => ?_)
        refine mm_iconst (v := 0) dX12_isUtf8_25 (by decide) ?_
        refine mm_goto 90 dX12_isUtf8_26 (by decide) ?_
        exact e_X12_isUtf8_90 hst hZ hn hs ih hx
      · refine mm_icmp_ge 29 dX12_isUtf8_22 (by decide) (fun _ => ?_) (fun h => absurd (Int32.not_lt.mp h6) h)
        refine mm_iload dX12_isUtf8_29 rfl ?_
        refine mm_sipush (v := 194) dX12_isUtf8_31 (by decide) ?_
        refine b_if hx (fun h28 hx => ?_) (fun h28 hx => ?_)
        · refine mm_icmp_lt 49 dX12_isUtf8_34 (by decide) (fun _ => ?_) (fun h => absurd h28 h)
          exact e_X12_isUtf8_49 hst hZ hn hs ih hx
        · refine mm_icmp_lt 49 dX12_isUtf8_34 (by decide) (fun h => absurd h h28) (fun _ => ?_)
          refine mm_iload dX12_isUtf8_37 rfl ?_
          refine mm_sipush (v := 223) dX12_isUtf8_39 (by decide) ?_
          refine b_if hx (fun h33 hx => ?_) (fun h33 hx => ?_)
          · refine mm_icmp_gt 49 dX12_isUtf8_42 (by decide) (fun _ => ?_) (fun h => absurd h33 h)
            exact e_X12_isUtf8_49 hst hZ hn hs ih hx
          · refine mm_icmp_gt 49 dX12_isUtf8_42 (by decide) (fun h => absurd h h33) (fun _ => ?_)
            refine mm_iconst (v := 1) dX12_isUtf8_45 (by decide) ?_
            refine mm_goto 90 dX12_isUtf8_46 (by decide) ?_
            exact e_X12_isUtf8_90 hst hZ hn hs ih hx
    · refine mm_icmp_ge 261 dX12_isUtf8_6 (by decide) (fun _ => ?_) (fun h => absurd (Int32.not_lt.mp h1) h)
      refine mm_iconst (v := 1) dX12_isUtf8_261 (by decide) ?_
      refine mm_iret dX12_isUtf8_262 rfl rfl ?_ (by omega) (by omega)
      obtain rfl := fin1 hx
      exact ⟨rfl, rfl⟩
set_option maxHeartbeats 4000000 in
set_option maxRecDepth 100000 in
theorem e_X12_isUtf8 {g : mm_G} {l : Launch} (hst : l.stackTraces = false) {Z : Nat → Nat → Option Nat} (hZ : HZ Z) {n : Nat} (hn : 1186 ≤ n) {z : Bool} {d : Nat} {U : Nat} {a : Nat} (hs : sh a = 12) {p0 : Int32} {p1 : Int32} {σ : SG} {r : Int32} (hx : x_X12_isUtf8 U a p0 p1 σ = some r) : mm_Cm g l yX12_isUtf8 (.code yX12_isUtf8 cX12_isUtf8 8 (some .boolean)) (d) 0 0 [.ref a, .int p0, .int p1] (mem Z σ, n, z) (fun v S' => v = some (.int r) ∧ S' = (mem Z σ, n, z)) := by
  refine mm_Cm_of hst (by decide) (Nat.le_of_ble_eq_true rfl) ?_
  show mm_V g l RX12 "isUtf8" cX12_isUtf8 8 (some .boolean) [] (d) 0 0 (mm_nt (fun v S' => v = some (.int r) ∧ S' = (mem Z σ, n, z))) 0 [some (.ref a), some (.int p0), some (.int p1), none, none, none, none, none] [] (mem Z σ, n, z) 0 0
  unfold x_X12_isUtf8 at hx
  refine mm_iload_n dX12_isUtf8_0 rfl ?_
  refine mm_istore_n [some (.ref a), some (.int p0), some (.int p1), some (.int p0), none, none, none, none] dX12_isUtf8_1 (by decide) rfl ?_
  refine e_X12_isUtf8_L2 hst hZ hn hs _ _ hx
set_option maxHeartbeats 4000000 in
set_option maxRecDepth 100000 in
theorem e_X12_putText_34 {g : mm_G} {l : Launch} (hst : l.stackTraces = false) {Z : Nat → Nat → Option Nat} (hZ : HZ Z) {n : Nat} (hn : 1186 ≤ n) {z : Bool} {d : Nat} {U : Nat} {a : Nat} (hs : sh a = 12) {v1_ : Int32} {v2_ : Int32} {v3_ : Int32} {v4_ : Int32} {σ : SG} {σ' : SG} (hx : x_X12_putText_34 U a v1_ v2_ v3_ v4_ σ = some σ') : mm_V g l RX12 "putText" cX12_putText 6 none [] (d + 2) 0 0 (mm_nt (fun v S' => v = none ∧ S' = (mem Z σ', n, z))) 34 [some (.ref a), some (.int v1_), some (.int v2_), some (.int v3_), some (.int v4_), none] [] (mem Z σ, n, z) 0 0 := by
  unfold x_X12_putText_34 at hx
  refine mm_aload_n dX12_putText_34 rfl rfl ?_
  refine mm_iload_n dX12_putText_35 rfl ?_
  refine mm_iload_n dX12_putText_36 rfl ?_
  obtain ⟨v11, σ12, hc10, hx⟩ := b2_some hx
  refine mm_callV3 (a := a) (ci := 12) wM_X12_rowFor kM_X12_617 wI_X12_rowFor wS_X12_rowFor dX12_putText_37 (e_X12_rowFor hst hZ hn hs hc10) (mem_obj hs (by decide)) (sh_ltn hs (by decide) hn) rfl rfl rfl (Nat.le_of_ble_eq_true rfl) (by omega) (by omega) (fun v9 S9 hq => ?_)
  obtain ⟨rfl, rfl⟩ := hq
  refine ⟨fun h => ⟨h, rfl⟩, ?_⟩
  refine mm_istore [some (.ref a), some (.int v1_), some (.int v2_), some (.int v3_), some (.int v4_), some (.int v11)] dX12_putText_40 (by decide) rfl ?_
  refine mm_aload_n dX12_putText_42 rfl rfl ?_
  refine s_getS (q := 1168) (r := some a) (b := a) (ci := 12) (k := 94) in_X12 rfl (by decide) rfl kF_X12_214 dX12_putText_43 rfl hs (by decide) hn (by decide) rfl rfl ?_
  refine mm_iload dX12_putText_46 rfl ?_
  refine mm_iload_n dX12_putText_48 rfl ?_
  obtain ⟨j13, hj14, hb15, hl16, hx⟩ := ix_some hx
  refine s_iast (a := 1168) (v := v3_) sa_1168 hn hj14 hb15 na_1168 dX12_putText_49 hx (fun σ17 hx => ?_)
  refine mm_aload_n dX12_putText_50 rfl rfl ?_
  refine s_getS (q := 1169) (r := some a) (b := a) (ci := 12) (k := 95) in_X12 rfl (by decide) rfl kF_X12_217 dX12_putText_51 rfl hs (by decide) hn (by decide) rfl rfl ?_
  refine mm_iload dX12_putText_54 rfl ?_
  refine mm_iload dX12_putText_56 rfl ?_
  obtain ⟨j18, hj19, hb20, hl21, hx⟩ := ix_some hx
  refine s_iast (a := 1169) (v := v4_) sa_1169 hn hj19 hb20 na_1169 dX12_putText_58 hx (fun σ22 hx => ?_)
  refine mm_iload dX12_putText_59 rfl ?_
  refine b_if hx (fun h23 hx => ?_) (fun h23 hx => ?_)
  · refine mm_if_ne 91 dX12_putText_61 (by decide) (fun h => absurd h23 h) (fun _ => ?_)
    refine mm_aload_n dX12_putText_64 rfl rfl ?_
    refine s_getS (q := 1120) (r := some a) (b := a) (ci := 12) (k := 23) in_X12 rfl (by decide) rfl kF_X12_68 dX12_putText_65 rfl hs (by decide) hn (by decide) rfl rfl ?_
    refine mm_iload_n dX12_putText_68 rfl ?_
    obtain ⟨j24, hj25, hb26, hl27, hx⟩ := ix_some hx
    refine s_zald (a := 1120) sa_1120 hn hj25 hb26 na_1120 dX12_putText_69 ?_
    refine b_if hx (fun h28 hx => ?_) (fun h28 hx => ?_)
    · refine mm_if_ne 91 dX12_putText_70 (by decide) (fun h => absurd h28 h) (fun _ => ?_)
      refine mm_aload_n dX12_putText_73 rfl rfl ?_
      refine s_getS (q := 1122) (r := some a) (b := a) (ci := 12) (k := 25) in_X12 rfl (by decide) rfl kF_X12_75 dX12_putText_74 rfl hs (by decide) hn (by decide) rfl rfl ?_
      refine mm_iload_n dX12_putText_77 rfl ?_
      obtain ⟨j29, hj30, hb31, hl32, hx⟩ := ix_some hx
      refine s_iald (a := 1122) sa_1122 hn hj30 hb31 na_1122 dX12_putText_78 ?_
      refine mm_iconst (v := (-1)) dX12_putText_79 (by decide) ?_
      refine b_if hx (fun h33 hx => ?_) (fun h33 hx => ?_)
      · refine mm_icmp_ne 91 dX12_putText_80 (by decide) (fun h => absurd h33 h) (fun _ => ?_)
        refine mm_aload_n dX12_putText_83 rfl rfl ?_
        refine s_getS (q := 1171) (r := some a) (b := a) (ci := 12) (k := 97) in_X12 rfl (by decide) rfl kF_X12_223 dX12_putText_84 rfl hs (by decide) hn (by decide) rfl rfl ?_
        refine mm_iload dX12_putText_87 rfl ?_
        refine mm_iconst (v := 0) dX12_putText_89 (by decide) ?_
        obtain ⟨j34, hj35, hb36, hl37, hx⟩ := ix_some hx
        refine s_zast (a := 1171) (v := 0) sa_1171 hn hj35 hb36 na_1171 dX12_putText_90 hx (fun σ38 hx => ?_)
        refine mm_vret dX12_putText_91 rfl ?_ (by omega) (by omega)
        obtain rfl := fin1 hx
        exact ⟨rfl, rfl⟩
      · refine mm_icmp_ne 91 dX12_putText_80 (by decide) (fun _ => ?_) (fun h => absurd h h33)
        refine mm_vret dX12_putText_91 rfl ?_ (by omega) (by omega)
        obtain rfl := fin1 hx
        exact ⟨rfl, rfl⟩
    · refine mm_if_ne 91 dX12_putText_70 (by decide) (fun _ => ?_) (fun h => absurd h h28)
      refine mm_vret dX12_putText_91 rfl ?_ (by omega) (by omega)
      obtain rfl := fin1 hx
      exact ⟨rfl, rfl⟩
  · refine mm_if_ne 91 dX12_putText_61 (by decide) (fun _ => ?_) (fun h => absurd h h23)
    refine mm_vret dX12_putText_91 rfl ?_ (by omega) (by omega)
    obtain rfl := fin1 hx
    exact ⟨rfl, rfl⟩
set_option maxHeartbeats 4000000 in
set_option maxRecDepth 100000 in
theorem e_X12_putText {g : mm_G} {l : Launch} (hst : l.stackTraces = false) {Z : Nat → Nat → Option Nat} (hZ : HZ Z) {n : Nat} (hn : 1186 ≤ n) {z : Bool} {d : Nat} {U : Nat} {a : Nat} (hs : sh a = 12) {p0 : Int32} {p1 : Int32} {p2 : Int32} {σ : SG} {σ' : SG} (hx : x_X12_putText U a p0 p1 p2 σ = some σ') : mm_Cm g l yX12_putText (.code yX12_putText cX12_putText 6 none) (d + 2) 0 0 [.ref a, .int p0, .int p1, .int p2] (mem Z σ, n, z) (fun v S' => v = none ∧ S' = (mem Z σ', n, z)) := by
  refine mm_Cm_of hst (by decide) (Nat.le_of_ble_eq_true rfl) ?_
  show mm_V g l RX12 "putText" cX12_putText 6 none [] (d + 2) 0 0 (mm_nt (fun v S' => v = none ∧ S' = (mem Z σ', n, z))) 0 [some (.ref a), some (.int p0), some (.int p1), some (.int p2), none, none] [] (mem Z σ, n, z) 0 0
  unfold x_X12_putText at hx
  refine mm_aload_n dX12_putText_0 rfl rfl ?_
  refine s_getI (r := some a) (b := a) (ci := 12) (k := 84) in_X12 rfl (by decide) rfl kF_X12_602 dX12_putText_1 rfl hs (by decide) hn (by decide) rfl ?_
  refine mm_iload_n dX12_putText_4 rfl ?_
  refine mm_isub dX12_putText_5 ?_
  refine mm_istore [some (.ref a), some (.int p0), some (.int p1), some (.int p2), some (.int ((sI σ a 84) - p2)), none] dX12_putText_6 (by decide) rfl ?_
  refine mm_aload_n dX12_putText_8 rfl rfl ?_
  refine s_getS (q := 1118) (r := some a) (b := a) (ci := 12) (k := 21) in_X12 rfl (by decide) rfl kF_X12_62 dX12_putText_9 rfl hs (by decide) hn (by decide) rfl rfl ?_
  refine mm_iload_n dX12_putText_12 rfl ?_
  obtain ⟨j1, hj2, hb3, hl4, hx⟩ := ix_some hx
  refine s_iald (a := 1118) sa_1118 hn hj2 hb3 na_1118 dX12_putText_13 ?_
  refine mm_bipush (v := 11) dX12_putText_14 (by decide) ?_
  refine b_if hx (fun h5 hx => ?_) (fun h5 hx => ?_)
  · refine mm_icmp_ne 34 dX12_putText_16 (by decide) (fun h => absurd h5 h) (fun _ => ?_)
    refine mm_aload_n dX12_putText_19 rfl rfl ?_
    refine mm_iload_n dX12_putText_20 rfl ?_
    refine mm_iload dX12_putText_21 rfl ?_
    obtain ⟨v7, hc6, hx⟩ := b1_some hx
    refine mm_callV3 (a := a) (ci := 12) wM_X12_isUtf8 kM_X12_624 wI_X12_isUtf8 wS_X12_isUtf8 dX12_putText_23 (e_X12_isUtf8 hst hZ hn hs hc6) (mem_obj hs (by decide)) (sh_ltn hs (by decide) hn) rfl rfl rfl (Nat.le_of_ble_eq_true rfl) (by omega) (by omega) (fun v9 S9 hq => ?_)
    obtain ⟨rfl, rfl⟩ := hq
    refine ⟨fun h => ⟨h, rfl⟩, ?_⟩
    refine b_if hx (fun h8 hx => ?_) (fun h8 hx => ?_)
    · refine mm_if_ne 34 dX12_putText_26 (by decide) (fun h => absurd h8 h) (fun _ => ?_)
      refine mm_aload_n dX12_putText_29 rfl rfl ?_
      refine mm_iconst (v := 1) dX12_putText_30 (by decide) ?_
      refine s_putI (v := 1) (r := some a) (b := a) (ci := 12) (k := 107) in_X12 rfl (by decide) rfl tyX12_ok nmX12 rfl kF_X12_590 dX12_putText_31 mm_fit_z1 rfl hs (by decide) hn (by decide) rfl hx (fun σ9 hx => ?_)
      exact e_X12_putText_34 hst hZ hn hs hx
    · refine mm_if_ne 34 dX12_putText_26 (by decide) (fun _ => ?_) (fun h => absurd h h8)
      exact e_X12_putText_34 hst hZ hn hs hx
  · refine mm_icmp_ne 34 dX12_putText_16 (by decide) (fun _ => ?_) (fun h => absurd h h5)
    exact e_X12_putText_34 hst hZ hn hs hx
set_option maxHeartbeats 4000000 in
set_option maxRecDepth 100000 in
theorem e_X12_takeFixed_L23 {g : mm_G} {l : Launch} (hst : l.stackTraces = false) {Z : Nat → Nat → Option Nat} (hZ : HZ Z) {n : Nat} (hn : 1186 ≤ n) {z : Bool} {d : Nat} {U : Nat} {a : Nat} (hs : sh a = 12) {k60 : SG → Option (SG)} {v1_ : Int32} {σ' : SG} (hk60 : ∀ (σ8 : SG), k60 σ8 = some σ' → mm_V g l RX12 "takeFixed" cX12_takeFixed 4 none [] (d) 0 0 (mm_nt (fun v S' => v = none ∧ S' = (mem Z σ', n, z))) 60 [some (.ref a), some (.int v1_), none, none] [] (mem Z σ8, n, z) 0 0) : ∀ (U1 : Nat) (v3_ : Int32) (σ : SG), x_X12_takeFixed_L23 U a k60 v1_ U1 v3_ σ = some σ' → mm_V g l RX12 "takeFixed" cX12_takeFixed 4 none [] (d) 0 0 (mm_nt (fun v S' => v = none ∧ S' = (mem Z σ', n, z))) 23 [some (.ref a), some (.int v1_), none, some (.int v3_)] [] (mem Z σ, n, z) 0 0 := by
  intro U1
  induction U1 with
  | zero => intro v3_ σ hx; exact absurd hx (by simp [x_X12_takeFixed_L23])
  | succ U1 ih =>
    intro v3_ σ hx
    rw [x_X12_takeFixed_L23] at hx
    refine mm_iload_n dX12_takeFixed_23 rfl ?_
    refine mm_iload_n dX12_takeFixed_24 rfl ?_
    refine b_if hx (fun h4 hx => ?_) (fun h4 hx => ?_)
    · refine mm_icmp_ge 60 dX12_takeFixed_25 (by decide) (fun h => absurd h (Int32.not_le.mpr h4)) (fun _ => ?_)
      refine mm_aload_n dX12_takeFixed_28 rfl rfl ?_
      refine mm_dup dX12_takeFixed_29 rfl ?_
      refine s_getL (r := some a) (b := a) (ci := 12) (k := 108) in_X12 rfl (by decide) rfl kF_X12_633 dX12_takeFixed_30 rfl hs (by decide) hn (by decide) rfl ?_
      refine mm_aload_n dX12_takeFixed_33 rfl rfl ?_
      refine s_getS (q := 1102) (r := some a) (b := a) (ci := 12) (k := 0) in_X12 rfl (by decide) rfl kF_X12_7 dX12_takeFixed_34 rfl hs (by decide) hn (by decide) rfl rfl ?_
      refine mm_aload_n dX12_takeFixed_37 rfl rfl ?_
      refine s_getI (r := some a) (b := a) (ci := 12) (k := 109) in_X12 rfl (by decide) rfl kF_X12_636 dX12_takeFixed_38 rfl hs (by decide) hn (by decide) rfl ?_
      refine mm_iload_n dX12_takeFixed_41 rfl ?_
      refine mm_iadd dX12_takeFixed_42 ?_
      obtain ⟨j5, hj6, hb7, hl8, hx⟩ := ix_some hx
      refine s_iald (a := 1102) sa_1102 hn hj6 hb7 na_1102 dX12_takeFixed_43 ?_
      refine mm_i2l dX12_takeFixed_44 ?_
      refine mm_bipush (v := 8) dX12_takeFixed_45 (by decide) ?_
      refine mm_iload_n dX12_takeFixed_47 rfl ?_
      refine mm_imul dX12_takeFixed_48 ?_
      refine mm_lshl dX12_takeFixed_49 ?_
      refine mm_lor dX12_takeFixed_50 ?_
      refine s_putL (v := (sL σ a 108) ||| (lshl9 (Int32.toInt64 (sI σ 1102 j5)) (8 * v3_))) (r := some a) (b := a) (ci := 12) (k := 108) in_X12 rfl (by decide) rfl tyX12_ok nmX12 rfl kF_X12_633 dX12_takeFixed_51 (mm_fit_long _) rfl hs (by decide) hn (by decide) rfl hx (fun σ9 hx => ?_)
      refine mm_iinc (v := v3_ + 1) [some (.ref a), some (.int v1_), none, some (.int (v3_ + 1))] dX12_takeFixed_54 rfl rfl (by decide) rfl ?_
      refine mm_goto 23 dX12_takeFixed_57 (by decide) ?_
      exact ih _ _ hx
    · refine mm_icmp_ge 60 dX12_takeFixed_25 (by decide) (fun _ => ?_) (fun h => absurd (Int32.not_lt.mp h4) h)
      refine mm_fewer [some (.ref a), some (.int v1_), none, none] (few_ok (bs := [true, true, false, false]) rfl) ?_
      exact hk60  _ hx
set_option maxHeartbeats 4000000 in
set_option maxRecDepth 100000 in
theorem e_X12_takeFixed {g : mm_G} {l : Launch} (hst : l.stackTraces = false) {Z : Nat → Nat → Option Nat} (hZ : HZ Z) {n : Nat} (hn : 1186 ≤ n) {z : Bool} {d : Nat} {U : Nat} {a : Nat} (hs : sh a = 12) {p0 : Int32} {p1 : Int32} {σ : SG} {σ' : SG} (hx : x_X12_takeFixed U a p0 p1 σ = some σ') : mm_Cm g l yX12_takeFixed (.code yX12_takeFixed cX12_takeFixed 4 none) (d) 0 0 [.ref a, .int p0, .int p1] (mem Z σ, n, z) (fun v S' => v = none ∧ S' = (mem Z σ', n, z)) := by
  refine mm_Cm_of hst (by decide) (Nat.le_of_ble_eq_true rfl) ?_
  show mm_V g l RX12 "takeFixed" cX12_takeFixed 4 none [] (d) 0 0 (mm_nt (fun v S' => v = none ∧ S' = (mem Z σ', n, z))) 0 [some (.ref a), some (.int p0), some (.int p1), none] [] (mem Z σ, n, z) 0 0
  unfold x_X12_takeFixed at hx
  refine mm_aload_n dX12_takeFixed_0 rfl rfl ?_
  refine mm_lconst (v := 0) dX12_takeFixed_1 (by decide) ?_
  refine s_putL (v := 0) (r := some a) (b := a) (ci := 12) (k := 108) in_X12 rfl (by decide) rfl tyX12_ok nmX12 rfl kF_X12_633 dX12_takeFixed_2 (mm_fit_long _) rfl hs (by decide) hn (by decide) rfl hx (fun σ1 hx => ?_)
  refine mm_aload_n dX12_takeFixed_5 rfl rfl ?_
  refine s_getI (r := some a) (b := a) (ci := 12) (k := 109) in_X12 rfl (by decide) rfl kF_X12_636 dX12_takeFixed_6 rfl hs (by decide) hn (by decide) rfl ?_
  refine mm_iload_n dX12_takeFixed_9 rfl ?_
  refine mm_iadd dX12_takeFixed_10 ?_
  refine mm_iload_n dX12_takeFixed_11 rfl ?_
  refine b_if hx (fun h2 hx => ?_) (fun h2 hx => ?_)
  · refine mm_icmp_le 21 dX12_takeFixed_12 (by decide) (fun h => absurd h (Int32.not_le.mpr h2)) (fun _ => ?_)
    refine mm_aload_n dX12_takeFixed_15 rfl rfl ?_
    refine mm_iconst (v := 1) dX12_takeFixed_16 (by decide) ?_
    refine s_putI (v := 1) (r := some a) (b := a) (ci := 12) (k := 107) in_X12 rfl (by decide) rfl tyX12_ok nmX12 rfl kF_X12_590 dX12_takeFixed_17 mm_fit_z1 rfl hs (by decide) hn (by decide) rfl hx (fun σ3 hx => ?_)
    refine mm_vret dX12_takeFixed_20 rfl ?_ (by omega) (by omega)
    obtain rfl := fin1 hx
    exact ⟨rfl, rfl⟩
  · refine mm_icmp_le 21 dX12_takeFixed_12 (by decide) (fun _ => ?_) (fun h => absurd (Int32.not_lt.mp h2) h)
    refine mm_iconst (v := 0) dX12_takeFixed_21 (by decide) ?_
    refine mm_istore_n [some (.ref a), some (.int p0), some (.int p1), some (.int 0)] dX12_takeFixed_22 (by decide) rfl ?_
    refine mm_fewer [some (.ref a), some (.int p0), none, some (.int 0)] (few_ok (bs := [true, true, false, true]) rfl) ?_
    refine e_X12_takeFixed_L23 hst hZ hn hs ?_ _ _ _ hx
    · intro  σ10 hx
      refine mm_aload_n dX12_takeFixed_60 rfl rfl ?_
      refine mm_dup dX12_takeFixed_61 rfl ?_
      refine s_getI (r := some a) (b := a) (ci := 12) (k := 109) in_X12 rfl (by decide) rfl kF_X12_636 dX12_takeFixed_62 rfl hs (by decide) hn (by decide) rfl ?_
      refine mm_iload_n dX12_takeFixed_65 rfl ?_
      refine mm_iadd dX12_takeFixed_66 ?_
      refine s_putI (v := (sI σ10 a 109) + p0) (r := some a) (b := a) (ci := 12) (k := 109) in_X12 rfl (by decide) rfl tyX12_ok nmX12 rfl kF_X12_636 dX12_takeFixed_67 (mm_fit_int _) rfl hs (by decide) hn (by decide) rfl hx (fun σ11 hx => ?_)
      refine mm_vret dX12_takeFixed_70 rfl ?_ (by omega) (by omega)
      obtain rfl := fin1 hx
      exact ⟨rfl, rfl⟩
set_option maxHeartbeats 4000000 in
set_option maxRecDepth 100000 in
theorem e_X12_takeOne_24 {g : mm_G} {l : Launch} (hst : l.stackTraces = false) {Z : Nat → Nat → Option Nat} (hZ : HZ Z) {n : Nat} (hn : 1186 ≤ n) {z : Bool} {d : Nat} {U : Nat} {a : Nat} (hs : sh a = 12) {v2_ : Int32} {s0_ : Int32} {σ : SG} {σ' : SG} (hx : x_X12_takeOne_24 U a v2_ s0_ σ = some σ') : mm_V g l RX12 "takeOne" cX12_takeOne 3 none [] (d + 1) 0 0 (mm_nt (fun v S' => v = none ∧ S' = (mem Z σ', n, z))) 24 [none, none, some (.int v2_)] [.int s0_, .ref a] (mem Z σ, n, z) 0 0 := by
  unfold x_X12_takeOne_24 at hx
  refine mm_iload_n dX12_takeOne_24 rfl ?_
  obtain ⟨σ6, hc5, hx⟩ := b1_some hx
  refine mm_callV3 (a := a) (ci := 12) wM_X12_takeFixed kM_X12_644 wI_X12_takeFixed wS_X12_takeFixed dX12_takeOne_25 (e_X12_takeFixed hst hZ hn hs hc5) (mem_obj hs (by decide)) (sh_ltn hs (by decide) hn) rfl rfl rfl (Nat.le_of_ble_eq_true rfl) (by omega) (by omega) (fun v9 S9 hq => ?_)
  obtain ⟨rfl, rfl⟩ := hq
  refine ⟨fun h => ⟨h, rfl⟩, ?_⟩
  refine mm_vret dX12_takeOne_28 rfl ?_ (by omega) (by omega)
  obtain rfl := fin1 hx
  exact ⟨rfl, rfl⟩
set_option maxHeartbeats 4000000 in
set_option maxRecDepth 100000 in
theorem e_X12_takeOne {g : mm_G} {l : Launch} (hst : l.stackTraces = false) {Z : Nat → Nat → Option Nat} (hZ : HZ Z) {n : Nat} (hn : 1186 ≤ n) {z : Bool} {d : Nat} {U : Nat} {a : Nat} (hs : sh a = 12) {p0 : Int32} {p1 : Int32} {σ : SG} {σ' : SG} (hx : x_X12_takeOne U a p0 p1 σ = some σ') : mm_Cm g l yX12_takeOne (.code yX12_takeOne cX12_takeOne 3 none) (d + 1) 0 0 [.ref a, .int p0, .int p1] (mem Z σ, n, z) (fun v S' => v = none ∧ S' = (mem Z σ', n, z)) := by
  refine mm_Cm_of hst (by decide) (Nat.le_of_ble_eq_true rfl) ?_
  show mm_V g l RX12 "takeOne" cX12_takeOne 3 none [] (d + 1) 0 0 (mm_nt (fun v S' => v = none ∧ S' = (mem Z σ', n, z))) 0 [some (.ref a), some (.int p0), some (.int p1)] [] (mem Z σ, n, z) 0 0
  unfold x_X12_takeOne at hx
  refine mm_iload_n dX12_takeOne_0 rfl ?_
  refine b_if hx (fun h1 hx => ?_) (fun h1 hx => ?_)
  · refine mm_if_ne 12 dX12_takeOne_1 (by decide) (fun h => absurd h1 h) (fun _ => ?_)
    refine mm_aload_n dX12_takeOne_4 rfl rfl ?_
    refine mm_iload_n dX12_takeOne_5 rfl ?_
    obtain ⟨σ3, hc2, hx⟩ := b1_some hx
    refine mm_callV3 (a := a) (ci := 12) wM_X12_takeVarint kM_X12_641 wI_X12_takeVarint wS_X12_takeVarint dX12_takeOne_6 (e_X12_takeVarint hst hZ hn hs hc2) (mem_obj hs (by decide)) (sh_ltn hs (by decide) hn) rfl rfl rfl (Nat.le_of_ble_eq_true rfl) (by omega) (by omega) (fun v9 S9 hq => ?_)
    obtain ⟨rfl, rfl⟩ := hq
    refine ⟨fun h => ⟨h, rfl⟩, ?_⟩
    refine mm_goto 28 dX12_takeOne_9 (by decide) ?_
    refine mm_vret dX12_takeOne_28 rfl ?_ (by omega) (by omega)
    obtain rfl := fin1 hx
    exact ⟨rfl, rfl⟩
  · refine mm_if_ne 12 dX12_takeOne_1 (by decide) (fun _ => ?_) (fun h => absurd h h1)
    refine mm_aload_n dX12_takeOne_12 rfl rfl ?_
    refine mm_iload_n dX12_takeOne_13 rfl ?_
    refine mm_iconst (v := 1) dX12_takeOne_14 (by decide) ?_
    refine b_if hx (fun h4 hx => ?_) (fun h4 hx => ?_)
    · refine mm_icmp_ne 23 dX12_takeOne_15 (by decide) (fun h => absurd h4 h) (fun _ => ?_)
      refine mm_bipush (v := 8) dX12_takeOne_18 (by decide) ?_
      refine mm_goto 24 dX12_takeOne_20 (by decide) ?_
      refine mm_fewer [none, none, some (.int p1)] (few_ok (bs := [false, false, true]) rfl) ?_
      exact e_X12_takeOne_24 hst hZ hn hs hx
    · refine mm_icmp_ne 23 dX12_takeOne_15 (by decide) (fun _ => ?_) (fun h => absurd h h4)
      refine mm_iconst (v := 4) dX12_takeOne_23 (by decide) ?_
      refine mm_fewer [none, none, some (.int p1)] (few_ok (bs := [false, false, true]) rfl) ?_
      exact e_X12_takeOne_24 hst hZ hn hs hx
set_option maxHeartbeats 4000000 in
set_option maxRecDepth 100000 in
theorem e_X12_valueFor {g : mm_G} {l : Launch} (hst : l.stackTraces = false) {Z : Nat → Nat → Option Nat} (hZ : HZ Z) {n : Nat} (hn : 1186 ≤ n) {z : Bool} {d : Nat} {p0 : Int32} {p1 : Int64} {σ : SG} {r : Int64} (hx : x_X12_valueFor p0 p1 = some r) : mm_Cm g l yX12_valueFor (.code yX12_valueFor cX12_valueFor 3 (some .long)) (d) 0 0 [.int p0, .long p1] (mem Z σ, n, z) (fun v S' => v = some (.long r) ∧ S' = (mem Z σ, n, z)) := by
  refine mm_Cm_of hst (by decide) (Nat.le_of_ble_eq_true rfl) ?_
  show mm_V g l RX12 "valueFor" cX12_valueFor 3 (some .long) [] (d) 0 0 (mm_nt (fun v S' => v = some (.long r) ∧ S' = (mem Z σ, n, z))) 0 [some (.int p0), some (.long p1), none] [] (mem Z σ, n, z) 0 0
  unfold x_X12_valueFor at hx
  refine mm_iload_n dX12_valueFor_0 rfl ?_
  refine b_if hx (fun h1 hx => ?_) (fun h1 hx => ?_)
  · refine mm_tsIn 76 dX12_valueFor_1 (by rw [h1]; decide) (by rw [h1]; decide) (by rw [h1]; rfl) (by decide) ?_
    refine mm_lload_n dX12_valueFor_76 rfl ?_
    refine mm_l2i dX12_valueFor_77 ?_
    refine mm_i2l dX12_valueFor_78 ?_
    refine mm_lret dX12_valueFor_79 rfl ?_ (by omega) (by omega)
    obtain rfl := fin1 hx
    exact ⟨rfl, rfl⟩
  · skip
    refine b_if hx (fun h2 hx => ?_) (fun h2 hx => ?_)
    · refine mm_tsIn 119 dX12_valueFor_1 (by rw [h2]; decide) (by rw [h2]; decide) (by rw [h2]; rfl) (by decide) ?_
      refine mm_lload_n dX12_valueFor_119 rfl ?_
      refine mm_lret dX12_valueFor_120 rfl ?_ (by omega) (by omega)
      obtain rfl := fin1 hx
      exact ⟨rfl, rfl⟩
    · skip
      refine b_if hx (fun h3 hx => ?_) (fun h3 hx => ?_)
      · refine mm_tsIn 80 dX12_valueFor_1 (by rw [h3]; decide) (by rw [h3]; decide) (by rw [h3]; rfl) (by decide) ?_
        refine mm_lload_n dX12_valueFor_80 rfl ?_
        refine mm_ldc2 kL_X12_639 dX12_valueFor_81 ?_
        refine mm_land dX12_valueFor_84 ?_
        refine mm_lret dX12_valueFor_85 rfl ?_ (by omega) (by omega)
        obtain rfl := fin1 hx
        exact ⟨rfl, rfl⟩
      · skip
        refine b_if hx (fun h4 hx => ?_) (fun h4 hx => ?_)
        · refine mm_tsIn 119 dX12_valueFor_1 (by rw [h4]; decide) (by rw [h4]; decide) (by rw [h4]; rfl) (by decide) ?_
          refine mm_lload_n dX12_valueFor_119 rfl ?_
          refine mm_lret dX12_valueFor_120 rfl ?_ (by omega) (by omega)
          obtain rfl := fin1 hx
          exact ⟨rfl, rfl⟩
        · skip
          refine b_if hx (fun h5 hx => ?_) (fun h5 hx => ?_)
          · refine mm_tsIn 86 dX12_valueFor_1 (by rw [h5]; decide) (by rw [h5]; decide) (by rw [h5]; rfl) (by decide) ?_
            refine mm_lload_n dX12_valueFor_86 rfl ?_
            refine mm_l2i dX12_valueFor_87 ?_
            refine mm_iconst (v := 1) dX12_valueFor_88 (by decide) ?_
            refine mm_iushr dX12_valueFor_89 ?_
            refine mm_lload_n dX12_valueFor_90 rfl ?_
            refine mm_l2i dX12_valueFor_91 ?_
            refine mm_iconst (v := 1) dX12_valueFor_92 (by decide) ?_
            refine mm_iand dX12_valueFor_93 ?_
            refine mm_ineg dX12_valueFor_94 ?_
            refine mm_ixor dX12_valueFor_95 ?_
            refine mm_i2l dX12_valueFor_96 ?_
            refine mm_lret dX12_valueFor_97 rfl ?_ (by omega) (by omega)
            obtain rfl := fin1 hx
            exact ⟨rfl, rfl⟩
          · skip
            refine b_if hx (fun h6 hx => ?_) (fun h6 hx => ?_)
            · refine mm_tsIn 98 dX12_valueFor_1 (by rw [h6]; decide) (by rw [h6]; decide) (by rw [h6]; rfl) (by decide) ?_
              refine mm_lload_n dX12_valueFor_98 rfl ?_
              refine mm_iconst (v := 1) dX12_valueFor_99 (by decide) ?_
              refine mm_lushr dX12_valueFor_100 ?_
              refine mm_lload_n dX12_valueFor_101 rfl ?_
              refine mm_lconst (v := 1) dX12_valueFor_102 (by decide) ?_
              refine mm_land dX12_valueFor_103 ?_
              refine mm_lneg dX12_valueFor_104 ?_
              refine mm_lxor dX12_valueFor_105 ?_
              refine mm_lret dX12_valueFor_106 rfl ?_ (by omega) (by omega)
              obtain rfl := fin1 hx
              exact ⟨rfl, rfl⟩
            · skip
              refine b_if hx (fun h7 hx => ?_) (fun h7 hx => ?_)
              · refine mm_tsIn 80 dX12_valueFor_1 (by rw [h7]; decide) (by rw [h7]; decide) (by rw [h7]; rfl) (by decide) ?_
                refine mm_lload_n dX12_valueFor_80 rfl ?_
                refine mm_ldc2 kL_X12_639 dX12_valueFor_81 ?_
                refine mm_land dX12_valueFor_84 ?_
                refine mm_lret dX12_valueFor_85 rfl ?_ (by omega) (by omega)
                obtain rfl := fin1 hx
                exact ⟨rfl, rfl⟩
              · skip
                refine b_if hx (fun h8 hx => ?_) (fun h8 hx => ?_)
                · refine mm_tsIn 119 dX12_valueFor_1 (by rw [h8]; decide) (by rw [h8]; decide) (by rw [h8]; rfl) (by decide) ?_
                  refine mm_lload_n dX12_valueFor_119 rfl ?_
                  refine mm_lret dX12_valueFor_120 rfl ?_ (by omega) (by omega)
                  obtain rfl := fin1 hx
                  exact ⟨rfl, rfl⟩
                · skip
                  refine b_if hx (fun h9 hx => ?_) (fun h9 hx => ?_)
                  · refine mm_tsIn 76 dX12_valueFor_1 (by rw [h9]; decide) (by rw [h9]; decide) (by rw [h9]; rfl) (by decide) ?_
                    refine mm_lload_n dX12_valueFor_76 rfl ?_
                    refine mm_l2i dX12_valueFor_77 ?_
                    refine mm_i2l dX12_valueFor_78 ?_
                    refine mm_lret dX12_valueFor_79 rfl ?_ (by omega) (by omega)
                    obtain rfl := fin1 hx
                    exact ⟨rfl, rfl⟩
                  · skip
                    refine b_if hx (fun h10 hx => ?_) (fun h10 hx => ?_)
                    · refine mm_tsIn 119 dX12_valueFor_1 (by rw [h10]; decide) (by rw [h10]; decide) (by rw [h10]; rfl) (by decide) ?_
                      refine mm_lload_n dX12_valueFor_119 rfl ?_
                      refine mm_lret dX12_valueFor_120 rfl ?_ (by omega) (by omega)
                      obtain rfl := fin1 hx
                      exact ⟨rfl, rfl⟩
                    · skip
                      refine b_if hx (fun h11 hx => ?_) (fun h11 hx => ?_)
                      · refine mm_tsIn 107 dX12_valueFor_1 (by rw [h11]; decide) (by rw [h11]; decide) (by rw [h11]; rfl) (by decide) ?_
                        refine mm_lload_n dX12_valueFor_107 rfl ?_
                        refine mm_lconst (v := 0) dX12_valueFor_108 (by decide) ?_
                        refine mm_lcmp dX12_valueFor_109 ?_
                        refine b_if hx (fun h12 hx => ?_) (fun h12 hx => ?_)
                        · refine mm_if_eq 117 dX12_valueFor_110 (by decide) (fun _ => ?_) (fun h => absurd (lg_eq.mpr h12) h)
                          refine mm_lconst (v := 0) dX12_valueFor_117 (by decide) ?_
                          refine mm_lret dX12_valueFor_118 rfl ?_ (by omega) (by omega)
                          obtain rfl := fin1 hx
                          exact ⟨rfl, rfl⟩
                        · refine mm_if_eq 117 dX12_valueFor_110 (by decide) (fun h => absurd (lg_eq.mp h) h12) (fun _ => ?_)
                          refine mm_lconst (v := 1) dX12_valueFor_113 (by decide) ?_
                          refine mm_goto 118 dX12_valueFor_114 (by decide) ?_
                          refine mm_lret dX12_valueFor_118 rfl ?_ (by omega) (by omega)
                          obtain rfl := fin1 hx
                          exact ⟨rfl, rfl⟩
                      · skip
                        refine b_if hx (fun h13 hx => ?_) (fun h13 hx => ?_)
                        · refine mm_tsIn 119 dX12_valueFor_1 (by rw [h13]; decide) (by rw [h13]; decide) (by rw [h13]; rfl) (by decide) ?_
                          refine mm_lload_n dX12_valueFor_119 rfl ?_
                          refine mm_lret dX12_valueFor_120 rfl ?_ (by omega) (by omega)
                          obtain rfl := fin1 hx
                          exact ⟨rfl, rfl⟩
                        · skip
                          refine b_if hx (fun h14 hx => ?_) (fun h14 hx => ?_)
                          · refine mm_tsIn 119 dX12_valueFor_1 (by rw [h14]; decide) (by rw [h14]; decide) (by rw [h14]; rfl) (by decide) ?_
                            refine mm_lload_n dX12_valueFor_119 rfl ?_
                            refine mm_lret dX12_valueFor_120 rfl ?_ (by omega) (by omega)
                            obtain rfl := fin1 hx
                            exact ⟨rfl, rfl⟩
                          · skip
                            refine b_if hx (fun h15 hx => ?_) (fun h15 hx => ?_)
                            · refine mm_tsIn 119 dX12_valueFor_1 (by rw [h15]; decide) (by rw [h15]; decide) (by rw [h15]; rfl) (by decide) ?_
                              refine mm_lload_n dX12_valueFor_119 rfl ?_
                              refine mm_lret dX12_valueFor_120 rfl ?_ (by omega) (by omega)
                              obtain rfl := fin1 hx
                              exact ⟨rfl, rfl⟩
                            · skip
                              refine b_if hx (fun h16 hx => ?_) (fun h16 hx => ?_)
                              · refine mm_tsIn 76 dX12_valueFor_1 (by rw [h16]; decide) (by rw [h16]; decide) (by rw [h16]; rfl) (by decide) ?_
                                refine mm_lload_n dX12_valueFor_76 rfl ?_
                                refine mm_l2i dX12_valueFor_77 ?_
                                refine mm_i2l dX12_valueFor_78 ?_
                                refine mm_lret dX12_valueFor_79 rfl ?_ (by omega) (by omega)
                                obtain rfl := fin1 hx
                                exact ⟨rfl, rfl⟩
                              · skip
                                refine mm_tsOut 119 dX12_valueFor_1 (ts_out_15 h1 h2 h3 h4 h5 h6 h7 h8 h9 h10 h11 h13 h14 h15 h16) (by decide) ?_
                                refine mm_lload_n dX12_valueFor_119 rfl ?_
                                refine mm_lret dX12_valueFor_120 rfl ?_ (by omega) (by omega)
                                obtain rfl := fin1 hx
                                exact ⟨rfl, rfl⟩
set_option maxHeartbeats 4000000 in
set_option maxRecDepth 100000 in
theorem e_X12_putNumber {g : mm_G} {l : Launch} (hst : l.stackTraces = false) {Z : Nat → Nat → Option Nat} (hZ : HZ Z) {n : Nat} (hn : 1186 ≤ n) {z : Bool} {d : Nat} {U : Nat} {a : Nat} (hs : sh a = 12) {p0 : Int32} {p1 : Int32} {p2 : Int64} {σ : SG} {σ' : SG} (hx : x_X12_putNumber U a p0 p1 p2 σ = some σ') : mm_Cm g l yX12_putNumber (.code yX12_putNumber cX12_putNumber 6 none) (d + 2) 0 0 [.ref a, .int p0, .int p1, .long p2] (mem Z σ, n, z) (fun v S' => v = none ∧ S' = (mem Z σ', n, z)) := by
  refine mm_Cm_of hst (by decide) (Nat.le_of_ble_eq_true rfl) ?_
  show mm_V g l RX12 "putNumber" cX12_putNumber 6 none [] (d + 2) 0 0 (mm_nt (fun v S' => v = none ∧ S' = (mem Z σ', n, z))) 0 [some (.ref a), some (.int p0), some (.int p1), some (.long p2), none, none] [] (mem Z σ, n, z) 0 0
  unfold x_X12_putNumber at hx
  refine mm_aload_n dX12_putNumber_0 rfl rfl ?_
  refine mm_iload_n dX12_putNumber_1 rfl ?_
  refine mm_iload_n dX12_putNumber_2 rfl ?_
  obtain ⟨v2, σ3, hc1, hx⟩ := b2_some hx
  refine mm_callV3 (a := a) (ci := 12) wM_X12_rowFor kM_X12_617 wI_X12_rowFor wS_X12_rowFor dX12_putNumber_3 (e_X12_rowFor hst hZ hn hs hc1) (mem_obj hs (by decide)) (sh_ltn hs (by decide) hn) rfl rfl rfl (Nat.le_of_ble_eq_true rfl) (by omega) (by omega) (fun v9 S9 hq => ?_)
  obtain ⟨rfl, rfl⟩ := hq
  refine ⟨fun h => ⟨h, rfl⟩, ?_⟩
  refine mm_istore [some (.ref a), some (.int p0), some (.int p1), some (.long p2), none, some (.int v2)] dX12_putNumber_6 (by decide) rfl ?_
  refine mm_aload_n dX12_putNumber_8 rfl rfl ?_
  refine s_getS (q := 1167) (r := some a) (b := a) (ci := 12) (k := 93) in_X12 rfl (by decide) rfl kF_X12_211 dX12_putNumber_9 rfl hs (by decide) hn (by decide) rfl rfl ?_
  refine mm_iload dX12_putNumber_12 rfl ?_
  refine mm_lload_n dX12_putNumber_14 rfl ?_
  obtain ⟨j4, hj5, hb6, hl7, hx⟩ := ix_some hx
  refine s_last (a := 1167) (v := p2) sa_1167 hn hj5 hb6 na_1167 dX12_putNumber_15 hx (fun σ8 hx => ?_)
  refine mm_lload_n dX12_putNumber_16 rfl ?_
  refine mm_lconst (v := 0) dX12_putNumber_17 (by decide) ?_
  refine mm_lcmp dX12_putNumber_18 ?_
  refine b_if hx (fun h9 hx => ?_) (fun h9 hx => ?_)
  · refine mm_if_ne 49 dX12_putNumber_19 (by decide) (fun h => absurd (lg_eq.mpr h9) h) (fun _ => ?_)
    refine mm_aload_n dX12_putNumber_22 rfl rfl ?_
    refine s_getS (q := 1120) (r := some a) (b := a) (ci := 12) (k := 23) in_X12 rfl (by decide) rfl kF_X12_68 dX12_putNumber_23 rfl hs (by decide) hn (by decide) rfl rfl ?_
    refine mm_iload_n dX12_putNumber_26 rfl ?_
    obtain ⟨j10, hj11, hb12, hl13, hx⟩ := ix_some hx
    refine s_zald (a := 1120) sa_1120 hn hj11 hb12 na_1120 dX12_putNumber_27 ?_
    refine b_if hx (fun h14 hx => ?_) (fun h14 hx => ?_)
    · refine mm_if_ne 49 dX12_putNumber_28 (by decide) (fun h => absurd h14 h) (fun _ => ?_)
      refine mm_aload_n dX12_putNumber_31 rfl rfl ?_
      refine s_getS (q := 1122) (r := some a) (b := a) (ci := 12) (k := 25) in_X12 rfl (by decide) rfl kF_X12_75 dX12_putNumber_32 rfl hs (by decide) hn (by decide) rfl rfl ?_
      refine mm_iload_n dX12_putNumber_35 rfl ?_
      obtain ⟨j15, hj16, hb17, hl18, hx⟩ := ix_some hx
      refine s_iald (a := 1122) sa_1122 hn hj16 hb17 na_1122 dX12_putNumber_36 ?_
      refine mm_iconst (v := (-1)) dX12_putNumber_37 (by decide) ?_
      refine b_if hx (fun h19 hx => ?_) (fun h19 hx => ?_)
      · refine mm_icmp_ne 49 dX12_putNumber_38 (by decide) (fun h => absurd h19 h) (fun _ => ?_)
        refine mm_aload_n dX12_putNumber_41 rfl rfl ?_
        refine s_getS (q := 1171) (r := some a) (b := a) (ci := 12) (k := 97) in_X12 rfl (by decide) rfl kF_X12_223 dX12_putNumber_42 rfl hs (by decide) hn (by decide) rfl rfl ?_
        refine mm_iload dX12_putNumber_45 rfl ?_
        refine mm_iconst (v := 0) dX12_putNumber_47 (by decide) ?_
        obtain ⟨j20, hj21, hb22, hl23, hx⟩ := ix_some hx
        refine s_zast (a := 1171) (v := 0) sa_1171 hn hj21 hb22 na_1171 dX12_putNumber_48 hx (fun σ24 hx => ?_)
        refine mm_vret dX12_putNumber_49 rfl ?_ (by omega) (by omega)
        obtain rfl := fin1 hx
        exact ⟨rfl, rfl⟩
      · refine mm_icmp_ne 49 dX12_putNumber_38 (by decide) (fun _ => ?_) (fun h => absurd h h19)
        refine mm_vret dX12_putNumber_49 rfl ?_ (by omega) (by omega)
        obtain rfl := fin1 hx
        exact ⟨rfl, rfl⟩
    · refine mm_if_ne 49 dX12_putNumber_28 (by decide) (fun _ => ?_) (fun h => absurd h h14)
      refine mm_vret dX12_putNumber_49 rfl ?_ (by omega) (by omega)
      obtain rfl := fin1 hx
      exact ⟨rfl, rfl⟩
  · refine mm_if_ne 49 dX12_putNumber_19 (by decide) (fun _ => ?_) (fun h => absurd (lg_eq.mp h) h9)
    refine mm_vret dX12_putNumber_49 rfl ?_ (by omega) (by omega)
    obtain rfl := fin1 hx
    exact ⟨rfl, rfl⟩
set_option maxHeartbeats 4000000 in
set_option maxRecDepth 100000 in
theorem e_X12_takeLength_36 {g : mm_G} {l : Launch} (hst : l.stackTraces = false) {Z : Nat → Nat → Option Nat} (hZ : HZ Z) {n : Nat} (hn : 1186 ≤ n) {z : Bool} {d : Nat} {U : Nat} {a : Nat} (hs : sh a = 12) {σ : SG} {σ' : SG} (hx : x_X12_takeLength_36 U a σ = some σ') : mm_V g l RX12 "takeLength" cX12_takeLength 7 none [] (d + 3) 0 0 (mm_nt (fun v S' => v = none ∧ S' = (mem Z σ', n, z))) 36 [some (.ref a), none, none, none, none, none, none] [] (mem Z σ, n, z) 0 0 := by
  unfold x_X12_takeLength_36 at hx
  refine mm_aload_n dX12_takeLength_36 rfl rfl ?_
  refine mm_iconst (v := 1) dX12_takeLength_37 (by decide) ?_
  refine s_putI (v := 1) (r := some a) (b := a) (ci := 12) (k := 107) in_X12 rfl (by decide) rfl tyX12_ok nmX12 rfl kF_X12_590 dX12_takeLength_38 mm_fit_z1 rfl hs (by decide) hn (by decide) rfl hx (fun σ5 hx => ?_)
  refine mm_vret dX12_takeLength_41 rfl ?_ (by omega) (by omega)
  obtain rfl := fin1 hx
  exact ⟨rfl, rfl⟩
set_option maxHeartbeats 4000000 in
set_option maxRecDepth 100000 in
theorem e_X12_takeLength_L141 {g : mm_G} {l : Launch} (hst : l.stackTraces = false) {Z : Nat → Nat → Option Nat} (hZ : HZ Z) {n : Nat} (hn : 1186 ≤ n) {z : Bool} {d : Nat} {U : Nat} {a : Nat} (hs : sh a = 12) {k180 : SG → Option (SG)} {v1_ : Int32} {v2_ : Int32} {v4_ : Int32} {v5_ : Int32} {σ' : SG} (hk180 : ∀ (σ8 : SG), k180 σ8 = some σ' → mm_V g l RX12 "takeLength" cX12_takeLength 7 none [] (d + 3) 0 0 (mm_nt (fun v S' => v = none ∧ S' = (mem Z σ', n, z))) 180 [some (.ref a), some (.int v1_), some (.int v2_), none, some (.int v4_), some (.int v5_), none] [] (mem Z σ8, n, z) 0 0) : ∀ (U1 : Nat) (v6_ : Int32) (σ : SG), x_X12_takeLength_L141 U a k180 v1_ v2_ v4_ v5_ U1 v6_ σ = some σ' → mm_V g l RX12 "takeLength" cX12_takeLength 7 none [] (d + 3) 0 0 (mm_nt (fun v S' => v = none ∧ S' = (mem Z σ', n, z))) 141 [some (.ref a), some (.int v1_), some (.int v2_), none, some (.int v4_), some (.int v5_), some (.int v6_)] [] (mem Z σ, n, z) 0 0 := by
  intro U1
  induction U1 with
  | zero => intro v6_ σ hx; exact absurd hx (by simp [x_X12_takeLength_L141])
  | succ U1 ih =>
    intro v6_ σ hx
    rw [x_X12_takeLength_L141] at hx
    refine mm_iload dX12_takeLength_141 rfl ?_
    refine mm_iload dX12_takeLength_143 rfl ?_
    refine b_if hx (fun h34 hx => ?_) (fun h34 hx => ?_)
    · refine mm_icmp_ge 180 dX12_takeLength_145 (by decide) (fun h => absurd h (Int32.not_le.mpr h34)) (fun _ => ?_)
      refine mm_aload_n dX12_takeLength_148 rfl rfl ?_
      refine s_getS (q := 1175) (r := some a) (b := a) (ci := 12) (k := 101) in_X12 rfl (by decide) rfl kF_X12_235 dX12_takeLength_149 rfl hs (by decide) hn (by decide) rfl rfl ?_
      refine mm_aload_n dX12_takeLength_152 rfl rfl ?_
      refine s_getI (r := some a) (b := a) (ci := 12) (k := 84) in_X12 rfl (by decide) rfl kF_X12_602 dX12_takeLength_153 rfl hs (by decide) hn (by decide) rfl ?_
      refine mm_aload_n dX12_takeLength_156 rfl rfl ?_
      refine s_getS (q := 1102) (r := some a) (b := a) (ci := 12) (k := 0) in_X12 rfl (by decide) rfl kF_X12_7 dX12_takeLength_157 rfl hs (by decide) hn (by decide) rfl rfl ?_
      refine mm_iload dX12_takeLength_160 rfl ?_
      obtain ⟨j35, hj36, hb37, hl38, hx⟩ := ix_some hx
      refine s_iald (a := 1102) sa_1102 hn hj36 hb37 na_1102 dX12_takeLength_162 ?_
      obtain ⟨j39, hj40, hb41, hl42, hx⟩ := ix_some hx
      refine s_iast (a := 1175) (v := sI σ 1102 j35) sa_1175 hn hj40 hb41 na_1175 dX12_takeLength_163 hx (fun σ43 hx => ?_)
      refine mm_aload_n dX12_takeLength_164 rfl rfl ?_
      refine mm_dup dX12_takeLength_165 rfl ?_
      refine s_getI (r := some a) (b := a) (ci := 12) (k := 84) in_X12 rfl (by decide) rfl kF_X12_602 dX12_takeLength_166 rfl hs (by decide) hn (by decide) rfl ?_
      refine mm_iconst (v := 1) dX12_takeLength_169 (by decide) ?_
      refine mm_iadd dX12_takeLength_170 ?_
      refine s_putI (v := (sI σ43 a 84) + 1) (r := some a) (b := a) (ci := 12) (k := 84) in_X12 rfl (by decide) rfl tyX12_ok nmX12 rfl kF_X12_602 dX12_takeLength_171 (mm_fit_int _) rfl hs (by decide) hn (by decide) rfl hx (fun σ44 hx => ?_)
      refine mm_iinc (v := v6_ + 1) [some (.ref a), some (.int v1_), some (.int v2_), none, some (.int v4_), some (.int v5_), some (.int (v6_ + 1))] dX12_takeLength_174 rfl rfl (by decide) rfl ?_
      refine mm_goto 141 dX12_takeLength_177 (by decide) ?_
      exact ih _ _ hx
    · refine mm_icmp_ge 180 dX12_takeLength_145 (by decide) (fun _ => ?_) (fun h => absurd (Int32.not_lt.mp h34) h)
      refine mm_fewer [some (.ref a), some (.int v1_), some (.int v2_), none, some (.int v4_), some (.int v5_), none] (few_ok (bs := [true, true, true, false, true, true, false]) rfl) ?_
      exact hk180  _ hx
set_option maxHeartbeats 4000000 in
set_option maxRecDepth 100000 in
theorem e_X12_takeLength_L197 {g : mm_G} {l : Launch} (hst : l.stackTraces = false) {Z : Nat → Nat → Option Nat} (hZ : HZ Z) {n : Nat} (hn : 1186 ≤ n) {z : Bool} {d : Nat} {U : Nat} {a : Nat} (hs : sh a = 12) {v1_ : Int32} {v2_ : Int32} {v4_ : Int32} {σ' : SG} : ∀ (U1 : Nat) (σ : SG), x_X12_takeLength_L197 U a v1_ v2_ v4_ U1 σ = some σ' → mm_V g l RX12 "takeLength" cX12_takeLength 7 none [] (d + 3) 0 0 (mm_nt (fun v S' => v = none ∧ S' = (mem Z σ', n, z))) 197 [some (.ref a), some (.int v1_), some (.int v2_), none, some (.int v4_), none, none] [] (mem Z σ, n, z) 0 0 := by
  intro U1
  induction U1 with
  | zero => intro σ hx; exact absurd hx (by simp [x_X12_takeLength_L197])
  | succ U1 ih =>
    intro σ hx
    rw [x_X12_takeLength_L197] at hx
    refine mm_aload_n dX12_takeLength_197 rfl rfl ?_
    refine s_getI (r := some a) (b := a) (ci := 12) (k := 109) in_X12 rfl (by decide) rfl kF_X12_636 dX12_takeLength_198 rfl hs (by decide) hn (by decide) rfl ?_
    refine mm_iload dX12_takeLength_201 rfl ?_
    refine b_if hx (fun h49 hx => ?_) (fun h49 hx => ?_)
    · refine mm_icmp_ge 257 dX12_takeLength_203 (by decide) (fun h => absurd h (Int32.not_le.mpr h49)) (fun _ => ?_)
      refine mm_aload_n dX12_takeLength_206 rfl rfl ?_
      refine s_getI (r := some a) (b := a) (ci := 12) (k := 107) in_X12 rfl (by decide) rfl kF_X12_590 dX12_takeLength_207 rfl hs (by decide) hn (by decide) rfl ?_
      refine b_if hx (fun h50 hx => ?_) (fun h50 hx => ?_)
      · refine mm_if_ne 257 dX12_takeLength_210 (by decide) (fun h => absurd h50 h) (fun _ => ?_)
        refine mm_aload_n dX12_takeLength_213 rfl rfl ?_
        refine mm_aload_n dX12_takeLength_214 rfl rfl ?_
        refine s_getS (q := 1118) (r := some a) (b := a) (ci := 12) (k := 21) in_X12 rfl (by decide) rfl kF_X12_62 dX12_takeLength_215 rfl hs (by decide) hn (by decide) rfl rfl ?_
        refine mm_iload_n dX12_takeLength_218 rfl ?_
        obtain ⟨j51, hj52, hb53, hl54, hx⟩ := ix_some hx
        refine s_iald (a := 1118) sa_1118 hn hj52 hb53 na_1118 dX12_takeLength_219 ?_
        obtain ⟨v56, hc55, hx⟩ := b1_some hx
        refine mm_callS wM_X12_kindOf kM_X12_653 wT_X12_kindOf dX12_takeLength_220 (e_X12_kindOf hst hZ hn hc55) rfl rfl (Nat.le_of_ble_eq_true rfl) (by omega) (by omega) (fun v9 S9 hq => ?_)
        obtain ⟨rfl, rfl⟩ := hq
        refine ⟨fun h => ⟨h, rfl⟩, ?_⟩
        refine mm_iload dX12_takeLength_223 rfl ?_
        obtain ⟨σ58, hc57, hx⟩ := b1_some hx
        refine mm_callV3 (a := a) (ci := 12) wM_X12_takeOne kM_X12_660 wI_X12_takeOne wS_X12_takeOne dX12_takeLength_225 (e_X12_takeOne hst hZ hn hs hc57) (mem_obj hs (by decide)) (sh_ltn hs (by decide) hn) rfl rfl rfl (Nat.le_of_ble_eq_true rfl) (by omega) (by omega) (fun v9 S9 hq => ?_)
        obtain ⟨rfl, rfl⟩ := hq
        refine ⟨fun h => ⟨h, rfl⟩, ?_⟩
        refine mm_aload_n dX12_takeLength_228 rfl rfl ?_
        refine s_getI (r := some a) (b := a) (ci := 12) (k := 107) in_X12 rfl (by decide) rfl kF_X12_590 dX12_takeLength_229 rfl hs (by decide) hn (by decide) rfl ?_
        refine b_if hx (fun h59 hx => ?_) (fun h59 hx => ?_)
        · refine mm_if_ne 197 dX12_takeLength_232 (by decide) (fun h => absurd h59 h) (fun _ => ?_)
          refine mm_aload_n dX12_takeLength_235 rfl rfl ?_
          refine mm_iload_n dX12_takeLength_236 rfl ?_
          refine mm_iload_n dX12_takeLength_237 rfl ?_
          refine mm_aload_n dX12_takeLength_238 rfl rfl ?_
          refine s_getS (q := 1118) (r := some a) (b := a) (ci := 12) (k := 21) in_X12 rfl (by decide) rfl kF_X12_62 dX12_takeLength_239 rfl hs (by decide) hn (by decide) rfl rfl ?_
          refine mm_iload_n dX12_takeLength_242 rfl ?_
          obtain ⟨j60, hj61, hb62, hl63, hx⟩ := ix_some hx
          refine s_iald (a := 1118) sa_1118 hn hj61 hb62 na_1118 dX12_takeLength_243 ?_
          refine mm_aload_n dX12_takeLength_244 rfl rfl ?_
          refine s_getL (r := some a) (b := a) (ci := 12) (k := 108) in_X12 rfl (by decide) rfl kF_X12_633 dX12_takeLength_245 rfl hs (by decide) hn (by decide) rfl ?_
          obtain ⟨v65, hc64, hx⟩ := b1_some hx
          refine mm_callS wM_X12_valueFor kM_X12_663 wT_X12_valueFor dX12_takeLength_248 (e_X12_valueFor hst hZ hn hc64) rfl rfl (Nat.le_of_ble_eq_true rfl) (by omega) (by omega) (fun v9 S9 hq => ?_)
          obtain ⟨rfl, rfl⟩ := hq
          refine ⟨fun h => ⟨h, rfl⟩, ?_⟩
          obtain ⟨σ67, hc66, hx⟩ := b1_some hx
          refine mm_callV3 (a := a) (ci := 12) wM_X12_putNumber kM_X12_667 wI_X12_putNumber wS_X12_putNumber dX12_takeLength_251 (e_X12_putNumber hst hZ hn hs hc66) (mem_obj hs (by decide)) (sh_ltn hs (by decide) hn) rfl rfl rfl (Nat.le_of_ble_eq_true rfl) (by omega) (by omega) (fun v9 S9 hq => ?_)
          obtain ⟨rfl, rfl⟩ := hq
          refine ⟨fun h => ⟨h, rfl⟩, ?_⟩
          refine mm_goto 197 dX12_takeLength_254 (by decide) ?_
          exact ih  _ hx
        · refine mm_if_ne 197 dX12_takeLength_232 (by decide) (fun _ => ?_) (fun h => absurd h h59)
          exact ih  _ hx
      · refine mm_if_ne 257 dX12_takeLength_210 (by decide) (fun _ => ?_) (fun h => absurd h h50)
        refine mm_vret dX12_takeLength_257 rfl ?_ (by omega) (by omega)
        obtain rfl := fin1 hx
        exact ⟨rfl, rfl⟩
    · refine mm_icmp_ge 257 dX12_takeLength_203 (by decide) (fun _ => ?_) (fun h => absurd (Int32.not_lt.mp h49) h)
      refine mm_vret dX12_takeLength_257 rfl ?_ (by omega) (by omega)
      obtain rfl := fin1 hx
      exact ⟨rfl, rfl⟩
set_option maxHeartbeats 4000000 in
set_option maxRecDepth 100000 in
theorem e_X12_takeLength {g : mm_G} {l : Launch} (hst : l.stackTraces = false) {Z : Nat → Nat → Option Nat} (hZ : HZ Z) {n : Nat} (hn : 1186 ≤ n) {z : Bool} {d : Nat} {U : Nat} {a : Nat} (hs : sh a = 12) {p0 : Int32} {p1 : Int32} {p2 : Int32} {σ : SG} {σ' : SG} (hx : x_X12_takeLength U a p0 p1 p2 σ = some σ') : mm_Cm g l yX12_takeLength (.code yX12_takeLength cX12_takeLength 7 none) (d + 3) 0 0 [.ref a, .int p0, .int p1, .int p2] (mem Z σ, n, z) (fun v S' => v = none ∧ S' = (mem Z σ', n, z)) := by
  refine mm_Cm_of hst (by decide) (Nat.le_of_ble_eq_true rfl) ?_
  show mm_V g l RX12 "takeLength" cX12_takeLength 7 none [] (d + 3) 0 0 (mm_nt (fun v S' => v = none ∧ S' = (mem Z σ', n, z))) 0 [some (.ref a), some (.int p0), some (.int p1), some (.int p2), none, none, none] [] (mem Z σ, n, z) 0 0
  unfold x_X12_takeLength at hx
  refine mm_aload_n dX12_takeLength_0 rfl rfl ?_
  refine mm_iload_n dX12_takeLength_1 rfl ?_
  obtain ⟨σ2, hc1, hx⟩ := b1_some hx
  refine mm_callV3 (a := a) (ci := 12) wM_X12_takeVarint kM_X12_641 wI_X12_takeVarint wS_X12_takeVarint dX12_takeLength_2 (e_X12_takeVarint hst hZ hn hs hc1) (mem_obj hs (by decide)) (sh_ltn hs (by decide) hn) rfl rfl rfl (Nat.le_of_ble_eq_true rfl) (by omega) (by omega) (fun v9 S9 hq => ?_)
  obtain ⟨rfl, rfl⟩ := hq
  refine ⟨fun h => ⟨h, rfl⟩, ?_⟩
  refine mm_aload_n dX12_takeLength_5 rfl rfl ?_
  refine s_getI (r := some a) (b := a) (ci := 12) (k := 107) in_X12 rfl (by decide) rfl kF_X12_590 dX12_takeLength_6 rfl hs (by decide) hn (by decide) rfl ?_
  refine b_if hx (fun h3 hx => ?_) (fun h3 hx => ?_)
  · refine mm_if_ne 36 dX12_takeLength_9 (by decide) (fun h => absurd h3 h) (fun _ => ?_)
    refine mm_aload_n dX12_takeLength_12 rfl rfl ?_
    refine s_getL (r := some a) (b := a) (ci := 12) (k := 108) in_X12 rfl (by decide) rfl kF_X12_633 dX12_takeLength_13 rfl hs (by decide) hn (by decide) rfl ?_
    refine mm_lconst (v := 0) dX12_takeLength_16 (by decide) ?_
    refine mm_lcmp dX12_takeLength_17 ?_
    refine b_if hx (fun h4 hx => ?_) (fun h4 hx => ?_)
    · refine mm_if_lt 36 dX12_takeLength_18 (by decide) (fun _ => ?_) (fun h => absurd (lg_lt.mpr h4) h)
      refine mm_fewer [some (.ref a), none, none, none, none, none, none] (few_ok (bs := [true, false, false, false, false, false, false]) rfl) ?_
      exact e_X12_takeLength_36 hst hZ hn hs hx
    · refine mm_if_lt 36 dX12_takeLength_18 (by decide) (fun h => absurd (lg_lt.mp h) h4) (fun _ => ?_)
      refine mm_aload_n dX12_takeLength_21 rfl rfl ?_
      refine s_getL (r := some a) (b := a) (ci := 12) (k := 108) in_X12 rfl (by decide) rfl kF_X12_633 dX12_takeLength_22 rfl hs (by decide) hn (by decide) rfl ?_
      refine mm_iload_n dX12_takeLength_25 rfl ?_
      refine mm_aload_n dX12_takeLength_26 rfl rfl ?_
      refine s_getI (r := some a) (b := a) (ci := 12) (k := 109) in_X12 rfl (by decide) rfl kF_X12_636 dX12_takeLength_27 rfl hs (by decide) hn (by decide) rfl ?_
      refine mm_isub dX12_takeLength_30 ?_
      refine mm_i2l dX12_takeLength_31 ?_
      refine mm_lcmp dX12_takeLength_32 ?_
      refine b_if hx (fun h6 hx => ?_) (fun h6 hx => ?_)
      · refine mm_if_le 42 dX12_takeLength_33 (by decide) (fun h => absurd (lg_le.mp h) (Int64.not_le.mpr h6)) (fun _ => ?_)
        refine mm_fewer [some (.ref a), none, none, none, none, none, none] (few_ok (bs := [true, false, false, false, false, false, false]) rfl) ?_
        exact e_X12_takeLength_36 hst hZ hn hs hx
      · refine mm_if_le 42 dX12_takeLength_33 (by decide) (fun _ => ?_) (fun h => absurd (lg_le.mpr (Int64.not_lt.mp h6)) h)
        refine mm_aload_n dX12_takeLength_42 rfl rfl ?_
        refine s_getI (r := some a) (b := a) (ci := 12) (k := 109) in_X12 rfl (by decide) rfl kF_X12_636 dX12_takeLength_43 rfl hs (by decide) hn (by decide) rfl ?_
        refine mm_aload_n dX12_takeLength_46 rfl rfl ?_
        refine s_getL (r := some a) (b := a) (ci := 12) (k := 108) in_X12 rfl (by decide) rfl kF_X12_633 dX12_takeLength_47 rfl hs (by decide) hn (by decide) rfl ?_
        refine mm_l2i dX12_takeLength_50 ?_
        refine mm_iadd dX12_takeLength_51 ?_
        refine mm_istore [some (.ref a), some (.int p0), some (.int p1), some (.int p2), some (.int ((sI σ2 a 109) + (Int64.toInt32 (sL σ2 a 108)))), none, none] dX12_takeLength_52 (by decide) rfl ?_
        refine mm_aload_n dX12_takeLength_54 rfl rfl ?_
        refine s_getS (q := 1118) (r := some a) (b := a) (ci := 12) (k := 21) in_X12 rfl (by decide) rfl kF_X12_62 dX12_takeLength_55 rfl hs (by decide) hn (by decide) rfl rfl ?_
        refine mm_iload_n dX12_takeLength_58 rfl ?_
        obtain ⟨j7, hj8, hb9, hl10, hx⟩ := ix_some hx
        refine s_iald (a := 1118) sa_1118 hn hj8 hb9 na_1118 dX12_takeLength_59 ?_
        refine mm_bipush (v := 13) dX12_takeLength_60 (by decide) ?_
        refine b_if hx (fun h11 hx => ?_) (fun h11 hx => ?_)
        · refine mm_icmp_ne 116 dX12_takeLength_62 (by decide) (fun h => absurd h11 h) (fun _ => ?_)
          refine mm_aload_n dX12_takeLength_65 rfl rfl ?_
          refine mm_iload_n dX12_takeLength_66 rfl ?_
          refine mm_iload_n dX12_takeLength_67 rfl ?_
          obtain ⟨v13, σ14, hc12, hx⟩ := b2_some hx
          refine mm_callV3 (a := a) (ci := 12) wM_X12_putMessage kM_X12_647 wI_X12_putMessage wS_X12_putMessage dX12_takeLength_68 (e_X12_putMessage hst hZ hn hs hc12) (mem_obj hs (by decide)) (sh_ltn hs (by decide) hn) rfl rfl rfl (Nat.le_of_ble_eq_true rfl) (by omega) (by omega) (fun v9 S9 hq => ?_)
          obtain ⟨rfl, rfl⟩ := hq
          refine ⟨fun h => ⟨h, rfl⟩, ?_⟩
          refine mm_istore [some (.ref a), some (.int p0), some (.int p1), some (.int p2), some (.int ((sI σ2 a 109) + (Int64.toInt32 (sL σ2 a 108)))), some (.int v13), none] dX12_takeLength_71 (by decide) rfl ?_
          refine mm_aload_n dX12_takeLength_73 rfl rfl ?_
          refine s_getI (r := some a) (b := a) (ci := 12) (k := 107) in_X12 rfl (by decide) rfl kF_X12_590 dX12_takeLength_74 rfl hs (by decide) hn (by decide) rfl ?_
          refine b_if hx (fun h15 hx => ?_) (fun h15 hx => ?_)
          · refine mm_if_eq 81 dX12_takeLength_77 (by decide) (fun _ => ?_) (fun h => absurd h15 h)
            refine mm_aload_n dX12_takeLength_81 rfl rfl ?_
            refine s_getS (q := 1176) (r := some a) (b := a) (ci := 12) (k := 102) in_X12 rfl (by decide) rfl kF_X12_238 dX12_takeLength_82 rfl hs (by decide) hn (by decide) rfl rfl ?_
            refine mm_aload_n dX12_takeLength_85 rfl rfl ?_
            refine s_getI (r := some a) (b := a) (ci := 12) (k := 106) in_X12 rfl (by decide) rfl kF_X12_650 dX12_takeLength_86 rfl hs (by decide) hn (by decide) rfl ?_
            refine mm_iload dX12_takeLength_89 rfl ?_
            obtain ⟨j16, hj17, hb18, hl19, hx⟩ := ix_some hx
            refine s_iast (a := 1176) (v := v13) sa_1176 hn hj17 hb18 na_1176 dX12_takeLength_91 hx (fun σ20 hx => ?_)
            refine mm_aload_n dX12_takeLength_92 rfl rfl ?_
            refine s_getS (q := 1177) (r := some a) (b := a) (ci := 12) (k := 103) in_X12 rfl (by decide) rfl kF_X12_241 dX12_takeLength_93 rfl hs (by decide) hn (by decide) rfl rfl ?_
            refine mm_aload_n dX12_takeLength_96 rfl rfl ?_
            refine s_getI (r := some a) (b := a) (ci := 12) (k := 106) in_X12 rfl (by decide) rfl kF_X12_650 dX12_takeLength_97 rfl hs (by decide) hn (by decide) rfl ?_
            refine mm_iload dX12_takeLength_100 rfl ?_
            obtain ⟨j21, hj22, hb23, hl24, hx⟩ := ix_some hx
            refine s_iast (a := 1177) (v := (sI σ2 a 109) + (Int64.toInt32 (sL σ2 a 108))) sa_1177 hn hj22 hb23 na_1177 dX12_takeLength_102 hx (fun σ25 hx => ?_)
            refine mm_aload_n dX12_takeLength_103 rfl rfl ?_
            refine mm_dup dX12_takeLength_104 rfl ?_
            refine s_getI (r := some a) (b := a) (ci := 12) (k := 106) in_X12 rfl (by decide) rfl kF_X12_650 dX12_takeLength_105 rfl hs (by decide) hn (by decide) rfl ?_
            refine mm_iconst (v := 1) dX12_takeLength_108 (by decide) ?_
            refine mm_iadd dX12_takeLength_109 ?_
            refine s_putI (v := (sI σ25 a 106) + 1) (r := some a) (b := a) (ci := 12) (k := 106) in_X12 rfl (by decide) rfl tyX12_ok nmX12 rfl kF_X12_650 dX12_takeLength_110 (mm_fit_int _) rfl hs (by decide) hn (by decide) rfl hx (fun σ26 hx => ?_)
            refine mm_goto 257 dX12_takeLength_113 (by decide) ?_
            refine mm_vret dX12_takeLength_257 rfl ?_ (by omega) (by omega)
            obtain rfl := fin1 hx
            exact ⟨rfl, rfl⟩
          · refine mm_if_eq 81 dX12_takeLength_77 (by decide) (fun h => absurd h h15) (fun _ => ?_)
            refine mm_vret dX12_takeLength_80 rfl ?_ (by omega) (by omega)
            obtain rfl := fin1 hx
            exact ⟨rfl, rfl⟩
        · refine mm_icmp_ne 116 dX12_takeLength_62 (by decide) (fun _ => ?_) (fun h => absurd h h11)
          refine mm_aload_n dX12_takeLength_116 rfl rfl ?_
          refine s_getS (q := 1118) (r := some a) (b := a) (ci := 12) (k := 21) in_X12 rfl (by decide) rfl kF_X12_62 dX12_takeLength_117 rfl hs (by decide) hn (by decide) rfl rfl ?_
          refine mm_iload_n dX12_takeLength_120 rfl ?_
          obtain ⟨j27, hj28, hb29, hl30, hx⟩ := ix_some hx
          refine s_iald (a := 1118) sa_1118 hn hj28 hb29 na_1118 dX12_takeLength_121 ?_
          obtain ⟨v32, hc31, hx⟩ := b1_some hx
          refine mm_callS wM_X12_kindOf kM_X12_653 wT_X12_kindOf dX12_takeLength_122 (e_X12_kindOf hst hZ hn hc31) rfl rfl (Nat.le_of_ble_eq_true rfl) (by omega) (by omega) (fun v9 S9 hq => ?_)
          obtain ⟨rfl, rfl⟩ := hq
          refine ⟨fun h => ⟨h, rfl⟩, ?_⟩
          refine mm_iconst (v := 2) dX12_takeLength_125 (by decide) ?_
          refine b_if hx (fun h33 hx => ?_) (fun h33 hx => ?_)
          · refine mm_icmp_ne 197 dX12_takeLength_126 (by decide) (fun h => absurd h33 h) (fun _ => ?_)
            refine mm_aload_n dX12_takeLength_129 rfl rfl ?_
            refine s_getI (r := some a) (b := a) (ci := 12) (k := 84) in_X12 rfl (by decide) rfl kF_X12_602 dX12_takeLength_130 rfl hs (by decide) hn (by decide) rfl ?_
            refine mm_istore [some (.ref a), some (.int p0), some (.int p1), some (.int p2), some (.int ((sI σ2 a 109) + (Int64.toInt32 (sL σ2 a 108)))), some (.int (sI σ2 a 84)), none] dX12_takeLength_133 (by decide) rfl ?_
            refine mm_aload_n dX12_takeLength_135 rfl rfl ?_
            refine s_getI (r := some a) (b := a) (ci := 12) (k := 109) in_X12 rfl (by decide) rfl kF_X12_636 dX12_takeLength_136 rfl hs (by decide) hn (by decide) rfl ?_
            refine mm_istore [some (.ref a), some (.int p0), some (.int p1), some (.int p2), some (.int ((sI σ2 a 109) + (Int64.toInt32 (sL σ2 a 108)))), some (.int (sI σ2 a 84)), some (.int (sI σ2 a 109))] dX12_takeLength_139 (by decide) rfl ?_
            refine mm_fewer [some (.ref a), some (.int p0), some (.int p1), none, some (.int ((sI σ2 a 109) + (Int64.toInt32 (sL σ2 a 108)))), some (.int (sI σ2 a 84)), some (.int (sI σ2 a 109))] (few_ok (bs := [true, true, true, false, true, true, true]) rfl) ?_
            refine e_X12_takeLength_L141 hst hZ hn hs ?_ _ _ _ hx
            · intro  σ45 hx
              refine mm_aload_n dX12_takeLength_180 rfl rfl ?_
              refine mm_iload dX12_takeLength_181 rfl ?_
              refine s_putI (v := (sI σ2 a 109) + (Int64.toInt32 (sL σ2 a 108))) (r := some a) (b := a) (ci := 12) (k := 109) in_X12 rfl (by decide) rfl tyX12_ok nmX12 rfl kF_X12_636 dX12_takeLength_183 (mm_fit_int _) rfl hs (by decide) hn (by decide) rfl hx (fun σ46 hx => ?_)
              refine mm_aload_n dX12_takeLength_186 rfl rfl ?_
              refine mm_iload_n dX12_takeLength_187 rfl ?_
              refine mm_iload_n dX12_takeLength_188 rfl ?_
              refine mm_iload dX12_takeLength_189 rfl ?_
              obtain ⟨σ48, hc47, hx⟩ := b1_some hx
              refine mm_callV3 (a := a) (ci := 12) wM_X12_putText kM_X12_656 wI_X12_putText wS_X12_putText dX12_takeLength_191 (e_X12_putText hst hZ hn hs hc47) (mem_obj hs (by decide)) (sh_ltn hs (by decide) hn) rfl rfl rfl (Nat.le_of_ble_eq_true rfl) (by omega) (by omega) (fun v9 S9 hq => ?_)
              obtain ⟨rfl, rfl⟩ := hq
              refine ⟨fun h => ⟨h, rfl⟩, ?_⟩
              refine mm_goto 257 dX12_takeLength_194 (by decide) ?_
              refine mm_vret dX12_takeLength_257 rfl ?_ (by omega) (by omega)
              obtain rfl := fin1 hx
              exact ⟨rfl, rfl⟩
          · refine mm_icmp_ne 197 dX12_takeLength_126 (by decide) (fun _ => ?_) (fun h => absurd h h33)
            refine mm_fewer [some (.ref a), some (.int p0), some (.int p1), none, some (.int ((sI σ2 a 109) + (Int64.toInt32 (sL σ2 a 108)))), none, none] (few_ok (bs := [true, true, true, false, true, false, false]) rfl) ?_
            refine e_X12_takeLength_L197 hst hZ hn hs _ _ hx
  · refine mm_if_ne 36 dX12_takeLength_9 (by decide) (fun _ => ?_) (fun h => absurd h h3)
    refine mm_fewer [some (.ref a), none, none, none, none, none, none] (few_ok (bs := [true, false, false, false, false, false, false]) rfl) ?_
    exact e_X12_takeLength_36 hst hZ hn hs hx
set_option maxHeartbeats 4000000 in
set_option maxRecDepth 100000 in
theorem e_X12_skip_70 {g : mm_G} {l : Launch} (hst : l.stackTraces = false) {Z : Nat → Nat → Option Nat} (hZ : HZ Z) {n : Nat} (hn : 1186 ≤ n) {z : Bool} {d : Nat} {U : Nat} {a : Nat} (hs : sh a = 12) {σ : SG} {σ' : SG} (hx : x_X12_skip_70 U a σ = some σ') : mm_V g l RX12 "skip" cX12_skip 3 none [] (d + 1) 0 0 (mm_nt (fun v S' => v = none ∧ S' = (mem Z σ', n, z))) 70 [some (.ref a), none, none] [] (mem Z σ, n, z) 0 0 := by
  unfold x_X12_skip_70 at hx
  refine mm_aload_n dX12_skip_70 rfl rfl ?_
  refine mm_iconst (v := 1) dX12_skip_71 (by decide) ?_
  refine s_putI (v := 1) (r := some a) (b := a) (ci := 12) (k := 107) in_X12 rfl (by decide) rfl tyX12_ok nmX12 rfl kF_X12_590 dX12_skip_72 mm_fit_z1 rfl hs (by decide) hn (by decide) rfl hx (fun σ13 hx => ?_)
  refine mm_goto 92 dX12_skip_75 (by decide) ?_
  refine mm_vret dX12_skip_92 rfl ?_ (by omega) (by omega)
  obtain rfl := fin1 hx
  exact ⟨rfl, rfl⟩
set_option maxHeartbeats 4000000 in
set_option maxRecDepth 100000 in
theorem e_X12_skip {g : mm_G} {l : Launch} (hst : l.stackTraces = false) {Z : Nat → Nat → Option Nat} (hZ : HZ Z) {n : Nat} (hn : 1186 ≤ n) {z : Bool} {d : Nat} {U : Nat} {a : Nat} (hs : sh a = 12) {p0 : Int32} {p1 : Int32} {σ : SG} {σ' : SG} (hx : x_X12_skip U a p0 p1 σ = some σ') : mm_Cm g l yX12_skip (.code yX12_skip cX12_skip 3 none) (d + 1) 0 0 [.ref a, .int p0, .int p1] (mem Z σ, n, z) (fun v S' => v = none ∧ S' = (mem Z σ', n, z)) := by
  refine mm_Cm_of hst (by decide) (Nat.le_of_ble_eq_true rfl) ?_
  show mm_V g l RX12 "skip" cX12_skip 3 none [] (d + 1) 0 0 (mm_nt (fun v S' => v = none ∧ S' = (mem Z σ', n, z))) 0 [some (.ref a), some (.int p0), some (.int p1)] [] (mem Z σ, n, z) 0 0
  unfold x_X12_skip at hx
  refine mm_iload_n dX12_skip_0 rfl ?_
  refine b_if hx (fun h1 hx => ?_) (fun h1 hx => ?_)
  · refine mm_if_ne 12 dX12_skip_1 (by decide) (fun h => absurd h1 h) (fun _ => ?_)
    refine mm_aload_n dX12_skip_4 rfl rfl ?_
    refine mm_iload_n dX12_skip_5 rfl ?_
    obtain ⟨σ3, hc2, hx⟩ := b1_some hx
    refine mm_callV3 (a := a) (ci := 12) wM_X12_takeVarint kM_X12_641 wI_X12_takeVarint wS_X12_takeVarint dX12_skip_6 (e_X12_takeVarint hst hZ hn hs hc2) (mem_obj hs (by decide)) (sh_ltn hs (by decide) hn) rfl rfl rfl (Nat.le_of_ble_eq_true rfl) (by omega) (by omega) (fun v9 S9 hq => ?_)
    obtain ⟨rfl, rfl⟩ := hq
    refine ⟨fun h => ⟨h, rfl⟩, ?_⟩
    refine mm_goto 92 dX12_skip_9 (by decide) ?_
    refine mm_vret dX12_skip_92 rfl ?_ (by omega) (by omega)
    obtain rfl := fin1 hx
    exact ⟨rfl, rfl⟩
  · refine mm_if_ne 12 dX12_skip_1 (by decide) (fun _ => ?_) (fun h => absurd h h1)
    refine mm_iload_n dX12_skip_12 rfl ?_
    refine mm_iconst (v := 1) dX12_skip_13 (by decide) ?_
    refine b_if hx (fun h4 hx => ?_) (fun h4 hx => ?_)
    · refine mm_icmp_ne 27 dX12_skip_14 (by decide) (fun h => absurd h4 h) (fun _ => ?_)
      refine mm_aload_n dX12_skip_17 rfl rfl ?_
      refine mm_bipush (v := 8) dX12_skip_18 (by decide) ?_
      refine mm_iload_n dX12_skip_20 rfl ?_
      obtain ⟨σ6, hc5, hx⟩ := b1_some hx
      refine mm_callV3 (a := a) (ci := 12) wM_X12_takeFixed kM_X12_644 wI_X12_takeFixed wS_X12_takeFixed dX12_skip_21 (e_X12_takeFixed hst hZ hn hs hc5) (mem_obj hs (by decide)) (sh_ltn hs (by decide) hn) rfl rfl rfl (Nat.le_of_ble_eq_true rfl) (by omega) (by omega) (fun v9 S9 hq => ?_)
      obtain ⟨rfl, rfl⟩ := hq
      refine ⟨fun h => ⟨h, rfl⟩, ?_⟩
      refine mm_goto 92 dX12_skip_24 (by decide) ?_
      refine mm_vret dX12_skip_92 rfl ?_ (by omega) (by omega)
      obtain rfl := fin1 hx
      exact ⟨rfl, rfl⟩
    · refine mm_icmp_ne 27 dX12_skip_14 (by decide) (fun _ => ?_) (fun h => absurd h h4)
      refine mm_iload_n dX12_skip_27 rfl ?_
      refine mm_iconst (v := 5) dX12_skip_28 (by decide) ?_
      refine b_if hx (fun h7 hx => ?_) (fun h7 hx => ?_)
      · refine mm_icmp_ne 41 dX12_skip_29 (by decide) (fun h => absurd h7 h) (fun _ => ?_)
        refine mm_aload_n dX12_skip_32 rfl rfl ?_
        refine mm_iconst (v := 4) dX12_skip_33 (by decide) ?_
        refine mm_iload_n dX12_skip_34 rfl ?_
        obtain ⟨σ9, hc8, hx⟩ := b1_some hx
        refine mm_callV3 (a := a) (ci := 12) wM_X12_takeFixed kM_X12_644 wI_X12_takeFixed wS_X12_takeFixed dX12_skip_35 (e_X12_takeFixed hst hZ hn hs hc8) (mem_obj hs (by decide)) (sh_ltn hs (by decide) hn) rfl rfl rfl (Nat.le_of_ble_eq_true rfl) (by omega) (by omega) (fun v9 S9 hq => ?_)
        obtain ⟨rfl, rfl⟩ := hq
        refine ⟨fun h => ⟨h, rfl⟩, ?_⟩
        refine mm_goto 92 dX12_skip_38 (by decide) ?_
        refine mm_vret dX12_skip_92 rfl ?_ (by omega) (by omega)
        obtain rfl := fin1 hx
        exact ⟨rfl, rfl⟩
      · refine mm_icmp_ne 41 dX12_skip_29 (by decide) (fun _ => ?_) (fun h => absurd h h7)
        refine mm_aload_n dX12_skip_41 rfl rfl ?_
        refine mm_iload_n dX12_skip_42 rfl ?_
        obtain ⟨σ11, hc10, hx⟩ := b1_some hx
        refine mm_callV3 (a := a) (ci := 12) wM_X12_takeVarint kM_X12_641 wI_X12_takeVarint wS_X12_takeVarint dX12_skip_43 (e_X12_takeVarint hst hZ hn hs hc10) (mem_obj hs (by decide)) (sh_ltn hs (by decide) hn) rfl rfl rfl (Nat.le_of_ble_eq_true rfl) (by omega) (by omega) (fun v9 S9 hq => ?_)
        obtain ⟨rfl, rfl⟩ := hq
        refine ⟨fun h => ⟨h, rfl⟩, ?_⟩
        refine mm_aload_n dX12_skip_46 rfl rfl ?_
        refine s_getL (r := some a) (b := a) (ci := 12) (k := 108) in_X12 rfl (by decide) rfl kF_X12_633 dX12_skip_47 rfl hs (by decide) hn (by decide) rfl ?_
        refine mm_lconst (v := 0) dX12_skip_50 (by decide) ?_
        refine mm_lcmp dX12_skip_51 ?_
        refine b_if hx (fun h12 hx => ?_) (fun h12 hx => ?_)
        · refine mm_if_lt 70 dX12_skip_52 (by decide) (fun _ => ?_) (fun h => absurd (lg_lt.mpr h12) h)
          refine mm_fewer [some (.ref a), none, none] (few_ok (bs := [true, false, false]) rfl) ?_
          exact e_X12_skip_70 hst hZ hn hs hx
        · refine mm_if_lt 70 dX12_skip_52 (by decide) (fun h => absurd (lg_lt.mp h) h12) (fun _ => ?_)
          refine mm_aload_n dX12_skip_55 rfl rfl ?_
          refine s_getL (r := some a) (b := a) (ci := 12) (k := 108) in_X12 rfl (by decide) rfl kF_X12_633 dX12_skip_56 rfl hs (by decide) hn (by decide) rfl ?_
          refine mm_iload_n dX12_skip_59 rfl ?_
          refine mm_aload_n dX12_skip_60 rfl rfl ?_
          refine s_getI (r := some a) (b := a) (ci := 12) (k := 109) in_X12 rfl (by decide) rfl kF_X12_636 dX12_skip_61 rfl hs (by decide) hn (by decide) rfl ?_
          refine mm_isub dX12_skip_64 ?_
          refine mm_i2l dX12_skip_65 ?_
          refine mm_lcmp dX12_skip_66 ?_
          refine b_if hx (fun h14 hx => ?_) (fun h14 hx => ?_)
          · refine mm_if_le 78 dX12_skip_67 (by decide) (fun h => absurd (lg_le.mp h) (Int64.not_le.mpr h14)) (fun _ => ?_)
            refine mm_fewer [some (.ref a), none, none] (few_ok (bs := [true, false, false]) rfl) ?_
            exact e_X12_skip_70 hst hZ hn hs hx
          · refine mm_if_le 78 dX12_skip_67 (by decide) (fun _ => ?_) (fun h => absurd (lg_le.mpr (Int64.not_lt.mp h14)) h)
            refine mm_aload_n dX12_skip_78 rfl rfl ?_
            refine mm_dup dX12_skip_79 rfl ?_
            refine s_getI (r := some a) (b := a) (ci := 12) (k := 109) in_X12 rfl (by decide) rfl kF_X12_636 dX12_skip_80 rfl hs (by decide) hn (by decide) rfl ?_
            refine mm_aload_n dX12_skip_83 rfl rfl ?_
            refine s_getL (r := some a) (b := a) (ci := 12) (k := 108) in_X12 rfl (by decide) rfl kF_X12_633 dX12_skip_84 rfl hs (by decide) hn (by decide) rfl ?_
            refine mm_l2i dX12_skip_87 ?_
            refine mm_iadd dX12_skip_88 ?_
            refine s_putI (v := (sI σ11 a 109) + (Int64.toInt32 (sL σ11 a 108))) (r := some a) (b := a) (ci := 12) (k := 109) in_X12 rfl (by decide) rfl tyX12_ok nmX12 rfl kF_X12_636 dX12_skip_89 (mm_fit_int _) rfl hs (by decide) hn (by decide) rfl hx (fun σ15 hx => ?_)
            refine mm_vret dX12_skip_92 rfl ?_ (by omega) (by omega)
            obtain rfl := fin1 hx
            exact ⟨rfl, rfl⟩
set_option maxHeartbeats 4000000 in
set_option maxRecDepth 100000 in
theorem e_X12_takeNext_72 {g : mm_G} {l : Launch} (hst : l.stackTraces = false) {Z : Nat → Nat → Option Nat} (hZ : HZ Z) {n : Nat} (hn : 1186 ≤ n) {z : Bool} {d : Nat} {U : Nat} {a : Nat} (hs : sh a = 12) {σ : SG} {σ' : SG} (hx : x_X12_takeNext_72 U a σ = some σ') : mm_V g l RX12 "takeNext" cX12_takeNext 7 none [] (d + 4) 0 0 (mm_nt (fun v S' => v = none ∧ S' = (mem Z σ', n, z))) 72 [some (.ref a), none, none, none, none, none, none] [] (mem Z σ, n, z) 0 0 := by
  unfold x_X12_takeNext_72 at hx
  refine mm_aload_n dX12_takeNext_72 rfl rfl ?_
  refine mm_iconst (v := 1) dX12_takeNext_73 (by decide) ?_
  refine s_putI (v := 1) (r := some a) (b := a) (ci := 12) (k := 107) in_X12 rfl (by decide) rfl tyX12_ok nmX12 rfl kF_X12_590 dX12_takeNext_74 mm_fit_z1 rfl hs (by decide) hn (by decide) rfl hx (fun σ5 hx => ?_)
  refine mm_vret dX12_takeNext_77 rfl ?_ (by omega) (by omega)
  obtain rfl := fin1 hx
  exact ⟨rfl, rfl⟩
set_option maxHeartbeats 4000000 in
set_option maxRecDepth 100000 in
theorem e_X12_takeNext_209 {g : mm_G} {l : Launch} (hst : l.stackTraces = false) {Z : Nat → Nat → Option Nat} (hZ : HZ Z) {n : Nat} (hn : 1186 ≤ n) {z : Bool} {d : Nat} {U : Nat} {a : Nat} (hs : sh a = 12) {v1_ : Int32} {v2_ : Int32} {v3_ : Int32} {v4_ : Int32} {σ : SG} {σ' : SG} (hx : x_X12_takeNext_209 U a v1_ v2_ v3_ v4_ σ = some σ') : mm_V g l RX12 "takeNext" cX12_takeNext 7 none [] (d + 4) 0 0 (mm_nt (fun v S' => v = none ∧ S' = (mem Z σ', n, z))) 209 [some (.ref a), some (.int v1_), some (.int v2_), some (.int v3_), some (.int v4_), none, none] [] (mem Z σ, n, z) 0 0 := by
  unfold x_X12_takeNext_209 at hx
  refine mm_aload_n dX12_takeNext_209 rfl rfl ?_
  refine mm_iload dX12_takeNext_210 rfl ?_
  refine mm_iload_n dX12_takeNext_212 rfl ?_
  obtain ⟨σ18, hc17, hx⟩ := b1_some hx
  refine mm_callV3 (a := a) (ci := 12) wM_X12_skip kM_X12_679 wI_X12_skip wS_X12_skip dX12_takeNext_213 (e_X12_skip hst hZ hn hs hc17) (mem_obj hs (by decide)) (sh_ltn hs (by decide) hn) rfl rfl rfl (Nat.le_of_ble_eq_true rfl) (by omega) (by omega) (fun v9 S9 hq => ?_)
  obtain ⟨rfl, rfl⟩ := hq
  refine ⟨fun h => ⟨h, rfl⟩, ?_⟩
  refine mm_aload_n dX12_takeNext_216 rfl rfl ?_
  refine s_getI (r := some a) (b := a) (ci := 12) (k := 107) in_X12 rfl (by decide) rfl kF_X12_590 dX12_takeNext_217 rfl hs (by decide) hn (by decide) rfl ?_
  refine b_if hx (fun h19 hx => ?_) (fun h19 hx => ?_)
  · refine mm_if_ne 233 dX12_takeNext_220 (by decide) (fun h => absurd h19 h) (fun _ => ?_)
    refine mm_aload_n dX12_takeNext_223 rfl rfl ?_
    refine mm_iload_n dX12_takeNext_224 rfl ?_
    refine mm_iload_n dX12_takeNext_225 rfl ?_
    refine mm_aload_n dX12_takeNext_226 rfl rfl ?_
    refine s_getI (r := some a) (b := a) (ci := 12) (k := 109) in_X12 rfl (by decide) rfl kF_X12_636 dX12_takeNext_227 rfl hs (by decide) hn (by decide) rfl ?_
    obtain ⟨σ21, hc20, hx⟩ := b1_some hx
    refine mm_callV3 (a := a) (ci := 12) wM_X12_addUnknown kM_X12_682 wI_X12_addUnknown wS_X12_addUnknown dX12_takeNext_230 (e_X12_addUnknown hst hZ hn hs hc20) (mem_obj hs (by decide)) (sh_ltn hs (by decide) hn) rfl rfl rfl (Nat.le_of_ble_eq_true rfl) (by omega) (by omega) (fun v9 S9 hq => ?_)
    obtain ⟨rfl, rfl⟩ := hq
    refine ⟨fun h => ⟨h, rfl⟩, ?_⟩
    refine mm_vret dX12_takeNext_233 rfl ?_ (by omega) (by omega)
    obtain rfl := fin1 hx
    exact ⟨rfl, rfl⟩
  · refine mm_if_ne 233 dX12_takeNext_220 (by decide) (fun _ => ?_) (fun h => absurd h h19)
    refine mm_vret dX12_takeNext_233 rfl ?_ (by omega) (by omega)
    obtain rfl := fin1 hx
    exact ⟨rfl, rfl⟩
set_option maxHeartbeats 4000000 in
set_option maxRecDepth 100000 in
theorem e_X12_takeNext_158 {g : mm_G} {l : Launch} (hst : l.stackTraces = false) {Z : Nat → Nat → Option Nat} (hZ : HZ Z) {n : Nat} (hn : 1186 ≤ n) {z : Bool} {d : Nat} {U : Nat} {a : Nat} (hs : sh a = 12) {v1_ : Int32} {v2_ : Int32} {v3_ : Int32} {v4_ : Int32} {v5_ : Int32} {v6_ : Int32} {σ : SG} {σ' : SG} (hx : x_X12_takeNext_158 U a v1_ v2_ v3_ v4_ v5_ v6_ σ = some σ') : mm_V g l RX12 "takeNext" cX12_takeNext 7 none [] (d + 4) 0 0 (mm_nt (fun v S' => v = none ∧ S' = (mem Z σ', n, z))) 158 [some (.ref a), some (.int v1_), some (.int v2_), some (.int v3_), some (.int v4_), some (.int v5_), some (.int v6_)] [] (mem Z σ, n, z) 0 0 := by
  unfold x_X12_takeNext_158 at hx
  refine mm_iload dX12_takeNext_158 rfl ?_
  refine mm_iconst (v := (-1)) dX12_takeNext_160 (by decide) ?_
  refine b_if hx (fun h16 hx => ?_) (fun h16 hx => ?_)
  · refine mm_icmp_eq 209 dX12_takeNext_161 (by decide) (fun _ => ?_) (fun h => absurd h16 h)
    refine mm_fewer [some (.ref a), some (.int v1_), some (.int v2_), some (.int v3_), some (.int v4_), none, none] (few_ok (bs := [true, true, true, true, true, false, false]) rfl) ?_
    exact e_X12_takeNext_209 hst hZ hn hs hx
  · refine mm_icmp_eq 209 dX12_takeNext_161 (by decide) (fun h => absurd h h16) (fun _ => ?_)
    refine mm_iload dX12_takeNext_164 rfl ?_
    refine mm_iload dX12_takeNext_166 rfl ?_
    refine b_if hx (fun h22 hx => ?_) (fun h22 hx => ?_)
    · refine mm_icmp_ne 209 dX12_takeNext_168 (by decide) (fun h => absurd h22 h) (fun _ => ?_)
      refine mm_aload_n dX12_takeNext_171 rfl rfl ?_
      refine mm_iload dX12_takeNext_172 rfl ?_
      refine mm_iload_n dX12_takeNext_174 rfl ?_
      obtain ⟨σ24, hc23, hx⟩ := b1_some hx
      refine mm_callV3 (a := a) (ci := 12) wM_X12_takeOne kM_X12_660 wI_X12_takeOne wS_X12_takeOne dX12_takeNext_175 (e_X12_takeOne hst hZ hn hs hc23) (mem_obj hs (by decide)) (sh_ltn hs (by decide) hn) rfl rfl rfl (Nat.le_of_ble_eq_true rfl) (by omega) (by omega) (fun v9 S9 hq => ?_)
      obtain ⟨rfl, rfl⟩ := hq
      refine ⟨fun h => ⟨h, rfl⟩, ?_⟩
      refine mm_aload_n dX12_takeNext_178 rfl rfl ?_
      refine s_getI (r := some a) (b := a) (ci := 12) (k := 107) in_X12 rfl (by decide) rfl kF_X12_590 dX12_takeNext_179 rfl hs (by decide) hn (by decide) rfl ?_
      refine b_if hx (fun h25 hx => ?_) (fun h25 hx => ?_)
      · refine mm_if_ne 233 dX12_takeNext_182 (by decide) (fun h => absurd h25 h) (fun _ => ?_)
        refine mm_aload_n dX12_takeNext_185 rfl rfl ?_
        refine mm_iload_n dX12_takeNext_186 rfl ?_
        refine mm_iload dX12_takeNext_187 rfl ?_
        refine mm_aload_n dX12_takeNext_189 rfl rfl ?_
        refine s_getS (q := 1118) (r := some a) (b := a) (ci := 12) (k := 21) in_X12 rfl (by decide) rfl kF_X12_62 dX12_takeNext_190 rfl hs (by decide) hn (by decide) rfl rfl ?_
        refine mm_iload dX12_takeNext_193 rfl ?_
        obtain ⟨j26, hj27, hb28, hl29, hx⟩ := ix_some hx
        refine s_iald (a := 1118) sa_1118 hn hj27 hb28 na_1118 dX12_takeNext_195 ?_
        refine mm_aload_n dX12_takeNext_196 rfl rfl ?_
        refine s_getL (r := some a) (b := a) (ci := 12) (k := 108) in_X12 rfl (by decide) rfl kF_X12_633 dX12_takeNext_197 rfl hs (by decide) hn (by decide) rfl ?_
        obtain ⟨v31, hc30, hx⟩ := b1_some hx
        refine mm_callS wM_X12_valueFor kM_X12_663 wT_X12_valueFor dX12_takeNext_200 (e_X12_valueFor hst hZ hn hc30) rfl rfl (Nat.le_of_ble_eq_true rfl) (by omega) (by omega) (fun v9 S9 hq => ?_)
        obtain ⟨rfl, rfl⟩ := hq
        refine ⟨fun h => ⟨h, rfl⟩, ?_⟩
        obtain ⟨σ33, hc32, hx⟩ := b1_some hx
        refine mm_callV3 (a := a) (ci := 12) wM_X12_putNumber kM_X12_667 wI_X12_putNumber wS_X12_putNumber dX12_takeNext_203 (e_X12_putNumber hst hZ hn hs hc32) (mem_obj hs (by decide)) (sh_ltn hs (by decide) hn) rfl rfl rfl (Nat.le_of_ble_eq_true rfl) (by omega) (by omega) (fun v9 S9 hq => ?_)
        obtain ⟨rfl, rfl⟩ := hq
        refine ⟨fun h => ⟨h, rfl⟩, ?_⟩
        refine mm_goto 233 dX12_takeNext_206 (by decide) ?_
        refine mm_vret dX12_takeNext_233 rfl ?_ (by omega) (by omega)
        obtain rfl := fin1 hx
        exact ⟨rfl, rfl⟩
      · refine mm_if_ne 233 dX12_takeNext_182 (by decide) (fun _ => ?_) (fun h => absurd h h25)
        refine mm_vret dX12_takeNext_233 rfl ?_ (by omega) (by omega)
        obtain rfl := fin1 hx
        exact ⟨rfl, rfl⟩
    · refine mm_icmp_ne 209 dX12_takeNext_168 (by decide) (fun _ => ?_) (fun h => absurd h h22)
      refine mm_fewer [some (.ref a), some (.int v1_), some (.int v2_), some (.int v3_), some (.int v4_), none, none] (few_ok (bs := [true, true, true, true, true, false, false]) rfl) ?_
      exact e_X12_takeNext_209 hst hZ hn hs hx
set_option maxHeartbeats 4000000 in
set_option maxRecDepth 100000 in
theorem e_X12_takeNext_147 {g : mm_G} {l : Launch} (hst : l.stackTraces = false) {Z : Nat → Nat → Option Nat} (hZ : HZ Z) {n : Nat} (hn : 1186 ≤ n) {z : Bool} {d : Nat} {U : Nat} {a : Nat} (hs : sh a = 12) {v1_ : Int32} {v2_ : Int32} {v5_ : Int32} {σ : SG} {σ' : SG} (hx : x_X12_takeNext_147 U a v1_ v2_ v5_ σ = some σ') : mm_V g l RX12 "takeNext" cX12_takeNext 7 none [] (d + 4) 0 0 (mm_nt (fun v S' => v = none ∧ S' = (mem Z σ', n, z))) 147 [some (.ref a), some (.int v1_), some (.int v2_), none, none, some (.int v5_), none] [] (mem Z σ, n, z) 0 0 := by
  unfold x_X12_takeNext_147 at hx
  refine mm_aload_n dX12_takeNext_147 rfl rfl ?_
  refine mm_iload_n dX12_takeNext_148 rfl ?_
  refine mm_iload dX12_takeNext_149 rfl ?_
  refine mm_iload_n dX12_takeNext_151 rfl ?_
  obtain ⟨σ37, hc36, hx⟩ := b1_some hx
  refine mm_callV3 (a := a) (ci := 12) wM_X12_takeLength kM_X12_676 wI_X12_takeLength wS_X12_takeLength dX12_takeNext_152 (e_X12_takeLength hst hZ hn hs hc36) (mem_obj hs (by decide)) (sh_ltn hs (by decide) hn) rfl rfl rfl (Nat.le_of_ble_eq_true rfl) (by omega) (by omega) (fun v9 S9 hq => ?_)
  obtain ⟨rfl, rfl⟩ := hq
  refine ⟨fun h => ⟨h, rfl⟩, ?_⟩
  refine mm_goto 233 dX12_takeNext_155 (by decide) ?_
  refine mm_vret dX12_takeNext_233 rfl ?_ (by omega) (by omega)
  obtain rfl := fin1 hx
  exact ⟨rfl, rfl⟩
set_option maxHeartbeats 4000000 in
set_option maxRecDepth 100000 in
theorem e_X12_takeNext_117 {g : mm_G} {l : Launch} (hst : l.stackTraces = false) {Z : Nat → Nat → Option Nat} (hZ : HZ Z) {n : Nat} (hn : 1186 ≤ n) {z : Bool} {d : Nat} {U : Nat} {a : Nat} (hs : sh a = 12) {v1_ : Int32} {v2_ : Int32} {v3_ : Int32} {v4_ : Int32} {v5_ : Int32} {s0_ : Int32} {σ : SG} {σ' : SG} (hx : x_X12_takeNext_117 U a v1_ v2_ v3_ v4_ v5_ s0_ σ = some σ') : mm_V g l RX12 "takeNext" cX12_takeNext 7 none [] (d + 4) 0 0 (mm_nt (fun v S' => v = none ∧ S' = (mem Z σ', n, z))) 117 [some (.ref a), some (.int v1_), some (.int v2_), some (.int v3_), some (.int v4_), some (.int v5_), none] [.int s0_] (mem Z σ, n, z) 0 0 := by
  unfold x_X12_takeNext_117 at hx
  refine mm_istore [some (.ref a), some (.int v1_), some (.int v2_), some (.int v3_), some (.int v4_), some (.int v5_), some (.int s0_)] dX12_takeNext_117 (by decide) rfl ?_
  refine mm_iload dX12_takeNext_119 rfl ?_
  refine mm_iconst (v := (-1)) dX12_takeNext_121 (by decide) ?_
  refine b_if hx (fun h15 hx => ?_) (fun h15 hx => ?_)
  · refine mm_icmp_eq 158 dX12_takeNext_122 (by decide) (fun _ => ?_) (fun h => absurd h15 h)
    exact e_X12_takeNext_158 hst hZ hn hs hx
  · refine mm_icmp_eq 158 dX12_takeNext_122 (by decide) (fun h => absurd h h15) (fun _ => ?_)
    refine mm_iload dX12_takeNext_125 rfl ?_
    refine mm_iconst (v := 2) dX12_takeNext_127 (by decide) ?_
    refine b_if hx (fun h34 hx => ?_) (fun h34 hx => ?_)
    · refine mm_icmp_ne 158 dX12_takeNext_128 (by decide) (fun h => absurd h34 h) (fun _ => ?_)
      refine mm_iload dX12_takeNext_131 rfl ?_
      refine mm_iconst (v := 2) dX12_takeNext_133 (by decide) ?_
      refine b_if hx (fun h35 hx => ?_) (fun h35 hx => ?_)
      · refine mm_icmp_eq 147 dX12_takeNext_134 (by decide) (fun _ => ?_) (fun h => absurd h35 h)
        refine mm_fewer [some (.ref a), some (.int v1_), some (.int v2_), none, none, some (.int v5_), none] (few_ok (bs := [true, true, true, false, false, true, false]) rfl) ?_
        exact e_X12_takeNext_147 hst hZ hn hs hx
      · refine mm_icmp_eq 147 dX12_takeNext_134 (by decide) (fun h => absurd h h35) (fun _ => ?_)
        refine mm_aload_n dX12_takeNext_137 rfl rfl ?_
        refine s_getS (q := 1120) (r := some a) (b := a) (ci := 12) (k := 23) in_X12 rfl (by decide) rfl kF_X12_68 dX12_takeNext_138 rfl hs (by decide) hn (by decide) rfl rfl ?_
        refine mm_iload dX12_takeNext_141 rfl ?_
        obtain ⟨j38, hj39, hb40, hl41, hx⟩ := ix_some hx
        refine s_zald (a := 1120) sa_1120 hn hj39 hb40 na_1120 dX12_takeNext_143 ?_
        refine b_if hx (fun h42 hx => ?_) (fun h42 hx => ?_)
        · refine mm_if_eq 158 dX12_takeNext_144 (by decide) (fun _ => ?_) (fun h => absurd h42 h)
          exact e_X12_takeNext_158 hst hZ hn hs hx
        · refine mm_if_eq 158 dX12_takeNext_144 (by decide) (fun h => absurd h h42) (fun _ => ?_)
          refine mm_fewer [some (.ref a), some (.int v1_), some (.int v2_), none, none, some (.int v5_), none] (few_ok (bs := [true, true, true, false, false, true, false]) rfl) ?_
          exact e_X12_takeNext_147 hst hZ hn hs hx
    · refine mm_icmp_ne 158 dX12_takeNext_128 (by decide) (fun _ => ?_) (fun h => absurd h h34)
      exact e_X12_takeNext_158 hst hZ hn hs hx
set_option maxHeartbeats 4000000 in
set_option maxRecDepth 100000 in
theorem e_X12_takeNext_78 {g : mm_G} {l : Launch} (hst : l.stackTraces = false) {Z : Nat → Nat → Option Nat} (hZ : HZ Z) {n : Nat} (hn : 1186 ≤ n) {z : Bool} {d : Nat} {U : Nat} {a : Nat} (hs : sh a = 12) {v1_ : Int32} {v2_ : Int32} {v3_ : Int32} {v4_ : Int32} {σ : SG} {σ' : SG} (hx : x_X12_takeNext_78 U a v1_ v2_ v3_ v4_ σ = some σ') : mm_V g l RX12 "takeNext" cX12_takeNext 7 none [] (d + 4) 0 0 (mm_nt (fun v S' => v = none ∧ S' = (mem Z σ', n, z))) 78 [some (.ref a), some (.int v1_), some (.int v2_), some (.int v3_), some (.int v4_), none, none] [] (mem Z σ, n, z) 0 0 := by
  unfold x_X12_takeNext_78 at hx
  refine mm_aload_n dX12_takeNext_78 rfl rfl ?_
  refine mm_aload_n dX12_takeNext_79 rfl rfl ?_
  refine s_getS (q := 1160) (r := some a) (b := a) (ci := 12) (k := 86) in_X12 rfl (by decide) rfl kF_X12_190 dX12_takeNext_80 rfl hs (by decide) hn (by decide) rfl rfl ?_
  refine mm_iload_n dX12_takeNext_83 rfl ?_
  obtain ⟨j8, hj9, hb10, hl11, hx⟩ := ix_some hx
  refine s_iald (a := 1160) sa_1160 hn hj9 hb10 na_1160 dX12_takeNext_84 ?_
  refine mm_aload_n dX12_takeNext_85 rfl rfl ?_
  refine s_getL (r := some a) (b := a) (ci := 12) (k := 108) in_X12 rfl (by decide) rfl kF_X12_633 dX12_takeNext_86 rfl hs (by decide) hn (by decide) rfl ?_
  refine mm_iconst (v := 3) dX12_takeNext_89 (by decide) ?_
  refine mm_lushr dX12_takeNext_90 ?_
  refine mm_l2i dX12_takeNext_91 ?_
  obtain ⟨v13, hc12, hx⟩ := b1_some hx
  refine mm_callV3 (a := a) (ci := 12) wM_X12_fieldNumbered kM_X12_673 wI_X12_fieldNumbered wS_X12_fieldNumbered dX12_takeNext_92 (e_X12_fieldNumbered hst hZ hn hs hc12) (mem_obj hs (by decide)) (sh_ltn hs (by decide) hn) rfl rfl rfl (Nat.le_of_ble_eq_true rfl) (by omega) (by omega) (fun v9 S9 hq => ?_)
  obtain ⟨rfl, rfl⟩ := hq
  refine ⟨fun h => ⟨h, rfl⟩, ?_⟩
  refine mm_istore [some (.ref a), some (.int v1_), some (.int v2_), some (.int v3_), some (.int v4_), some (.int v13), none] dX12_takeNext_95 (by decide) rfl ?_
  refine mm_iload dX12_takeNext_97 rfl ?_
  refine mm_iconst (v := (-1)) dX12_takeNext_99 (by decide) ?_
  refine b_if hx (fun h14 hx => ?_) (fun h14 hx => ?_)
  · refine mm_icmp_ne 107 dX12_takeNext_100 (by decide) (fun h => absurd h14 h) (fun _ => ?_)
    refine mm_iconst (v := (-1)) dX12_takeNext_103 (by decide) ?_
    refine mm_goto 117 dX12_takeNext_104 (by decide) ?_
    exact e_X12_takeNext_117 hst hZ hn hs hx
  · refine mm_icmp_ne 107 dX12_takeNext_100 (by decide) (fun _ => ?_) (fun h => absurd h h14)
    refine mm_aload_n dX12_takeNext_107 rfl rfl ?_
    refine s_getS (q := 1118) (r := some a) (b := a) (ci := 12) (k := 21) in_X12 rfl (by decide) rfl kF_X12_62 dX12_takeNext_108 rfl hs (by decide) hn (by decide) rfl rfl ?_
    refine mm_iload dX12_takeNext_111 rfl ?_
    obtain ⟨j43, hj44, hb45, hl46, hx⟩ := ix_some hx
    refine s_iald (a := 1118) sa_1118 hn hj44 hb45 na_1118 dX12_takeNext_113 ?_
    obtain ⟨v48, hc47, hx⟩ := b1_some hx
    refine mm_callS wM_X12_kindOf kM_X12_653 wT_X12_kindOf dX12_takeNext_114 (e_X12_kindOf hst hZ hn hc47) rfl rfl (Nat.le_of_ble_eq_true rfl) (by omega) (by omega) (fun v9 S9 hq => ?_)
    obtain ⟨rfl, rfl⟩ := hq
    refine ⟨fun h => ⟨h, rfl⟩, ?_⟩
    exact e_X12_takeNext_117 hst hZ hn hs hx
set_option maxHeartbeats 4000000 in
set_option maxRecDepth 100000 in
theorem e_X12_takeNext {g : mm_G} {l : Launch} (hst : l.stackTraces = false) {Z : Nat → Nat → Option Nat} (hZ : HZ Z) {n : Nat} (hn : 1186 ≤ n) {z : Bool} {d : Nat} {U : Nat} {a : Nat} (hs : sh a = 12) {p0 : Int32} {p1 : Int32} {σ : SG} {σ' : SG} (hx : x_X12_takeNext U a p0 p1 σ = some σ') : mm_Cm g l yX12_takeNext (.code yX12_takeNext cX12_takeNext 7 none) (d + 4) 0 0 [.ref a, .int p0, .int p1] (mem Z σ, n, z) (fun v S' => v = none ∧ S' = (mem Z σ', n, z)) := by
  refine mm_Cm_of hst (by decide) (Nat.le_of_ble_eq_true rfl) ?_
  show mm_V g l RX12 "takeNext" cX12_takeNext 7 none [] (d + 4) 0 0 (mm_nt (fun v S' => v = none ∧ S' = (mem Z σ', n, z))) 0 [some (.ref a), some (.int p0), some (.int p1), none, none, none, none] [] (mem Z σ, n, z) 0 0
  unfold x_X12_takeNext at hx
  refine mm_aload_n dX12_takeNext_0 rfl rfl ?_
  refine s_getI (r := some a) (b := a) (ci := 12) (k := 109) in_X12 rfl (by decide) rfl kF_X12_636 dX12_takeNext_1 rfl hs (by decide) hn (by decide) rfl ?_
  refine mm_istore_n [some (.ref a), some (.int p0), some (.int p1), some (.int (sI σ a 109)), none, none, none] dX12_takeNext_4 (by decide) rfl ?_
  refine mm_aload_n dX12_takeNext_5 rfl rfl ?_
  refine mm_iload_n dX12_takeNext_6 rfl ?_
  obtain ⟨σ2, hc1, hx⟩ := b1_some hx
  refine mm_callV3 (a := a) (ci := 12) wM_X12_takeVarint kM_X12_641 wI_X12_takeVarint wS_X12_takeVarint dX12_takeNext_7 (e_X12_takeVarint hst hZ hn hs hc1) (mem_obj hs (by decide)) (sh_ltn hs (by decide) hn) rfl rfl rfl (Nat.le_of_ble_eq_true rfl) (by omega) (by omega) (fun v9 S9 hq => ?_)
  obtain ⟨rfl, rfl⟩ := hq
  refine ⟨fun h => ⟨h, rfl⟩, ?_⟩
  refine mm_aload_n dX12_takeNext_10 rfl rfl ?_
  refine s_getL (r := some a) (b := a) (ci := 12) (k := 108) in_X12 rfl (by decide) rfl kF_X12_633 dX12_takeNext_11 rfl hs (by decide) hn (by decide) rfl ?_
  refine mm_l2i dX12_takeNext_14 ?_
  refine mm_bipush (v := 7) dX12_takeNext_15 (by decide) ?_
  refine mm_iand dX12_takeNext_17 ?_
  refine mm_istore [some (.ref a), some (.int p0), some (.int p1), some (.int (sI σ a 109)), some (.int ((Int64.toInt32 (sL σ2 a 108)) &&& 7)), none, none] dX12_takeNext_18 (by decide) rfl ?_
  refine mm_aload_n dX12_takeNext_20 rfl rfl ?_
  refine s_getI (r := some a) (b := a) (ci := 12) (k := 107) in_X12 rfl (by decide) rfl kF_X12_590 dX12_takeNext_21 rfl hs (by decide) hn (by decide) rfl ?_
  refine b_if hx (fun h3 hx => ?_) (fun h3 hx => ?_)
  · refine mm_if_ne 72 dX12_takeNext_24 (by decide) (fun h => absurd h3 h) (fun _ => ?_)
    refine mm_aload_n dX12_takeNext_27 rfl rfl ?_
    refine s_getL (r := some a) (b := a) (ci := 12) (k := 108) in_X12 rfl (by decide) rfl kF_X12_633 dX12_takeNext_28 rfl hs (by decide) hn (by decide) rfl ?_
    refine mm_ldc2 kL_X12_671 dX12_takeNext_31 ?_
    refine mm_lcmp dX12_takeNext_34 ?_
    refine b_if hx (fun h4 hx => ?_) (fun h4 hx => ?_)
    · refine mm_if_lt 72 dX12_takeNext_35 (by decide) (fun _ => ?_) (fun h => absurd (lg_lt.mpr h4) h)
      refine mm_fewer [some (.ref a), none, none, none, none, none, none] (few_ok (bs := [true, false, false, false, false, false, false]) rfl) ?_
      exact e_X12_takeNext_72 hst hZ hn hs hx
    · refine mm_if_lt 72 dX12_takeNext_35 (by decide) (fun h => absurd (lg_lt.mp h) h4) (fun _ => ?_)
      refine mm_aload_n dX12_takeNext_38 rfl rfl ?_
      refine s_getL (r := some a) (b := a) (ci := 12) (k := 108) in_X12 rfl (by decide) rfl kF_X12_633 dX12_takeNext_39 rfl hs (by decide) hn (by decide) rfl ?_
      refine mm_ldc2 kL_X12_639 dX12_takeNext_42 ?_
      refine mm_lcmp dX12_takeNext_45 ?_
      refine b_if hx (fun h6 hx => ?_) (fun h6 hx => ?_)
      · refine mm_if_gt 72 dX12_takeNext_46 (by decide) (fun _ => ?_) (fun h => absurd (lg_gt.mpr h6) h)
        refine mm_fewer [some (.ref a), none, none, none, none, none, none] (few_ok (bs := [true, false, false, false, false, false, false]) rfl) ?_
        exact e_X12_takeNext_72 hst hZ hn hs hx
      · refine mm_if_gt 72 dX12_takeNext_46 (by decide) (fun h => absurd (lg_gt.mp h) h6) (fun _ => ?_)
        refine mm_iload dX12_takeNext_49 rfl ?_
        refine b_if hx (fun h7 hx => ?_) (fun h7 hx => ?_)
        · refine mm_if_eq 78 dX12_takeNext_51 (by decide) (fun _ => ?_) (fun h => absurd h7 h)
          exact e_X12_takeNext_78 hst hZ hn hs hx
        · refine mm_if_eq 78 dX12_takeNext_51 (by decide) (fun h => absurd h h7) (fun _ => ?_)
          refine mm_iload dX12_takeNext_54 rfl ?_
          refine mm_iconst (v := 1) dX12_takeNext_56 (by decide) ?_
          refine b_if hx (fun h49 hx => ?_) (fun h49 hx => ?_)
          · refine mm_icmp_eq 78 dX12_takeNext_57 (by decide) (fun _ => ?_) (fun h => absurd h49 h)
            exact e_X12_takeNext_78 hst hZ hn hs hx
          · refine mm_icmp_eq 78 dX12_takeNext_57 (by decide) (fun h => absurd h h49) (fun _ => ?_)
            refine mm_iload dX12_takeNext_60 rfl ?_
            refine mm_iconst (v := 2) dX12_takeNext_62 (by decide) ?_
            refine b_if hx (fun h50 hx => ?_) (fun h50 hx => ?_)
            · refine mm_icmp_eq 78 dX12_takeNext_63 (by decide) (fun _ => ?_) (fun h => absurd h50 h)
              exact e_X12_takeNext_78 hst hZ hn hs hx
            · refine mm_icmp_eq 78 dX12_takeNext_63 (by decide) (fun h => absurd h h50) (fun _ => ?_)
              refine mm_iload dX12_takeNext_66 rfl ?_
              refine mm_iconst (v := 5) dX12_takeNext_68 (by decide) ?_
              refine b_if hx (fun h51 hx => ?_) (fun h51 hx => ?_)
              · refine mm_icmp_eq 78 dX12_takeNext_69 (by decide) (fun _ => ?_) (fun h => absurd h51 h)
                exact e_X12_takeNext_78 hst hZ hn hs hx
              · refine mm_icmp_eq 78 dX12_takeNext_69 (by decide) (fun h => absurd h h51) (fun _ => ?_)
                refine mm_fewer [some (.ref a), none, none, none, none, none, none] (few_ok (bs := [true, false, false, false, false, false, false]) rfl) ?_
                exact e_X12_takeNext_72 hst hZ hn hs hx
  · refine mm_if_ne 72 dX12_takeNext_24 (by decide) (fun _ => ?_) (fun h => absurd h h3)
    refine mm_fewer [some (.ref a), none, none, none, none, none, none] (few_ok (bs := [true, false, false, false, false, false, false]) rfl) ?_
    exact e_X12_takeNext_72 hst hZ hn hs hx
set_option maxHeartbeats 4000000 in
set_option maxRecDepth 100000 in
theorem e_X12_liveValues_65 {g : mm_G} {l : Launch} (hst : l.stackTraces = false) {Z : Nat → Nat → Option Nat} (hZ : HZ Z) {n : Nat} (hn : 1186 ≤ n) {z : Bool} {d : Nat} {U : Nat} {a : Nat} (hs : sh a = 12) {k4 : Int32 → SG → Option (Int32 × SG)} {k72 : SG → Option (Int32 × SG)} {v1_ : Int32} {v2_ : Int32} {s0_ : Int32} {s1_ : Int32} {σ : SG} {r : Int32} {σ' : SG} (hk4 : ∀ (v2_ : Int32) (σ8 : SG), k4 v2_ σ8 = some (r, σ') → mm_V g l RX12 "liveValues" cX12_liveValues 3 (some .int) [] (d) 0 0 (mm_nt (fun v S' => v = some (.int r) ∧ S' = (mem Z σ', n, z))) 4 [some (.ref a), some (.int v1_), some (.int v2_)] [] (mem Z σ8, n, z) 0 0) (hk72 : ∀ (σ8 : SG), k72 σ8 = some (r, σ') → mm_V g l RX12 "liveValues" cX12_liveValues 3 (some .int) [] (d) 0 0 (mm_nt (fun v S' => v = some (.int r) ∧ S' = (mem Z σ', n, z))) 72 [some (.ref a), some (.int v1_), none] [] (mem Z σ8, n, z) 0 0) (hx : x_X12_liveValues_65 U a k4 k72 v1_ v2_ s0_ s1_ σ = some (r, σ')) : mm_V g l RX12 "liveValues" cX12_liveValues 3 (some .int) [] (d) 0 0 (mm_nt (fun v S' => v = some (.int r) ∧ S' = (mem Z σ', n, z))) 65 [some (.ref a), some (.int v1_), some (.int v2_)] [.int s0_, .int s1_, .ref 1164] (mem Z σ, n, z) 0 0 := by
  unfold x_X12_liveValues_65 at hx
  obtain ⟨j7, hj8, hb9, hl10, hx⟩ := ix_some hx
  refine s_zast (a := 1164) (v := s0_) sa_1164 hn hj8 hb9 na_1164 dX12_liveValues_65 hx (fun σ11 hx => ?_)
  refine mm_iinc (v := v2_ + 1) [some (.ref a), some (.int v1_), some (.int (v2_ + 1))] dX12_liveValues_66 rfl rfl (by decide) rfl ?_
  refine mm_goto 4 dX12_liveValues_69 (by decide) ?_
  exact hk4 _ _ hx
set_option maxHeartbeats 4000000 in
set_option maxRecDepth 100000 in
theorem e_X12_liveValues_60 {g : mm_G} {l : Launch} (hst : l.stackTraces = false) {Z : Nat → Nat → Option Nat} (hZ : HZ Z) {n : Nat} (hn : 1186 ≤ n) {z : Bool} {d : Nat} {U : Nat} {a : Nat} (hs : sh a = 12) {k4 : Int32 → SG → Option (Int32 × SG)} {k72 : SG → Option (Int32 × SG)} {v1_ : Int32} {v2_ : Int32} {s0_ : Int32} {σ : SG} {r : Int32} {σ' : SG} (hk4 : ∀ (v2_ : Int32) (σ8 : SG), k4 v2_ σ8 = some (r, σ') → mm_V g l RX12 "liveValues" cX12_liveValues 3 (some .int) [] (d) 0 0 (mm_nt (fun v S' => v = some (.int r) ∧ S' = (mem Z σ', n, z))) 4 [some (.ref a), some (.int v1_), some (.int v2_)] [] (mem Z σ8, n, z) 0 0) (hk72 : ∀ (σ8 : SG), k72 σ8 = some (r, σ') → mm_V g l RX12 "liveValues" cX12_liveValues 3 (some .int) [] (d) 0 0 (mm_nt (fun v S' => v = some (.int r) ∧ S' = (mem Z σ', n, z))) 72 [some (.ref a), some (.int v1_), none] [] (mem Z σ8, n, z) 0 0) (hx : x_X12_liveValues_60 U a k4 k72 v1_ v2_ s0_ σ = some (r, σ')) : mm_V g l RX12 "liveValues" cX12_liveValues 3 (some .int) [] (d) 0 0 (mm_nt (fun v S' => v = some (.int r) ∧ S' = (mem Z σ', n, z))) 60 [some (.ref a), some (.int v1_), some (.int v2_)] [.int s0_, .ref 1164] (mem Z σ, n, z) 0 0 := by
  unfold x_X12_liveValues_60 at hx
  refine mm_iconst (v := 1) dX12_liveValues_60 (by decide) ?_
  refine mm_goto 65 dX12_liveValues_61 (by decide) ?_
  exact e_X12_liveValues_65 hst hZ hn hs hk4 hk72 hx
set_option maxHeartbeats 4000000 in
set_option maxRecDepth 100000 in
theorem e_X12_liveValues_64 {g : mm_G} {l : Launch} (hst : l.stackTraces = false) {Z : Nat → Nat → Option Nat} (hZ : HZ Z) {n : Nat} (hn : 1186 ≤ n) {z : Bool} {d : Nat} {U : Nat} {a : Nat} (hs : sh a = 12) {k4 : Int32 → SG → Option (Int32 × SG)} {k72 : SG → Option (Int32 × SG)} {v1_ : Int32} {v2_ : Int32} {s0_ : Int32} {σ : SG} {r : Int32} {σ' : SG} (hk4 : ∀ (v2_ : Int32) (σ8 : SG), k4 v2_ σ8 = some (r, σ') → mm_V g l RX12 "liveValues" cX12_liveValues 3 (some .int) [] (d) 0 0 (mm_nt (fun v S' => v = some (.int r) ∧ S' = (mem Z σ', n, z))) 4 [some (.ref a), some (.int v1_), some (.int v2_)] [] (mem Z σ8, n, z) 0 0) (hk72 : ∀ (σ8 : SG), k72 σ8 = some (r, σ') → mm_V g l RX12 "liveValues" cX12_liveValues 3 (some .int) [] (d) 0 0 (mm_nt (fun v S' => v = some (.int r) ∧ S' = (mem Z σ', n, z))) 72 [some (.ref a), some (.int v1_), none] [] (mem Z σ8, n, z) 0 0) (hx : x_X12_liveValues_64 U a k4 k72 v1_ v2_ s0_ σ = some (r, σ')) : mm_V g l RX12 "liveValues" cX12_liveValues 3 (some .int) [] (d) 0 0 (mm_nt (fun v S' => v = some (.int r) ∧ S' = (mem Z σ', n, z))) 64 [some (.ref a), some (.int v1_), some (.int v2_)] [.int s0_, .ref 1164] (mem Z σ, n, z) 0 0 := by
  unfold x_X12_liveValues_64 at hx
  refine mm_iconst (v := 0) dX12_liveValues_64 (by decide) ?_
  exact e_X12_liveValues_65 hst hZ hn hs hk4 hk72 hx
set_option maxHeartbeats 4000000 in
set_option maxRecDepth 100000 in
theorem e_X12_liveValues_L4 {g : mm_G} {l : Launch} (hst : l.stackTraces = false) {Z : Nat → Nat → Option Nat} (hZ : HZ Z) {n : Nat} (hn : 1186 ≤ n) {z : Bool} {d : Nat} {U : Nat} {a : Nat} (hs : sh a = 12) {k72 : SG → Option (Int32 × SG)} {v1_ : Int32} {r : Int32} {σ' : SG} (hk72 : ∀ (σ8 : SG), k72 σ8 = some (r, σ') → mm_V g l RX12 "liveValues" cX12_liveValues 3 (some .int) [] (d) 0 0 (mm_nt (fun v S' => v = some (.int r) ∧ S' = (mem Z σ', n, z))) 72 [some (.ref a), some (.int v1_), none] [] (mem Z σ8, n, z) 0 0) : ∀ (U1 : Nat) (v2_ : Int32) (σ : SG), x_X12_liveValues_L4 U a k72 v1_ U1 v2_ σ = some (r, σ') → mm_V g l RX12 "liveValues" cX12_liveValues 3 (some .int) [] (d) 0 0 (mm_nt (fun v S' => v = some (.int r) ∧ S' = (mem Z σ', n, z))) 4 [some (.ref a), some (.int v1_), some (.int v2_)] [] (mem Z σ, n, z) 0 0 := by
  intro U1
  induction U1 with
  | zero => intro v2_ σ hx; exact absurd hx (by simp [x_X12_liveValues_L4])
  | succ U1 ih =>
    intro v2_ σ hx
    rw [x_X12_liveValues_L4] at hx
    refine mm_iload_n dX12_liveValues_4 rfl ?_
    refine mm_aload_n dX12_liveValues_5 rfl rfl ?_
    refine s_getI (r := some a) (b := a) (ci := 12) (k := 81) in_X12 rfl (by decide) rfl kF_X12_593 dX12_liveValues_6 rfl hs (by decide) hn (by decide) rfl ?_
    refine b_if hx (fun h1 hx => ?_) (fun h1 hx => ?_)
    · refine mm_icmp_ge 72 dX12_liveValues_9 (by decide) (fun h => absurd h (Int32.not_le.mpr h1)) (fun _ => ?_)
      refine mm_aload_n dX12_liveValues_12 rfl rfl ?_
      refine s_getS (q := 1164) (r := some a) (b := a) (ci := 12) (k := 90) in_X12 rfl (by decide) rfl kF_X12_202 dX12_liveValues_13 rfl hs (by decide) hn (by decide) rfl rfl ?_
      refine mm_iload_n dX12_liveValues_16 rfl ?_
      refine mm_aload_n dX12_liveValues_17 rfl rfl ?_
      refine s_getS (q := 1161) (r := some a) (b := a) (ci := 12) (k := 87) in_X12 rfl (by decide) rfl kF_X12_193 dX12_liveValues_18 rfl hs (by decide) hn (by decide) rfl rfl ?_
      refine mm_iload_n dX12_liveValues_21 rfl ?_
      obtain ⟨j2, hj3, hb4, hl5, hx⟩ := ix_some hx
      refine s_iald (a := 1161) sa_1161 hn hj3 hb4 na_1161 dX12_liveValues_22 ?_
      refine mm_iconst (v := (-1)) dX12_liveValues_23 (by decide) ?_
      refine b_if hx (fun h6 hx => ?_) (fun h6 hx => ?_)
      · refine mm_icmp_eq 60 dX12_liveValues_24 (by decide) (fun _ => ?_) (fun h => absurd h6 h)
        exact e_X12_liveValues_60 hst hZ hn hs ih hk72 hx
      · refine mm_icmp_eq 60 dX12_liveValues_24 (by decide) (fun h => absurd h h6) (fun _ => ?_)
        refine mm_aload_n dX12_liveValues_27 rfl rfl ?_
        refine s_getS (q := 1171) (r := some a) (b := a) (ci := 12) (k := 97) in_X12 rfl (by decide) rfl kF_X12_223 dX12_liveValues_28 rfl hs (by decide) hn (by decide) rfl rfl ?_
        refine mm_aload_n dX12_liveValues_31 rfl rfl ?_
        refine s_getS (q := 1161) (r := some a) (b := a) (ci := 12) (k := 87) in_X12 rfl (by decide) rfl kF_X12_193 dX12_liveValues_32 rfl hs (by decide) hn (by decide) rfl rfl ?_
        refine mm_iload_n dX12_liveValues_35 rfl ?_
        obtain ⟨j12, hj13, hb14, hl15, hx⟩ := ix_some hx
        refine s_iald (a := 1161) sa_1161 hn hj13 hb14 na_1161 dX12_liveValues_36 ?_
        obtain ⟨j16, hj17, hb18, hl19, hx⟩ := ix_some hx
        refine s_zald (a := 1171) sa_1171 hn hj17 hb18 na_1171 dX12_liveValues_37 ?_
        refine b_if hx (fun h20 hx => ?_) (fun h20 hx => ?_)
        · refine mm_if_eq 64 dX12_liveValues_38 (by decide) (fun _ => ?_) (fun h => absurd h20 h)
          exact e_X12_liveValues_64 hst hZ hn hs ih hk72 hx
        · refine mm_if_eq 64 dX12_liveValues_38 (by decide) (fun h => absurd h h20) (fun _ => ?_)
          refine mm_aload_n dX12_liveValues_41 rfl rfl ?_
          refine s_getS (q := 1164) (r := some a) (b := a) (ci := 12) (k := 90) in_X12 rfl (by decide) rfl kF_X12_202 dX12_liveValues_42 rfl hs (by decide) hn (by decide) rfl rfl ?_
          refine mm_aload_n dX12_liveValues_45 rfl rfl ?_
          refine s_getS (q := 1165) (r := some a) (b := a) (ci := 12) (k := 91) in_X12 rfl (by decide) rfl kF_X12_205 dX12_liveValues_46 rfl hs (by decide) hn (by decide) rfl rfl ?_
          refine mm_aload_n dX12_liveValues_49 rfl rfl ?_
          refine s_getS (q := 1161) (r := some a) (b := a) (ci := 12) (k := 87) in_X12 rfl (by decide) rfl kF_X12_193 dX12_liveValues_50 rfl hs (by decide) hn (by decide) rfl rfl ?_
          refine mm_iload_n dX12_liveValues_53 rfl ?_
          obtain ⟨j21, hj22, hb23, hl24, hx⟩ := ix_some hx
          refine s_iald (a := 1161) sa_1161 hn hj22 hb23 na_1161 dX12_liveValues_54 ?_
          obtain ⟨j25, hj26, hb27, hl28, hx⟩ := ix_some hx
          refine s_iald (a := 1165) sa_1165 hn hj26 hb27 na_1165 dX12_liveValues_55 ?_
          obtain ⟨j29, hj30, hb31, hl32, hx⟩ := ix_some hx
          refine s_zald (a := 1164) sa_1164 hn hj30 hb31 na_1164 dX12_liveValues_56 ?_
          refine b_if hx (fun h33 hx => ?_) (fun h33 hx => ?_)
          · refine mm_if_eq 64 dX12_liveValues_57 (by decide) (fun _ => ?_) (fun h => absurd h33 h)
            exact e_X12_liveValues_64 hst hZ hn hs ih hk72 hx
          · refine mm_if_eq 64 dX12_liveValues_57 (by decide) (fun h => absurd h h33) (fun _ => ?_)
            exact e_X12_liveValues_60 hst hZ hn hs ih hk72 hx
    · refine mm_icmp_ge 72 dX12_liveValues_9 (by decide) (fun _ => ?_) (fun h => absurd (Int32.not_lt.mp h1) h)
      refine mm_fewer [some (.ref a), some (.int v1_), none] (few_ok (bs := [true, true, false]) rfl) ?_
      exact hk72  _ hx
set_option maxHeartbeats 4000000 in
set_option maxRecDepth 100000 in
theorem e_X12_liveValues_115 {g : mm_G} {l : Launch} (hst : l.stackTraces = false) {Z : Nat → Nat → Option Nat} (hZ : HZ Z) {n : Nat} (hn : 1186 ≤ n) {z : Bool} {d : Nat} {U : Nat} {a : Nat} (hs : sh a = 12) {k74 : Int32 → Int32 → SG → Option (Int32 × SG)} {v1_ : Int32} {v2_ : Int32} {σ : SG} {r : Int32} {σ' : SG} (hk74 : ∀ (v1_ : Int32) (v2_ : Int32) (σ8 : SG), k74 v1_ v2_ σ8 = some (r, σ') → mm_V g l RX12 "liveValues" cX12_liveValues 3 (some .int) [] (d) 0 0 (mm_nt (fun v S' => v = some (.int r) ∧ S' = (mem Z σ', n, z))) 74 [some (.ref a), some (.int v1_), some (.int v2_)] [] (mem Z σ8, n, z) 0 0) (hx : x_X12_liveValues_115 U a k74 v1_ v2_ σ = some (r, σ')) : mm_V g l RX12 "liveValues" cX12_liveValues 3 (some .int) [] (d) 0 0 (mm_nt (fun v S' => v = some (.int r) ∧ S' = (mem Z σ', n, z))) 115 [some (.ref a), some (.int v1_), some (.int v2_)] [] (mem Z σ, n, z) 0 0 := by
  unfold x_X12_liveValues_115 at hx
  refine mm_iinc (v := v2_ + 1) [some (.ref a), some (.int v1_), some (.int (v2_ + 1))] dX12_liveValues_115 rfl rfl (by decide) rfl ?_
  refine mm_goto 74 dX12_liveValues_118 (by decide) ?_
  exact hk74 _ _ _ hx
set_option maxHeartbeats 4000000 in
set_option maxRecDepth 100000 in
theorem e_X12_liveValues_103 {g : mm_G} {l : Launch} (hst : l.stackTraces = false) {Z : Nat → Nat → Option Nat} (hZ : HZ Z) {n : Nat} (hn : 1186 ≤ n) {z : Bool} {d : Nat} {U : Nat} {a : Nat} (hs : sh a = 12) {k74 : Int32 → Int32 → SG → Option (Int32 × SG)} {v1_ : Int32} {v2_ : Int32} {σ : SG} {r : Int32} {σ' : SG} (hk74 : ∀ (v1_ : Int32) (v2_ : Int32) (σ8 : SG), k74 v1_ v2_ σ8 = some (r, σ') → mm_V g l RX12 "liveValues" cX12_liveValues 3 (some .int) [] (d) 0 0 (mm_nt (fun v S' => v = some (.int r) ∧ S' = (mem Z σ', n, z))) 74 [some (.ref a), some (.int v1_), some (.int v2_)] [] (mem Z σ8, n, z) 0 0) (hx : x_X12_liveValues_103 U a k74 v1_ v2_ σ = some (r, σ')) : mm_V g l RX12 "liveValues" cX12_liveValues 3 (some .int) [] (d) 0 0 (mm_nt (fun v S' => v = some (.int r) ∧ S' = (mem Z σ', n, z))) 103 [some (.ref a), some (.int v1_), some (.int v2_)] [] (mem Z σ, n, z) 0 0 := by
  unfold x_X12_liveValues_103 at hx
  refine mm_aload_n dX12_liveValues_103 rfl rfl ?_
  refine s_getS (q := 1171) (r := some a) (b := a) (ci := 12) (k := 97) in_X12 rfl (by decide) rfl kF_X12_223 dX12_liveValues_104 rfl hs (by decide) hn (by decide) rfl rfl ?_
  refine mm_iload_n dX12_liveValues_107 rfl ?_
  obtain ⟨j50, hj51, hb52, hl53, hx⟩ := ix_some hx
  refine s_zald (a := 1171) sa_1171 hn hj51 hb52 na_1171 dX12_liveValues_108 ?_
  refine b_if hx (fun h54 hx => ?_) (fun h54 hx => ?_)
  · refine mm_if_eq 115 dX12_liveValues_109 (by decide) (fun _ => ?_) (fun h => absurd h54 h)
    exact e_X12_liveValues_115 hst hZ hn hs hk74 hx
  · refine mm_if_eq 115 dX12_liveValues_109 (by decide) (fun h => absurd h h54) (fun _ => ?_)
    refine mm_iinc (v := v1_ + 1) [some (.ref a), some (.int (v1_ + 1)), some (.int v2_)] dX12_liveValues_112 rfl rfl (by decide) rfl ?_
    exact e_X12_liveValues_115 hst hZ hn hs hk74 hx
set_option maxHeartbeats 4000000 in
set_option maxRecDepth 100000 in
theorem e_X12_liveValues_L74 {g : mm_G} {l : Launch} (hst : l.stackTraces = false) {Z : Nat → Nat → Option Nat} (hZ : HZ Z) {n : Nat} (hn : 1186 ≤ n) {z : Bool} {d : Nat} {U : Nat} {a : Nat} (hs : sh a = 12) {r : Int32} {σ' : SG} : ∀ (U1 : Nat) (v1_ : Int32) (v2_ : Int32) (σ : SG), x_X12_liveValues_L74 U a U1 v1_ v2_ σ = some (r, σ') → mm_V g l RX12 "liveValues" cX12_liveValues 3 (some .int) [] (d) 0 0 (mm_nt (fun v S' => v = some (.int r) ∧ S' = (mem Z σ', n, z))) 74 [some (.ref a), some (.int v1_), some (.int v2_)] [] (mem Z σ, n, z) 0 0 := by
  intro U1
  induction U1 with
  | zero => intro v1_ v2_ σ hx; exact absurd hx (by simp [x_X12_liveValues_L74])
  | succ U1 ih =>
    intro v1_ v2_ σ hx
    rw [x_X12_liveValues_L74] at hx
    refine mm_iload_n dX12_liveValues_74 rfl ?_
    refine mm_aload_n dX12_liveValues_75 rfl rfl ?_
    refine s_getI (r := some a) (b := a) (ci := 12) (k := 82) in_X12 rfl (by decide) rfl kF_X12_596 dX12_liveValues_76 rfl hs (by decide) hn (by decide) rfl ?_
    refine b_if hx (fun h35 hx => ?_) (fun h35 hx => ?_)
    · refine mm_icmp_ge 121 dX12_liveValues_79 (by decide) (fun h => absurd h (Int32.not_le.mpr h35)) (fun _ => ?_)
      refine mm_aload_n dX12_liveValues_82 rfl rfl ?_
      refine s_getS (q := 1164) (r := some a) (b := a) (ci := 12) (k := 90) in_X12 rfl (by decide) rfl kF_X12_202 dX12_liveValues_83 rfl hs (by decide) hn (by decide) rfl rfl ?_
      refine mm_aload_n dX12_liveValues_86 rfl rfl ?_
      refine s_getS (q := 1165) (r := some a) (b := a) (ci := 12) (k := 91) in_X12 rfl (by decide) rfl kF_X12_205 dX12_liveValues_87 rfl hs (by decide) hn (by decide) rfl rfl ?_
      refine mm_iload_n dX12_liveValues_90 rfl ?_
      obtain ⟨j36, hj37, hb38, hl39, hx⟩ := ix_some hx
      refine s_iald (a := 1165) sa_1165 hn hj37 hb38 na_1165 dX12_liveValues_91 ?_
      obtain ⟨j40, hj41, hb42, hl43, hx⟩ := ix_some hx
      refine s_zald (a := 1164) sa_1164 hn hj41 hb42 na_1164 dX12_liveValues_92 ?_
      refine b_if hx (fun h44 hx => ?_) (fun h44 hx => ?_)
      · refine mm_if_ne 103 dX12_liveValues_93 (by decide) (fun h => absurd h44 h) (fun _ => ?_)
        refine mm_aload_n dX12_liveValues_96 rfl rfl ?_
        refine s_getS (q := 1171) (r := some a) (b := a) (ci := 12) (k := 97) in_X12 rfl (by decide) rfl kF_X12_223 dX12_liveValues_97 rfl hs (by decide) hn (by decide) rfl rfl ?_
        refine mm_iload_n dX12_liveValues_100 rfl ?_
        refine mm_iconst (v := 0) dX12_liveValues_101 (by decide) ?_
        obtain ⟨j45, hj46, hb47, hl48, hx⟩ := ix_some hx
        refine s_zast (a := 1171) (v := 0) sa_1171 hn hj46 hb47 na_1171 dX12_liveValues_102 hx (fun σ49 hx => ?_)
        exact e_X12_liveValues_103 hst hZ hn hs ih hx
      · refine mm_if_ne 103 dX12_liveValues_93 (by decide) (fun _ => ?_) (fun h => absurd h h44)
        exact e_X12_liveValues_103 hst hZ hn hs ih hx
    · refine mm_icmp_ge 121 dX12_liveValues_79 (by decide) (fun _ => ?_) (fun h => absurd (Int32.not_lt.mp h35) h)
      refine mm_iload_n dX12_liveValues_121 rfl ?_
      refine mm_iret dX12_liveValues_122 rfl rfl ?_ (by omega) (by omega)
      obtain ⟨rfl, rfl⟩ := fin2 hx
      exact ⟨rfl, rfl⟩
set_option maxHeartbeats 4000000 in
set_option maxRecDepth 100000 in
theorem e_X12_liveValues {g : mm_G} {l : Launch} (hst : l.stackTraces = false) {Z : Nat → Nat → Option Nat} (hZ : HZ Z) {n : Nat} (hn : 1186 ≤ n) {z : Bool} {d : Nat} {U : Nat} {a : Nat} (hs : sh a = 12) {σ : SG} {r : Int32} {σ' : SG} (hx : x_X12_liveValues U a σ = some (r, σ')) : mm_Cm g l yX12_liveValues (.code yX12_liveValues cX12_liveValues 3 (some .int)) (d) 0 0 [.ref a] (mem Z σ, n, z) (fun v S' => v = some (.int r) ∧ S' = (mem Z σ', n, z)) := by
  refine mm_Cm_of hst (by decide) (Nat.le_of_ble_eq_true rfl) ?_
  show mm_V g l RX12 "liveValues" cX12_liveValues 3 (some .int) [] (d) 0 0 (mm_nt (fun v S' => v = some (.int r) ∧ S' = (mem Z σ', n, z))) 0 [some (.ref a), none, none] [] (mem Z σ, n, z) 0 0
  unfold x_X12_liveValues at hx
  refine mm_iconst (v := 0) dX12_liveValues_0 (by decide) ?_
  refine mm_istore_n [some (.ref a), some (.int 0), none] dX12_liveValues_1 (by decide) rfl ?_
  refine mm_iconst (v := 0) dX12_liveValues_2 (by decide) ?_
  refine mm_istore_n [some (.ref a), some (.int 0), some (.int 0)] dX12_liveValues_3 (by decide) rfl ?_
  refine e_X12_liveValues_L4 hst hZ hn hs ?_ _ _ _ hx
  · intro  σ34 hx
    refine mm_iconst (v := 0) dX12_liveValues_72 (by decide) ?_
    refine mm_istore_n [some (.ref a), some (.int 0), some (.int 0)] dX12_liveValues_73 (by decide) rfl ?_
    refine e_X12_liveValues_L74 hst hZ hn hs _ _ _ _ hx
set_option maxHeartbeats 4000000 in
set_option maxRecDepth 100000 in
theorem e_X12_liveBytes_30 {g : mm_G} {l : Launch} (hst : l.stackTraces = false) {Z : Nat → Nat → Option Nat} (hZ : HZ Z) {n : Nat} (hn : 1186 ≤ n) {z : Bool} {d : Nat} {U : Nat} {a : Nat} (hs : sh a = 12) {k4 : Int32 → Int32 → Option (Int32)} {k36 : Int32 → Option (Int32)} {v1_ : Int32} {v2_ : Int32} {σ : SG} {r : Int32} (hk4 : ∀ (v1_ : Int32) (v2_ : Int32), k4 v1_ v2_ = some r → mm_V g l RX12 "liveBytes" cX12_liveBytes 3 (some .int) [] (d) 0 0 (mm_nt (fun v S' => v = some (.int r) ∧ S' = (mem Z σ, n, z))) 4 [some (.ref a), some (.int v1_), some (.int v2_)] [] (mem Z σ, n, z) 0 0) (hk36 : ∀ (v1_ : Int32), k36 v1_ = some r → mm_V g l RX12 "liveBytes" cX12_liveBytes 3 (some .int) [] (d) 0 0 (mm_nt (fun v S' => v = some (.int r) ∧ S' = (mem Z σ, n, z))) 36 [some (.ref a), some (.int v1_), none] [] (mem Z σ, n, z) 0 0) (hx : x_X12_liveBytes_30 U a k4 k36 v1_ v2_ σ = some r) : mm_V g l RX12 "liveBytes" cX12_liveBytes 3 (some .int) [] (d) 0 0 (mm_nt (fun v S' => v = some (.int r) ∧ S' = (mem Z σ, n, z))) 30 [some (.ref a), some (.int v1_), some (.int v2_)] [] (mem Z σ, n, z) 0 0 := by
  unfold x_X12_liveBytes_30 at hx
  refine mm_iinc (v := v2_ + 1) [some (.ref a), some (.int v1_), some (.int (v2_ + 1))] dX12_liveBytes_30 rfl rfl (by decide) rfl ?_
  refine mm_goto 4 dX12_liveBytes_33 (by decide) ?_
  exact hk4 _ _ hx
set_option maxHeartbeats 4000000 in
set_option maxRecDepth 100000 in
theorem e_X12_liveBytes_L4 {g : mm_G} {l : Launch} (hst : l.stackTraces = false) {Z : Nat → Nat → Option Nat} (hZ : HZ Z) {n : Nat} (hn : 1186 ≤ n) {z : Bool} {d : Nat} {U : Nat} {a : Nat} (hs : sh a = 12) {k36 : Int32 → Option (Int32)} {σ : SG} {r : Int32} (hk36 : ∀ (v1_ : Int32), k36 v1_ = some r → mm_V g l RX12 "liveBytes" cX12_liveBytes 3 (some .int) [] (d) 0 0 (mm_nt (fun v S' => v = some (.int r) ∧ S' = (mem Z σ, n, z))) 36 [some (.ref a), some (.int v1_), none] [] (mem Z σ, n, z) 0 0) : ∀ (U1 : Nat) (v1_ : Int32) (v2_ : Int32), x_X12_liveBytes_L4 U a k36 σ U1 v1_ v2_ = some r → mm_V g l RX12 "liveBytes" cX12_liveBytes 3 (some .int) [] (d) 0 0 (mm_nt (fun v S' => v = some (.int r) ∧ S' = (mem Z σ, n, z))) 4 [some (.ref a), some (.int v1_), some (.int v2_)] [] (mem Z σ, n, z) 0 0 := by
  intro U1
  induction U1 with
  | zero => intro v1_ v2_ hx; exact absurd hx (by simp [x_X12_liveBytes_L4])
  | succ U1 ih =>
    intro v1_ v2_ hx
    rw [x_X12_liveBytes_L4] at hx
    refine mm_iload_n dX12_liveBytes_4 rfl ?_
    refine mm_aload_n dX12_liveBytes_5 rfl rfl ?_
    refine s_getI (r := some a) (b := a) (ci := 12) (k := 82) in_X12 rfl (by decide) rfl kF_X12_596 dX12_liveBytes_6 rfl hs (by decide) hn (by decide) rfl ?_
    refine b_if hx (fun h1 hx => ?_) (fun h1 hx => ?_)
    · refine mm_icmp_ge 36 dX12_liveBytes_9 (by decide) (fun h => absurd h (Int32.not_le.mpr h1)) (fun _ => ?_)
      refine mm_aload_n dX12_liveBytes_12 rfl rfl ?_
      refine s_getS (q := 1171) (r := some a) (b := a) (ci := 12) (k := 97) in_X12 rfl (by decide) rfl kF_X12_223 dX12_liveBytes_13 rfl hs (by decide) hn (by decide) rfl rfl ?_
      refine mm_iload_n dX12_liveBytes_16 rfl ?_
      obtain ⟨j2, hj3, hb4, hl5, hx⟩ := ix_some hx
      refine s_zald (a := 1171) sa_1171 hn hj3 hb4 na_1171 dX12_liveBytes_17 ?_
      refine b_if hx (fun h6 hx => ?_) (fun h6 hx => ?_)
      · refine mm_if_eq 30 dX12_liveBytes_18 (by decide) (fun _ => ?_) (fun h => absurd h6 h)
        exact e_X12_liveBytes_30 hst hZ hn hs ih hk36 hx
      · refine mm_if_eq 30 dX12_liveBytes_18 (by decide) (fun h => absurd h h6) (fun _ => ?_)
        refine mm_iload_n dX12_liveBytes_21 rfl ?_
        refine mm_aload_n dX12_liveBytes_22 rfl rfl ?_
        refine s_getS (q := 1169) (r := some a) (b := a) (ci := 12) (k := 95) in_X12 rfl (by decide) rfl kF_X12_217 dX12_liveBytes_23 rfl hs (by decide) hn (by decide) rfl rfl ?_
        refine mm_iload_n dX12_liveBytes_26 rfl ?_
        obtain ⟨j7, hj8, hb9, hl10, hx⟩ := ix_some hx
        refine s_iald (a := 1169) sa_1169 hn hj8 hb9 na_1169 dX12_liveBytes_27 ?_
        refine mm_iadd dX12_liveBytes_28 ?_
        refine mm_istore_n [some (.ref a), some (.int (v1_ + (sI σ 1169 j7))), some (.int v2_)] dX12_liveBytes_29 (by decide) rfl ?_
        exact e_X12_liveBytes_30 hst hZ hn hs ih hk36 hx
    · refine mm_icmp_ge 36 dX12_liveBytes_9 (by decide) (fun _ => ?_) (fun h => absurd (Int32.not_lt.mp h1) h)
      refine mm_fewer [some (.ref a), some (.int v1_), none] (few_ok (bs := [true, true, false]) rfl) ?_
      exact hk36 _ hx
set_option maxHeartbeats 4000000 in
set_option maxRecDepth 100000 in
theorem e_X12_liveBytes_69 {g : mm_G} {l : Launch} (hst : l.stackTraces = false) {Z : Nat → Nat → Option Nat} (hZ : HZ Z) {n : Nat} (hn : 1186 ≤ n) {z : Bool} {d : Nat} {U : Nat} {a : Nat} (hs : sh a = 12) {k38 : Int32 → Int32 → Option (Int32)} {v1_ : Int32} {v2_ : Int32} {σ : SG} {r : Int32} (hk38 : ∀ (v1_ : Int32) (v2_ : Int32), k38 v1_ v2_ = some r → mm_V g l RX12 "liveBytes" cX12_liveBytes 3 (some .int) [] (d) 0 0 (mm_nt (fun v S' => v = some (.int r) ∧ S' = (mem Z σ, n, z))) 38 [some (.ref a), some (.int v1_), some (.int v2_)] [] (mem Z σ, n, z) 0 0) (hx : x_X12_liveBytes_69 U a k38 v1_ v2_ σ = some r) : mm_V g l RX12 "liveBytes" cX12_liveBytes 3 (some .int) [] (d) 0 0 (mm_nt (fun v S' => v = some (.int r) ∧ S' = (mem Z σ, n, z))) 69 [some (.ref a), some (.int v1_), some (.int v2_)] [] (mem Z σ, n, z) 0 0 := by
  unfold x_X12_liveBytes_69 at hx
  refine mm_iinc (v := v2_ + 1) [some (.ref a), some (.int v1_), some (.int (v2_ + 1))] dX12_liveBytes_69 rfl rfl (by decide) rfl ?_
  refine mm_goto 38 dX12_liveBytes_72 (by decide) ?_
  exact hk38 _ _ hx
set_option maxHeartbeats 4000000 in
set_option maxRecDepth 100000 in
theorem e_X12_liveBytes_L38 {g : mm_G} {l : Launch} (hst : l.stackTraces = false) {Z : Nat → Nat → Option Nat} (hZ : HZ Z) {n : Nat} (hn : 1186 ≤ n) {z : Bool} {d : Nat} {U : Nat} {a : Nat} (hs : sh a = 12) {σ : SG} {r : Int32} : ∀ (U1 : Nat) (v1_ : Int32) (v2_ : Int32), x_X12_liveBytes_L38 U a σ U1 v1_ v2_ = some r → mm_V g l RX12 "liveBytes" cX12_liveBytes 3 (some .int) [] (d) 0 0 (mm_nt (fun v S' => v = some (.int r) ∧ S' = (mem Z σ, n, z))) 38 [some (.ref a), some (.int v1_), some (.int v2_)] [] (mem Z σ, n, z) 0 0 := by
  intro U1
  induction U1 with
  | zero => intro v1_ v2_ hx; exact absurd hx (by simp [x_X12_liveBytes_L38])
  | succ U1 ih =>
    intro v1_ v2_ hx
    rw [x_X12_liveBytes_L38] at hx
    refine mm_iload_n dX12_liveBytes_38 rfl ?_
    refine mm_aload_n dX12_liveBytes_39 rfl rfl ?_
    refine s_getI (r := some a) (b := a) (ci := 12) (k := 83) in_X12 rfl (by decide) rfl kF_X12_599 dX12_liveBytes_40 rfl hs (by decide) hn (by decide) rfl ?_
    refine b_if hx (fun h12 hx => ?_) (fun h12 hx => ?_)
    · refine mm_icmp_ge 75 dX12_liveBytes_43 (by decide) (fun h => absurd h (Int32.not_le.mpr h12)) (fun _ => ?_)
      refine mm_aload_n dX12_liveBytes_46 rfl rfl ?_
      refine s_getS (q := 1164) (r := some a) (b := a) (ci := 12) (k := 90) in_X12 rfl (by decide) rfl kF_X12_202 dX12_liveBytes_47 rfl hs (by decide) hn (by decide) rfl rfl ?_
      refine mm_aload_n dX12_liveBytes_50 rfl rfl ?_
      refine s_getS (q := 1172) (r := some a) (b := a) (ci := 12) (k := 98) in_X12 rfl (by decide) rfl kF_X12_226 dX12_liveBytes_51 rfl hs (by decide) hn (by decide) rfl rfl ?_
      refine mm_iload_n dX12_liveBytes_54 rfl ?_
      obtain ⟨j13, hj14, hb15, hl16, hx⟩ := ix_some hx
      refine s_iald (a := 1172) sa_1172 hn hj14 hb15 na_1172 dX12_liveBytes_55 ?_
      obtain ⟨j17, hj18, hb19, hl20, hx⟩ := ix_some hx
      refine s_zald (a := 1164) sa_1164 hn hj18 hb19 na_1164 dX12_liveBytes_56 ?_
      refine b_if hx (fun h21 hx => ?_) (fun h21 hx => ?_)
      · refine mm_if_eq 69 dX12_liveBytes_57 (by decide) (fun _ => ?_) (fun h => absurd h21 h)
        exact e_X12_liveBytes_69 hst hZ hn hs ih hx
      · refine mm_if_eq 69 dX12_liveBytes_57 (by decide) (fun h => absurd h h21) (fun _ => ?_)
        refine mm_iload_n dX12_liveBytes_60 rfl ?_
        refine mm_aload_n dX12_liveBytes_61 rfl rfl ?_
        refine s_getS (q := 1174) (r := some a) (b := a) (ci := 12) (k := 100) in_X12 rfl (by decide) rfl kF_X12_232 dX12_liveBytes_62 rfl hs (by decide) hn (by decide) rfl rfl ?_
        refine mm_iload_n dX12_liveBytes_65 rfl ?_
        obtain ⟨j22, hj23, hb24, hl25, hx⟩ := ix_some hx
        refine s_iald (a := 1174) sa_1174 hn hj23 hb24 na_1174 dX12_liveBytes_66 ?_
        refine mm_iadd dX12_liveBytes_67 ?_
        refine mm_istore_n [some (.ref a), some (.int (v1_ + (sI σ 1174 j22))), some (.int v2_)] dX12_liveBytes_68 (by decide) rfl ?_
        exact e_X12_liveBytes_69 hst hZ hn hs ih hx
    · refine mm_icmp_ge 75 dX12_liveBytes_43 (by decide) (fun _ => ?_) (fun h => absurd (Int32.not_lt.mp h12) h)
      refine mm_iload_n dX12_liveBytes_75 rfl ?_
      refine mm_iret dX12_liveBytes_76 rfl rfl ?_ (by omega) (by omega)
      obtain rfl := fin1 hx
      exact ⟨rfl, rfl⟩
set_option maxHeartbeats 4000000 in
set_option maxRecDepth 100000 in
theorem e_X12_liveBytes {g : mm_G} {l : Launch} (hst : l.stackTraces = false) {Z : Nat → Nat → Option Nat} (hZ : HZ Z) {n : Nat} (hn : 1186 ≤ n) {z : Bool} {d : Nat} {U : Nat} {a : Nat} (hs : sh a = 12) {σ : SG} {r : Int32} (hx : x_X12_liveBytes U a σ = some r) : mm_Cm g l yX12_liveBytes (.code yX12_liveBytes cX12_liveBytes 3 (some .int)) (d) 0 0 [.ref a] (mem Z σ, n, z) (fun v S' => v = some (.int r) ∧ S' = (mem Z σ, n, z)) := by
  refine mm_Cm_of hst (by decide) (Nat.le_of_ble_eq_true rfl) ?_
  show mm_V g l RX12 "liveBytes" cX12_liveBytes 3 (some .int) [] (d) 0 0 (mm_nt (fun v S' => v = some (.int r) ∧ S' = (mem Z σ, n, z))) 0 [some (.ref a), none, none] [] (mem Z σ, n, z) 0 0
  unfold x_X12_liveBytes at hx
  refine mm_iconst (v := 0) dX12_liveBytes_0 (by decide) ?_
  refine mm_istore_n [some (.ref a), some (.int 0), none] dX12_liveBytes_1 (by decide) rfl ?_
  refine mm_iconst (v := 0) dX12_liveBytes_2 (by decide) ?_
  refine mm_istore_n [some (.ref a), some (.int 0), some (.int 0)] dX12_liveBytes_3 (by decide) rfl ?_
  refine e_X12_liveBytes_L4 hst hZ hn hs ?_ _ _ _ hx
  · intro w11 hx
    refine mm_iconst (v := 0) dX12_liveBytes_36 (by decide) ?_
    refine mm_istore_n [some (.ref a), some (.int w11), some (.int 0)] dX12_liveBytes_37 (by decide) rfl ?_
    refine e_X12_liveBytes_L38 hst hZ hn hs _ _ _ hx
set_option maxHeartbeats 4000000 in
set_option maxRecDepth 100000 in
theorem e_X12_finish_53 {g : mm_G} {l : Launch} (hst : l.stackTraces = false) {Z : Nat → Nat → Option Nat} (hZ : HZ Z) {n : Nat} (hn : 1186 ≤ n) {z : Bool} {d : Nat} {U : Nat} {a : Nat} (hs : sh a = 12) {v1_ : Int32} {s0_ : Int32} {σ : SG} {r : Int32} {σ' : SG} (hx : x_X12_finish_53 U a v1_ s0_ σ = some (r, σ')) : mm_V g l RX12 "finish" cX12_finish 2 (some .int) [] (d + 1) 0 0 (mm_nt (fun v S' => v = some (.int r) ∧ S' = (mem Z σ', n, z))) 53 [some (.ref a), some (.int v1_)] [.int s0_, .ref a] (mem Z σ, n, z) 0 0 := by
  unfold x_X12_finish_53 at hx
  refine s_putI (v := s0_) (r := some a) (b := a) (ci := 12) (k := 5) in_X12 rfl (by decide) rfl tyX12_ok nmX12 rfl kF_X12_265 dX12_finish_53 (mm_fit_int _) rfl hs (by decide) hn (by decide) rfl hx (fun σ8 hx => ?_)
  refine mm_aload_n dX12_finish_56 rfl rfl ?_
  refine s_getI (r := some a) (b := a) (ci := 12) (k := 5) in_X12 rfl (by decide) rfl kF_X12_265 dX12_finish_57 rfl hs (by decide) hn (by decide) rfl ?_
  refine b_if hx (fun h9 hx => ?_) (fun h9 hx => ?_)
  · refine mm_if_eq 65 dX12_finish_60 (by decide) (fun _ => ?_) (fun h => absurd h9 h)
    refine mm_aload_n dX12_finish_65 rfl rfl ?_
    refine mm_iconst (v := 1) dX12_finish_66 (by decide) ?_
    refine s_putI (v := 1) (r := some a) (b := a) (ci := 12) (k := 79) in_X12 rfl (by decide) rfl tyX12_ok nmX12 rfl kF_X12_551 dX12_finish_67 mm_fit_z1 rfl hs (by decide) hn (by decide) rfl hx (fun σ10 hx => ?_)
    refine mm_iload_n dX12_finish_70 rfl ?_
    refine mm_iret dX12_finish_71 rfl rfl ?_ (by omega) (by omega)
    obtain ⟨rfl, rfl⟩ := fin2 hx
    exact ⟨rfl, rfl⟩
  · refine mm_if_eq 65 dX12_finish_60 (by decide) (fun h => absurd h h9) (fun _ => ?_)
    refine mm_iconst (v := 0) dX12_finish_63 (by decide) ?_
    refine mm_iret dX12_finish_64 rfl rfl ?_ (by omega) (by omega)
    obtain ⟨rfl, rfl⟩ := fin2 hx
    exact ⟨rfl, rfl⟩
