set_option maxHeartbeats 4000000 in
set_option maxRecDepth 100000 in
theorem e_X11_field_23 {g : mm_G} {l : Launch} (hst : l.stackTraces = false) {Z : Nat → Nat → Option Nat} (hZ : HZ Z) {n : Nat} (hn : 1186 ≤ n) {d : Nat} {U : Nat} {a : Nat} (hs : sh a = 11) {v4_ : Int32} {s0_ : Option Nat} {σ : SG} {r : mm_R} {σ' : SG} (hx : x_X11_field_23 U a v4_ s0_ σ = some (r, σ')) : mm_V g l RX11 "field" cX11_field 7 (some .int) [] (d + 3) 1 6 (fun r9 S' => r9 = r ∧ S' = (mem Z σ', n, true)) 23 [none, none, none, none, some (.int v4_), none, none] [va_rf s0_] (mem Z σ, n, true) 0 0 := by
  unfold x_X11_field_23 at hx
  refine mm_astore [none, none, none, none, some (.int v4_), none, some (va_rf s0_)] dX11_field_23 (by decide) (isr_rf _) rfl ?_
  refine mm_aload dX11_field_25 rfl (isr_rf _) ?_
  refine b_if hx (fun h4 hx => ?_) (fun h4 hx => ?_)
  · refine mm_ifnull (r := s0_) 41 dX11_field_27 (by decide) (fun _ => ?_) (fun h => absurd h4 h)
    refine mm_fewer [none, none, none, none, none, none, none] (few_ok (bs := [false, false, false, false, false, false, false]) rfl) ?_
    exact e_X11_field_41 hst hZ hn hs hx
  · refine mm_ifnull (r := s0_) 41 dX11_field_27 (by decide) (fun h => absurd h h4) (fun _ => ?_)
    refine mm_iload dX11_field_30 rfl ?_
    refine b_if hx (fun h5 hx => ?_) (fun h5 hx => ?_)
    · refine mm_if_lt 41 dX11_field_32 (by decide) (fun _ => ?_) (fun h => absurd h5 h)
      refine mm_fewer [none, none, none, none, none, none, none] (few_ok (bs := [false, false, false, false, false, false, false]) rfl) ?_
      exact e_X11_field_41 hst hZ hn hs hx
    · refine mm_if_lt 41 dX11_field_32 (by decide) (fun h => absurd h h5) (fun _ => ?_)
      refine mm_iload dX11_field_35 rfl ?_
      refine mm_iconst (v := 5) dX11_field_37 (by decide) ?_
      refine b_if hx (fun h6 hx => ?_) (fun h6 hx => ?_)
      · refine mm_icmp_le 51 dX11_field_38 (by decide) (fun h => absurd h (Int32.not_le.mpr h6)) (fun _ => ?_)
        refine mm_fewer [none, none, none, none, none, none, none] (few_ok (bs := [false, false, false, false, false, false, false]) rfl) ?_
        exact e_X11_field_41 hst hZ hn hs hx
      · refine mm_icmp_le 51 dX11_field_38 (by decide) (fun _ => ?_) (fun h => absurd (Int32.not_lt.mp h6) h)
        refine mm_iload dX11_field_51 rfl ?_
        refine b_if hx (fun h7 hx => ?_) (fun h7 hx => ?_)
        · refine mm_tsIn 88 dX11_field_53 (by rw [h7]; decide) (by rw [h7]; decide) (by rw [h7]; rfl) (by decide) ?_
          refine mm_aload dX11_field_88 rfl (isr_rf _) ?_
          obtain ⟨q8, hr9, hs10, hx⟩ := ck_some hx
          refine s_getLN (r := s0_) (b := q8) (ci := 3) (k := 6) in_X3 rfl (by decide) rfl kF_X11_129 dX11_field_90 hr9 hs10 (by decide) hn (by decide) rfl ?_
          refine mm_l2i dX11_field_93 ?_
          refine mm_iret dX11_field_94 rfl rfl ?_ (by omega) (by omega)
          obtain ⟨rfl, rfl⟩ := fin2 hx
          exact ⟨rfl, rfl⟩
        · skip
          refine b_if hx (fun h11 hx => ?_) (fun h11 hx => ?_)
          · refine mm_tsIn 95 dX11_field_53 (by rw [h11]; decide) (by rw [h11]; decide) (by rw [h11]; rfl) (by decide) ?_
            refine mm_aload dX11_field_95 rfl (isr_rf _) ?_
            obtain ⟨q12, hr13, hs14, hx⟩ := ck_some hx
            refine s_getIN (r := s0_) (b := q12) (ci := 3) (k := 8) in_X3 rfl (by decide) rfl kF_X11_133 dX11_field_97 hr13 hs14 (by decide) hn (by decide) rfl ?_
            refine mm_iret dX11_field_100 rfl rfl ?_ (by omega) (by omega)
            obtain ⟨rfl, rfl⟩ := fin2 hx
            exact ⟨rfl, rfl⟩
          · skip
            refine b_if hx (fun h15 hx => ?_) (fun h15 hx => ?_)
            · refine mm_tsIn 101 dX11_field_53 (by rw [h15]; decide) (by rw [h15]; decide) (by rw [h15]; rfl) (by decide) ?_
              refine mm_aload dX11_field_101 rfl (isr_rf _) ?_
              obtain ⟨q16, hr17, hs18, hx⟩ := ck_some hx
              refine s_getPN (r := s0_) (b := q16) (ci := 3) (k := 10) in_X3 rfl (by decide) rfl kF_X11_136 dX11_field_103 hr17 hs18 (by decide) hn (by decide) rfl ?_
              refine b_if hx (fun h19 hx => ?_) (fun h19 hx => ?_)
              · refine mm_ifnonnull (r := sP σ q16 10) 113 dX11_field_106 (by decide) (fun h => absurd h19 h) (fun _ => ?_)
                refine mm_iconst (v := (-1)) dX11_field_109 (by decide) ?_
                refine mm_goto 121 dX11_field_110 (by decide) ?_
                refine mm_iret dX11_field_121 rfl rfl ?_ (by omega) (by omega)
                obtain ⟨rfl, rfl⟩ := fin2 hx
                exact ⟨rfl, rfl⟩
              · refine mm_ifnonnull (r := sP σ q16 10) 113 dX11_field_106 (by decide) (fun _ => ?_) (fun h => absurd h h19)
                refine mm_aload dX11_field_113 rfl (isr_rf _) ?_
                refine s_getPN (r := s0_) (b := q16) (ci := 3) (k := 10) in_X3 rfl (by decide) rfl kF_X11_136 dX11_field_115 hr17 hs18 (by decide) hn (by decide) rfl ?_
                obtain ⟨q20, hr21, hs22, hx⟩ := ck_some hx
                refine s_getIN (r := sP σ q16 10) (b := q20) (ci := 3) (k := 1) in_X3 rfl (by decide) rfl kF_X11_140 dX11_field_118 hr21 hs22 (by decide) hn (by decide) rfl ?_
                refine mm_iret dX11_field_121 rfl rfl ?_ (by omega) (by omega)
                obtain ⟨rfl, rfl⟩ := fin2 hx
                exact ⟨rfl, rfl⟩
            · skip
              refine b_if hx (fun h23 hx => ?_) (fun h23 hx => ?_)
              · refine mm_tsIn 122 dX11_field_53 (by rw [h23]; decide) (by rw [h23]; decide) (by rw [h23]; rfl) (by decide) ?_
                refine mm_aload dX11_field_122 rfl (isr_rf _) ?_
                obtain ⟨q24, hr25, hs26, hx⟩ := ck_some hx
                refine s_getIN (r := s0_) (b := q24) (ci := 3) (k := 12) in_X3 rfl (by decide) rfl kF_X11_143 dX11_field_124 hr25 hs26 (by decide) hn (by decide) rfl ?_
                refine b_if hx (fun h27 hx => ?_) (fun h27 hx => ?_)
                · refine mm_if_eq 134 dX11_field_127 (by decide) (fun _ => ?_) (fun h => absurd h27 h)
                  refine mm_aload dX11_field_134 rfl (isr_rf _) ?_
                  refine s_getIN (r := s0_) (b := q24) (ci := 3) (k := 11) in_X3 rfl (by decide) rfl kF_X11_147 dX11_field_136 hr25 hs26 (by decide) hn (by decide) rfl ?_
                  refine b_if hx (fun h28 hx => ?_) (fun h28 hx => ?_)
                  · refine mm_if_eq 146 dX11_field_139 (by decide) (fun _ => ?_) (fun h => absurd h28 h)
                    refine mm_iconst (v := 0) dX11_field_146 (by decide) ?_
                    refine mm_iret dX11_field_147 rfl rfl ?_ (by omega) (by omega)
                    obtain ⟨rfl, rfl⟩ := fin2 hx
                    exact ⟨rfl, rfl⟩
                  · refine mm_if_eq 146 dX11_field_139 (by decide) (fun h => absurd h h28) (fun _ => ?_)
                    refine mm_iconst (v := 1) dX11_field_142 (by decide) ?_
                    refine mm_goto 147 dX11_field_143 (by decide) ?_
                    refine mm_iret dX11_field_147 rfl rfl ?_ (by omega) (by omega)
                    obtain ⟨rfl, rfl⟩ := fin2 hx
                    exact ⟨rfl, rfl⟩
                · refine mm_if_eq 134 dX11_field_127 (by decide) (fun h => absurd h h27) (fun _ => ?_)
                  refine mm_iconst (v := 2) dX11_field_130 (by decide) ?_
                  refine mm_goto 147 dX11_field_131 (by decide) ?_
                  refine mm_iret dX11_field_147 rfl rfl ?_ (by omega) (by omega)
                  obtain ⟨rfl, rfl⟩ := fin2 hx
                  exact ⟨rfl, rfl⟩
              · skip
                refine b_if hx (fun h29 hx => ?_) (fun h29 hx => ?_)
                · refine mm_tsIn 148 dX11_field_53 (by rw [h29]; decide) (by rw [h29]; decide) (by rw [h29]; rfl) (by decide) ?_
                  refine mm_aload dX11_field_148 rfl (isr_rf _) ?_
                  obtain ⟨q30, hr31, hs32, hx⟩ := ck_some hx
                  refine s_getPN (r := s0_) (b := q30) (ci := 3) (k := 3) in_X3 rfl (by decide) rfl kF_X11_150 dX11_field_150 hr31 hs32 (by decide) hn (by decide) rfl ?_
                  refine b_if hx (fun h33 hx => ?_) (fun h33 hx => ?_)
                  · refine mm_ifnonnull (r := sP σ q30 3) 160 dX11_field_153 (by decide) (fun h => absurd h33 h) (fun _ => ?_)
                    refine mm_iconst (v := (-1)) dX11_field_156 (by decide) ?_
                    refine mm_goto 168 dX11_field_157 (by decide) ?_
                    refine mm_iret dX11_field_168 rfl rfl ?_ (by omega) (by omega)
                    obtain ⟨rfl, rfl⟩ := fin2 hx
                    exact ⟨rfl, rfl⟩
                  · refine mm_ifnonnull (r := sP σ q30 3) 160 dX11_field_153 (by decide) (fun _ => ?_) (fun h => absurd h h33)
                    refine mm_aload dX11_field_160 rfl (isr_rf _) ?_
                    refine s_getPN (r := s0_) (b := q30) (ci := 3) (k := 3) in_X3 rfl (by decide) rfl kF_X11_150 dX11_field_162 hr31 hs32 (by decide) hn (by decide) rfl ?_
                    obtain ⟨q34, hr35, hs36, hx⟩ := ck_some hx
                    refine s_getIN (r := sP σ q30 3) (b := q34) (ci := 3) (k := 1) in_X3 rfl (by decide) rfl kF_X11_140 dX11_field_165 hr35 hs36 (by decide) hn (by decide) rfl ?_
                    refine mm_iret dX11_field_168 rfl rfl ?_ (by omega) (by omega)
                    obtain ⟨rfl, rfl⟩ := fin2 hx
                    exact ⟨rfl, rfl⟩
                · skip
                  refine mm_tsOut 169 dX11_field_53 (ts_out_5 h7 h11 h15 h23 h29) (by decide) ?_
                  refine mm_aload dX11_field_169 rfl (isr_rf _) ?_
                  obtain ⟨q37, hr38, hs39, hx⟩ := ck_some hx
                  refine s_getIN (r := s0_) (b := q37) (ci := 3) (k := 5) in_X3 rfl (by decide) rfl kF_X11_153 dX11_field_171 hr38 hs39 (by decide) hn (by decide) rfl ?_
                  refine mm_aload dX11_field_174 rfl (isr_rf _) ?_
                  refine s_getIN (r := s0_) (b := q37) (ci := 3) (k := 4) in_X3 rfl (by decide) rfl kF_X11_156 dX11_field_176 hr38 hs39 (by decide) hn (by decide) rfl ?_
                  refine mm_isub dX11_field_179 ?_
                  refine mm_iret dX11_field_180 rfl rfl ?_ (by omega) (by omega)
                  obtain ⟨rfl, rfl⟩ := fin2 hx
                  exact ⟨rfl, rfl⟩
set_option maxHeartbeats 4000000 in
set_option maxRecDepth 100000 in
theorem e_X11_field {g : mm_G} {l : Launch} (hst : l.stackTraces = false) {Z : Nat → Nat → Option Nat} (hZ : HZ Z) {n : Nat} (hn : 1186 ≤ n) {d : Nat} {U : Nat} {a : Nat} (hs : sh a = 11) {p0 : Int32} {p1 : Int32} {p2 : Int32} {p3 : Int32} {σ : SG} {r : mm_R} {σ' : SG} (hx : x_X11_field U a p0 p1 p2 p3 σ = some (r, σ')) : mm_Ct g l yX11_field (.code yX11_field cX11_field 7 (some .int)) (d + 3) 1 6 [.ref a, .int p0, .int p1, .int p2, .int p3] (mem Z σ, n, true) (fun r9 S' => r9 = r ∧ S' = (mem Z σ', n, true)) := by
  refine mm_Ct_of hst (by decide) (Nat.le_of_ble_eq_true rfl) ?_
  show mm_V g l RX11 "field" cX11_field 7 (some .int) [] (d + 3) 1 6 (fun r9 S' => r9 = r ∧ S' = (mem Z σ', n, true)) 0 [some (.ref a), some (.int p0), some (.int p1), some (.int p2), some (.int p3), none, none] [] (mem Z σ, n, true) 0 0
  unfold x_X11_field at hx
  refine mm_aload_n dX11_field_0 rfl rfl ?_
  refine mm_iload_n dX11_field_1 rfl ?_
  refine mm_iload_n dX11_field_2 rfl ?_
  obtain ⟨v2, hc1, hx⟩ := b1_some hx
  refine mm_callV3 (a := a) (ci := 11) wM_X11_messageOf kM_X11_119 wI_X11_messageOf wS_X11_messageOf dX11_field_3 (e_X11_messageOf hst hZ hn hs hc1) (mem_obj hs (by decide)) (sh_ltn hs (by decide) hn) rfl rfl rfl (Nat.le_of_ble_eq_true rfl) (by omega) (by omega) (fun v9 S9 hq => ?_)
  obtain ⟨rfl, rfl⟩ := hq
  refine ⟨fun h => ⟨h, rfl⟩, ?_⟩
  refine mm_astore [some (.ref a), some (.int p0), some (.int p1), some (.int p2), some (.int p3), some (va_rf v2), none] dX11_field_6 (by decide) (isr_rf _) rfl ?_
  refine mm_aload dX11_field_8 rfl (isr_rf _) ?_
  refine b_if hx (fun h3 hx => ?_) (fun h3 hx => ?_)
  · refine mm_ifnonnull (r := v2) 17 dX11_field_10 (by decide) (fun h => absurd h3 h) (fun _ => ?_)
    refine mm_null dX11_field_13 ?_
    refine mm_goto 23 dX11_field_14 (by decide) ?_
    refine mm_fewer [none, none, none, none, some (.int p3), none, none] (few_ok (bs := [false, false, false, false, true, false, false]) rfl) ?_
    exact e_X11_field_23 hst hZ hn hs hx
  · refine mm_ifnonnull (r := v2) 17 dX11_field_10 (by decide) (fun _ => ?_) (fun h => absurd h h3)
    refine mm_aload dX11_field_17 rfl (isr_rf _) ?_
    refine mm_iload_n dX11_field_19 rfl ?_
    obtain ⟨q40, hr41, hs42, hx⟩ := ck_some hx
    obtain ⟨v44, hc43, hx⟩ := b1_some hx
    refine mm_callV3 (a := q40) (ci := 3) wM_X3_memberAt kM_X11_123 wI_X3_memberAt wS_X3_memberAt dX11_field_20 (e_X3_memberAt hst hZ hn hs42 hc43) (mem_obj hs42 (by decide)) (sh_ltn hs42 (by decide) hn) rfl rfl (by rw [hr41]; rfl) (Nat.le_of_ble_eq_true rfl) (by omega) (by omega) (fun v9 S9 hq => ?_)
    obtain ⟨rfl, rfl⟩ := hq
    refine ⟨fun h => ⟨h, rfl⟩, ?_⟩
    refine mm_fewer [none, none, none, none, some (.int p3), none, none] (few_ok (bs := [false, false, false, false, true, false, false]) rfl) ?_
    exact e_X11_field_23 hst hZ hn hs hx
set_option maxHeartbeats 4000000 in
set_option maxRecDepth 100000 in
theorem e_X6_isFullName_L8 {g : mm_G} {l : Launch} (hst : l.stackTraces = false) {Z : Nat → Nat → Option Nat} (hZ : HZ Z) {n : Nat} (hn : 1186 ≤ n) {z : Bool} {d : Nat} {U : Nat} {a : Nat} (hs : sh a = 6) {k66 : Int32 → Option (Int32)} {v2_ : Option Nat} {σ : SG} {r : Int32} (hk66 : ∀ (v5_ : Int32), k66 v5_ = some r → mm_V g l RX6 "isFullName" cX6_isFullName 6 (some .boolean) [] (d + 1) 0 0 (mm_nt (fun v S' => v = some (.int r) ∧ S' = (mem Z σ, n, z))) 66 [none, none, none, none, none, some (.int v5_)] [] (mem Z σ, n, z) 0 0) : ∀ (U1 : Nat) (v3_ : Int32) (v4_ : Option Nat), x_X6_isFullName_L8 U a k66 v2_ σ U1 v3_ v4_ = some r → mm_V g l RX6 "isFullName" cX6_isFullName 6 (some .boolean) [] (d + 1) 0 0 (mm_nt (fun v S' => v = some (.int r) ∧ S' = (mem Z σ, n, z))) 8 [some (.ref a), none, some (va_rf v2_), some (.int v3_), some (va_rf v4_), none] [] (mem Z σ, n, z) 0 0 := by
  intro U1
  induction U1 with
  | zero => intro v3_ v4_ hx; exact absurd hx (by simp [x_X6_isFullName_L8])
  | succ U1 ih =>
    intro v3_ v4_ hx
    rw [x_X6_isFullName_L8] at hx
    refine mm_aload dX6_isFullName_8 rfl (isr_rf _) ?_
    refine b_if hx (fun h6 hx => ?_) (fun h6 hx => ?_)
    · refine mm_ifnull (r := v4_) 104 dX6_isFullName_10 (by decide) (fun _ => ?_) (fun h => absurd h6 h)
      refine mm_iconst (v := 0) dX6_isFullName_104 (by decide) ?_
      refine mm_iret dX6_isFullName_105 rfl rfl ?_ (by omega) (by omega)
      obtain rfl := fin1 hx
      exact ⟨rfl, rfl⟩
    · refine mm_ifnull (r := v4_) 104 dX6_isFullName_10 (by decide) (fun h => absurd h h6) (fun _ => ?_)
      refine mm_iload_n dX6_isFullName_13 rfl ?_
      refine mm_aload dX6_isFullName_14 rfl (isr_rf _) ?_
      obtain ⟨q7, hr8, hs9, hx⟩ := ck_some hx
      refine s_getIN (r := v4_) (b := q7) (ci := 3) (k := 5) in_X3 rfl (by decide) rfl kF_X6_55 dX6_isFullName_16 hr8 hs9 (by decide) hn (by decide) rfl ?_
      refine mm_aload dX6_isFullName_19 rfl (isr_rf _) ?_
      refine s_getIN (r := v4_) (b := q7) (ci := 3) (k := 4) in_X3 rfl (by decide) rfl kF_X6_58 dX6_isFullName_21 hr8 hs9 (by decide) hn (by decide) rfl ?_
      refine mm_isub dX6_isFullName_24 ?_
      refine mm_isub dX6_isFullName_25 ?_
      refine mm_istore [some (.ref a), none, some (va_rf v2_), some (.int v3_), some (va_rf v4_), some (.int (v3_ - ((sI σ q7 5) - (sI σ q7 4))))] dX6_isFullName_26 (by decide) ((st1_o (r := v4_) rfl).trans rfl) ?_
      refine mm_iload dX6_isFullName_28 rfl ?_
      refine b_if hx (fun h10 hx => ?_) (fun h10 hx => ?_)
      · refine mm_if_lt 56 dX6_isFullName_30 (by decide) (fun _ => ?_) (fun h => absurd h10 h)
        refine mm_iconst (v := 0) dX6_isFullName_56 (by decide) ?_
        refine mm_iret dX6_isFullName_57 rfl rfl ?_ (by omega) (by omega)
        obtain rfl := fin1 hx
        exact ⟨rfl, rfl⟩
      · refine mm_if_lt 56 dX6_isFullName_30 (by decide) (fun h => absurd h h10) (fun _ => ?_)
        refine mm_aload_n dX6_isFullName_33 rfl (isr_rf _) ?_
        refine mm_iload dX6_isFullName_34 rfl ?_
        refine mm_aload_n dX6_isFullName_36 rfl rfl ?_
        refine s_getS (q := a + 1) (r := some a) (b := a) (ci := 6) (k := 0) in_X6 rfl (by decide) rfl kF_X6_14 dX6_isFullName_37 rfl hs (by decide) hn (by decide) rfl rfl ?_
        refine mm_aload dX6_isFullName_40 rfl (isr_rf _) ?_
        refine s_getIN (r := v4_) (b := q7) (ci := 3) (k := 4) in_X3 rfl (by decide) rfl kF_X6_58 dX6_isFullName_42 hr8 hs9 (by decide) hn (by decide) rfl ?_
        refine mm_aload dX6_isFullName_45 rfl (isr_rf _) ?_
        refine s_getIN (r := v4_) (b := q7) (ci := 3) (k := 5) in_X3 rfl (by decide) rfl kF_X6_55 dX6_isFullName_47 hr8 hs9 (by decide) hn (by decide) rfl ?_
        obtain ⟨q11, hr12, hs13, hx⟩ := ck_some hx
        obtain ⟨v15, hc14, hx⟩ := b1_some hx
        refine mm_callV3 (a := q11) (ci := 0) wM_X0_isSame kM_X6_61 wI_X0_isSame wS_X0_isSame dX6_isFullName_50 (e_X0_isSame hst hZ hn hs13 hc14) (mem_obj hs13 (by decide)) (sh_ltn hs13 (by decide) hn) rfl rfl (by rw [hr12]; rfl) (Nat.le_of_ble_eq_true rfl) (by omega) (by omega) (fun v9 S9 hq => ?_)
        obtain ⟨rfl, rfl⟩ := hq
        refine ⟨fun h => ⟨h, rfl⟩, ?_⟩
        refine b_if hx (fun h16 hx => ?_) (fun h16 hx => ?_)
        · refine mm_if_ne 58 dX6_isFullName_53 (by decide) (fun h => absurd h16 h) (fun _ => ?_)
          refine mm_iconst (v := 0) dX6_isFullName_56 (by decide) ?_
          refine mm_iret dX6_isFullName_57 rfl rfl ?_ (by omega) (by omega)
          obtain rfl := fin1 hx
          exact ⟨rfl, rfl⟩
        · refine mm_if_ne 58 dX6_isFullName_53 (by decide) (fun _ => ?_) (fun h => absurd h h16)
          refine mm_aload dX6_isFullName_58 rfl (isr_rf _) ?_
          refine s_getPN (r := v4_) (b := q7) (ci := 3) (k := 2) in_X3 rfl (by decide) rfl kF_X6_65 dX6_isFullName_60 hr8 hs9 (by decide) hn (by decide) rfl ?_
          refine b_if hx (fun h17 hx => ?_) (fun h17 hx => ?_)
          · refine mm_ifnonnull (r := sP σ q7 2) 77 dX6_isFullName_63 (by decide) (fun h => absurd h17 h) (fun _ => ?_)
            refine mm_fewer [none, none, none, none, none, some (.int (v3_ - ((sI σ q7 5) - (sI σ q7 4))))] (few_ok (bs := [false, false, false, false, false, true]) rfl) ?_
            exact hk66 _ hx
          · refine mm_ifnonnull (r := sP σ q7 2) 77 dX6_isFullName_63 (by decide) (fun _ => ?_) (fun h => absurd h h17)
            refine mm_iload dX6_isFullName_77 rfl ?_
            refine mm_iconst (v := 1) dX6_isFullName_79 (by decide) ?_
            refine mm_isub dX6_isFullName_80 ?_
            refine mm_istore_n [some (.ref a), none, some (va_rf v2_), some (.int ((v3_ - ((sI σ q7 5) - (sI σ q7 4))) - 1)), some (va_rf v4_), some (.int (v3_ - ((sI σ q7 5) - (sI σ q7 4))))] dX6_isFullName_81 (by decide) ((st1_o (r := v2_) rfl).trans rfl) ?_
            refine mm_aload_n dX6_isFullName_82 rfl (isr_rf _) ?_
            refine mm_iload_n dX6_isFullName_83 rfl ?_
            obtain ⟨v19, hc18, hx⟩ := b1_some hx
            refine mm_callV3 (a := q11) (ci := 0) wM_X0_at kM_X6_95 wI_X0_at wS_X0_at dX6_isFullName_84 (e_X0_at hst hZ hn hs13 hc18) (mem_obj hs13 (by decide)) (sh_ltn hs13 (by decide) hn) rfl rfl (by rw [hr12]; rfl) (Nat.le_of_ble_eq_true rfl) (by omega) (by omega) (fun v9 S9 hq => ?_)
            obtain ⟨rfl, rfl⟩ := hq
            refine ⟨fun h => ⟨h, rfl⟩, ?_⟩
            refine mm_bipush (v := 46) dX6_isFullName_87 (by decide) ?_
            refine b_if hx (fun h20 hx => ?_) (fun h20 hx => ?_)
            · refine mm_icmp_eq 94 dX6_isFullName_89 (by decide) (fun _ => ?_) (fun h => absurd h20 h)
              refine mm_aload dX6_isFullName_94 rfl (isr_rf _) ?_
              refine s_getPN (r := v4_) (b := q7) (ci := 3) (k := 2) in_X3 rfl (by decide) rfl kF_X6_65 dX6_isFullName_96 hr8 hs9 (by decide) hn (by decide) rfl ?_
              refine mm_astore [some (.ref a), none, some (va_rf v2_), some (.int ((v3_ - ((sI σ q7 5) - (sI σ q7 4))) - 1)), some (va_rf (sP σ q7 2)), some (.int (v3_ - ((sI σ q7 5) - (sI σ q7 4))))] dX6_isFullName_99 (by decide) (isr_rf _) rfl ?_
              refine mm_goto 8 dX6_isFullName_101 (by decide) ?_
              refine mm_fewer [some (.ref a), none, some (va_rf v2_), some (.int ((v3_ - ((sI σ q7 5) - (sI σ q7 4))) - 1)), some (va_rf (sP σ q7 2)), none] (few_ok (bs := [true, false, true, true, true, false]) rfl) ?_
              exact ih _ _ hx
            · refine mm_icmp_eq 94 dX6_isFullName_89 (by decide) (fun h => absurd h h20) (fun _ => ?_)
              refine mm_iconst (v := 0) dX6_isFullName_92 (by decide) ?_
              refine mm_iret dX6_isFullName_93 rfl rfl ?_ (by omega) (by omega)
              obtain rfl := fin1 hx
              exact ⟨rfl, rfl⟩
set_option maxHeartbeats 4000000 in
set_option maxRecDepth 100000 in
theorem e_X6_isFullName {g : mm_G} {l : Launch} (hst : l.stackTraces = false) {Z : Nat → Nat → Option Nat} (hZ : HZ Z) {n : Nat} (hn : 1186 ≤ n) {z : Bool} {d : Nat} {U : Nat} {a : Nat} (hs : sh a = 6) {p0 : Option Nat} {p1 : Option Nat} {σ : SG} {r : Int32} (hx : x_X6_isFullName U a p0 p1 σ = some r) : mm_Cm g l yX6_isFullName (.code yX6_isFullName cX6_isFullName 6 (some .boolean)) (d + 1) 0 0 [.ref a, va_rf p0, va_rf p1] (mem Z σ, n, z) (fun v S' => v = some (.int r) ∧ S' = (mem Z σ, n, z)) := by
  refine mm_Cm_of hst (by decide) (by cases p0 <;> cases p1 <;>  exact Nat.le_of_ble_eq_true rfl) ?_
  rw [show mm_ent [.ref a, va_rf p0, va_rf p1] 6 = [some (.ref a), some (va_rf p0), some (va_rf p1), none, none, none] from by cases p0 <;> cases p1 <;>  rfl]
  show mm_V g l RX6 "isFullName" cX6_isFullName 6 (some .boolean) [] (d + 1) 0 0 (mm_nt (fun v S' => v = some (.int r) ∧ S' = (mem Z σ, n, z))) 0 [some (.ref a), some (va_rf p0), some (va_rf p1), none, none, none] [] (mem Z σ, n, z) 0 0
  unfold x_X6_isFullName at hx
  refine mm_aload_n dX6_isFullName_0 rfl (isr_rf _) ?_
  obtain ⟨q1, hr2, hs3, hx⟩ := ck_some hx
  obtain ⟨v5, hc4, hx⟩ := b1_some hx
  refine mm_callV3 (a := q1) (ci := 0) wM_X0_size kM_X6_91 wI_X0_size wS_X0_size dX6_isFullName_1 (e_X0_size hst hZ hn hs3 hc4) (mem_obj hs3 (by decide)) (sh_ltn hs3 (by decide) hn) rfl rfl (by rw [hr2]; rfl) (Nat.le_of_ble_eq_true rfl) (by omega) (by omega) (fun v9 S9 hq => ?_)
  obtain ⟨rfl, rfl⟩ := hq
  refine ⟨fun h => ⟨h, rfl⟩, ?_⟩
  refine mm_istore_n [some (.ref a), some (va_rf p0), some (va_rf p1), some (.int v5), none, none] dX6_isFullName_4 (by decide) ((st1_o (r := p1) rfl).trans rfl) ?_
  refine mm_aload_n dX6_isFullName_5 rfl (isr_rf _) ?_
  refine mm_astore [some (.ref a), some (va_rf p0), some (va_rf p1), some (.int v5), some (va_rf p0), none] dX6_isFullName_6 (by decide) (isr_rf _) rfl ?_
  refine mm_fewer [some (.ref a), none, some (va_rf p1), some (.int v5), some (va_rf p0), none] (few_ok (bs := [true, false, true, true, true, false]) rfl) ?_
  refine e_X6_isFullName_L8 hst hZ hn hs ?_ _ _ _ hx
  · intro w21 hx
    refine mm_iload dX6_isFullName_66 rfl ?_
    refine b_if hx (fun h22 hx => ?_) (fun h22 hx => ?_)
    · refine mm_if_ne 75 dX6_isFullName_68 (by decide) (fun h => absurd h22 h) (fun _ => ?_)
      refine mm_iconst (v := 1) dX6_isFullName_71 (by decide) ?_
      refine mm_goto 76 dX6_isFullName_72 (by decide) ?_
      refine mm_iret dX6_isFullName_76 rfl rfl ?_ (by omega) (by omega)
      obtain rfl := fin1 hx
      exact ⟨rfl, rfl⟩
    · refine mm_if_ne 75 dX6_isFullName_68 (by decide) (fun _ => ?_) (fun h => absurd h h22)
      refine mm_iconst (v := 0) dX6_isFullName_75 (by decide) ?_
      refine mm_iret dX6_isFullName_76 rfl rfl ?_ (by omega) (by omega)
      obtain rfl := fin1 hx
      exact ⟨rfl, rfl⟩
set_option maxHeartbeats 4000000 in
set_option maxRecDepth 100000 in
theorem e_X6_numberOf_61 {g : mm_G} {l : Launch} (hst : l.stackTraces = false) {Z : Nat → Nat → Option Nat} (hZ : HZ Z) {n : Nat} (hn : 1186 ≤ n) {z : Bool} {d : Nat} {U : Nat} {a : Nat} (hs : sh a = 6) {k2 : Int32 → Option (Int32)} {k36 : Option Nat → Option (Int32)} {v1_ : Option Nat} {v2_ : Int32} {σ : SG} {r : Int32} (hk2 : ∀ (v2_ : Int32), k2 v2_ = some r → mm_V g l RX6 "numberOf" cX6_numberOf 4 (some .int) [] (d + 2) 0 0 (mm_nt (fun v S' => v = some (.int r) ∧ S' = (mem Z σ, n, z))) 2 [some (.ref a), some (va_rf v1_), some (.int v2_), none] [] (mem Z σ, n, z) 0 0) (hk36 : ∀ (v3_ : Option Nat), k36 v3_ = some r → mm_V g l RX6 "numberOf" cX6_numberOf 4 (some .int) [] (d + 2) 0 0 (mm_nt (fun v S' => v = some (.int r) ∧ S' = (mem Z σ, n, z))) 36 [some (.ref a), none, none, some (va_rf v3_)] [] (mem Z σ, n, z) 0 0) (hx : x_X6_numberOf_61 U a k2 k36 v1_ v2_ σ = some r) : mm_V g l RX6 "numberOf" cX6_numberOf 4 (some .int) [] (d + 2) 0 0 (mm_nt (fun v S' => v = some (.int r) ∧ S' = (mem Z σ, n, z))) 61 [some (.ref a), some (va_rf v1_), some (.int v2_), none] [] (mem Z σ, n, z) 0 0 := by
  unfold x_X6_numberOf_61 at hx
  refine mm_iinc (v := v2_ + 1) [some (.ref a), some (va_rf v1_), some (.int (v2_ + 1)), none] dX6_numberOf_61 rfl rfl (by decide) ((st1_o (r := v1_) rfl).trans rfl) ?_
  refine mm_goto 2 dX6_numberOf_64 (by decide) ?_
  exact hk2 _ hx
set_option maxHeartbeats 4000000 in
set_option maxRecDepth 100000 in
theorem e_X6_numberOf_L2 {g : mm_G} {l : Launch} (hst : l.stackTraces = false) {Z : Nat → Nat → Option Nat} (hZ : HZ Z) {n : Nat} (hn : 1186 ≤ n) {z : Bool} {d : Nat} {U : Nat} {a : Nat} (hs : sh a = 6) {k36 : Option Nat → Option (Int32)} {v1_ : Option Nat} {σ : SG} {r : Int32} (hk36 : ∀ (v3_ : Option Nat), k36 v3_ = some r → mm_V g l RX6 "numberOf" cX6_numberOf 4 (some .int) [] (d + 2) 0 0 (mm_nt (fun v S' => v = some (.int r) ∧ S' = (mem Z σ, n, z))) 36 [some (.ref a), none, none, some (va_rf v3_)] [] (mem Z σ, n, z) 0 0) : ∀ (U1 : Nat) (v2_ : Int32), x_X6_numberOf_L2 U a k36 v1_ σ U1 v2_ = some r → mm_V g l RX6 "numberOf" cX6_numberOf 4 (some .int) [] (d + 2) 0 0 (mm_nt (fun v S' => v = some (.int r) ∧ S' = (mem Z σ, n, z))) 2 [some (.ref a), some (va_rf v1_), some (.int v2_), none] [] (mem Z σ, n, z) 0 0 := by
  intro U1
  induction U1 with
  | zero => intro v2_ hx; exact absurd hx (by simp [x_X6_numberOf_L2])
  | succ U1 ih =>
    intro v2_ hx
    rw [x_X6_numberOf_L2] at hx
    refine mm_iload_n dX6_numberOf_2 rfl ?_
    refine mm_aload_n dX6_numberOf_3 rfl rfl ?_
    refine s_getI (r := some a) (b := a) (ci := 6) (k := 3) in_X6 rfl (by decide) rfl kF_X6_34 dX6_numberOf_4 rfl hs (by decide) hn (by decide) rfl ?_
    refine b_if hx (fun h1 hx => ?_) (fun h1 hx => ?_)
    · refine mm_icmp_ge 67 dX6_numberOf_7 (by decide) (fun h => absurd h (Int32.not_le.mpr h1)) (fun _ => ?_)
      refine mm_aload_n dX6_numberOf_10 rfl rfl ?_
      refine mm_iload_n dX6_numberOf_11 rfl ?_
      obtain ⟨v3, hc2, hx⟩ := b1_some hx
      refine mm_callV3 (a := a) (ci := 6) wM_X6_item kM_X6_45 wI_X6_item wS_X6_item dX6_numberOf_12 (e_X6_item hst hZ hn hs hc2) (mem_obj hs (by decide)) (sh_ltn hs (by decide) hn) rfl rfl rfl (Nat.le_of_ble_eq_true rfl) (by omega) (by omega) (fun v9 S9 hq => ?_)
      obtain ⟨rfl, rfl⟩ := hq
      refine ⟨fun h => ⟨h, rfl⟩, ?_⟩
      refine mm_astore_n [some (.ref a), some (va_rf v1_), some (.int v2_), some (va_rf v3)] dX6_numberOf_15 (by decide) (isr_rf _) rfl ?_
      refine mm_aload_n dX6_numberOf_16 rfl (isr_rf _) ?_
      refine b_if hx (fun h4 hx => ?_) (fun h4 hx => ?_)
      · refine mm_ifnull (r := v3) 61 dX6_numberOf_17 (by decide) (fun _ => ?_) (fun h => absurd h4 h)
        refine mm_fewer [some (.ref a), some (va_rf v1_), some (.int v2_), none] (few_ok (bs := [true, true, true, false]) rfl) ?_
        exact e_X6_numberOf_61 hst hZ hn hs ih hk36 hx
      · refine mm_ifnull (r := v3) 61 dX6_numberOf_17 (by decide) (fun h => absurd h h4) (fun _ => ?_)
        refine mm_aload_n dX6_numberOf_20 rfl (isr_rf _) ?_
        obtain ⟨q5, hr6, hs7, hx⟩ := ck_some hx
        obtain ⟨v9, hc8, hx⟩ := b1_some hx
        refine mm_callV3 (a := q5) (ci := 3) wM_X3_isType kM_X6_69 wI_X3_isType wS_X3_isType dX6_numberOf_21 (e_X3_isType hst hZ hn hs7 hc8) (mem_obj hs7 (by decide)) (sh_ltn hs7 (by decide) hn) rfl rfl (by rw [hr6]; rfl) (Nat.le_of_ble_eq_true rfl) (by omega) (by omega) (fun v9 S9 hq => ?_)
        obtain ⟨rfl, rfl⟩ := hq
        refine ⟨fun h => ⟨h, rfl⟩, ?_⟩
        refine b_if hx (fun h10 hx => ?_) (fun h10 hx => ?_)
        · refine mm_if_eq 61 dX6_numberOf_24 (by decide) (fun _ => ?_) (fun h => absurd h10 h)
          refine mm_fewer [some (.ref a), some (va_rf v1_), some (.int v2_), none] (few_ok (bs := [true, true, true, false]) rfl) ?_
          exact e_X6_numberOf_61 hst hZ hn hs ih hk36 hx
        · refine mm_if_eq 61 dX6_numberOf_24 (by decide) (fun h => absurd h h10) (fun _ => ?_)
          refine mm_aload_n dX6_numberOf_27 rfl rfl ?_
          refine mm_aload_n dX6_numberOf_28 rfl (isr_rf _) ?_
          refine mm_aload_n dX6_numberOf_29 rfl (isr_rf _) ?_
          obtain ⟨v12, hc11, hx⟩ := b1_some hx
          refine mm_callV3 (a := a) (ci := 6) wM_X6_isFullName kM_X6_83 wI_X6_isFullName wS_X6_isFullName dX6_numberOf_30 (e_X6_isFullName hst hZ hn hs hc11) (mem_obj hs (by decide)) (sh_ltn hs (by decide) hn) rfl rfl rfl (Nat.le_of_ble_eq_true rfl) (by omega) (by omega) (fun v9 S9 hq => ?_)
          obtain ⟨rfl, rfl⟩ := hq
          refine ⟨fun h => ⟨h, rfl⟩, ?_⟩
          refine b_if hx (fun h13 hx => ?_) (fun h13 hx => ?_)
          · refine mm_if_eq 61 dX6_numberOf_33 (by decide) (fun _ => ?_) (fun h => absurd h13 h)
            refine mm_fewer [some (.ref a), some (va_rf v1_), some (.int v2_), none] (few_ok (bs := [true, true, true, false]) rfl) ?_
            exact e_X6_numberOf_61 hst hZ hn hs ih hk36 hx
          · refine mm_if_eq 61 dX6_numberOf_33 (by decide) (fun h => absurd h h13) (fun _ => ?_)
            refine mm_fewer [some (.ref a), none, none, some (va_rf v3)] (few_ok (bs := [true, false, false, true]) rfl) ?_
            exact hk36 _ hx
    · refine mm_icmp_ge 67 dX6_numberOf_7 (by decide) (fun _ => ?_) (fun h => absurd (Int32.not_lt.mp h1) h)
      refine mm_iconst (v := (-1)) dX6_numberOf_67 (by decide) ?_
      refine mm_iret dX6_numberOf_68 rfl rfl ?_ (by omega) (by omega)
      obtain rfl := fin1 hx
      exact ⟨rfl, rfl⟩
set_option maxHeartbeats 4000000 in
set_option maxRecDepth 100000 in
theorem e_X6_numberOf {g : mm_G} {l : Launch} (hst : l.stackTraces = false) {Z : Nat → Nat → Option Nat} (hZ : HZ Z) {n : Nat} (hn : 1186 ≤ n) {z : Bool} {d : Nat} {U : Nat} {a : Nat} (hs : sh a = 6) {p0 : Option Nat} {σ : SG} {r : Int32} (hx : x_X6_numberOf U a p0 σ = some r) : mm_Cm g l yX6_numberOf (.code yX6_numberOf cX6_numberOf 4 (some .int)) (d + 2) 0 0 [.ref a, va_rf p0] (mem Z σ, n, z) (fun v S' => v = some (.int r) ∧ S' = (mem Z σ, n, z)) := by
  refine mm_Cm_of hst (by decide) (by cases p0 <;>  exact Nat.le_of_ble_eq_true rfl) ?_
  rw [show mm_ent [.ref a, va_rf p0] 4 = [some (.ref a), some (va_rf p0), none, none] from by cases p0 <;>  rfl]
  show mm_V g l RX6 "numberOf" cX6_numberOf 4 (some .int) [] (d + 2) 0 0 (mm_nt (fun v S' => v = some (.int r) ∧ S' = (mem Z σ, n, z))) 0 [some (.ref a), some (va_rf p0), none, none] [] (mem Z σ, n, z) 0 0
  unfold x_X6_numberOf at hx
  refine mm_iconst (v := 0) dX6_numberOf_0 (by decide) ?_
  refine mm_istore_n [some (.ref a), some (va_rf p0), some (.int 0), none] dX6_numberOf_1 (by decide) ((st1_o (r := p0) rfl).trans rfl) ?_
  refine e_X6_numberOf_L2 hst hZ hn hs ?_ _ _ hx
  · intro w14 hx
    refine mm_aload_n dX6_numberOf_36 rfl (isr_rf _) ?_
    obtain ⟨q15, hr16, hs17, hx⟩ := ck_some hx
    refine s_getIN (r := w14) (b := q15) (ci := 3) (k := 0) in_X3 rfl (by decide) rfl kF_X6_49 dX6_numberOf_37 hr16 hs17 (by decide) hn (by decide) rfl ?_
    refine b_if hx (fun h18 hx => ?_) (fun h18 hx => ?_)
    · refine mm_if_ne 50 dX6_numberOf_40 (by decide) (fun h => absurd h18 h) (fun _ => ?_)
      refine mm_aload_n dX6_numberOf_43 rfl (isr_rf _) ?_
      refine s_getIN (r := w14) (b := q15) (ci := 3) (k := 1) in_X3 rfl (by decide) rfl kF_X6_52 dX6_numberOf_44 hr16 hs17 (by decide) hn (by decide) rfl ?_
      refine mm_goto 60 dX6_numberOf_47 (by decide) ?_
      refine mm_iret dX6_numberOf_60 rfl rfl ?_ (by omega) (by omega)
      obtain rfl := fin1 hx
      exact ⟨rfl, rfl⟩
    · refine mm_if_ne 50 dX6_numberOf_40 (by decide) (fun _ => ?_) (fun h => absurd h h18)
      refine mm_aload_n dX6_numberOf_50 rfl rfl ?_
      refine mm_iconst (v := 0) dX6_numberOf_51 (by decide) ?_
      obtain ⟨v20, hc19, hx⟩ := b1_some hx
      refine mm_callV3 (a := a) (ci := 6) wM_X6_count kM_X6_87 wI_X6_count wS_X6_count dX6_numberOf_52 (e_X6_count hst hZ hn hs hc19) (mem_obj hs (by decide)) (sh_ltn hs (by decide) hn) rfl rfl rfl (Nat.le_of_ble_eq_true rfl) (by omega) (by omega) (fun v9 S9 hq => ?_)
      obtain ⟨rfl, rfl⟩ := hq
      refine ⟨fun h => ⟨h, rfl⟩, ?_⟩
      refine mm_aload_n dX6_numberOf_55 rfl (isr_rf _) ?_
      refine s_getIN (r := w14) (b := q15) (ci := 3) (k := 1) in_X3 rfl (by decide) rfl kF_X6_52 dX6_numberOf_56 hr16 hs17 (by decide) hn (by decide) rfl ?_
      refine mm_iadd dX6_numberOf_59 ?_
      refine mm_iret dX6_numberOf_60 rfl rfl ?_ (by omega) (by omega)
      obtain rfl := fin1 hx
      exact ⟨rfl, rfl⟩
set_option maxHeartbeats 4000000 in
set_option maxRecDepth 100000 in
theorem e_X11_find_25 {g : mm_G} {l : Launch} (hst : l.stackTraces = false) {Z : Nat → Nat → Option Nat} (hZ : HZ Z) {n : Nat} (hn : 1186 ≤ n) {d : Nat} {U : Nat} {a : Nat} (hs : sh a = 11) {v2_ : Option Nat} {s0_ : Int32} {σ : SG} {r : mm_R} {σ' : SG} (hx : x_X11_find_25 U a v2_ s0_ σ = some (r, σ')) : mm_V g l RX11 "find" cX11_find 4 (some .int) [] (d + 3) 1 6 (fun r9 S' => r9 = r ∧ S' = (mem Z σ', n, true)) 25 [some (.ref a), none, some (va_rf v2_), none] [.int s0_] (mem Z σ, n, true) 0 0 := by
  unfold x_X11_find_25 at hx
  refine mm_istore_n [some (.ref a), none, some (va_rf v2_), some (.int s0_)] dX11_find_25 (by decide) ((st1_o (r := v2_) rfl).trans rfl) ?_
  refine mm_aload_n dX11_find_26 rfl rfl ?_
  refine s_getS (q := 1) (r := some a) (b := a) (ci := 11) (k := 0) in_X11 rfl (by decide) rfl kF_X11_14 dX11_find_27 rfl hs (by decide) hn (by decide) rfl rfl ?_
  obtain ⟨σ5, hc4, hx⟩ := b1_some hx
  refine mm_callV3 (a := 1) (ci := 0) wM_X0_clear kM_X11_99 wI_X0_clear wS_X0_clear dX11_find_30 (e_X0_clear hst hZ hn sa_1 hc4) (mem_obj sa_1 (by decide)) (sh_ltn sa_1 (by decide) hn) rfl rfl rfl (Nat.le_of_ble_eq_true rfl) (by omega) (by omega) (fun v9 S9 hq => ?_)
  obtain ⟨rfl, rfl⟩ := hq
  refine ⟨fun h => ⟨h, rfl⟩, ?_⟩
  refine mm_aload_n dX11_find_33 rfl (isr_rf _) ?_
  refine b_if hx (fun h6 hx => ?_) (fun h6 hx => ?_)
  · refine mm_ifnonnull (r := v2_) 47 dX11_find_34 (by decide) (fun h => absurd h6 h) (fun _ => ?_)
    refine mm_throw (k := 2) (text := "no such schema") (by decide) kC_X11_67 wj_IllegalArgumentException rfl at_71 rfl dX11_find_37 dX11_find_40 dX11_find_41 dX11_find_43 dX11_find_46 (Nat.le_of_ble_eq_true rfl) (by omega) (by omega) ?_
    obtain ⟨rfl, rfl⟩ := fin2 hx
    exact ⟨rfl, rfl⟩
  · refine mm_ifnonnull (r := v2_) 47 dX11_find_34 (by decide) (fun _ => ?_) (fun h => absurd h h6)
    refine mm_iload_n dX11_find_47 rfl ?_
    refine mm_iret dX11_find_48 rfl rfl ?_ (by omega) (by omega)
    obtain ⟨rfl, rfl⟩ := fin2 hx
    exact ⟨rfl, rfl⟩
set_option maxHeartbeats 4000000 in
set_option maxRecDepth 100000 in
theorem e_X11_find {g : mm_G} {l : Launch} (hst : l.stackTraces = false) {Z : Nat → Nat → Option Nat} (hZ : HZ Z) {n : Nat} (hn : 1186 ≤ n) {d : Nat} {U : Nat} {a : Nat} (hs : sh a = 11) {p0 : Int32} {σ : SG} {r : mm_R} {σ' : SG} (hx : x_X11_find U a p0 σ = some (r, σ')) : mm_Ct g l yX11_find (.code yX11_find cX11_find 4 (some .int)) (d + 3) 1 6 [.ref a, .int p0] (mem Z σ, n, true) (fun r9 S' => r9 = r ∧ S' = (mem Z σ', n, true)) := by
  refine mm_Ct_of hst (by decide) (Nat.le_of_ble_eq_true rfl) ?_
  show mm_V g l RX11 "find" cX11_find 4 (some .int) [] (d + 3) 1 6 (fun r9 S' => r9 = r ∧ S' = (mem Z σ', n, true)) 0 [some (.ref a), some (.int p0), none, none] [] (mem Z σ, n, true) 0 0
  unfold x_X11_find at hx
  refine mm_aload_n dX11_find_0 rfl rfl ?_
  refine mm_iload_n dX11_find_1 rfl ?_
  obtain ⟨v2, hc1, hx⟩ := b1_some hx
  refine mm_callV3 (a := a) (ci := 11) wM_X11_compilerOf kM_X11_86 wI_X11_compilerOf wS_X11_compilerOf dX11_find_2 (e_X11_compilerOf hst hZ hn hs hc1) (mem_obj hs (by decide)) (sh_ltn hs (by decide) hn) rfl rfl rfl (Nat.le_of_ble_eq_true rfl) (by omega) (by omega) (fun v9 S9 hq => ?_)
  obtain ⟨rfl, rfl⟩ := hq
  refine ⟨fun h => ⟨h, rfl⟩, ?_⟩
  refine mm_astore_n [some (.ref a), some (.int p0), some (va_rf v2), none] dX11_find_5 (by decide) (isr_rf _) rfl ?_
  refine mm_aload_n dX11_find_6 rfl (isr_rf _) ?_
  refine b_if hx (fun h3 hx => ?_) (fun h3 hx => ?_)
  · refine mm_ifnonnull (r := v2) 14 dX11_find_7 (by decide) (fun h => absurd h3 h) (fun _ => ?_)
    refine mm_iconst (v := (-1)) dX11_find_10 (by decide) ?_
    refine mm_goto 25 dX11_find_11 (by decide) ?_
    refine mm_fewer [some (.ref a), none, some (va_rf v2), none] (few_ok (bs := [true, false, true, false]) rfl) ?_
    exact e_X11_find_25 hst hZ hn hs hx
  · refine mm_ifnonnull (r := v2) 14 dX11_find_7 (by decide) (fun _ => ?_) (fun h => absurd h h3)
    refine mm_aload_n dX11_find_14 rfl (isr_rf _) ?_
    obtain ⟨q7, hr8, hs9, hx⟩ := ck_some hx
    obtain ⟨v11, hc10, hx⟩ := b1_some hx
    refine mm_callV3 (a := q7) (ci := 2) wM_X2_schema kM_X11_109 wI_X2_schema wS_X2_schema dX11_find_15 (e_X2_schema hst hZ hn hs9 hc10) (mem_obj hs9 (by decide)) (sh_ltn hs9 (by decide) hn) rfl rfl (by rw [hr8]; rfl) (Nat.le_of_ble_eq_true rfl) (by omega) (by omega) (fun v9 S9 hq => ?_)
    obtain ⟨rfl, rfl⟩ := hq
    refine ⟨fun h => ⟨h, rfl⟩, ?_⟩
    refine mm_aload_n dX11_find_18 rfl rfl ?_
    refine s_getS (q := 1) (r := some a) (b := a) (ci := 11) (k := 0) in_X11 rfl (by decide) rfl kF_X11_14 dX11_find_19 rfl hs (by decide) hn (by decide) rfl rfl ?_
    obtain ⟨q12, hr13, hs14, hx⟩ := ck_some hx
    obtain ⟨v16, hc15, hx⟩ := b1_some hx
    refine mm_callV3 (a := q12) (ci := 6) wM_X6_numberOf kM_X11_159 wI_X6_numberOf wS_X6_numberOf dX11_find_22 (e_X6_numberOf hst hZ hn hs14 hc15) (mem_obj hs14 (by decide)) (sh_ltn hs14 (by decide) hn) rfl rfl (by rw [hr13]; rfl) (Nat.le_of_ble_eq_true rfl) (by omega) (by omega) (fun v9 S9 hq => ?_)
    obtain ⟨rfl, rfl⟩ := hq
    refine ⟨fun h => ⟨h, rfl⟩, ?_⟩
    refine mm_fewer [some (.ref a), none, some (va_rf v2), none] (few_ok (bs := [true, false, true, false]) rfl) ?_
    exact e_X11_find_25 hst hZ hn hs hx
set_option maxHeartbeats 4000000 in
set_option maxRecDepth 100000 in
theorem e_X11_many_19 {g : mm_G} {l : Launch} (hst : l.stackTraces = false) {Z : Nat → Nat → Option Nat} (hZ : HZ Z) {n : Nat} (hn : 1186 ≤ n) {d : Nat} {a : Nat} (hs : sh a = 11) {σ : SG} {r : mm_R} {σ' : SG} (hx : x_X11_many_19 a σ = some (r, σ')) : mm_V g l RX11 "many" cX11_many 5 (some .int) [] (d + 1) 1 6 (fun r9 S' => r9 = r ∧ S' = (mem Z σ', n, true)) 19 [none, none, none, none, none] [] (mem Z σ, n, true) 0 0 := by
  unfold x_X11_many_19 at hx
  refine mm_throw (k := 6) (text := "no such schema, or no such question") (by decide) kC_X11_67 wj_IllegalArgumentException rfl at_71 rfl dX11_many_19 dX11_many_22 dX11_many_23 dX11_many_25 dX11_many_28 (Nat.le_of_ble_eq_true rfl) (by omega) (by omega) ?_
  obtain ⟨rfl, rfl⟩ := fin2 hx
  exact ⟨rfl, rfl⟩
set_option maxHeartbeats 4000000 in
set_option maxRecDepth 100000 in
theorem e_X11_many_47 {g : mm_G} {l : Launch} (hst : l.stackTraces = false) {Z : Nat → Nat → Option Nat} (hZ : HZ Z) {n : Nat} (hn : 1186 ≤ n) {d : Nat} {a : Nat} (hs : sh a = 11) {v3_ : Option Nat} {s0_ : Int32} {σ : SG} {r : mm_R} {σ' : SG} (hx : x_X11_many_47 a v3_ s0_ σ = some (r, σ')) : mm_V g l RX11 "many" cX11_many 5 (some .int) [] (d + 1) 1 6 (fun r9 S' => r9 = r ∧ S' = (mem Z σ', n, true)) 47 [none, none, none, some (va_rf v3_), none] [.int s0_] (mem Z σ, n, true) 0 0 := by
  unfold x_X11_many_47 at hx
  refine mm_istore [none, none, none, some (va_rf v3_), some (.int s0_)] dX11_many_47 (by decide) ((st1_o (r := v3_) rfl).trans rfl) ?_
  refine mm_aload_n dX11_many_49 rfl (isr_rf _) ?_
  obtain ⟨q7, hr8, hs9, hx⟩ := ck_some hx
  obtain ⟨v11, hc10, hx⟩ := b1_some hx
  refine mm_callV3 (a := q7) (ci := 2) wM_X2_schema kM_X11_109 wI_X2_schema wS_X2_schema dX11_many_50 (e_X2_schema hst hZ hn hs9 hc10) (mem_obj hs9 (by decide)) (sh_ltn hs9 (by decide) hn) rfl rfl (by rw [hr8]; rfl) (Nat.le_of_ble_eq_true rfl) (by omega) (by omega) (fun v9 S9 hq => ?_)
  obtain ⟨rfl, rfl⟩ := hq
  refine ⟨fun h => ⟨h, rfl⟩, ?_⟩
  refine mm_iload dX11_many_53 rfl ?_
  obtain ⟨q12, hr13, hs14, hx⟩ := ck_some hx
  obtain ⟨v16, hc15, hx⟩ := b1_some hx
  refine mm_callV3 (a := q12) (ci := 6) wM_X6_count kM_X11_113 wI_X6_count wS_X6_count dX11_many_55 (e_X6_count hst hZ hn hs14 hc15) (mem_obj hs14 (by decide)) (sh_ltn hs14 (by decide) hn) rfl rfl (by rw [hr13]; rfl) (Nat.le_of_ble_eq_true rfl) (by omega) (by omega) (fun v9 S9 hq => ?_)
  obtain ⟨rfl, rfl⟩ := hq
  refine ⟨fun h => ⟨h, rfl⟩, ?_⟩
  refine mm_iret dX11_many_58 rfl rfl ?_ (by omega) (by omega)
  obtain ⟨rfl, rfl⟩ := fin2 hx
  exact ⟨rfl, rfl⟩
set_option maxHeartbeats 4000000 in
set_option maxRecDepth 100000 in
theorem e_X11_many {g : mm_G} {l : Launch} (hst : l.stackTraces = false) {Z : Nat → Nat → Option Nat} (hZ : HZ Z) {n : Nat} (hn : 1186 ≤ n) {d : Nat} {a : Nat} (hs : sh a = 11) {p0 : Int32} {p1 : Int32} {σ : SG} {r : mm_R} {σ' : SG} (hx : x_X11_many a p0 p1 σ = some (r, σ')) : mm_Ct g l yX11_many (.code yX11_many cX11_many 5 (some .int)) (d + 1) 1 6 [.ref a, .int p0, .int p1] (mem Z σ, n, true) (fun r9 S' => r9 = r ∧ S' = (mem Z σ', n, true)) := by
  refine mm_Ct_of hst (by decide) (Nat.le_of_ble_eq_true rfl) ?_
  show mm_V g l RX11 "many" cX11_many 5 (some .int) [] (d + 1) 1 6 (fun r9 S' => r9 = r ∧ S' = (mem Z σ', n, true)) 0 [some (.ref a), some (.int p0), some (.int p1), none, none] [] (mem Z σ, n, true) 0 0
  unfold x_X11_many at hx
  refine mm_aload_n dX11_many_0 rfl rfl ?_
  refine mm_iload_n dX11_many_1 rfl ?_
  obtain ⟨v2, hc1, hx⟩ := b1_some hx
  refine mm_callV3 (a := a) (ci := 11) wM_X11_compilerOf kM_X11_86 wI_X11_compilerOf wS_X11_compilerOf dX11_many_2 (e_X11_compilerOf hst hZ hn hs hc1) (mem_obj hs (by decide)) (sh_ltn hs (by decide) hn) rfl rfl rfl (Nat.le_of_ble_eq_true rfl) (by omega) (by omega) (fun v9 S9 hq => ?_)
  obtain ⟨rfl, rfl⟩ := hq
  refine ⟨fun h => ⟨h, rfl⟩, ?_⟩
  refine mm_astore_n [some (.ref a), some (.int p0), some (.int p1), some (va_rf v2), none] dX11_many_5 (by decide) (isr_rf _) rfl ?_
  refine mm_aload_n dX11_many_6 rfl (isr_rf _) ?_
  refine b_if hx (fun h3 hx => ?_) (fun h3 hx => ?_)
  · refine mm_ifnull (r := v2) 19 dX11_many_7 (by decide) (fun _ => ?_) (fun h => absurd h3 h)
    refine mm_fewer [none, none, none, none, none] (few_ok (bs := [false, false, false, false, false]) rfl) ?_
    exact e_X11_many_19 hst hZ hn hs hx
  · refine mm_ifnull (r := v2) 19 dX11_many_7 (by decide) (fun h => absurd h h3) (fun _ => ?_)
    refine mm_iload_n dX11_many_10 rfl ?_
    refine b_if hx (fun h4 hx => ?_) (fun h4 hx => ?_)
    · refine mm_if_lt 19 dX11_many_11 (by decide) (fun _ => ?_) (fun h => absurd h4 h)
      refine mm_fewer [none, none, none, none, none] (few_ok (bs := [false, false, false, false, false]) rfl) ?_
      exact e_X11_many_19 hst hZ hn hs hx
    · refine mm_if_lt 19 dX11_many_11 (by decide) (fun h => absurd h h4) (fun _ => ?_)
      refine mm_iload_n dX11_many_14 rfl ?_
      refine mm_iconst (v := 2) dX11_many_15 (by decide) ?_
      refine b_if hx (fun h5 hx => ?_) (fun h5 hx => ?_)
      · refine mm_icmp_le 29 dX11_many_16 (by decide) (fun h => absurd h (Int32.not_le.mpr h5)) (fun _ => ?_)
        refine mm_fewer [none, none, none, none, none] (few_ok (bs := [false, false, false, false, false]) rfl) ?_
        exact e_X11_many_19 hst hZ hn hs hx
      · refine mm_icmp_le 29 dX11_many_16 (by decide) (fun _ => ?_) (fun h => absurd (Int32.not_lt.mp h5) h)
        refine mm_iload_n dX11_many_29 rfl ?_
        refine b_if hx (fun h6 hx => ?_) (fun h6 hx => ?_)
        · refine mm_if_ne 37 dX11_many_30 (by decide) (fun h => absurd h6 h) (fun _ => ?_)
          refine mm_iconst (v := 0) dX11_many_33 (by decide) ?_
          refine mm_goto 47 dX11_many_34 (by decide) ?_
          refine mm_fewer [none, none, none, some (va_rf v2), none] (few_ok (bs := [false, false, false, true, false]) rfl) ?_
          exact e_X11_many_47 hst hZ hn hs hx
        · refine mm_if_ne 37 dX11_many_30 (by decide) (fun _ => ?_) (fun h => absurd h h6)
          refine mm_iload_n dX11_many_37 rfl ?_
          refine mm_iconst (v := 1) dX11_many_38 (by decide) ?_
          refine b_if hx (fun h17 hx => ?_) (fun h17 hx => ?_)
          · refine mm_icmp_ne 46 dX11_many_39 (by decide) (fun h => absurd h17 h) (fun _ => ?_)
            refine mm_iconst (v := 1) dX11_many_42 (by decide) ?_
            refine mm_goto 47 dX11_many_43 (by decide) ?_
            refine mm_fewer [none, none, none, some (va_rf v2), none] (few_ok (bs := [false, false, false, true, false]) rfl) ?_
            exact e_X11_many_47 hst hZ hn hs hx
          · refine mm_icmp_ne 46 dX11_many_39 (by decide) (fun _ => ?_) (fun h => absurd h h17)
            refine mm_iconst (v := 2) dX11_many_46 (by decide) ?_
            refine mm_fewer [none, none, none, some (va_rf v2), none] (few_ok (bs := [false, false, false, true, false]) rfl) ?_
            exact e_X11_many_47 hst hZ hn hs hx
set_option maxHeartbeats 4000000 in
set_option maxRecDepth 100000 in
theorem e_X11_out_15 {g : mm_G} {l : Launch} (hst : l.stackTraces = false) {Z : Nat → Nat → Option Nat} (hZ : HZ Z) {n : Nat} (hn : 1186 ≤ n) {d : Nat} {U : Nat} {a : Nat} (hs : sh a = 11) {σ : SG} {r : mm_R} {σ' : SG} (hx : x_X11_out_15 U a σ = some (r, σ')) : mm_V g l RX11 "out" cX11_out 5 (some .long) [] (d + 1) 1 6 (fun r9 S' => r9 = r ∧ S' = (mem Z σ', n, true)) 15 [none, none, none, none, none] [] (mem Z σ, n, true) 0 0 := by
  unfold x_X11_out_15 at hx
  refine mm_throw (k := 22) (text := "not a place of what was given") (by decide) kC_X11_202 wj_IndexOutOfBoundsException rfl at_206 rfl dX11_out_15 dX11_out_18 dX11_out_19 dX11_out_21 dX11_out_24 (Nat.le_of_ble_eq_true rfl) (by omega) (by omega) ?_
  obtain ⟨rfl, rfl⟩ := fin2 hx
  exact ⟨rfl, rfl⟩
set_option maxHeartbeats 4000000 in
set_option maxRecDepth 100000 in
theorem e_X11_out_L30 {g : mm_G} {l : Launch} (hst : l.stackTraces = false) {Z : Nat → Nat → Option Nat} (hZ : HZ Z) {n : Nat} (hn : 1186 ≤ n) {d : Nat} {U : Nat} {a : Nat} (hs : sh a = 11) {v1_ : Int32} {σ : SG} {r : mm_R} {σ' : SG} : ∀ (U1 : Nat) (v2_ : Int64) (v4_ : Int32), x_X11_out_L30 U a v1_ σ U1 v2_ v4_ = some (r, σ') → mm_V g l RX11 "out" cX11_out 5 (some .long) [] (d + 1) 1 6 (fun r9 S' => r9 = r ∧ S' = (mem Z σ', n, true)) 30 [some (.ref a), some (.int v1_), some (.long v2_), none, some (.int v4_)] [] (mem Z σ, n, true) 0 0 := by
  intro U1
  induction U1 with
  | zero => intro v2_ v4_ hx; exact absurd hx (by simp [x_X11_out_L30])
  | succ U1 ih =>
    intro v2_ v4_ hx
    rw [x_X11_out_L30] at hx
    refine mm_iload dX11_out_30 rfl ?_
    refine mm_iload_n dX11_out_32 rfl ?_
    refine mm_bipush (v := 8) dX11_out_33 (by decide) ?_
    refine mm_iadd dX11_out_35 ?_
    refine b_if hx (fun h5 hx => ?_) (fun h5 hx => ?_)
    · refine mm_icmp_ge 65 dX11_out_36 (by decide) (fun h => absurd h (Int32.not_le.mpr h5)) (fun _ => ?_)
      refine mm_lload_n dX11_out_39 rfl ?_
      refine mm_bipush (v := 8) dX11_out_40 (by decide) ?_
      refine mm_lshl dX11_out_42 ?_
      refine mm_aload_n dX11_out_43 rfl rfl ?_
      refine s_getS (q := 3) (r := some a) (b := a) (ci := 11) (k := 1) in_X11 rfl (by decide) rfl kF_X11_18 dX11_out_44 rfl hs (by decide) hn (by decide) rfl rfl ?_
      refine mm_iload dX11_out_47 rfl ?_
      obtain ⟨v7, hc6, hx⟩ := b1_some hx
      refine mm_callV3 (a := 3) (ci := 0) wM_X0_at kM_X11_207 wI_X0_at wS_X0_at dX11_out_49 (e_X0_at hst hZ hn sa_3 hc6) (mem_obj sa_3 (by decide)) (sh_ltn sa_3 (by decide) hn) rfl rfl rfl (Nat.le_of_ble_eq_true rfl) (by omega) (by omega) (fun v9 S9 hq => ?_)
      obtain ⟨rfl, rfl⟩ := hq
      refine ⟨fun h => ⟨h, rfl⟩, ?_⟩
      refine mm_iconst (v := 0) dX11_out_52 (by decide) ?_
      refine mm_mmax kX_X11_210 (Nat.le_of_ble_eq_true rfl) (by omega) (by omega) dX11_out_53 ?_
      refine mm_i2l dX11_out_56 ?_
      refine mm_lor dX11_out_57 ?_
      refine mm_lstore_n [some (.ref a), some (.int v1_), some (.long ((lshl9 v2_ 8) ||| (Int32.toInt64 (if v7 < 0 then 0 else v7)))), none, some (.int v4_)] dX11_out_58 (by decide) rfl ?_
      refine mm_iinc (v := v4_ + 1) [some (.ref a), some (.int v1_), some (.long ((lshl9 v2_ 8) ||| (Int32.toInt64 (if v7 < 0 then 0 else v7)))), none, some (.int (v4_ + 1))] dX11_out_59 rfl rfl (by decide) rfl ?_
      refine mm_goto 30 dX11_out_62 (by decide) ?_
      exact ih _ _ hx
    · refine mm_icmp_ge 65 dX11_out_36 (by decide) (fun _ => ?_) (fun h => absurd (Int32.not_lt.mp h5) h)
      refine mm_lload_n dX11_out_65 rfl ?_
      refine mm_lret dX11_out_66 rfl ?_ (by omega) (by omega)
      obtain ⟨rfl, rfl⟩ := fin2 hx
      exact ⟨rfl, rfl⟩
set_option maxHeartbeats 4000000 in
set_option maxRecDepth 100000 in
theorem e_X11_out {g : mm_G} {l : Launch} (hst : l.stackTraces = false) {Z : Nat → Nat → Option Nat} (hZ : HZ Z) {n : Nat} (hn : 1186 ≤ n) {d : Nat} {U : Nat} {a : Nat} (hs : sh a = 11) {p0 : Int32} {σ : SG} {r : mm_R} {σ' : SG} (hx : x_X11_out U a p0 σ = some (r, σ')) : mm_Ct g l yX11_out (.code yX11_out cX11_out 5 (some .long)) (d + 1) 1 6 [.ref a, .int p0] (mem Z σ, n, true) (fun r9 S' => r9 = r ∧ S' = (mem Z σ', n, true)) := by
  refine mm_Ct_of hst (by decide) (Nat.le_of_ble_eq_true rfl) ?_
  show mm_V g l RX11 "out" cX11_out 5 (some .long) [] (d + 1) 1 6 (fun r9 S' => r9 = r ∧ S' = (mem Z σ', n, true)) 0 [some (.ref a), some (.int p0), none, none, none] [] (mem Z σ, n, true) 0 0
  unfold x_X11_out at hx
  refine mm_iload_n dX11_out_0 rfl ?_
  refine b_if hx (fun h1 hx => ?_) (fun h1 hx => ?_)
  · refine mm_if_lt 15 dX11_out_1 (by decide) (fun _ => ?_) (fun h => absurd h1 h)
    refine mm_fewer [none, none, none, none, none] (few_ok (bs := [false, false, false, false, false]) rfl) ?_
    exact e_X11_out_15 hst hZ hn hs hx
  · refine mm_if_lt 15 dX11_out_1 (by decide) (fun h => absurd h h1) (fun _ => ?_)
    refine mm_iload_n dX11_out_4 rfl ?_
    refine mm_aload_n dX11_out_5 rfl rfl ?_
    refine s_getS (q := 3) (r := some a) (b := a) (ci := 11) (k := 1) in_X11 rfl (by decide) rfl kF_X11_18 dX11_out_6 rfl hs (by decide) hn (by decide) rfl rfl ?_
    obtain ⟨v3, hc2, hx⟩ := b1_some hx
    refine mm_callV3 (a := 3) (ci := 0) wM_X0_size kM_X11_74 wI_X0_size wS_X0_size dX11_out_9 (e_X0_size hst hZ hn sa_3 hc2) (mem_obj sa_3 (by decide)) (sh_ltn sa_3 (by decide) hn) rfl rfl rfl (Nat.le_of_ble_eq_true rfl) (by omega) (by omega) (fun v9 S9 hq => ?_)
    obtain ⟨rfl, rfl⟩ := hq
    refine ⟨fun h => ⟨h, rfl⟩, ?_⟩
    refine b_if hx (fun h4 hx => ?_) (fun h4 hx => ?_)
    · refine mm_icmp_lt 25 dX11_out_12 (by decide) (fun _ => ?_) (fun h => absurd h4 h)
      refine mm_lconst (v := 0) dX11_out_25 (by decide) ?_
      refine mm_lstore_n [some (.ref a), some (.int p0), some (.long 0), none, none] dX11_out_26 (by decide) rfl ?_
      refine mm_iload_n dX11_out_27 rfl ?_
      refine mm_istore [some (.ref a), some (.int p0), some (.long 0), none, some (.int p0)] dX11_out_28 (by decide) rfl ?_
      refine e_X11_out_L30 hst hZ hn hs _ _ _ hx
    · refine mm_icmp_lt 25 dX11_out_12 (by decide) (fun h => absurd h h4) (fun _ => ?_)
      refine mm_fewer [none, none, none, none, none] (few_ok (bs := [false, false, false, false, false]) rfl) ?_
      exact e_X11_out_15 hst hZ hn hs hx
set_option maxHeartbeats 4000000 in
set_option maxRecDepth 100000 in
theorem e_X7_skipBlanks_67 {g : mm_G} {l : Launch} (hst : l.stackTraces = false) {Z : Nat → Nat → Option Nat} (hZ : HZ Z) {n : Nat} (hn : 1186 ≤ n) {z : Bool} {d : Nat} {U : Nat} {a : Nat} (hs : sh a = 7) {k2 : Int32 → SG → Option (SG)} {s0_ : Int32} {σ : SG} {σ' : SG} (hk2 : ∀ (v1_ : Int32) (σ8 : SG), k2 v1_ σ8 = some σ' → mm_V g l RX7 "skipBlanks" cX7_skipBlanks 3 none [] (d + 1) 0 0 (mm_nt (fun v S' => v = none ∧ S' = (mem Z σ', n, z))) 2 [some (.ref a), some (.int v1_), none] [] (mem Z σ8, n, z) 0 0) (hx : x_X7_skipBlanks_67 U a k2 s0_ σ = some σ') : mm_V g l RX7 "skipBlanks" cX7_skipBlanks 3 none [] (d + 1) 0 0 (mm_nt (fun v S' => v = none ∧ S' = (mem Z σ', n, z))) 67 [some (.ref a), none, none] [.int s0_] (mem Z σ, n, z) 0 0 := by
  unfold x_X7_skipBlanks_67 at hx
  refine mm_istore_n [some (.ref a), some (.int s0_), none] dX7_skipBlanks_67 (by decide) rfl ?_
  refine mm_aload_n dX7_skipBlanks_68 rfl rfl ?_
  refine mm_dup dX7_skipBlanks_69 rfl ?_
  refine s_getI (r := some a) (b := a) (ci := 7) (k := 4) in_X7 rfl (by decide) rfl kF_X7_26 dX7_skipBlanks_70 rfl hs (by decide) hn (by decide) rfl ?_
  refine mm_iconst (v := 1) dX7_skipBlanks_73 (by decide) ?_
  refine mm_iadd dX7_skipBlanks_74 ?_
  refine s_putI (v := (sI σ a 4) + 1) (r := some a) (b := a) (ci := 7) (k := 4) in_X7 rfl (by decide) rfl tyX7_ok nmX7 rfl kF_X7_26 dX7_skipBlanks_75 (mm_fit_int _) rfl hs (by decide) hn (by decide) rfl hx (fun σ12 hx => ?_)
  refine mm_goto 2 dX7_skipBlanks_78 (by decide) ?_
  exact hk2 _ _ hx
set_option maxHeartbeats 4000000 in
set_option maxRecDepth 100000 in
theorem e_X7_skipBlanks_66 {g : mm_G} {l : Launch} (hst : l.stackTraces = false) {Z : Nat → Nat → Option Nat} (hZ : HZ Z) {n : Nat} (hn : 1186 ≤ n) {z : Bool} {d : Nat} {U : Nat} {a : Nat} (hs : sh a = 7) {k2 : Int32 → SG → Option (SG)} {σ : SG} {σ' : SG} (hk2 : ∀ (v1_ : Int32) (σ8 : SG), k2 v1_ σ8 = some σ' → mm_V g l RX7 "skipBlanks" cX7_skipBlanks 3 none [] (d + 1) 0 0 (mm_nt (fun v S' => v = none ∧ S' = (mem Z σ', n, z))) 2 [some (.ref a), some (.int v1_), none] [] (mem Z σ8, n, z) 0 0) (hx : x_X7_skipBlanks_66 U a k2 σ = some σ') : mm_V g l RX7 "skipBlanks" cX7_skipBlanks 3 none [] (d + 1) 0 0 (mm_nt (fun v S' => v = none ∧ S' = (mem Z σ', n, z))) 66 [some (.ref a), none, none] [] (mem Z σ, n, z) 0 0 := by
  unfold x_X7_skipBlanks_66 at hx
  refine mm_iconst (v := 0) dX7_skipBlanks_66 (by decide) ?_
  exact e_X7_skipBlanks_67 hst hZ hn hs hk2 hx
set_option maxHeartbeats 4000000 in
set_option maxRecDepth 100000 in
theorem e_X7_skipBlanks_62 {g : mm_G} {l : Launch} (hst : l.stackTraces = false) {Z : Nat → Nat → Option Nat} (hZ : HZ Z) {n : Nat} (hn : 1186 ≤ n) {z : Bool} {d : Nat} {U : Nat} {a : Nat} (hs : sh a = 7) {k2 : Int32 → SG → Option (SG)} {σ : SG} {σ' : SG} (hk2 : ∀ (v1_ : Int32) (σ8 : SG), k2 v1_ σ8 = some σ' → mm_V g l RX7 "skipBlanks" cX7_skipBlanks 3 none [] (d + 1) 0 0 (mm_nt (fun v S' => v = none ∧ S' = (mem Z σ', n, z))) 2 [some (.ref a), some (.int v1_), none] [] (mem Z σ8, n, z) 0 0) (hx : x_X7_skipBlanks_62 U a k2 σ = some σ') : mm_V g l RX7 "skipBlanks" cX7_skipBlanks 3 none [] (d + 1) 0 0 (mm_nt (fun v S' => v = none ∧ S' = (mem Z σ', n, z))) 62 [some (.ref a), none, none] [] (mem Z σ, n, z) 0 0 := by
  unfold x_X7_skipBlanks_62 at hx
  refine mm_iconst (v := 1) dX7_skipBlanks_62 (by decide) ?_
  refine mm_goto 67 dX7_skipBlanks_63 (by decide) ?_
  exact e_X7_skipBlanks_67 hst hZ hn hs hk2 hx
set_option maxHeartbeats 4000000 in
set_option maxRecDepth 100000 in
theorem e_X7_skipBlanks_46 {g : mm_G} {l : Launch} (hst : l.stackTraces = false) {Z : Nat → Nat → Option Nat} (hZ : HZ Z) {n : Nat} (hn : 1186 ≤ n) {z : Bool} {d : Nat} {U : Nat} {a : Nat} (hs : sh a = 7) {k2 : Int32 → SG → Option (SG)} {v1_ : Int32} {v2_ : Int32} {σ : SG} {σ' : SG} (hk2 : ∀ (v1_ : Int32) (σ8 : SG), k2 v1_ σ8 = some σ' → mm_V g l RX7 "skipBlanks" cX7_skipBlanks 3 none [] (d + 1) 0 0 (mm_nt (fun v S' => v = none ∧ S' = (mem Z σ', n, z))) 2 [some (.ref a), some (.int v1_), none] [] (mem Z σ8, n, z) 0 0) (hx : x_X7_skipBlanks_46 U a k2 v1_ v2_ σ = some σ') : mm_V g l RX7 "skipBlanks" cX7_skipBlanks 3 none [] (d + 1) 0 0 (mm_nt (fun v S' => v = none ∧ S' = (mem Z σ', n, z))) 46 [some (.ref a), some (.int v1_), some (.int v2_)] [] (mem Z σ, n, z) 0 0 := by
  unfold x_X7_skipBlanks_46 at hx
  refine mm_iload_n dX7_skipBlanks_46 rfl ?_
  refine mm_bipush (v := 10) dX7_skipBlanks_47 (by decide) ?_
  refine b_if hx (fun h11 hx => ?_) (fun h11 hx => ?_)
  · refine mm_icmp_eq 66 dX7_skipBlanks_49 (by decide) (fun _ => ?_) (fun h => absurd h11 h)
    refine mm_fewer [some (.ref a), none, none] (few_ok (bs := [true, false, false]) rfl) ?_
    exact e_X7_skipBlanks_66 hst hZ hn hs hk2 hx
  · refine mm_icmp_eq 66 dX7_skipBlanks_49 (by decide) (fun h => absurd h h11) (fun _ => ?_)
    refine mm_iload_n dX7_skipBlanks_52 rfl ?_
    refine b_if hx (fun h13 hx => ?_) (fun h13 hx => ?_)
    · refine mm_if_ne 62 dX7_skipBlanks_53 (by decide) (fun h => absurd h13 h) (fun _ => ?_)
      refine mm_iload_n dX7_skipBlanks_56 rfl ?_
      refine mm_bipush (v := 35) dX7_skipBlanks_57 (by decide) ?_
      refine b_if hx (fun h14 hx => ?_) (fun h14 hx => ?_)
      · refine mm_icmp_ne 66 dX7_skipBlanks_59 (by decide) (fun h => absurd h14 h) (fun _ => ?_)
        refine mm_fewer [some (.ref a), none, none] (few_ok (bs := [true, false, false]) rfl) ?_
        exact e_X7_skipBlanks_62 hst hZ hn hs hk2 hx
      · refine mm_icmp_ne 66 dX7_skipBlanks_59 (by decide) (fun _ => ?_) (fun h => absurd h h14)
        refine mm_fewer [some (.ref a), none, none] (few_ok (bs := [true, false, false]) rfl) ?_
        exact e_X7_skipBlanks_66 hst hZ hn hs hk2 hx
    · refine mm_if_ne 62 dX7_skipBlanks_53 (by decide) (fun _ => ?_) (fun h => absurd h h13)
      refine mm_fewer [some (.ref a), none, none] (few_ok (bs := [true, false, false]) rfl) ?_
      exact e_X7_skipBlanks_62 hst hZ hn hs hk2 hx
set_option maxHeartbeats 4000000 in
set_option maxRecDepth 100000 in
theorem e_X7_skipBlanks_L2 {g : mm_G} {l : Launch} (hst : l.stackTraces = false) {Z : Nat → Nat → Option Nat} (hZ : HZ Z) {n : Nat} (hn : 1186 ≤ n) {z : Bool} {d : Nat} {U : Nat} {a : Nat} (hs : sh a = 7) {σ' : SG} : ∀ (U1 : Nat) (v1_ : Int32) (σ : SG), x_X7_skipBlanks_L2 U a U1 v1_ σ = some σ' → mm_V g l RX7 "skipBlanks" cX7_skipBlanks 3 none [] (d + 1) 0 0 (mm_nt (fun v S' => v = none ∧ S' = (mem Z σ', n, z))) 2 [some (.ref a), some (.int v1_), none] [] (mem Z σ, n, z) 0 0 := by
  intro U1
  induction U1 with
  | zero => intro v1_ σ hx; exact absurd hx (by simp [x_X7_skipBlanks_L2])
  | succ U1 ih =>
    intro v1_ σ hx
    rw [x_X7_skipBlanks_L2] at hx
    refine mm_aload_n dX7_skipBlanks_2 rfl rfl ?_
    refine s_getI (r := some a) (b := a) (ci := 7) (k := 4) in_X7 rfl (by decide) rfl kF_X7_26 dX7_skipBlanks_3 rfl hs (by decide) hn (by decide) rfl ?_
    refine mm_aload_n dX7_skipBlanks_6 rfl rfl ?_
    refine s_getS (q := 1) (r := some a) (b := a) (ci := 7) (k := 0) in_X7 rfl (by decide) rfl kF_X7_9 dX7_skipBlanks_7 rfl hs (by decide) hn (by decide) rfl rfl ?_
    obtain ⟨v2, hc1, hx⟩ := b1_some hx
    refine mm_callV3 (a := 1) (ci := 0) wM_X0_size kM_X7_58 wI_X0_size wS_X0_size dX7_skipBlanks_10 (e_X0_size hst hZ hn sa_1 hc1) (mem_obj sa_1 (by decide)) (sh_ltn sa_1 (by decide) hn) rfl rfl rfl (Nat.le_of_ble_eq_true rfl) (by omega) (by omega) (fun v9 S9 hq => ?_)
    obtain ⟨rfl, rfl⟩ := hq
    refine ⟨fun h => ⟨h, rfl⟩, ?_⟩
    refine b_if hx (fun h3 hx => ?_) (fun h3 hx => ?_)
    · refine mm_icmp_ge 81 dX7_skipBlanks_13 (by decide) (fun h => absurd h (Int32.not_le.mpr h3)) (fun _ => ?_)
      refine mm_aload_n dX7_skipBlanks_16 rfl rfl ?_
      refine s_getS (q := 1) (r := some a) (b := a) (ci := 7) (k := 0) in_X7 rfl (by decide) rfl kF_X7_9 dX7_skipBlanks_17 rfl hs (by decide) hn (by decide) rfl rfl ?_
      refine mm_aload_n dX7_skipBlanks_20 rfl rfl ?_
      refine s_getI (r := some a) (b := a) (ci := 7) (k := 4) in_X7 rfl (by decide) rfl kF_X7_26 dX7_skipBlanks_21 rfl hs (by decide) hn (by decide) rfl ?_
      obtain ⟨v5, hc4, hx⟩ := b1_some hx
      refine mm_callV3 (a := 1) (ci := 0) wM_X0_at kM_X7_50 wI_X0_at wS_X0_at dX7_skipBlanks_24 (e_X0_at hst hZ hn sa_1 hc4) (mem_obj sa_1 (by decide)) (sh_ltn sa_1 (by decide) hn) rfl rfl rfl (Nat.le_of_ble_eq_true rfl) (by omega) (by omega) (fun v9 S9 hq => ?_)
      obtain ⟨rfl, rfl⟩ := hq
      refine ⟨fun h => ⟨h, rfl⟩, ?_⟩
      refine mm_istore_n [some (.ref a), some (.int v1_), some (.int v5)] dX7_skipBlanks_27 (by decide) rfl ?_
      refine mm_iload_n dX7_skipBlanks_28 rfl ?_
      refine b_if hx (fun h6 hx => ?_) (fun h6 hx => ?_)
      · refine mm_if_ne 46 dX7_skipBlanks_29 (by decide) (fun h => absurd h6 h) (fun _ => ?_)
        refine mm_iload_n dX7_skipBlanks_32 rfl ?_
        obtain ⟨v8, hc7, hx⟩ := b1_some hx
        refine mm_callSN wM_X11_isBlank kM_X7_62 wT_X11_isBlank dX7_skipBlanks_33 (e_X11_isBlank hst hZ hn hc7) rfl rfl (Nat.le_of_ble_eq_true rfl) (by omega) (by omega) (fun v9 S9 hq => ?_)
        obtain ⟨rfl, rfl⟩ := hq
        refine ⟨fun h => ⟨h, rfl⟩, ?_⟩
        refine b_if hx (fun h9 hx => ?_) (fun h9 hx => ?_)
        · refine mm_if_ne 46 dX7_skipBlanks_36 (by decide) (fun h => absurd h9 h) (fun _ => ?_)
          refine mm_iload_n dX7_skipBlanks_39 rfl ?_
          refine mm_bipush (v := 35) dX7_skipBlanks_40 (by decide) ?_
          refine b_if hx (fun h10 hx => ?_) (fun h10 hx => ?_)
          · refine mm_icmp_eq 46 dX7_skipBlanks_42 (by decide) (fun _ => ?_) (fun h => absurd h10 h)
            exact e_X7_skipBlanks_46 hst hZ hn hs ih hx
          · refine mm_icmp_eq 46 dX7_skipBlanks_42 (by decide) (fun h => absurd h h10) (fun _ => ?_)
            refine mm_vret dX7_skipBlanks_45 rfl ?_ (by omega) (by omega)
            obtain rfl := fin1 hx
            exact ⟨rfl, rfl⟩
        · refine mm_if_ne 46 dX7_skipBlanks_36 (by decide) (fun _ => ?_) (fun h => absurd h h9)
          exact e_X7_skipBlanks_46 hst hZ hn hs ih hx
      · refine mm_if_ne 46 dX7_skipBlanks_29 (by decide) (fun _ => ?_) (fun h => absurd h h6)
        exact e_X7_skipBlanks_46 hst hZ hn hs ih hx
    · refine mm_icmp_ge 81 dX7_skipBlanks_13 (by decide) (fun _ => ?_) (fun h => absurd (Int32.not_lt.mp h3) h)
      refine mm_vret dX7_skipBlanks_81 rfl ?_ (by omega) (by omega)
      obtain rfl := fin1 hx
      exact ⟨rfl, rfl⟩
set_option maxHeartbeats 4000000 in
set_option maxRecDepth 100000 in
theorem e_X7_skipBlanks {g : mm_G} {l : Launch} (hst : l.stackTraces = false) {Z : Nat → Nat → Option Nat} (hZ : HZ Z) {n : Nat} (hn : 1186 ≤ n) {z : Bool} {d : Nat} {U : Nat} {a : Nat} (hs : sh a = 7) {σ : SG} {σ' : SG} (hx : x_X7_skipBlanks U a σ = some σ') : mm_Cm g l yX7_skipBlanks (.code yX7_skipBlanks cX7_skipBlanks 3 none) (d + 1) 0 0 [.ref a] (mem Z σ, n, z) (fun v S' => v = none ∧ S' = (mem Z σ', n, z)) := by
  refine mm_Cm_of hst (by decide) (Nat.le_of_ble_eq_true rfl) ?_
  show mm_V g l RX7 "skipBlanks" cX7_skipBlanks 3 none [] (d + 1) 0 0 (mm_nt (fun v S' => v = none ∧ S' = (mem Z σ', n, z))) 0 [some (.ref a), none, none] [] (mem Z σ, n, z) 0 0
  unfold x_X7_skipBlanks at hx
  refine mm_iconst (v := 0) dX7_skipBlanks_0 (by decide) ?_
  refine mm_istore_n [some (.ref a), some (.int 0), none] dX7_skipBlanks_1 (by decide) rfl ?_
  refine e_X7_skipBlanks_L2 hst hZ hn hs _ _ _ hx
set_option maxHeartbeats 4000000 in
set_option maxRecDepth 100000 in
theorem e_X7_skipWord_L0 {g : mm_G} {l : Launch} (hst : l.stackTraces = false) {Z : Nat → Nat → Option Nat} (hZ : HZ Z) {n : Nat} (hn : 1186 ≤ n) {z : Bool} {d : Nat} {U : Nat} {a : Nat} (hs : sh a = 7) {σ' : SG} : ∀ (U1 : Nat) (σ : SG), x_X7_skipWord_L0 U a U1 σ = some σ' → mm_V g l RX7 "skipWord" cX7_skipWord 1 none [] (d + 1) 0 0 (mm_nt (fun v S' => v = none ∧ S' = (mem Z σ', n, z))) 0 [some (.ref a)] [] (mem Z σ, n, z) 0 0 := by
  intro U1
  induction U1 with
  | zero => intro σ hx; exact absurd hx (by simp [x_X7_skipWord_L0])
  | succ U1 ih =>
    intro σ hx
    rw [x_X7_skipWord_L0] at hx
    refine mm_aload_n dX7_skipWord_0 rfl rfl ?_
    refine s_getI (r := some a) (b := a) (ci := 7) (k := 4) in_X7 rfl (by decide) rfl kF_X7_26 dX7_skipWord_1 rfl hs (by decide) hn (by decide) rfl ?_
    refine mm_aload_n dX7_skipWord_4 rfl rfl ?_
    refine s_getS (q := 1) (r := some a) (b := a) (ci := 7) (k := 0) in_X7 rfl (by decide) rfl kF_X7_9 dX7_skipWord_5 rfl hs (by decide) hn (by decide) rfl rfl ?_
    obtain ⟨v2, hc1, hx⟩ := b1_some hx
    refine mm_callV3 (a := 1) (ci := 0) wM_X0_size kM_X7_58 wI_X0_size wS_X0_size dX7_skipWord_8 (e_X0_size hst hZ hn sa_1 hc1) (mem_obj sa_1 (by decide)) (sh_ltn sa_1 (by decide) hn) rfl rfl rfl (Nat.le_of_ble_eq_true rfl) (by omega) (by omega) (fun v9 S9 hq => ?_)
    obtain ⟨rfl, rfl⟩ := hq
    refine ⟨fun h => ⟨h, rfl⟩, ?_⟩
    refine b_if hx (fun h3 hx => ?_) (fun h3 hx => ?_)
    · refine mm_icmp_ge 44 dX7_skipWord_11 (by decide) (fun h => absurd h (Int32.not_le.mpr h3)) (fun _ => ?_)
      refine mm_aload_n dX7_skipWord_14 rfl rfl ?_
      refine s_getS (q := 1) (r := some a) (b := a) (ci := 7) (k := 0) in_X7 rfl (by decide) rfl kF_X7_9 dX7_skipWord_15 rfl hs (by decide) hn (by decide) rfl rfl ?_
      refine mm_aload_n dX7_skipWord_18 rfl rfl ?_
      refine s_getI (r := some a) (b := a) (ci := 7) (k := 4) in_X7 rfl (by decide) rfl kF_X7_26 dX7_skipWord_19 rfl hs (by decide) hn (by decide) rfl ?_
      obtain ⟨v5, hc4, hx⟩ := b1_some hx
      refine mm_callV3 (a := 1) (ci := 0) wM_X0_at kM_X7_50 wI_X0_at wS_X0_at dX7_skipWord_22 (e_X0_at hst hZ hn sa_1 hc4) (mem_obj sa_1 (by decide)) (sh_ltn sa_1 (by decide) hn) rfl rfl rfl (Nat.le_of_ble_eq_true rfl) (by omega) (by omega) (fun v9 S9 hq => ?_)
      obtain ⟨rfl, rfl⟩ := hq
      refine ⟨fun h => ⟨h, rfl⟩, ?_⟩
      obtain ⟨v7, hc6, hx⟩ := b1_some hx
      refine mm_callSN wM_X11_isWordByte kM_X7_66 wT_X11_isWordByte dX7_skipWord_25 (e_X11_isWordByte hst hZ hn hc6) rfl rfl (Nat.le_of_ble_eq_true rfl) (by omega) (by omega) (fun v9 S9 hq => ?_)
      obtain ⟨rfl, rfl⟩ := hq
      refine ⟨fun h => ⟨h, rfl⟩, ?_⟩
      refine b_if hx (fun h8 hx => ?_) (fun h8 hx => ?_)
      · refine mm_if_eq 44 dX7_skipWord_28 (by decide) (fun _ => ?_) (fun h => absurd h8 h)
        refine mm_vret dX7_skipWord_44 rfl ?_ (by omega) (by omega)
        obtain rfl := fin1 hx
        exact ⟨rfl, rfl⟩
      · refine mm_if_eq 44 dX7_skipWord_28 (by decide) (fun h => absurd h h8) (fun _ => ?_)
        refine mm_aload_n dX7_skipWord_31 rfl rfl ?_
        refine mm_dup dX7_skipWord_32 rfl ?_
        refine s_getI (r := some a) (b := a) (ci := 7) (k := 4) in_X7 rfl (by decide) rfl kF_X7_26 dX7_skipWord_33 rfl hs (by decide) hn (by decide) rfl ?_
        refine mm_iconst (v := 1) dX7_skipWord_36 (by decide) ?_
        refine mm_iadd dX7_skipWord_37 ?_
        refine s_putI (v := (sI σ a 4) + 1) (r := some a) (b := a) (ci := 7) (k := 4) in_X7 rfl (by decide) rfl tyX7_ok nmX7 rfl kF_X7_26 dX7_skipWord_38 (mm_fit_int _) rfl hs (by decide) hn (by decide) rfl hx (fun σ9 hx => ?_)
        refine mm_goto 0 dX7_skipWord_41 (by decide) ?_
        exact ih  _ hx
    · refine mm_icmp_ge 44 dX7_skipWord_11 (by decide) (fun _ => ?_) (fun h => absurd (Int32.not_lt.mp h3) h)
      refine mm_vret dX7_skipWord_44 rfl ?_ (by omega) (by omega)
      obtain rfl := fin1 hx
      exact ⟨rfl, rfl⟩
set_option maxHeartbeats 4000000 in
set_option maxRecDepth 100000 in
theorem e_X7_skipWord {g : mm_G} {l : Launch} (hst : l.stackTraces = false) {Z : Nat → Nat → Option Nat} (hZ : HZ Z) {n : Nat} (hn : 1186 ≤ n) {z : Bool} {d : Nat} {U : Nat} {a : Nat} (hs : sh a = 7) {σ : SG} {σ' : SG} (hx : x_X7_skipWord U a σ = some σ') : mm_Cm g l yX7_skipWord (.code yX7_skipWord cX7_skipWord 1 none) (d + 1) 0 0 [.ref a] (mem Z σ, n, z) (fun v S' => v = none ∧ S' = (mem Z σ', n, z)) := by
  refine mm_Cm_of hst (by decide) (Nat.le_of_ble_eq_true rfl) ?_
  show mm_V g l RX7 "skipWord" cX7_skipWord 1 none [] (d + 1) 0 0 (mm_nt (fun v S' => v = none ∧ S' = (mem Z σ', n, z))) 0 [some (.ref a)] [] (mem Z σ, n, z) 0 0
  unfold x_X7_skipWord at hx
  refine e_X7_skipWord_L0 hst hZ hn hs _ _ hx
set_option maxHeartbeats 4000000 in
set_option maxRecDepth 100000 in
theorem e_X6_memberCalled_48 {g : mm_G} {l : Launch} (hst : l.stackTraces = false) {Z : Nat → Nat → Option Nat} (hZ : HZ Z) {n : Nat} (hn : 1186 ≤ n) {z : Bool} {d : Nat} {U : Nat} {a : Nat} (hs : sh a = 6) {k6 : Option Nat → Option (Option Nat)} {v2_ : Option Nat} {v3_ : Int32} {v4_ : Int32} {v5_ : Option Nat} {σ : SG} {r : Option Nat} (hk6 : ∀ (v5_ : Option Nat), k6 v5_ = some r → mm_V g l RX6 "memberCalled" cX6_memberCalled 6 (some (.object "ProtoDesk$Item")) [] (d + 1) 0 0 (mm_nt (fun v S' => v = some (va_rf r) ∧ S' = (mem Z σ, n, z))) 6 [some (.ref a), none, some (va_rf v2_), some (.int v3_), some (.int v4_), some (va_rf v5_)] [] (mem Z σ, n, z) 0 0) (hx : x_X6_memberCalled_48 U a k6 v2_ v3_ v4_ v5_ σ = some r) : mm_V g l RX6 "memberCalled" cX6_memberCalled 6 (some (.object "ProtoDesk$Item")) [] (d + 1) 0 0 (mm_nt (fun v S' => v = some (va_rf r) ∧ S' = (mem Z σ, n, z))) 48 [some (.ref a), none, some (va_rf v2_), some (.int v3_), some (.int v4_), some (va_rf v5_)] [] (mem Z σ, n, z) 0 0 := by
  unfold x_X6_memberCalled_48 at hx
  refine mm_aload dX6_memberCalled_48 rfl (isr_rf _) ?_
  obtain ⟨q12, hr13, hs14, hx⟩ := ck_some hx
  refine s_getPN (r := v5_) (b := q12) (ci := 3) (k := 16) in_X3 rfl (by decide) rfl kF_X6_80 dX6_memberCalled_50 hr13 hs14 (by decide) hn (by decide) rfl ?_
  refine mm_astore [some (.ref a), none, some (va_rf v2_), some (.int v3_), some (.int v4_), some (va_rf (sP σ q12 16))] dX6_memberCalled_53 (by decide) (isr_rf _) rfl ?_
  refine mm_goto 6 dX6_memberCalled_55 (by decide) ?_
  exact hk6 _ hx
set_option maxHeartbeats 4000000 in
set_option maxRecDepth 100000 in
theorem e_X6_memberCalled_L6 {g : mm_G} {l : Launch} (hst : l.stackTraces = false) {Z : Nat → Nat → Option Nat} (hZ : HZ Z) {n : Nat} (hn : 1186 ≤ n) {z : Bool} {d : Nat} {U : Nat} {a : Nat} (hs : sh a = 6) {v2_ : Option Nat} {v3_ : Int32} {v4_ : Int32} {σ : SG} {r : Option Nat} : ∀ (U1 : Nat) (v5_ : Option Nat), x_X6_memberCalled_L6 U a v2_ v3_ v4_ σ U1 v5_ = some r → mm_V g l RX6 "memberCalled" cX6_memberCalled 6 (some (.object "ProtoDesk$Item")) [] (d + 1) 0 0 (mm_nt (fun v S' => v = some (va_rf r) ∧ S' = (mem Z σ, n, z))) 6 [some (.ref a), none, some (va_rf v2_), some (.int v3_), some (.int v4_), some (va_rf v5_)] [] (mem Z σ, n, z) 0 0 := by
  intro U1
  induction U1 with
  | zero => intro v5_ hx; exact absurd hx (by simp [x_X6_memberCalled_L6])
  | succ U1 ih =>
    intro v5_ hx
    rw [x_X6_memberCalled_L6] at hx
    refine mm_aload dX6_memberCalled_6 rfl (isr_rf _) ?_
    refine b_if hx (fun h4 hx => ?_) (fun h4 hx => ?_)
    · refine mm_ifnull (r := v5_) 58 dX6_memberCalled_8 (by decide) (fun _ => ?_) (fun h => absurd h4 h)
      refine mm_aload dX6_memberCalled_58 rfl (isr_rf _) ?_
      refine mm_aret (a := v5_) dX6_memberCalled_60 rfl ?_ (by omega) (by omega)
      obtain rfl := fin1 hx
      exact ⟨rfl, rfl⟩
    · refine mm_ifnull (r := v5_) 58 dX6_memberCalled_8 (by decide) (fun h => absurd h h4) (fun _ => ?_)
      refine mm_aload dX6_memberCalled_11 rfl (isr_rf _) ?_
      obtain ⟨q5, hr6, hs7, hx⟩ := ck_some hx
      refine s_getIN (r := v5_) (b := q5) (ci := 3) (k := 5) in_X3 rfl (by decide) rfl kF_X6_55 dX6_memberCalled_13 hr6 hs7 (by decide) hn (by decide) rfl ?_
      refine mm_aload dX6_memberCalled_16 rfl (isr_rf _) ?_
      refine s_getIN (r := v5_) (b := q5) (ci := 3) (k := 4) in_X3 rfl (by decide) rfl kF_X6_58 dX6_memberCalled_18 hr6 hs7 (by decide) hn (by decide) rfl ?_
      refine mm_isub dX6_memberCalled_21 ?_
      refine mm_iload dX6_memberCalled_22 rfl ?_
      refine mm_iload_n dX6_memberCalled_24 rfl ?_
      refine mm_isub dX6_memberCalled_25 ?_
      refine b_if hx (fun h8 hx => ?_) (fun h8 hx => ?_)
      · refine mm_icmp_ne 48 dX6_memberCalled_26 (by decide) (fun h => absurd h8 h) (fun _ => ?_)
        refine mm_aload_n dX6_memberCalled_29 rfl rfl ?_
        refine s_getS (q := a + 1) (r := some a) (b := a) (ci := 6) (k := 0) in_X6 rfl (by decide) rfl kF_X6_14 dX6_memberCalled_30 rfl hs (by decide) hn (by decide) rfl rfl ?_
        refine mm_aload dX6_memberCalled_33 rfl (isr_rf _) ?_
        refine s_getIN (r := v5_) (b := q5) (ci := 3) (k := 4) in_X3 rfl (by decide) rfl kF_X6_58 dX6_memberCalled_35 hr6 hs7 (by decide) hn (by decide) rfl ?_
        refine mm_aload_n dX6_memberCalled_38 rfl (isr_rf _) ?_
        refine mm_iload_n dX6_memberCalled_39 rfl ?_
        refine mm_iload dX6_memberCalled_40 rfl ?_
        obtain ⟨v10, hc9, hx⟩ := b1_some hx
        refine mm_callV3 (a := a + 1) (ci := 0) wM_X0_isSame kM_X6_61 wI_X0_isSame wS_X0_isSame dX6_memberCalled_42 (e_X0_isSame hst hZ hn (sv6_0 hs) hc9) (mem_obj (sv6_0 hs) (by decide)) (sh_ltn (sv6_0 hs) (by decide) hn) rfl rfl rfl (Nat.le_of_ble_eq_true rfl) (by omega) (by omega) (fun v9 S9 hq => ?_)
        obtain ⟨rfl, rfl⟩ := hq
        refine ⟨fun h => ⟨h, rfl⟩, ?_⟩
        refine b_if hx (fun h11 hx => ?_) (fun h11 hx => ?_)
        · refine mm_if_ne 58 dX6_memberCalled_45 (by decide) (fun h => absurd h11 h) (fun _ => ?_)
          exact e_X6_memberCalled_48 hst hZ hn hs ih hx
        · refine mm_if_ne 58 dX6_memberCalled_45 (by decide) (fun _ => ?_) (fun h => absurd h h11)
          refine mm_aload dX6_memberCalled_58 rfl (isr_rf _) ?_
          refine mm_aret (a := v5_) dX6_memberCalled_60 rfl ?_ (by omega) (by omega)
          obtain rfl := fin1 hx
          exact ⟨rfl, rfl⟩
      · refine mm_icmp_ne 48 dX6_memberCalled_26 (by decide) (fun _ => ?_) (fun h => absurd h h8)
        exact e_X6_memberCalled_48 hst hZ hn hs ih hx
set_option maxHeartbeats 4000000 in
set_option maxRecDepth 100000 in
theorem e_X6_memberCalled {g : mm_G} {l : Launch} (hst : l.stackTraces = false) {Z : Nat → Nat → Option Nat} (hZ : HZ Z) {n : Nat} (hn : 1186 ≤ n) {z : Bool} {d : Nat} {U : Nat} {a : Nat} (hs : sh a = 6) {p0 : Option Nat} {p1 : Option Nat} {p2 : Int32} {p3 : Int32} {σ : SG} {r : Option Nat} (hx : x_X6_memberCalled U a p0 p1 p2 p3 σ = some r) : mm_Cm g l yX6_memberCalled (.code yX6_memberCalled cX6_memberCalled 6 (some (.object "ProtoDesk$Item"))) (d + 1) 0 0 [.ref a, va_rf p0, va_rf p1, .int p2, .int p3] (mem Z σ, n, z) (fun v S' => v = some (va_rf r) ∧ S' = (mem Z σ, n, z)) := by
  refine mm_Cm_of hst (by decide) (by cases p0 <;> cases p1 <;>  exact Nat.le_of_ble_eq_true rfl) ?_
  rw [show mm_ent [.ref a, va_rf p0, va_rf p1, .int p2, .int p3] 6 = [some (.ref a), some (va_rf p0), some (va_rf p1), some (.int p2), some (.int p3), none] from by cases p0 <;> cases p1 <;>  rfl]
  show mm_V g l RX6 "memberCalled" cX6_memberCalled 6 (some (.object "ProtoDesk$Item")) [] (d + 1) 0 0 (mm_nt (fun v S' => v = some (va_rf r) ∧ S' = (mem Z σ, n, z))) 0 [some (.ref a), some (va_rf p0), some (va_rf p1), some (.int p2), some (.int p3), none] [] (mem Z σ, n, z) 0 0
  unfold x_X6_memberCalled at hx
  refine mm_aload_n dX6_memberCalled_0 rfl (isr_rf _) ?_
  obtain ⟨q1, hr2, hs3, hx⟩ := ck_some hx
  refine s_getPN (r := p0) (b := q1) (ci := 3) (k := 15) in_X3 rfl (by decide) rfl kF_X6_77 dX6_memberCalled_1 hr2 hs3 (by decide) hn (by decide) rfl ?_
  refine mm_astore [some (.ref a), some (va_rf p0), some (va_rf p1), some (.int p2), some (.int p3), some (va_rf (sP σ q1 15))] dX6_memberCalled_4 (by decide) (isr_rf _) rfl ?_
  refine mm_fewer [some (.ref a), none, some (va_rf p1), some (.int p2), some (.int p3), some (va_rf (sP σ q1 15))] (few_ok (bs := [true, false, true, true, true, true]) rfl) ?_
  refine e_X6_memberCalled_L6 hst hZ hn hs _ _ hx
set_option maxHeartbeats 4000000 in
set_option maxRecDepth 100000 in
theorem e_X8_isTaken_51 {g : mm_G} {l : Launch} (hst : l.stackTraces = false) {Z : Nat → Nat → Option Nat} (hZ : HZ Z) {n : Nat} (hn : 1186 ≤ n) {z : Bool} {d : Nat} {U : Nat} {a : Nat} (hs : sh a = 8) {k14 : Option Nat → Option (Int32)} {v2_ : Option Nat} {v3_ : Option Nat} {s0_ : Int32} {σ : SG} {r : Int32} (hk14 : ∀ (v3_ : Option Nat), k14 v3_ = some r → mm_V g l RX8 "isTaken" cX8_isTaken 5 (some .boolean) [] (d) 0 0 (mm_nt (fun v S' => v = some (.int r) ∧ S' = (mem Z σ, n, z))) 14 [none, none, some (va_rf v2_), some (va_rf v3_), none] [] (mem Z σ, n, z) 0 0) (hx : x_X8_isTaken_51 U a k14 v2_ v3_ s0_ σ = some r) : mm_V g l RX8 "isTaken" cX8_isTaken 5 (some .boolean) [] (d) 0 0 (mm_nt (fun v S' => v = some (.int r) ∧ S' = (mem Z σ, n, z))) 51 [none, none, some (va_rf v2_), some (va_rf v3_), none] [.int s0_] (mem Z σ, n, z) 0 0 := by
  unfold x_X8_isTaken_51 at hx
  refine mm_istore [none, none, some (va_rf v2_), some (va_rf v3_), some (.int s0_)] dX8_isTaken_51 (by decide) ((st1_o (r := v3_) rfl).trans rfl) ?_
  refine mm_aload_n dX8_isTaken_53 rfl (isr_rf _) ?_
  obtain ⟨q13, hr14, hs15, hx⟩ := ck_some hx
  refine s_getPN (r := v3_) (b := q13) (ci := 4) (k := 0) in_X4 rfl (by decide) rfl kF_X8_66 dX8_isTaken_54 hr14 hs15 (by decide) hn (by decide) rfl ?_
  refine mm_aload_n dX8_isTaken_57 rfl (isr_rf _) ?_
  refine b_if hx (fun h16 hx => ?_) (fun h16 hx => ?_)
  · refine mm_acmp_eq (rx := sP σ q13 0) (ry := v2_) 66 dX8_isTaken_58 (by decide) (fun _ => ?_) (fun h => absurd h16 h)
    refine mm_iconst (v := 1) dX8_isTaken_66 (by decide) ?_
    refine mm_iret dX8_isTaken_67 rfl rfl ?_ (by omega) (by omega)
    obtain rfl := fin1 hx
    exact ⟨rfl, rfl⟩
  · refine mm_acmp_eq (rx := sP σ q13 0) (ry := v2_) 66 dX8_isTaken_58 (by decide) (fun h => absurd h h16) (fun _ => ?_)
    refine mm_iload dX8_isTaken_61 rfl ?_
    refine b_if hx (fun h17 hx => ?_) (fun h17 hx => ?_)
    · refine mm_if_eq 68 dX8_isTaken_63 (by decide) (fun _ => ?_) (fun h => absurd h17 h)
      refine mm_aload_n dX8_isTaken_68 rfl (isr_rf _) ?_
      refine s_getPN (r := v3_) (b := q13) (ci := 4) (k := 1) in_X4 rfl (by decide) rfl kF_X8_72 dX8_isTaken_69 hr14 hs15 (by decide) hn (by decide) rfl ?_
      refine mm_astore_n [none, none, some (va_rf v2_), some (va_rf (sP σ q13 1)), some (.int s0_)] dX8_isTaken_72 (by decide) (isr_rf _) ((st1_o (r := v2_) rfl).trans rfl) ?_
      refine mm_goto 14 dX8_isTaken_73 (by decide) ?_
      refine mm_fewer [none, none, some (va_rf v2_), some (va_rf (sP σ q13 1)), none] (few_ok (bs := [false, false, true, true, false]) rfl) ?_
      exact hk14 _ hx
    · refine mm_if_eq 68 dX8_isTaken_63 (by decide) (fun h => absurd h h17) (fun _ => ?_)
      refine mm_iconst (v := 1) dX8_isTaken_66 (by decide) ?_
      refine mm_iret dX8_isTaken_67 rfl rfl ?_ (by omega) (by omega)
      obtain rfl := fin1 hx
      exact ⟨rfl, rfl⟩
set_option maxHeartbeats 4000000 in
set_option maxRecDepth 100000 in
theorem e_X8_isTaken_50 {g : mm_G} {l : Launch} (hst : l.stackTraces = false) {Z : Nat → Nat → Option Nat} (hZ : HZ Z) {n : Nat} (hn : 1186 ≤ n) {z : Bool} {d : Nat} {U : Nat} {a : Nat} (hs : sh a = 8) {k14 : Option Nat → Option (Int32)} {v2_ : Option Nat} {v3_ : Option Nat} {σ : SG} {r : Int32} (hk14 : ∀ (v3_ : Option Nat), k14 v3_ = some r → mm_V g l RX8 "isTaken" cX8_isTaken 5 (some .boolean) [] (d) 0 0 (mm_nt (fun v S' => v = some (.int r) ∧ S' = (mem Z σ, n, z))) 14 [none, none, some (va_rf v2_), some (va_rf v3_), none] [] (mem Z σ, n, z) 0 0) (hx : x_X8_isTaken_50 U a k14 v2_ v3_ σ = some r) : mm_V g l RX8 "isTaken" cX8_isTaken 5 (some .boolean) [] (d) 0 0 (mm_nt (fun v S' => v = some (.int r) ∧ S' = (mem Z σ, n, z))) 50 [none, none, some (va_rf v2_), some (va_rf v3_), none] [] (mem Z σ, n, z) 0 0 := by
  unfold x_X8_isTaken_50 at hx
  refine mm_iconst (v := 0) dX8_isTaken_50 (by decide) ?_
  exact e_X8_isTaken_51 hst hZ hn hs hk14 hx
set_option maxHeartbeats 4000000 in
set_option maxRecDepth 100000 in
theorem e_X8_isTaken_L14 {g : mm_G} {l : Launch} (hst : l.stackTraces = false) {Z : Nat → Nat → Option Nat} (hZ : HZ Z) {n : Nat} (hn : 1186 ≤ n) {z : Bool} {d : Nat} {U : Nat} {a : Nat} (hs : sh a = 8) {v2_ : Option Nat} {σ : SG} {r : Int32} : ∀ (U1 : Nat) (v3_ : Option Nat), x_X8_isTaken_L14 U a v2_ σ U1 v3_ = some r → mm_V g l RX8 "isTaken" cX8_isTaken 5 (some .boolean) [] (d) 0 0 (mm_nt (fun v S' => v = some (.int r) ∧ S' = (mem Z σ, n, z))) 14 [none, none, some (va_rf v2_), some (va_rf v3_), none] [] (mem Z σ, n, z) 0 0 := by
  intro U1
  induction U1 with
  | zero => intro v3_ hx; exact absurd hx (by simp [x_X8_isTaken_L14])
  | succ U1 ih =>
    intro v3_ hx
    rw [x_X8_isTaken_L14] at hx
    refine mm_aload_n dX8_isTaken_14 rfl (isr_rf _) ?_
    refine b_if hx (fun h8 hx => ?_) (fun h8 hx => ?_)
    · refine mm_ifnull (r := v3_) 76 dX8_isTaken_15 (by decide) (fun _ => ?_) (fun h => absurd h8 h)
      refine mm_iconst (v := 0) dX8_isTaken_76 (by decide) ?_
      refine mm_iret dX8_isTaken_77 rfl rfl ?_ (by omega) (by omega)
      obtain rfl := fin1 hx
      exact ⟨rfl, rfl⟩
    · refine mm_ifnull (r := v3_) 76 dX8_isTaken_15 (by decide) (fun h => absurd h h8) (fun _ => ?_)
      refine mm_aload_n dX8_isTaken_18 rfl (isr_rf _) ?_
      obtain ⟨q9, hr10, hs11, hx⟩ := ck_some hx
      refine s_getPN (r := v3_) (b := q9) (ci := 4) (k := 0) in_X4 rfl (by decide) rfl kF_X8_66 dX8_isTaken_19 hr10 hs11 (by decide) hn (by decide) rfl ?_
      refine b_if hx (fun h12 hx => ?_) (fun h12 hx => ?_)
      · refine mm_ifnull (r := sP σ q9 0) 50 dX8_isTaken_22 (by decide) (fun _ => ?_) (fun h => absurd h12 h)
        exact e_X8_isTaken_50 hst hZ hn hs ih hx
      · refine mm_ifnull (r := sP σ q9 0) 50 dX8_isTaken_22 (by decide) (fun h => absurd h h12) (fun _ => ?_)
        refine mm_aload_n dX8_isTaken_25 rfl (isr_rf _) ?_
        obtain ⟨q18, hr19, hs20, hx⟩ := ck_some hx
        refine s_getPN (r := v2_) (b := q18) (ci := 3) (k := 3) in_X3 rfl (by decide) rfl kF_X8_75 dX8_isTaken_26 hr19 hs20 (by decide) hn (by decide) rfl ?_
        refine b_if hx (fun h21 hx => ?_) (fun h21 hx => ?_)
        · refine mm_ifnull (r := sP σ q18 3) 50 dX8_isTaken_29 (by decide) (fun _ => ?_) (fun h => absurd h21 h)
          exact e_X8_isTaken_50 hst hZ hn hs ih hx
        · refine mm_ifnull (r := sP σ q18 3) 50 dX8_isTaken_29 (by decide) (fun h => absurd h h21) (fun _ => ?_)
          refine mm_aload_n dX8_isTaken_32 rfl (isr_rf _) ?_
          refine s_getPN (r := v3_) (b := q9) (ci := 4) (k := 0) in_X4 rfl (by decide) rfl kF_X8_66 dX8_isTaken_33 hr10 hs11 (by decide) hn (by decide) rfl ?_
          obtain ⟨q22, hr23, hs24, hx⟩ := ck_some hx
          refine s_getPN (r := sP σ q9 0) (b := q22) (ci := 3) (k := 3) in_X3 rfl (by decide) rfl kF_X8_75 dX8_isTaken_36 hr23 hs24 (by decide) hn (by decide) rfl ?_
          refine mm_aload_n dX8_isTaken_39 rfl (isr_rf _) ?_
          refine s_getPN (r := v2_) (b := q18) (ci := 3) (k := 3) in_X3 rfl (by decide) rfl kF_X8_75 dX8_isTaken_40 hr19 hs20 (by decide) hn (by decide) rfl ?_
          refine b_if hx (fun h25 hx => ?_) (fun h25 hx => ?_)
          · refine mm_acmp_ne (rx := sP σ q22 3) (ry := sP σ q18 3) 50 dX8_isTaken_43 (by decide) (fun h => absurd h25 h) (fun _ => ?_)
            refine mm_iconst (v := 1) dX8_isTaken_46 (by decide) ?_
            refine mm_goto 51 dX8_isTaken_47 (by decide) ?_
            exact e_X8_isTaken_51 hst hZ hn hs ih hx
          · refine mm_acmp_ne (rx := sP σ q22 3) (ry := sP σ q18 3) 50 dX8_isTaken_43 (by decide) (fun _ => ?_) (fun h => absurd h h25)
            exact e_X8_isTaken_50 hst hZ hn hs ih hx
set_option maxHeartbeats 4000000 in
set_option maxRecDepth 100000 in
theorem e_X8_isTaken {g : mm_G} {l : Launch} (hst : l.stackTraces = false) {Z : Nat → Nat → Option Nat} (hZ : HZ Z) {n : Nat} (hn : 1186 ≤ n) {z : Bool} {d : Nat} {U : Nat} {a : Nat} (hs : sh a = 8) {p0 : Option Nat} {p1 : Option Nat} {σ : SG} {r : Int32} (hx : x_X8_isTaken U a p0 p1 σ = some r) : mm_Cm g l yX8_isTaken (.code yX8_isTaken cX8_isTaken 5 (some .boolean)) (d) 0 0 [.ref a, va_rf p0, va_rf p1] (mem Z σ, n, z) (fun v S' => v = some (.int r) ∧ S' = (mem Z σ, n, z)) := by
  refine mm_Cm_of hst (by decide) (by cases p0 <;> cases p1 <;>  exact Nat.le_of_ble_eq_true rfl) ?_
  rw [show mm_ent [.ref a, va_rf p0, va_rf p1] 5 = [some (.ref a), some (va_rf p0), some (va_rf p1), none, none] from by cases p0 <;> cases p1 <;>  rfl]
  show mm_V g l RX8 "isTaken" cX8_isTaken 5 (some .boolean) [] (d) 0 0 (mm_nt (fun v S' => v = some (.int r) ∧ S' = (mem Z σ, n, z))) 0 [some (.ref a), some (va_rf p0), some (va_rf p1), none, none] [] (mem Z σ, n, z) 0 0
  unfold x_X8_isTaken at hx
  refine mm_aload_n dX8_isTaken_0 rfl (isr_rf _) ?_
  obtain ⟨q1, hr2, hs3, hx⟩ := ck_some hx
  refine s_getIN (r := p1) (b := q1) (ci := 3) (k := 11) in_X3 rfl (by decide) rfl kF_X8_94 dX8_isTaken_1 hr2 hs3 (by decide) hn (by decide) rfl ?_
  refine b_if hx (fun h4 hx => ?_) (fun h4 hx => ?_)
  · refine mm_if_eq 9 dX8_isTaken_4 (by decide) (fun _ => ?_) (fun h => absurd h4 h)
    refine mm_aload_n dX8_isTaken_9 rfl (isr_rf _) ?_
    obtain ⟨q5, hr6, hs7, hx⟩ := ck_some hx
    refine s_getPN (r := p0) (b := q5) (ci := 4) (k := 2) in_X4 rfl (by decide) rfl kF_X8_63 dX8_isTaken_10 hr6 hs7 (by decide) hn (by decide) rfl ?_
    refine mm_astore_n [some (.ref a), some (va_rf p0), some (va_rf p1), some (va_rf (sP σ q5 2)), none] dX8_isTaken_13 (by decide) (isr_rf _) ((st1_o (r := p1) rfl).trans rfl) ?_
    refine mm_fewer [none, none, some (va_rf p1), some (va_rf (sP σ q5 2)), none] (few_ok (bs := [false, false, true, true, false]) rfl) ?_
    refine e_X8_isTaken_L14 hst hZ hn hs _ _ hx
  · refine mm_if_eq 9 dX8_isTaken_4 (by decide) (fun h => absurd h h4) (fun _ => ?_)
    refine mm_iconst (v := 0) dX8_isTaken_7 (by decide) ?_
    refine mm_iret dX8_isTaken_8 rfl rfl ?_ (by omega) (by omega)
    obtain rfl := fin1 hx
    exact ⟨rfl, rfl⟩
set_option maxHeartbeats 4000000 in
set_option maxRecDepth 100000 in
theorem e_X7_readEscape_L14 {g : mm_G} {l : Launch} (hst : l.stackTraces = false) {Z : Nat → Nat → Option Nat} (hZ : HZ Z) {n : Nat} (hn : 1186 ≤ n) {z : Bool} {d : Nat} {U : Nat} {a : Nat} (hs : sh a = 7) {k42 : Int32 → Option (Int32 × SG)} {k65 : Option (Int32 × SG)} {v1_ : Int32} {σ : SG} {r : Int32} {σ' : SG} (hk42 : ∀ (v2_ : Int32), k42 v2_ = some (r, σ') → mm_V g l RX7 "readEscape" cX7_readEscape 5 (some .int) [] (d + 4) 0 0 (mm_nt (fun v S' => v = some (.int r) ∧ S' = (mem Z σ', n, z))) 42 [some (.ref a), none, some (.int v2_), none, none] [] (mem Z σ, n, z) 0 0) (hk65 : k65 = some (r, σ') → mm_V g l RX7 "readEscape" cX7_readEscape 5 (some .int) [] (d + 4) 0 0 (mm_nt (fun v S' => v = some (.int r) ∧ S' = (mem Z σ', n, z))) 65 [some (.ref a), none, none, none, none] [] (mem Z σ, n, z) 0 0) : ∀ (U1 : Nat) (v2_ : Int32), x_X7_readEscape_L14 U a k42 k65 v1_ σ U1 v2_ = some (r, σ') → mm_V g l RX7 "readEscape" cX7_readEscape 5 (some .int) [] (d + 4) 0 0 (mm_nt (fun v S' => v = some (.int r) ∧ S' = (mem Z σ', n, z))) 14 [some (.ref a), some (.int v1_), some (.int v2_), none, none] [] (mem Z σ, n, z) 0 0 := by
  intro U1
  induction U1 with
  | zero => intro v2_ hx; exact absurd hx (by simp [x_X7_readEscape_L14])
  | succ U1 ih =>
    intro v2_ hx
    rw [x_X7_readEscape_L14] at hx
    refine mm_iload_n dX7_readEscape_14 rfl ?_
    refine mm_ldcS (k := 10) rfl dX7_readEscape_15 ?_
    refine mm_strlen (by first | assumption | decide) kX_X7_176 (Nat.le_of_ble_eq_true rfl) (by omega) (by omega) dX7_readEscape_17 ?_
    refine b_if hx (fun h3 hx => ?_) (fun h3 hx => ?_)
    · refine mm_icmp_ge 65 dX7_readEscape_20 (by decide) (fun h => absurd h (Int32.not_le.mpr h3)) (fun _ => ?_)
      refine mm_iload_n dX7_readEscape_23 rfl ?_
      refine mm_ldcS (k := 11) rfl dX7_readEscape_24 ?_
      refine mm_strlen (by first | assumption | decide) kX_X7_176 (Nat.le_of_ble_eq_true rfl) (by omega) (by omega) dX7_readEscape_26 ?_
      refine b_if hx (fun h4 hx => ?_) (fun h4 hx => ?_)
      · refine mm_icmp_ge 65 dX7_readEscape_29 (by decide) (fun h => absurd h (Int32.not_le.mpr h4)) (fun _ => ?_)
        refine mm_ldcS (k := 10) rfl dX7_readEscape_32 ?_
        refine mm_iload_n dX7_readEscape_34 rfl ?_
        obtain ⟨j5, hj6, hb7, hl8, hx⟩ := ix_some hx
        refine mm_strchr (by first | assumption | decide) kX_X7_183 (Nat.le_of_ble_eq_true rfl) (by omega) (by omega) hj6 hb7 dX7_readEscape_35 ?_
        refine mm_iload_n dX7_readEscape_38 rfl ?_
        refine b_if hx (fun h9 hx => ?_) (fun h9 hx => ?_)
        · refine mm_icmp_ne 59 dX7_readEscape_39 (by decide) (fun h => absurd h9 h) (fun _ => ?_)
          refine mm_fewer [some (.ref a), none, some (.int v2_), none, none] (few_ok (bs := [true, false, true, false, false]) rfl) ?_
          exact hk42 _ hx
        · refine mm_icmp_ne 59 dX7_readEscape_39 (by decide) (fun _ => ?_) (fun h => absurd h h9)
          refine mm_iinc (v := v2_ + 1) [some (.ref a), some (.int v1_), some (.int (v2_ + 1)), none, none] dX7_readEscape_59 rfl rfl (by decide) rfl ?_
          refine mm_goto 14 dX7_readEscape_62 (by decide) ?_
          exact ih _ hx
      · refine mm_icmp_ge 65 dX7_readEscape_29 (by decide) (fun _ => ?_) (fun h => absurd (Int32.not_lt.mp h4) h)
        refine mm_fewer [some (.ref a), none, none, none, none] (few_ok (bs := [true, false, false, false, false]) rfl) ?_
        exact hk65  hx
    · refine mm_icmp_ge 65 dX7_readEscape_20 (by decide) (fun _ => ?_) (fun h => absurd (Int32.not_lt.mp h3) h)
      refine mm_fewer [some (.ref a), none, none, none, none] (few_ok (bs := [true, false, false, false, false]) rfl) ?_
      exact hk65  hx
set_option maxHeartbeats 4000000 in
set_option maxRecDepth 100000 in
theorem e_X7_readEscape_L69 {g : mm_G} {l : Launch} (hst : l.stackTraces = false) {Z : Nat → Nat → Option Nat} (hZ : HZ Z) {n : Nat} (hn : 1186 ≤ n) {z : Bool} {d : Nat} {U : Nat} {a : Nat} (hs : sh a = 7) {k128 : Int32 → SG → Option (Int32 × SG)} {r : Int32} {σ' : SG} (hk128 : ∀ (v2_ : Int32) (σ8 : SG), k128 v2_ σ8 = some (r, σ') → mm_V g l RX7 "readEscape" cX7_readEscape 5 (some .int) [] (d + 4) 0 0 (mm_nt (fun v S' => v = some (.int r) ∧ S' = (mem Z σ', n, z))) 128 [none, none, some (.int v2_), none, none] [] (mem Z σ8, n, z) 0 0) : ∀ (U1 : Nat) (v2_ : Int32) (v3_ : Int32) (σ : SG), x_X7_readEscape_L69 U a k128 U1 v2_ v3_ σ = some (r, σ') → mm_V g l RX7 "readEscape" cX7_readEscape 5 (some .int) [] (d + 4) 0 0 (mm_nt (fun v S' => v = some (.int r) ∧ S' = (mem Z σ', n, z))) 69 [some (.ref a), none, some (.int v2_), some (.int v3_), none] [] (mem Z σ, n, z) 0 0 := by
  intro U1
  induction U1 with
  | zero => intro v2_ v3_ σ hx; exact absurd hx (by simp [x_X7_readEscape_L69])
  | succ U1 ih =>
    intro v2_ v3_ σ hx
    rw [x_X7_readEscape_L69] at hx
    refine mm_iload_n dX7_readEscape_69 rfl ?_
    refine mm_iconst (v := 3) dX7_readEscape_70 (by decide) ?_
    refine b_if hx (fun h16 hx => ?_) (fun h16 hx => ?_)
    · refine mm_icmp_ge 128 dX7_readEscape_71 (by decide) (fun h => absurd h (Int32.not_le.mpr h16)) (fun _ => ?_)
      refine mm_aload_n dX7_readEscape_74 rfl rfl ?_
      refine s_getS (q := 1) (r := some a) (b := a) (ci := 7) (k := 0) in_X7 rfl (by decide) rfl kF_X7_9 dX7_readEscape_75 rfl hs (by decide) hn (by decide) rfl rfl ?_
      refine mm_aload_n dX7_readEscape_78 rfl rfl ?_
      refine s_getI (r := some a) (b := a) (ci := 7) (k := 4) in_X7 rfl (by decide) rfl kF_X7_26 dX7_readEscape_79 rfl hs (by decide) hn (by decide) rfl ?_
      obtain ⟨v18, hc17, hx⟩ := b1_some hx
      refine mm_callV3 (a := 1) (ci := 0) wM_X0_at kM_X7_50 wI_X0_at wS_X0_at dX7_readEscape_82 (e_X0_at hst hZ hn sa_1 hc17) (mem_obj sa_1 (by decide)) (sh_ltn sa_1 (by decide) hn) rfl rfl rfl (Nat.le_of_ble_eq_true rfl) (by omega) (by omega) (fun v9 S9 hq => ?_)
      obtain ⟨rfl, rfl⟩ := hq
      refine ⟨fun h => ⟨h, rfl⟩, ?_⟩
      refine mm_bipush (v := 48) dX7_readEscape_85 (by decide) ?_
      refine mm_isub dX7_readEscape_87 ?_
      refine mm_istore [some (.ref a), none, some (.int v2_), some (.int v3_), some (.int (v18 - 48))] dX7_readEscape_88 (by decide) rfl ?_
      refine mm_iload dX7_readEscape_90 rfl ?_
      refine b_if hx (fun h19 hx => ?_) (fun h19 hx => ?_)
      · refine mm_if_lt 102 dX7_readEscape_92 (by decide) (fun _ => ?_) (fun h => absurd h19 h)
        refine mm_iconst (v := (-1)) dX7_readEscape_102 (by decide) ?_
        refine mm_iret dX7_readEscape_103 rfl rfl ?_ (by omega) (by omega)
        obtain ⟨rfl, rfl⟩ := fin2 hx
        exact ⟨rfl, rfl⟩
      · refine mm_if_lt 102 dX7_readEscape_92 (by decide) (fun h => absurd h h19) (fun _ => ?_)
        refine mm_iload dX7_readEscape_95 rfl ?_
        refine mm_bipush (v := 7) dX7_readEscape_97 (by decide) ?_
        refine b_if hx (fun h20 hx => ?_) (fun h20 hx => ?_)
        · refine mm_icmp_le 104 dX7_readEscape_99 (by decide) (fun h => absurd h (Int32.not_le.mpr h20)) (fun _ => ?_)
          refine mm_iconst (v := (-1)) dX7_readEscape_102 (by decide) ?_
          refine mm_iret dX7_readEscape_103 rfl rfl ?_ (by omega) (by omega)
          obtain ⟨rfl, rfl⟩ := fin2 hx
          exact ⟨rfl, rfl⟩
        · refine mm_icmp_le 104 dX7_readEscape_99 (by decide) (fun _ => ?_) (fun h => absurd (Int32.not_lt.mp h20) h)
          refine mm_iload_n dX7_readEscape_104 rfl ?_
          refine mm_bipush (v := 8) dX7_readEscape_105 (by decide) ?_
          refine mm_imul dX7_readEscape_107 ?_
          refine mm_iload dX7_readEscape_108 rfl ?_
          refine mm_iadd dX7_readEscape_110 ?_
          refine mm_istore_n [some (.ref a), none, some (.int ((v2_ * 8) + (v18 - 48))), some (.int v3_), some (.int (v18 - 48))] dX7_readEscape_111 (by decide) rfl ?_
          refine mm_aload_n dX7_readEscape_112 rfl rfl ?_
          refine mm_dup dX7_readEscape_113 rfl ?_
          refine s_getI (r := some a) (b := a) (ci := 7) (k := 4) in_X7 rfl (by decide) rfl kF_X7_26 dX7_readEscape_114 rfl hs (by decide) hn (by decide) rfl ?_
          refine mm_iconst (v := 1) dX7_readEscape_117 (by decide) ?_
          refine mm_iadd dX7_readEscape_118 ?_
          refine s_putI (v := (sI σ a 4) + 1) (r := some a) (b := a) (ci := 7) (k := 4) in_X7 rfl (by decide) rfl tyX7_ok nmX7 rfl kF_X7_26 dX7_readEscape_119 (mm_fit_int _) rfl hs (by decide) hn (by decide) rfl hx (fun σ21 hx => ?_)
          refine mm_iinc (v := v3_ + 1) [some (.ref a), none, some (.int ((v2_ * 8) + (v18 - 48))), some (.int (v3_ + 1)), some (.int (v18 - 48))] dX7_readEscape_122 rfl rfl (by decide) rfl ?_
          refine mm_goto 69 dX7_readEscape_125 (by decide) ?_
          refine mm_fewer [some (.ref a), none, some (.int ((v2_ * 8) + (v18 - 48))), some (.int (v3_ + 1)), none] (few_ok (bs := [true, false, true, true, false]) rfl) ?_
          exact ih _ _ _ hx
    · refine mm_icmp_ge 128 dX7_readEscape_71 (by decide) (fun _ => ?_) (fun h => absurd (Int32.not_lt.mp h16) h)
      refine mm_fewer [none, none, some (.int v2_), none, none] (few_ok (bs := [false, false, true, false, false]) rfl) ?_
      exact hk128 _ _ hx
set_option maxHeartbeats 4000000 in
set_option maxRecDepth 100000 in
theorem e_X7_readEscape_65 {g : mm_G} {l : Launch} (hst : l.stackTraces = false) {Z : Nat → Nat → Option Nat} (hZ : HZ Z) {n : Nat} (hn : 1186 ≤ n) {z : Bool} {d : Nat} {U : Nat} {a : Nat} (hs : sh a = 7) {σ : SG} {r : Int32} {σ' : SG} (hx : x_X7_readEscape_65 U a σ = some (r, σ')) : mm_V g l RX7 "readEscape" cX7_readEscape 5 (some .int) [] (d + 4) 0 0 (mm_nt (fun v S' => v = some (.int r) ∧ S' = (mem Z σ', n, z))) 65 [some (.ref a), none, none, none, none] [] (mem Z σ, n, z) 0 0 := by
  unfold x_X7_readEscape_65 at hx
  refine mm_iconst (v := 0) dX7_readEscape_65 (by decide) ?_
  refine mm_istore_n [some (.ref a), none, some (.int 0), none, none] dX7_readEscape_66 (by decide) rfl ?_
  refine mm_iconst (v := 0) dX7_readEscape_67 (by decide) ?_
  refine mm_istore_n [some (.ref a), none, some (.int 0), some (.int 0), none] dX7_readEscape_68 (by decide) rfl ?_
  refine e_X7_readEscape_L69 hst hZ hn hs ?_ _ _ _ _ hx
  · intro w22 σ23 hx
    refine mm_iload_n dX7_readEscape_128 rfl ?_
    refine mm_sipush (v := 255) dX7_readEscape_129 (by decide) ?_
    refine b_if hx (fun h24 hx => ?_) (fun h24 hx => ?_)
    · refine mm_icmp_gt 139 dX7_readEscape_132 (by decide) (fun _ => ?_) (fun h => absurd h24 h)
      refine mm_iconst (v := (-1)) dX7_readEscape_139 (by decide) ?_
      refine mm_iret dX7_readEscape_140 rfl rfl ?_ (by omega) (by omega)
      obtain ⟨rfl, rfl⟩ := fin2 hx
      exact ⟨rfl, rfl⟩
    · refine mm_icmp_gt 139 dX7_readEscape_132 (by decide) (fun h => absurd h h24) (fun _ => ?_)
      refine mm_iload_n dX7_readEscape_135 rfl ?_
      refine mm_goto 140 dX7_readEscape_136 (by decide) ?_
      refine mm_iret dX7_readEscape_140 rfl rfl ?_ (by omega) (by omega)
      obtain ⟨rfl, rfl⟩ := fin2 hx
      exact ⟨rfl, rfl⟩
set_option maxHeartbeats 4000000 in
set_option maxRecDepth 100000 in
theorem e_X7_readEscape {g : mm_G} {l : Launch} (hst : l.stackTraces = false) {Z : Nat → Nat → Option Nat} (hZ : HZ Z) {n : Nat} (hn : 1186 ≤ n) {z : Bool} {d : Nat} {U : Nat} {a : Nat} (hs : sh a = 7) {σ : SG} {r : Int32} {σ' : SG} (hx : x_X7_readEscape U a σ = some (r, σ')) : mm_Cm g l yX7_readEscape (.code yX7_readEscape cX7_readEscape 5 (some .int)) (d + 4) 0 0 [.ref a] (mem Z σ, n, z) (fun v S' => v = some (.int r) ∧ S' = (mem Z σ', n, z)) := by
  refine mm_Cm_of hst (by decide) (Nat.le_of_ble_eq_true rfl) ?_
  show mm_V g l RX7 "readEscape" cX7_readEscape 5 (some .int) [] (d + 4) 0 0 (mm_nt (fun v S' => v = some (.int r) ∧ S' = (mem Z σ', n, z))) 0 [some (.ref a), none, none, none, none] [] (mem Z σ, n, z) 0 0
  unfold x_X7_readEscape at hx
  refine mm_aload_n dX7_readEscape_0 rfl rfl ?_
  refine s_getS (q := 1) (r := some a) (b := a) (ci := 7) (k := 0) in_X7 rfl (by decide) rfl kF_X7_9 dX7_readEscape_1 rfl hs (by decide) hn (by decide) rfl rfl ?_
  refine mm_aload_n dX7_readEscape_4 rfl rfl ?_
  refine s_getI (r := some a) (b := a) (ci := 7) (k := 4) in_X7 rfl (by decide) rfl kF_X7_26 dX7_readEscape_5 rfl hs (by decide) hn (by decide) rfl ?_
  obtain ⟨v2, hc1, hx⟩ := b1_some hx
  refine mm_callV3 (a := 1) (ci := 0) wM_X0_at kM_X7_50 wI_X0_at wS_X0_at dX7_readEscape_8 (e_X0_at hst hZ hn sa_1 hc1) (mem_obj sa_1 (by decide)) (sh_ltn sa_1 (by decide) hn) rfl rfl rfl (Nat.le_of_ble_eq_true rfl) (by omega) (by omega) (fun v9 S9 hq => ?_)
  obtain ⟨rfl, rfl⟩ := hq
  refine ⟨fun h => ⟨h, rfl⟩, ?_⟩
  refine mm_istore_n [some (.ref a), some (.int v2), none, none, none] dX7_readEscape_11 (by decide) rfl ?_
  refine mm_iconst (v := 0) dX7_readEscape_12 (by decide) ?_
  refine mm_istore_n [some (.ref a), some (.int v2), some (.int 0), none, none] dX7_readEscape_13 (by decide) rfl ?_
  refine e_X7_readEscape_L14 hst hZ hn hs ?_ ?_ _ _ hx
  · intro w10 hx
    refine mm_aload_n dX7_readEscape_42 rfl rfl ?_
    refine mm_dup dX7_readEscape_43 rfl ?_
    refine s_getI (r := some a) (b := a) (ci := 7) (k := 4) in_X7 rfl (by decide) rfl kF_X7_26 dX7_readEscape_44 rfl hs (by decide) hn (by decide) rfl ?_
    refine mm_iconst (v := 1) dX7_readEscape_47 (by decide) ?_
    refine mm_iadd dX7_readEscape_48 ?_
    refine s_putI (v := (sI σ a 4) + 1) (r := some a) (b := a) (ci := 7) (k := 4) in_X7 rfl (by decide) rfl tyX7_ok nmX7 rfl kF_X7_26 dX7_readEscape_49 (mm_fit_int _) rfl hs (by decide) hn (by decide) rfl hx (fun σ11 hx => ?_)
    refine mm_ldcS (k := 11) rfl dX7_readEscape_52 ?_
    refine mm_iload_n dX7_readEscape_54 rfl ?_
    obtain ⟨j12, hj13, hb14, hl15, hx⟩ := ix_some hx
    refine mm_strchr (by first | assumption | decide) kX_X7_183 (Nat.le_of_ble_eq_true rfl) (by omega) (by omega) hj13 hb14 dX7_readEscape_55 ?_
    refine mm_iret dX7_readEscape_58 rfl rfl ?_ (by omega) (by omega)
    obtain ⟨rfl, rfl⟩ := fin2 hx
    exact ⟨rfl, rfl⟩
  · intro  hx
    exact e_X7_readEscape_65 hst hZ hn hs hx
set_option maxHeartbeats 4000000 in
set_option maxRecDepth 100000 in
theorem e_X7_readText_136 {g : mm_G} {l : Launch} (hst : l.stackTraces = false) {Z : Nat → Nat → Option Nat} (hZ : HZ Z) {n : Nat} (hn : 1186 ≤ n) {z : Bool} {d : Nat} {U : Nat} {a : Nat} (hs : sh a = 7) {k50 : SG → Option (Int32 × SG)} {k160 : SG → Option (Int32 × SG)} {v1_ : Option Nat} {v2_ : Int32} {v3_ : Int32} {s0_ : Int32} {σ : SG} {r : Int32} {σ' : SG} (hk50 : ∀ (σ8 : SG), k50 σ8 = some (r, σ') → mm_V g l RX7 "readText" cX7_readText 6 (some .boolean) [] (d + 5) 0 0 (mm_nt (fun v S' => v = some (.int r) ∧ S' = (mem Z σ', n, z))) 50 [some (.ref a), some (va_rf v1_), some (.int v2_), some (.int v3_), none, none] [] (mem Z σ8, n, z) 0 0) (hk160 : ∀ (σ8 : SG), k160 σ8 = some (r, σ') → mm_V g l RX7 "readText" cX7_readText 6 (some .boolean) [] (d + 5) 0 0 (mm_nt (fun v S' => v = some (.int r) ∧ S' = (mem Z σ', n, z))) 160 [some (.ref a), some (va_rf v1_), some (.int v2_), none, none, none] [] (mem Z σ8, n, z) 0 0) (hx : x_X7_readText_136 U a k50 k160 v1_ v2_ v3_ s0_ σ = some (r, σ')) : mm_V g l RX7 "readText" cX7_readText 6 (some .boolean) [] (d + 5) 0 0 (mm_nt (fun v S' => v = some (.int r) ∧ S' = (mem Z σ', n, z))) 136 [some (.ref a), some (va_rf v1_), some (.int v2_), some (.int v3_), none, none] [.int s0_] (mem Z σ, n, z) 0 0 := by
  unfold x_X7_readText_136 at hx
  refine mm_istore [some (.ref a), some (va_rf v1_), some (.int v2_), some (.int v3_), none, some (.int s0_)] dX7_readText_136 (by decide) rfl ?_
  refine mm_iload dX7_readText_138 rfl ?_
  refine b_if hx (fun h24 hx => ?_) (fun h24 hx => ?_)
  · refine mm_if_ge 145 dX7_readText_140 (by decide) (fun h => absurd h (Int32.not_le.mpr h24)) (fun _ => ?_)
    refine mm_iconst (v := 0) dX7_readText_143 (by decide) ?_
    refine mm_iret dX7_readText_144 rfl rfl ?_ (by omega) (by omega)
    obtain ⟨rfl, rfl⟩ := fin2 hx
    exact ⟨rfl, rfl⟩
  · refine mm_if_ge 145 dX7_readText_140 (by decide) (fun _ => ?_) (fun h => absurd (Int32.not_lt.mp h24) h)
    refine mm_aload_n dX7_readText_145 rfl rfl ?_
    refine s_getS (q := 389) (r := some a) (b := a) (ci := 7) (k := 1) in_X7 rfl (by decide) rfl kF_X7_15 dX7_readText_146 rfl hs (by decide) hn (by decide) rfl rfl ?_
    refine s_getSN (q := 1092) (r := some 389) (b := 389) (ci := 8) (k := 2) in_X8 rfl (by decide) rfl kF_X7_154 dX7_readText_149 rfl sa_389 (by decide) hn (by decide) rfl rfl ?_
    refine mm_iload dX7_readText_152 rfl ?_
    obtain ⟨σ26, hc25, hx⟩ := b1_some hx
    refine mm_callV3 (a := 1092) (ci := 0) wM_X0_add kM_X7_163 wI_X0_add wS_X0_add dX7_readText_154 (e_X0_add hst hZ hn sa_1092 hc25) (mem_obj sa_1092 (by decide)) (sh_ltn sa_1092 (by decide) hn) rfl rfl rfl (Nat.le_of_ble_eq_true rfl) (by omega) (by omega) (fun v9 S9 hq => ?_)
    obtain ⟨rfl, rfl⟩ := hq
    refine ⟨fun h => ⟨h, rfl⟩, ?_⟩
    refine mm_goto 50 dX7_readText_157 (by decide) ?_
    refine mm_fewer [some (.ref a), some (va_rf v1_), some (.int v2_), some (.int v3_), none, none] (few_ok (bs := [true, true, true, true, false, false]) rfl) ?_
    exact hk50  _ hx
set_option maxHeartbeats 4000000 in
set_option maxRecDepth 100000 in
theorem e_X7_readText_135 {g : mm_G} {l : Launch} (hst : l.stackTraces = false) {Z : Nat → Nat → Option Nat} (hZ : HZ Z) {n : Nat} (hn : 1186 ≤ n) {z : Bool} {d : Nat} {U : Nat} {a : Nat} (hs : sh a = 7) {k50 : SG → Option (Int32 × SG)} {k160 : SG → Option (Int32 × SG)} {v1_ : Option Nat} {v2_ : Int32} {v3_ : Int32} {σ : SG} {r : Int32} {σ' : SG} (hk50 : ∀ (σ8 : SG), k50 σ8 = some (r, σ') → mm_V g l RX7 "readText" cX7_readText 6 (some .boolean) [] (d + 5) 0 0 (mm_nt (fun v S' => v = some (.int r) ∧ S' = (mem Z σ', n, z))) 50 [some (.ref a), some (va_rf v1_), some (.int v2_), some (.int v3_), none, none] [] (mem Z σ8, n, z) 0 0) (hk160 : ∀ (σ8 : SG), k160 σ8 = some (r, σ') → mm_V g l RX7 "readText" cX7_readText 6 (some .boolean) [] (d + 5) 0 0 (mm_nt (fun v S' => v = some (.int r) ∧ S' = (mem Z σ', n, z))) 160 [some (.ref a), some (va_rf v1_), some (.int v2_), none, none, none] [] (mem Z σ8, n, z) 0 0) (hx : x_X7_readText_135 U a k50 k160 v1_ v2_ v3_ σ = some (r, σ')) : mm_V g l RX7 "readText" cX7_readText 6 (some .boolean) [] (d + 5) 0 0 (mm_nt (fun v S' => v = some (.int r) ∧ S' = (mem Z σ', n, z))) 135 [some (.ref a), some (va_rf v1_), some (.int v2_), some (.int v3_), none, none] [] (mem Z σ, n, z) 0 0 := by
  unfold x_X7_readText_135 at hx
  refine mm_iconst (v := (-1)) dX7_readText_135 (by decide) ?_
  exact e_X7_readText_136 hst hZ hn hs hk50 hk160 hx
set_option maxHeartbeats 4000000 in
set_option maxRecDepth 100000 in
theorem e_X7_readText_L50 {g : mm_G} {l : Launch} (hst : l.stackTraces = false) {Z : Nat → Nat → Option Nat} (hZ : HZ Z) {n : Nat} (hn : 1186 ≤ n) {z : Bool} {d : Nat} {U : Nat} {a : Nat} (hs : sh a = 7) {k160 : SG → Option (Int32 × SG)} {v1_ : Option Nat} {v2_ : Int32} {v3_ : Int32} {r : Int32} {σ' : SG} (hk160 : ∀ (σ8 : SG), k160 σ8 = some (r, σ') → mm_V g l RX7 "readText" cX7_readText 6 (some .boolean) [] (d + 5) 0 0 (mm_nt (fun v S' => v = some (.int r) ∧ S' = (mem Z σ', n, z))) 160 [some (.ref a), some (va_rf v1_), some (.int v2_), none, none, none] [] (mem Z σ8, n, z) 0 0) : ∀ (U1 : Nat) (σ : SG), x_X7_readText_L50 U a k160 v1_ v2_ v3_ U1 σ = some (r, σ') → mm_V g l RX7 "readText" cX7_readText 6 (some .boolean) [] (d + 5) 0 0 (mm_nt (fun v S' => v = some (.int r) ∧ S' = (mem Z σ', n, z))) 50 [some (.ref a), some (va_rf v1_), some (.int v2_), some (.int v3_), none, none] [] (mem Z σ, n, z) 0 0 := by
  intro U1
  induction U1 with
  | zero => intro σ hx; exact absurd hx (by simp [x_X7_readText_L50])
  | succ U1 ih =>
    intro σ hx
    rw [x_X7_readText_L50] at hx
    refine mm_aload_n dX7_readText_50 rfl rfl ?_
    refine s_getI (r := some a) (b := a) (ci := 7) (k := 4) in_X7 rfl (by decide) rfl kF_X7_26 dX7_readText_51 rfl hs (by decide) hn (by decide) rfl ?_
    refine mm_aload_n dX7_readText_54 rfl rfl ?_
    refine s_getS (q := 1) (r := some a) (b := a) (ci := 7) (k := 0) in_X7 rfl (by decide) rfl kF_X7_9 dX7_readText_55 rfl hs (by decide) hn (by decide) rfl rfl ?_
    obtain ⟨v12, hc11, hx⟩ := b1_some hx
    refine mm_callV3 (a := 1) (ci := 0) wM_X0_size kM_X7_58 wI_X0_size wS_X0_size dX7_readText_58 (e_X0_size hst hZ hn sa_1 hc11) (mem_obj sa_1 (by decide)) (sh_ltn sa_1 (by decide) hn) rfl rfl rfl (Nat.le_of_ble_eq_true rfl) (by omega) (by omega) (fun v9 S9 hq => ?_)
    obtain ⟨rfl, rfl⟩ := hq
    refine ⟨fun h => ⟨h, rfl⟩, ?_⟩
    refine b_if hx (fun h13 hx => ?_) (fun h13 hx => ?_)
    · refine mm_icmp_ge 160 dX7_readText_61 (by decide) (fun h => absurd h (Int32.not_le.mpr h13)) (fun _ => ?_)
      refine mm_aload_n dX7_readText_64 rfl rfl ?_
      refine s_getS (q := 1) (r := some a) (b := a) (ci := 7) (k := 0) in_X7 rfl (by decide) rfl kF_X7_9 dX7_readText_65 rfl hs (by decide) hn (by decide) rfl rfl ?_
      refine mm_aload_n dX7_readText_68 rfl rfl ?_
      refine s_getI (r := some a) (b := a) (ci := 7) (k := 4) in_X7 rfl (by decide) rfl kF_X7_26 dX7_readText_69 rfl hs (by decide) hn (by decide) rfl ?_
      obtain ⟨v15, hc14, hx⟩ := b1_some hx
      refine mm_callV3 (a := 1) (ci := 0) wM_X0_at kM_X7_50 wI_X0_at wS_X0_at dX7_readText_72 (e_X0_at hst hZ hn sa_1 hc14) (mem_obj sa_1 (by decide)) (sh_ltn sa_1 (by decide) hn) rfl rfl rfl (Nat.le_of_ble_eq_true rfl) (by omega) (by omega) (fun v9 S9 hq => ?_)
      obtain ⟨rfl, rfl⟩ := hq
      refine ⟨fun h => ⟨h, rfl⟩, ?_⟩
      refine mm_iload_n dX7_readText_75 rfl ?_
      refine b_if hx (fun h16 hx => ?_) (fun h16 hx => ?_)
      · refine mm_icmp_eq 160 dX7_readText_76 (by decide) (fun _ => ?_) (fun h => absurd h16 h)
        refine mm_fewer [some (.ref a), some (va_rf v1_), some (.int v2_), none, none, none] (few_ok (bs := [true, true, true, false, false, false]) rfl) ?_
        exact hk160  _ hx
      · refine mm_icmp_eq 160 dX7_readText_76 (by decide) (fun h => absurd h h16) (fun _ => ?_)
        refine mm_aload_n dX7_readText_79 rfl rfl ?_
        refine s_getS (q := 1) (r := some a) (b := a) (ci := 7) (k := 0) in_X7 rfl (by decide) rfl kF_X7_9 dX7_readText_80 rfl hs (by decide) hn (by decide) rfl rfl ?_
        refine mm_aload_n dX7_readText_83 rfl rfl ?_
        refine s_getI (r := some a) (b := a) (ci := 7) (k := 4) in_X7 rfl (by decide) rfl kF_X7_26 dX7_readText_84 rfl hs (by decide) hn (by decide) rfl ?_
        obtain ⟨v18, hc17, hx⟩ := b1_some hx
        refine mm_callV3 (a := 1) (ci := 0) wM_X0_at kM_X7_50 wI_X0_at wS_X0_at dX7_readText_87 (e_X0_at hst hZ hn sa_1 hc17) (mem_obj sa_1 (by decide)) (sh_ltn sa_1 (by decide) hn) rfl rfl rfl (Nat.le_of_ble_eq_true rfl) (by omega) (by omega) (fun v9 S9 hq => ?_)
        obtain ⟨rfl, rfl⟩ := hq
        refine ⟨fun h => ⟨h, rfl⟩, ?_⟩
        refine mm_istore [some (.ref a), some (va_rf v1_), some (.int v2_), some (.int v3_), some (.int v18), none] dX7_readText_90 (by decide) rfl ?_
        refine mm_aload_n dX7_readText_92 rfl rfl ?_
        refine mm_dup dX7_readText_93 rfl ?_
        refine s_getI (r := some a) (b := a) (ci := 7) (k := 4) in_X7 rfl (by decide) rfl kF_X7_26 dX7_readText_94 rfl hs (by decide) hn (by decide) rfl ?_
        refine mm_iconst (v := 1) dX7_readText_97 (by decide) ?_
        refine mm_iadd dX7_readText_98 ?_
        refine s_putI (v := (sI σ a 4) + 1) (r := some a) (b := a) (ci := 7) (k := 4) in_X7 rfl (by decide) rfl tyX7_ok nmX7 rfl kF_X7_26 dX7_readText_99 (mm_fit_int _) rfl hs (by decide) hn (by decide) rfl hx (fun σ19 hx => ?_)
        refine mm_iload dX7_readText_102 rfl ?_
        refine mm_bipush (v := 92) dX7_readText_104 (by decide) ?_
        refine b_if hx (fun h20 hx => ?_) (fun h20 hx => ?_)
        · refine mm_icmp_ne 116 dX7_readText_106 (by decide) (fun h => absurd h20 h) (fun _ => ?_)
          refine mm_aload_n dX7_readText_109 rfl rfl ?_
          obtain ⟨v22, σ23, hc21, hx⟩ := b2_some hx
          refine mm_callV3 (a := a) (ci := 7) wM_X7_readEscape kM_X7_160 wI_X7_readEscape wS_X7_readEscape dX7_readText_110 (e_X7_readEscape hst hZ hn hs hc21) (mem_obj hs (by decide)) (sh_ltn hs (by decide) hn) rfl rfl rfl (Nat.le_of_ble_eq_true rfl) (by omega) (by omega) (fun v9 S9 hq => ?_)
          obtain ⟨rfl, rfl⟩ := hq
          refine ⟨fun h => ⟨h, rfl⟩, ?_⟩
          refine mm_goto 136 dX7_readText_113 (by decide) ?_
          refine mm_fewer [some (.ref a), some (va_rf v1_), some (.int v2_), some (.int v3_), none, none] (few_ok (bs := [true, true, true, true, false, false]) rfl) ?_
          exact e_X7_readText_136 hst hZ hn hs ih hk160 hx
        · refine mm_icmp_ne 116 dX7_readText_106 (by decide) (fun _ => ?_) (fun h => absurd h h20)
          refine mm_iload dX7_readText_116 rfl ?_
          refine mm_bipush (v := 32) dX7_readText_118 (by decide) ?_
          refine b_if hx (fun h27 hx => ?_) (fun h27 hx => ?_)
          · refine mm_icmp_lt 135 dX7_readText_120 (by decide) (fun _ => ?_) (fun h => absurd h27 h)
            refine mm_fewer [some (.ref a), some (va_rf v1_), some (.int v2_), some (.int v3_), none, none] (few_ok (bs := [true, true, true, true, false, false]) rfl) ?_
            exact e_X7_readText_135 hst hZ hn hs ih hk160 hx
          · refine mm_icmp_lt 135 dX7_readText_120 (by decide) (fun h => absurd h h27) (fun _ => ?_)
            refine mm_iload dX7_readText_123 rfl ?_
            refine mm_bipush (v := 126) dX7_readText_125 (by decide) ?_
            refine b_if hx (fun h28 hx => ?_) (fun h28 hx => ?_)
            · refine mm_icmp_gt 135 dX7_readText_127 (by decide) (fun _ => ?_) (fun h => absurd h28 h)
              refine mm_fewer [some (.ref a), some (va_rf v1_), some (.int v2_), some (.int v3_), none, none] (few_ok (bs := [true, true, true, true, false, false]) rfl) ?_
              exact e_X7_readText_135 hst hZ hn hs ih hk160 hx
            · refine mm_icmp_gt 135 dX7_readText_127 (by decide) (fun h => absurd h h28) (fun _ => ?_)
              refine mm_iload dX7_readText_130 rfl ?_
              refine mm_goto 136 dX7_readText_132 (by decide) ?_
              refine mm_fewer [some (.ref a), some (va_rf v1_), some (.int v2_), some (.int v3_), none, none] (few_ok (bs := [true, true, true, true, false, false]) rfl) ?_
              exact e_X7_readText_136 hst hZ hn hs ih hk160 hx
    · refine mm_icmp_ge 160 dX7_readText_61 (by decide) (fun _ => ?_) (fun h => absurd (Int32.not_lt.mp h13) h)
      refine mm_fewer [some (.ref a), some (va_rf v1_), some (.int v2_), none, none, none] (few_ok (bs := [true, true, true, false, false, false]) rfl) ?_
      exact hk160  _ hx
set_option maxHeartbeats 4000000 in
set_option maxRecDepth 100000 in
theorem e_X7_readText_193 {g : mm_G} {l : Launch} (hst : l.stackTraces = false) {Z : Nat → Nat → Option Nat} (hZ : HZ Z) {n : Nat} (hn : 1186 ≤ n) {z : Bool} {d : Nat} {U : Nat} {a : Nat} (hs : sh a = 7) {v1_ : Option Nat} {v2_ : Int32} {s0_ : Int32} {σ : SG} {r : Int32} {σ' : SG} (hx : x_X7_readText_193 U a v1_ v2_ s0_ σ = some (r, σ')) : mm_V g l RX7 "readText" cX7_readText 6 (some .boolean) [] (d + 5) 0 0 (mm_nt (fun v S' => v = some (.int r) ∧ S' = (mem Z σ', n, z))) 193 [some (.ref a), some (va_rf v1_), some (.int v2_), none, none, none] [.int s0_] (mem Z σ, n, z) 0 0 := by
  unfold x_X7_readText_193 at hx
  refine mm_istore [some (.ref a), some (va_rf v1_), some (.int v2_), none, some (.int s0_), none] dX7_readText_193 (by decide) rfl ?_
  refine mm_aload_n dX7_readText_195 rfl rfl ?_
  refine mm_dup dX7_readText_196 rfl ?_
  refine s_getI (r := some a) (b := a) (ci := 7) (k := 4) in_X7 rfl (by decide) rfl kF_X7_26 dX7_readText_197 rfl hs (by decide) hn (by decide) rfl ?_
  refine mm_iconst (v := 1) dX7_readText_200 (by decide) ?_
  refine mm_iadd dX7_readText_201 ?_
  refine s_putI (v := (sI σ a 4) + 1) (r := some a) (b := a) (ci := 7) (k := 4) in_X7 rfl (by decide) rfl tyX7_ok nmX7 rfl kF_X7_26 dX7_readText_202 (mm_fit_int _) rfl hs (by decide) hn (by decide) rfl hx (fun σ39 hx => ?_)
  refine mm_iload dX7_readText_205 rfl ?_
  refine b_if hx (fun h40 hx => ?_) (fun h40 hx => ?_)
  · refine mm_if_eq 241 dX7_readText_207 (by decide) (fun _ => ?_) (fun h => absurd h40 h)
    refine mm_iconst (v := 0) dX7_readText_241 (by decide) ?_
    refine mm_iret dX7_readText_242 rfl rfl ?_ (by omega) (by omega)
    obtain ⟨rfl, rfl⟩ := fin2 hx
    exact ⟨rfl, rfl⟩
  · refine mm_if_eq 241 dX7_readText_207 (by decide) (fun h => absurd h h40) (fun _ => ?_)
    refine mm_iload_n dX7_readText_210 rfl ?_
    refine mm_bipush (v := 11) dX7_readText_211 (by decide) ?_
    refine b_if hx (fun h41 hx => ?_) (fun h41 hx => ?_)
    · refine mm_icmp_ne 237 dX7_readText_213 (by decide) (fun h => absurd h41 h) (fun _ => ?_)
      refine mm_aload_n dX7_readText_216 rfl rfl ?_
      refine s_getS (q := 389) (r := some a) (b := a) (ci := 7) (k := 1) in_X7 rfl (by decide) rfl kF_X7_15 dX7_readText_217 rfl hs (by decide) hn (by decide) rfl rfl ?_
      refine s_getSN (q := 1092) (r := some 389) (b := 389) (ci := 8) (k := 2) in_X8 rfl (by decide) rfl kF_X7_154 dX7_readText_220 rfl sa_389 (by decide) hn (by decide) rfl rfl ?_
      refine mm_aload_n dX7_readText_223 rfl (isr_rf _) ?_
      obtain ⟨q42, hr43, hs44, hx⟩ := ck_some hx
      refine s_getIN (r := v1_) (b := q42) (ci := 4) (k := 5) in_X4 rfl (by decide) rfl kF_X7_157 dX7_readText_224 hr43 hs44 (by decide) hn (by decide) rfl ?_
      refine mm_aload_n dX7_readText_227 rfl (isr_rf _) ?_
      refine s_getIN (r := v1_) (b := q42) (ci := 4) (k := 6) in_X4 rfl (by decide) rfl kF_X7_167 dX7_readText_228 hr43 hs44 (by decide) hn (by decide) rfl ?_
      obtain ⟨v46, hc45, hx⟩ := b1_some hx
      refine mm_callV3 (a := 1092) (ci := 0) wM_X0_isUtf8 kM_X7_170 wI_X0_isUtf8 wS_X0_isUtf8 dX7_readText_231 (e_X0_isUtf8 hst hZ hn sa_1092 hc45) (mem_obj sa_1092 (by decide)) (sh_ltn sa_1092 (by decide) hn) rfl rfl rfl (Nat.le_of_ble_eq_true rfl) (by omega) (by omega) (fun v9 S9 hq => ?_)
      obtain ⟨rfl, rfl⟩ := hq
      refine ⟨fun h => ⟨h, rfl⟩, ?_⟩
      refine b_if hx (fun h47 hx => ?_) (fun h47 hx => ?_)
      · refine mm_if_eq 241 dX7_readText_234 (by decide) (fun _ => ?_) (fun h => absurd h47 h)
        refine mm_iconst (v := 0) dX7_readText_241 (by decide) ?_
        refine mm_iret dX7_readText_242 rfl rfl ?_ (by omega) (by omega)
        obtain ⟨rfl, rfl⟩ := fin2 hx
        exact ⟨rfl, rfl⟩
      · refine mm_if_eq 241 dX7_readText_234 (by decide) (fun h => absurd h h47) (fun _ => ?_)
        refine mm_iconst (v := 1) dX7_readText_237 (by decide) ?_
        refine mm_goto 242 dX7_readText_238 (by decide) ?_
        refine mm_iret dX7_readText_242 rfl rfl ?_ (by omega) (by omega)
        obtain ⟨rfl, rfl⟩ := fin2 hx
        exact ⟨rfl, rfl⟩
    · refine mm_icmp_ne 237 dX7_readText_213 (by decide) (fun _ => ?_) (fun h => absurd h h41)
      refine mm_iconst (v := 1) dX7_readText_237 (by decide) ?_
      refine mm_goto 242 dX7_readText_238 (by decide) ?_
      refine mm_iret dX7_readText_242 rfl rfl ?_ (by omega) (by omega)
      obtain ⟨rfl, rfl⟩ := fin2 hx
      exact ⟨rfl, rfl⟩
set_option maxHeartbeats 4000000 in
set_option maxRecDepth 100000 in
theorem e_X7_readText_160 {g : mm_G} {l : Launch} (hst : l.stackTraces = false) {Z : Nat → Nat → Option Nat} (hZ : HZ Z) {n : Nat} (hn : 1186 ≤ n) {z : Bool} {d : Nat} {U : Nat} {a : Nat} (hs : sh a = 7) {v1_ : Option Nat} {v2_ : Int32} {σ : SG} {r : Int32} {σ' : SG} (hx : x_X7_readText_160 U a v1_ v2_ σ = some (r, σ')) : mm_V g l RX7 "readText" cX7_readText 6 (some .boolean) [] (d + 5) 0 0 (mm_nt (fun v S' => v = some (.int r) ∧ S' = (mem Z σ', n, z))) 160 [some (.ref a), some (va_rf v1_), some (.int v2_), none, none, none] [] (mem Z σ, n, z) 0 0 := by
  unfold x_X7_readText_160 at hx
  refine mm_aload_n dX7_readText_160 rfl (isr_rf _) ?_
  refine mm_aload_n dX7_readText_161 rfl rfl ?_
  refine s_getS (q := 389) (r := some a) (b := a) (ci := 7) (k := 1) in_X7 rfl (by decide) rfl kF_X7_15 dX7_readText_162 rfl hs (by decide) hn (by decide) rfl rfl ?_
  refine s_getSN (q := 1092) (r := some 389) (b := 389) (ci := 8) (k := 2) in_X8 rfl (by decide) rfl kF_X7_154 dX7_readText_165 rfl sa_389 (by decide) hn (by decide) rfl rfl ?_
  obtain ⟨v31, hc30, hx⟩ := b1_some hx
  refine mm_callV3 (a := 1092) (ci := 0) wM_X0_size kM_X7_58 wI_X0_size wS_X0_size dX7_readText_168 (e_X0_size hst hZ hn sa_1092 hc30) (mem_obj sa_1092 (by decide)) (sh_ltn sa_1092 (by decide) hn) rfl rfl rfl (show (([va_rf v1_] : List Value).map fun v => v.category).sum ≤ 8 by simp only [List.map_cons, List.map_nil, List.sum_cons, List.sum_nil, cat_rf]; exact Nat.le_of_ble_eq_true rfl) (by omega) (by omega) (fun v9 S9 hq => ?_)
  obtain ⟨rfl, rfl⟩ := hq
  refine ⟨fun h => ⟨h, rfl⟩, ?_⟩
  obtain ⟨q32, hr33, hs34, hx⟩ := ck_some hx
  refine s_putIN (v := v31) (r := v1_) (b := q32) (ci := 4) (k := 6) in_X4 rfl (by decide) rfl tyX4_ok nmX4 rfl kF_X7_167 dX7_readText_171 (mm_fit_int _) hr33 hs34 (by decide) hn (by decide) rfl hx (fun σ35 hx => ?_)
  refine mm_aload_n dX7_readText_174 rfl rfl ?_
  refine s_getI (r := some a) (b := a) (ci := 7) (k := 4) in_X7 rfl (by decide) rfl kF_X7_26 dX7_readText_175 rfl hs (by decide) hn (by decide) rfl ?_
  refine mm_aload_n dX7_readText_178 rfl rfl ?_
  refine s_getS (q := 1) (r := some a) (b := a) (ci := 7) (k := 0) in_X7 rfl (by decide) rfl kF_X7_9 dX7_readText_179 rfl hs (by decide) hn (by decide) rfl rfl ?_
  obtain ⟨v37, hc36, hx⟩ := b1_some hx
  refine mm_callV3 (a := 1) (ci := 0) wM_X0_size kM_X7_58 wI_X0_size wS_X0_size dX7_readText_182 (e_X0_size hst hZ hn sa_1 hc36) (mem_obj sa_1 (by decide)) (sh_ltn sa_1 (by decide) hn) rfl rfl rfl (Nat.le_of_ble_eq_true rfl) (by omega) (by omega) (fun v9 S9 hq => ?_)
  obtain ⟨rfl, rfl⟩ := hq
  refine ⟨fun h => ⟨h, rfl⟩, ?_⟩
  refine b_if hx (fun h38 hx => ?_) (fun h38 hx => ?_)
  · refine mm_icmp_ge 192 dX7_readText_185 (by decide) (fun h => absurd h (Int32.not_le.mpr h38)) (fun _ => ?_)
    refine mm_iconst (v := 1) dX7_readText_188 (by decide) ?_
    refine mm_goto 193 dX7_readText_189 (by decide) ?_
    exact e_X7_readText_193 hst hZ hn hs hx
  · refine mm_icmp_ge 192 dX7_readText_185 (by decide) (fun _ => ?_) (fun h => absurd (Int32.not_lt.mp h38) h)
    refine mm_iconst (v := 0) dX7_readText_192 (by decide) ?_
    exact e_X7_readText_193 hst hZ hn hs hx
set_option maxHeartbeats 4000000 in
set_option maxRecDepth 100000 in
theorem e_X7_readText_26 {g : mm_G} {l : Launch} (hst : l.stackTraces = false) {Z : Nat → Nat → Option Nat} (hZ : HZ Z) {n : Nat} (hn : 1186 ≤ n) {z : Bool} {d : Nat} {U : Nat} {a : Nat} (hs : sh a = 7) {v1_ : Option Nat} {v2_ : Int32} {v3_ : Int32} {σ : SG} {r : Int32} {σ' : SG} (hx : x_X7_readText_26 U a v1_ v2_ v3_ σ = some (r, σ')) : mm_V g l RX7 "readText" cX7_readText 6 (some .boolean) [] (d + 5) 0 0 (mm_nt (fun v S' => v = some (.int r) ∧ S' = (mem Z σ', n, z))) 26 [some (.ref a), some (va_rf v1_), some (.int v2_), some (.int v3_), none, none] [] (mem Z σ, n, z) 0 0 := by
  unfold x_X7_readText_26 at hx
  refine mm_aload_n dX7_readText_26 rfl rfl ?_
  refine mm_dup dX7_readText_27 rfl ?_
  refine s_getI (r := some a) (b := a) (ci := 7) (k := 4) in_X7 rfl (by decide) rfl kF_X7_26 dX7_readText_28 rfl hs (by decide) hn (by decide) rfl ?_
  refine mm_iconst (v := 1) dX7_readText_31 (by decide) ?_
  refine mm_iadd dX7_readText_32 ?_
  refine s_putI (v := (sI σ a 4) + 1) (r := some a) (b := a) (ci := 7) (k := 4) in_X7 rfl (by decide) rfl tyX7_ok nmX7 rfl kF_X7_26 dX7_readText_33 (mm_fit_int _) rfl hs (by decide) hn (by decide) rfl hx (fun σ4 hx => ?_)
  refine mm_aload_n dX7_readText_36 rfl (isr_rf _) ?_
  refine mm_aload_n dX7_readText_37 rfl rfl ?_
  refine s_getS (q := 389) (r := some a) (b := a) (ci := 7) (k := 1) in_X7 rfl (by decide) rfl kF_X7_15 dX7_readText_38 rfl hs (by decide) hn (by decide) rfl rfl ?_
  refine s_getSN (q := 1092) (r := some 389) (b := 389) (ci := 8) (k := 2) in_X8 rfl (by decide) rfl kF_X7_154 dX7_readText_41 rfl sa_389 (by decide) hn (by decide) rfl rfl ?_
  obtain ⟨v6, hc5, hx⟩ := b1_some hx
  refine mm_callV3 (a := 1092) (ci := 0) wM_X0_size kM_X7_58 wI_X0_size wS_X0_size dX7_readText_44 (e_X0_size hst hZ hn sa_1092 hc5) (mem_obj sa_1092 (by decide)) (sh_ltn sa_1092 (by decide) hn) rfl rfl rfl (show (([va_rf v1_] : List Value).map fun v => v.category).sum ≤ 8 by simp only [List.map_cons, List.map_nil, List.sum_cons, List.sum_nil, cat_rf]; exact Nat.le_of_ble_eq_true rfl) (by omega) (by omega) (fun v9 S9 hq => ?_)
  obtain ⟨rfl, rfl⟩ := hq
  refine ⟨fun h => ⟨h, rfl⟩, ?_⟩
  obtain ⟨q7, hr8, hs9, hx⟩ := ck_some hx
  refine s_putIN (v := v6) (r := v1_) (b := q7) (ci := 4) (k := 5) in_X4 rfl (by decide) rfl tyX4_ok nmX4 rfl kF_X7_157 dX7_readText_47 (mm_fit_int _) hr8 hs9 (by decide) hn (by decide) rfl hx (fun σ10 hx => ?_)
  refine e_X7_readText_L50 hst hZ hn hs ?_ _ _ hx
  · intro  σ29 hx
    exact e_X7_readText_160 hst hZ hn hs hx
set_option maxHeartbeats 4000000 in
set_option maxRecDepth 100000 in
theorem e_X7_readText {g : mm_G} {l : Launch} (hst : l.stackTraces = false) {Z : Nat → Nat → Option Nat} (hZ : HZ Z) {n : Nat} (hn : 1186 ≤ n) {z : Bool} {d : Nat} {U : Nat} {a : Nat} (hs : sh a = 7) {p0 : Option Nat} {p1 : Int32} {σ : SG} {r : Int32} {σ' : SG} (hx : x_X7_readText U a p0 p1 σ = some (r, σ')) : mm_Cm g l yX7_readText (.code yX7_readText cX7_readText 6 (some .boolean)) (d + 5) 0 0 [.ref a, va_rf p0, .int p1] (mem Z σ, n, z) (fun v S' => v = some (.int r) ∧ S' = (mem Z σ', n, z)) := by
  refine mm_Cm_of hst (by decide) (by cases p0 <;>  exact Nat.le_of_ble_eq_true rfl) ?_
  rw [show mm_ent [.ref a, va_rf p0, .int p1] 6 = [some (.ref a), some (va_rf p0), some (.int p1), none, none, none] from by cases p0 <;>  rfl]
  show mm_V g l RX7 "readText" cX7_readText 6 (some .boolean) [] (d + 5) 0 0 (mm_nt (fun v S' => v = some (.int r) ∧ S' = (mem Z σ', n, z))) 0 [some (.ref a), some (va_rf p0), some (.int p1), none, none, none] [] (mem Z σ, n, z) 0 0
  unfold x_X7_readText at hx
  refine mm_aload_n dX7_readText_0 rfl rfl ?_
  refine s_getS (q := 1) (r := some a) (b := a) (ci := 7) (k := 0) in_X7 rfl (by decide) rfl kF_X7_9 dX7_readText_1 rfl hs (by decide) hn (by decide) rfl rfl ?_
  refine mm_aload_n dX7_readText_4 rfl rfl ?_
  refine s_getI (r := some a) (b := a) (ci := 7) (k := 4) in_X7 rfl (by decide) rfl kF_X7_26 dX7_readText_5 rfl hs (by decide) hn (by decide) rfl ?_
  obtain ⟨v2, hc1, hx⟩ := b1_some hx
  refine mm_callV3 (a := 1) (ci := 0) wM_X0_at kM_X7_50 wI_X0_at wS_X0_at dX7_readText_8 (e_X0_at hst hZ hn sa_1 hc1) (mem_obj sa_1 (by decide)) (sh_ltn sa_1 (by decide) hn) rfl rfl rfl (Nat.le_of_ble_eq_true rfl) (by omega) (by omega) (fun v9 S9 hq => ?_)
  obtain ⟨rfl, rfl⟩ := hq
  refine ⟨fun h => ⟨h, rfl⟩, ?_⟩
  refine mm_istore_n [some (.ref a), some (va_rf p0), some (.int p1), some (.int v2), none, none] dX7_readText_11 (by decide) rfl ?_
  refine mm_iload_n dX7_readText_12 rfl ?_
  refine mm_bipush (v := 34) dX7_readText_13 (by decide) ?_
  refine b_if hx (fun h3 hx => ?_) (fun h3 hx => ?_)
  · refine mm_icmp_eq 26 dX7_readText_15 (by decide) (fun _ => ?_) (fun h => absurd h3 h)
    exact e_X7_readText_26 hst hZ hn hs hx
  · refine mm_icmp_eq 26 dX7_readText_15 (by decide) (fun h => absurd h h3) (fun _ => ?_)
    refine mm_iload_n dX7_readText_18 rfl ?_
    refine mm_bipush (v := 39) dX7_readText_19 (by decide) ?_
    refine b_if hx (fun h48 hx => ?_) (fun h48 hx => ?_)
    · refine mm_icmp_eq 26 dX7_readText_21 (by decide) (fun _ => ?_) (fun h => absurd h48 h)
      exact e_X7_readText_26 hst hZ hn hs hx
    · refine mm_icmp_eq 26 dX7_readText_21 (by decide) (fun h => absurd h h48) (fun _ => ?_)
      refine mm_iconst (v := 0) dX7_readText_24 (by decide) ?_
      refine mm_iret dX7_readText_25 rfl rfl ?_ (by omega) (by omega)
      obtain ⟨rfl, rfl⟩ := fin2 hx
      exact ⟨rfl, rfl⟩
set_option maxHeartbeats 4000000 in
set_option maxRecDepth 100000 in
theorem e_X7_readBool {g : mm_G} {l : Launch} (hst : l.stackTraces = false) {Z : Nat → Nat → Option Nat} (hZ : HZ Z) {n : Nat} (hn : 1186 ≤ n) {z : Bool} {d : Nat} {U : Nat} {a : Nat} (hs : sh a = 7) {σ : SG} {r : Int32} {σ' : SG} (hx : x_X7_readBool U a σ = some (r, σ')) : mm_Cm g l yX7_readBool (.code yX7_readBool cX7_readBool 2 (some .boolean)) (d + 5) 0 0 [.ref a] (mem Z σ, n, z) (fun v S' => v = some (.int r) ∧ S' = (mem Z σ', n, z)) := by
  refine mm_Cm_of hst (by decide) (Nat.le_of_ble_eq_true rfl) ?_
  show mm_V g l RX7 "readBool" cX7_readBool 2 (some .boolean) [] (d + 5) 0 0 (mm_nt (fun v S' => v = some (.int r) ∧ S' = (mem Z σ', n, z))) 0 [some (.ref a), none] [] (mem Z σ, n, z) 0 0
  unfold x_X7_readBool at hx
  refine mm_aload_n dX7_readBool_0 rfl rfl ?_
  refine s_getI (r := some a) (b := a) (ci := 7) (k := 4) in_X7 rfl (by decide) rfl kF_X7_26 dX7_readBool_1 rfl hs (by decide) hn (by decide) rfl ?_
  refine mm_istore_n [some (.ref a), some (.int (sI σ a 4))] dX7_readBool_4 (by decide) rfl ?_
  refine mm_aload_n dX7_readBool_5 rfl rfl ?_
  obtain ⟨σ2, hc1, hx⟩ := b1_some hx
  refine mm_callV3 (a := a) (ci := 7) wM_X7_skipWord kM_X7_69 wI_X7_skipWord wS_X7_skipWord dX7_readBool_6 (e_X7_skipWord hst hZ hn hs hc1) (mem_obj hs (by decide)) (sh_ltn hs (by decide) hn) rfl rfl rfl (Nat.le_of_ble_eq_true rfl) (by omega) (by omega) (fun v9 S9 hq => ?_)
  obtain ⟨rfl, rfl⟩ := hq
  refine ⟨fun h => ⟨h, rfl⟩, ?_⟩
  refine mm_aload_n dX7_readBool_9 rfl rfl ?_
  refine mm_aload_n dX7_readBool_10 rfl rfl ?_
  refine s_getS (q := 1) (r := some a) (b := a) (ci := 7) (k := 0) in_X7 rfl (by decide) rfl kF_X7_9 dX7_readBool_11 rfl hs (by decide) hn (by decide) rfl rfl ?_
  refine mm_ldcS (k := 12) rfl dX7_readBool_14 ?_
  refine mm_iload_n dX7_readBool_16 rfl ?_
  refine mm_aload_n dX7_readBool_17 rfl rfl ?_
  refine s_getI (r := some a) (b := a) (ci := 7) (k := 4) in_X7 rfl (by decide) rfl kF_X7_26 dX7_readBool_18 rfl hs (by decide) hn (by decide) rfl ?_
  obtain ⟨v4, hc3, hx⟩ := b1_some hx
  refine mm_callV3 (a := 1) (ci := 0) wM_X0_wordIn kM_X7_131 wI_X0_wordIn wS_X0_wordIn dX7_readBool_21 (e_X0_wordIn hst hZ hn sa_1 (by first | assumption | decide) hc3) (mem_obj sa_1 (by decide)) (sh_ltn sa_1 (by decide) hn) rfl rfl rfl (Nat.le_of_ble_eq_true rfl) (by omega) (by omega) (fun v9 S9 hq => ?_)
  obtain ⟨rfl, rfl⟩ := hq
  refine ⟨fun h => ⟨h, rfl⟩, ?_⟩
  refine mm_i2l dX7_readBool_24 ?_
  refine s_putL (v := Int32.toInt64 v4) (r := some a) (b := a) (ci := 7) (k := 6) in_X7 rfl (by decide) rfl tyX7_ok nmX7 rfl kF_X7_122 dX7_readBool_25 (mm_fit_long _) rfl hs (by decide) hn (by decide) rfl hx (fun σ5 hx => ?_)
  refine mm_aload_n dX7_readBool_28 rfl rfl ?_
  refine s_getL (r := some a) (b := a) (ci := 7) (k := 6) in_X7 rfl (by decide) rfl kF_X7_122 dX7_readBool_29 rfl hs (by decide) hn (by decide) rfl ?_
  refine mm_lconst (v := 0) dX7_readBool_32 (by decide) ?_
  refine mm_lcmp dX7_readBool_33 ?_
  refine b_if hx (fun h6 hx => ?_) (fun h6 hx => ?_)
  · refine mm_if_lt 41 dX7_readBool_34 (by decide) (fun _ => ?_) (fun h => absurd (lg_lt.mpr h6) h)
    refine mm_iconst (v := 0) dX7_readBool_41 (by decide) ?_
    refine mm_iret dX7_readBool_42 rfl rfl ?_ (by omega) (by omega)
    obtain ⟨rfl, rfl⟩ := fin2 hx
    exact ⟨rfl, rfl⟩
  · refine mm_if_lt 41 dX7_readBool_34 (by decide) (fun h => absurd (lg_lt.mp h) h6) (fun _ => ?_)
    refine mm_iconst (v := 1) dX7_readBool_37 (by decide) ?_
    refine mm_goto 42 dX7_readBool_38 (by decide) ?_
    refine mm_iret dX7_readBool_42 rfl rfl ?_ (by omega) (by omega)
    obtain ⟨rfl, rfl⟩ := fin2 hx
    exact ⟨rfl, rfl⟩
set_option maxHeartbeats 4000000 in
set_option maxRecDepth 100000 in
theorem e_X7_readEnumName {g : mm_G} {l : Launch} (hst : l.stackTraces = false) {Z : Nat → Nat → Option Nat} (hZ : HZ Z) {n : Nat} (hn : 1186 ≤ n) {z : Bool} {d : Nat} {U : Nat} {a : Nat} (hs : sh a = 7) {p0 : Option Nat} {σ : SG} {r : Int32} {σ' : SG} (hx : x_X7_readEnumName U a p0 σ = some (r, σ')) : mm_Cm g l yX7_readEnumName (.code yX7_readEnumName cX7_readEnumName 4 (some .boolean)) (d + 2) 0 0 [.ref a, va_rf p0] (mem Z σ, n, z) (fun v S' => v = some (.int r) ∧ S' = (mem Z σ', n, z)) := by
  refine mm_Cm_of hst (by decide) (by cases p0 <;>  exact Nat.le_of_ble_eq_true rfl) ?_
  rw [show mm_ent [.ref a, va_rf p0] 4 = [some (.ref a), some (va_rf p0), none, none] from by cases p0 <;>  rfl]
  show mm_V g l RX7 "readEnumName" cX7_readEnumName 4 (some .boolean) [] (d + 2) 0 0 (mm_nt (fun v S' => v = some (.int r) ∧ S' = (mem Z σ', n, z))) 0 [some (.ref a), some (va_rf p0), none, none] [] (mem Z σ, n, z) 0 0
  unfold x_X7_readEnumName at hx
  refine mm_aload_n dX7_readEnumName_0 rfl rfl ?_
  refine s_getI (r := some a) (b := a) (ci := 7) (k := 4) in_X7 rfl (by decide) rfl kF_X7_26 dX7_readEnumName_1 rfl hs (by decide) hn (by decide) rfl ?_
  refine mm_istore_n [some (.ref a), some (va_rf p0), some (.int (sI σ a 4)), none] dX7_readEnumName_4 (by decide) ((st1_o (r := p0) rfl).trans rfl) ?_
  refine mm_aload_n dX7_readEnumName_5 rfl rfl ?_
  obtain ⟨σ2, hc1, hx⟩ := b1_some hx
  refine mm_callV3 (a := a) (ci := 7) wM_X7_skipWord kM_X7_69 wI_X7_skipWord wS_X7_skipWord dX7_readEnumName_6 (e_X7_skipWord hst hZ hn hs hc1) (mem_obj hs (by decide)) (sh_ltn hs (by decide) hn) rfl rfl rfl (Nat.le_of_ble_eq_true rfl) (by omega) (by omega) (fun v9 S9 hq => ?_)
  obtain ⟨rfl, rfl⟩ := hq
  refine ⟨fun h => ⟨h, rfl⟩, ?_⟩
  refine mm_aload_n dX7_readEnumName_9 rfl (isr_rf _) ?_
  refine b_if hx (fun h3 hx => ?_) (fun h3 hx => ?_)
  · refine mm_ifnull (r := p0) 23 dX7_readEnumName_10 (by decide) (fun _ => ?_) (fun h => absurd h3 h)
    refine mm_iconst (v := 0) dX7_readEnumName_23 (by decide) ?_
    refine mm_iret dX7_readEnumName_24 rfl rfl ?_ (by omega) (by omega)
    obtain ⟨rfl, rfl⟩ := fin2 hx
    exact ⟨rfl, rfl⟩
  · refine mm_ifnull (r := p0) 23 dX7_readEnumName_10 (by decide) (fun h => absurd h h3) (fun _ => ?_)
    refine mm_aload_n dX7_readEnumName_13 rfl rfl ?_
    refine s_getS (q := 389) (r := some a) (b := a) (ci := 7) (k := 1) in_X7 rfl (by decide) rfl kF_X7_15 dX7_readEnumName_14 rfl hs (by decide) hn (by decide) rfl rfl ?_
    refine s_getPN (r := some 389) (b := 389) (ci := 8) (k := 4) in_X8 rfl (by decide) rfl kF_X7_72 dX7_readEnumName_17 rfl sa_389 (by decide) hn (by decide) rfl ?_
    refine b_if hx (fun h4 hx => ?_) (fun h4 hx => ?_)
    · refine mm_ifnonnull (r := sP σ2 389 4) 25 dX7_readEnumName_20 (by decide) (fun h => absurd h4 h) (fun _ => ?_)
      refine mm_iconst (v := 0) dX7_readEnumName_23 (by decide) ?_
      refine mm_iret dX7_readEnumName_24 rfl rfl ?_ (by omega) (by omega)
      obtain ⟨rfl, rfl⟩ := fin2 hx
      exact ⟨rfl, rfl⟩
    · refine mm_ifnonnull (r := sP σ2 389 4) 25 dX7_readEnumName_20 (by decide) (fun _ => ?_) (fun h => absurd h h4)
      refine mm_aload_n dX7_readEnumName_25 rfl rfl ?_
      refine s_getS (q := 389) (r := some a) (b := a) (ci := 7) (k := 1) in_X7 rfl (by decide) rfl kF_X7_15 dX7_readEnumName_26 rfl hs (by decide) hn (by decide) rfl rfl ?_
      refine s_getPN (r := some 389) (b := 389) (ci := 8) (k := 4) in_X8 rfl (by decide) rfl kF_X7_72 dX7_readEnumName_29 rfl sa_389 (by decide) hn (by decide) rfl ?_
      refine mm_aload_n dX7_readEnumName_32 rfl (isr_rf _) ?_
      refine mm_aload_n dX7_readEnumName_33 rfl rfl ?_
      refine s_getS (q := 1) (r := some a) (b := a) (ci := 7) (k := 0) in_X7 rfl (by decide) rfl kF_X7_9 dX7_readEnumName_34 rfl hs (by decide) hn (by decide) rfl rfl ?_
      refine mm_iload_n dX7_readEnumName_37 rfl ?_
      refine mm_aload_n dX7_readEnumName_38 rfl rfl ?_
      refine s_getI (r := some a) (b := a) (ci := 7) (k := 4) in_X7 rfl (by decide) rfl kF_X7_26 dX7_readEnumName_39 rfl hs (by decide) hn (by decide) rfl ?_
      obtain ⟨q5, hr6, hs7, hx⟩ := ck_some hx
      obtain ⟨v9, hc8, hx⟩ := b1_some hx
      refine mm_callV3 (a := q5) (ci := 6) wM_X6_memberCalled kM_X7_76 wI_X6_memberCalled wS_X6_memberCalled dX7_readEnumName_42 (e_X6_memberCalled hst hZ hn hs7 hc8) (mem_obj hs7 (by decide)) (sh_ltn hs7 (by decide) hn) rfl rfl (by rw [hr6]; rfl) (Nat.le_of_ble_eq_true rfl) (by omega) (by omega) (fun v9 S9 hq => ?_)
      obtain ⟨rfl, rfl⟩ := hq
      refine ⟨fun h => ⟨h, rfl⟩, ?_⟩
      refine mm_astore_n [some (.ref a), some (va_rf p0), some (.int (sI σ a 4)), some (va_rf v9)] dX7_readEnumName_45 (by decide) (isr_rf _) rfl ?_
      refine mm_aload_n dX7_readEnumName_46 rfl (isr_rf _) ?_
      refine b_if hx (fun h10 hx => ?_) (fun h10 hx => ?_)
      · refine mm_ifnonnull (r := v9) 52 dX7_readEnumName_47 (by decide) (fun h => absurd h10 h) (fun _ => ?_)
        refine mm_iconst (v := 0) dX7_readEnumName_50 (by decide) ?_
        refine mm_iret dX7_readEnumName_51 rfl rfl ?_ (by omega) (by omega)
        obtain ⟨rfl, rfl⟩ := fin2 hx
        exact ⟨rfl, rfl⟩
      · refine mm_ifnonnull (r := v9) 52 dX7_readEnumName_47 (by decide) (fun _ => ?_) (fun h => absurd h h10)
        refine mm_aload_n dX7_readEnumName_52 rfl rfl ?_
        refine mm_aload_n dX7_readEnumName_53 rfl (isr_rf _) ?_
        obtain ⟨q11, hr12, hs13, hx⟩ := ck_some hx
        refine s_getLN (r := v9) (b := q11) (ci := 3) (k := 6) in_X3 rfl (by decide) rfl kF_X7_135 dX7_readEnumName_54 hr12 hs13 (by decide) hn (by decide) rfl ?_
        refine s_putL (v := sL σ2 q11 6) (r := some a) (b := a) (ci := 7) (k := 6) in_X7 rfl (by decide) rfl tyX7_ok nmX7 rfl kF_X7_122 dX7_readEnumName_57 (mm_fit_long _) rfl hs (by decide) hn (by decide) rfl hx (fun σ14 hx => ?_)
        refine mm_iconst (v := 1) dX7_readEnumName_60 (by decide) ?_
        refine mm_iret dX7_readEnumName_61 rfl rfl ?_ (by omega) (by omega)
        obtain ⟨rfl, rfl⟩ := fin2 hx
        exact ⟨rfl, rfl⟩
set_option maxHeartbeats 4000000 in
set_option maxRecDepth 100000 in
theorem e_X7_isInRange_97 {g : mm_G} {l : Launch} (hst : l.stackTraces = false) {Z : Nat → Nat → Option Nat} (hZ : HZ Z) {n : Nat} (hn : 1186 ≤ n) {z : Bool} {d : Nat} {s0_ : Int64} {s1_ : Int64} {σ : SG} {r : Int32} (hx : x_X7_isInRange_97 s0_ s1_ σ = some r) : mm_V g l RX7 "isInRange" cX7_isInRange 5 (some .boolean) [] (d) 0 0 (mm_nt (fun v S' => v = some (.int r) ∧ S' = (mem Z σ, n, z))) 97 [none, none, none, none, none] [.long s0_, .long s1_] (mem Z σ, n, z) 0 0 := by
  unfold x_X7_isInRange_97 at hx
  refine mm_lcmp dX7_isInRange_97 ?_
  refine b_if hx (fun h9 hx => ?_) (fun h9 hx => ?_)
  · refine mm_if_gt 105 dX7_isInRange_98 (by decide) (fun _ => ?_) (fun h => absurd (lg_gt.mpr h9) h)
    refine mm_iconst (v := 0) dX7_isInRange_105 (by decide) ?_
    refine mm_iret dX7_isInRange_106 rfl rfl ?_ (by omega) (by omega)
    obtain rfl := fin1 hx
    exact ⟨rfl, rfl⟩
  · refine mm_if_gt 105 dX7_isInRange_98 (by decide) (fun h => absurd (lg_gt.mp h) h9) (fun _ => ?_)
    refine mm_iconst (v := 1) dX7_isInRange_101 (by decide) ?_
    refine mm_goto 106 dX7_isInRange_102 (by decide) ?_
    refine mm_iret dX7_isInRange_106 rfl rfl ?_ (by omega) (by omega)
    obtain rfl := fin1 hx
    exact ⟨rfl, rfl⟩
set_option maxHeartbeats 4000000 in
set_option maxRecDepth 100000 in
theorem e_X7_isInRange_149 {g : mm_G} {l : Launch} (hst : l.stackTraces = false) {Z : Nat → Nat → Option Nat} (hZ : HZ Z) {n : Nat} (hn : 1186 ≤ n) {z : Bool} {d : Nat} {s0_ : Int64} {s1_ : Int64} {σ : SG} {r : Int32} (hx : x_X7_isInRange_149 s0_ s1_ σ = some r) : mm_V g l RX7 "isInRange" cX7_isInRange 5 (some .boolean) [] (d) 0 0 (mm_nt (fun v S' => v = some (.int r) ∧ S' = (mem Z σ, n, z))) 149 [none, none, none, none, none] [.long s0_, .long s1_] (mem Z σ, n, z) 0 0 := by
  unfold x_X7_isInRange_149 at hx
  refine mm_lcmp dX7_isInRange_149 ?_
  refine b_if hx (fun h16 hx => ?_) (fun h16 hx => ?_)
  · refine mm_if_gt 157 dX7_isInRange_150 (by decide) (fun _ => ?_) (fun h => absurd (lg_gt.mpr h16) h)
    refine mm_iconst (v := 0) dX7_isInRange_157 (by decide) ?_
    refine mm_iret dX7_isInRange_158 rfl rfl ?_ (by omega) (by omega)
    obtain rfl := fin1 hx
    exact ⟨rfl, rfl⟩
  · refine mm_if_gt 157 dX7_isInRange_150 (by decide) (fun h => absurd (lg_gt.mp h) h16) (fun _ => ?_)
    refine mm_iconst (v := 1) dX7_isInRange_153 (by decide) ?_
    refine mm_goto 158 dX7_isInRange_154 (by decide) ?_
    refine mm_iret dX7_isInRange_158 rfl rfl ?_ (by omega) (by omega)
    obtain rfl := fin1 hx
    exact ⟨rfl, rfl⟩
set_option maxHeartbeats 4000000 in
set_option maxRecDepth 100000 in
theorem e_X7_isInRange_11 {g : mm_G} {l : Launch} (hst : l.stackTraces = false) {Z : Nat → Nat → Option Nat} (hZ : HZ Z) {n : Nat} (hn : 1186 ≤ n) {z : Bool} {d : Nat} {v0_ : Int32} {v1_ : Int32} {v2_ : Int64} {s0_ : Int32} {σ : SG} {r : Int32} (hx : x_X7_isInRange_11 v0_ v1_ v2_ s0_ σ = some r) : mm_V g l RX7 "isInRange" cX7_isInRange 5 (some .boolean) [] (d) 0 0 (mm_nt (fun v S' => v = some (.int r) ∧ S' = (mem Z σ, n, z))) 11 [some (.int v0_), some (.int v1_), some (.long v2_), none, none] [.int s0_] (mem Z σ, n, z) 0 0 := by
  unfold x_X7_isInRange_11 at hx
  refine mm_istore [some (.int v0_), some (.int v1_), some (.long v2_), none, some (.int s0_)] dX7_isInRange_11 (by decide) rfl ?_
  refine mm_iload_n dX7_isInRange_13 rfl ?_
  refine b_if hx (fun h2 hx => ?_) (fun h2 hx => ?_)
  · refine mm_tsIn 107 dX7_isInRange_14 (by rw [h2]; decide) (by rw [h2]; decide) (by rw [h2]; rfl) (by decide) ?_
    refine mm_iload dX7_isInRange_107 rfl ?_
    refine b_if hx (fun h3 hx => ?_) (fun h3 hx => ?_)
    · refine mm_if_ne 124 dX7_isInRange_109 (by decide) (fun h => absurd h3 h) (fun _ => ?_)
      refine mm_iload_n dX7_isInRange_112 rfl ?_
      refine b_if hx (fun h4 hx => ?_) (fun h4 hx => ?_)
      · refine mm_if_eq 128 dX7_isInRange_113 (by decide) (fun _ => ?_) (fun h => absurd h4 h)
        refine mm_iconst (v := 0) dX7_isInRange_128 (by decide) ?_
        refine mm_iret dX7_isInRange_129 rfl rfl ?_ (by omega) (by omega)
        obtain rfl := fin1 hx
        exact ⟨rfl, rfl⟩
      · refine mm_if_eq 128 dX7_isInRange_113 (by decide) (fun h => absurd h h4) (fun _ => ?_)
        refine mm_lload_n dX7_isInRange_116 rfl ?_
        refine mm_ldc2 kL_X7_148 dX7_isInRange_117 ?_
        refine mm_lcmp dX7_isInRange_120 ?_
        refine b_if hx (fun h5 hx => ?_) (fun h5 hx => ?_)
        · refine mm_if_ne 128 dX7_isInRange_121 (by decide) (fun h => absurd (lg_eq.mpr h5) h) (fun _ => ?_)
          refine mm_iconst (v := 1) dX7_isInRange_124 (by decide) ?_
          refine mm_goto 129 dX7_isInRange_125 (by decide) ?_
          refine mm_iret dX7_isInRange_129 rfl rfl ?_ (by omega) (by omega)
          obtain rfl := fin1 hx
          exact ⟨rfl, rfl⟩
        · refine mm_if_ne 128 dX7_isInRange_121 (by decide) (fun _ => ?_) (fun h => absurd (lg_eq.mp h) h5)
          refine mm_iconst (v := 0) dX7_isInRange_128 (by decide) ?_
          refine mm_iret dX7_isInRange_129 rfl rfl ?_ (by omega) (by omega)
          obtain rfl := fin1 hx
          exact ⟨rfl, rfl⟩
    · refine mm_if_ne 124 dX7_isInRange_109 (by decide) (fun _ => ?_) (fun h => absurd h h3)
      refine mm_iconst (v := 1) dX7_isInRange_124 (by decide) ?_
      refine mm_goto 129 dX7_isInRange_125 (by decide) ?_
      refine mm_iret dX7_isInRange_129 rfl rfl ?_ (by omega) (by omega)
      obtain rfl := fin1 hx
      exact ⟨rfl, rfl⟩
  · skip
    refine b_if hx (fun h6 hx => ?_) (fun h6 hx => ?_)
    · refine mm_tsIn 80 dX7_isInRange_14 (by rw [h6]; decide) (by rw [h6]; decide) (by rw [h6]; rfl) (by decide) ?_
      refine mm_iload dX7_isInRange_80 rfl ?_
      refine b_if hx (fun h7 hx => ?_) (fun h7 hx => ?_)
      · refine mm_if_eq 105 dX7_isInRange_82 (by decide) (fun _ => ?_) (fun h => absurd h7 h)
        refine mm_iconst (v := 0) dX7_isInRange_105 (by decide) ?_
        refine mm_iret dX7_isInRange_106 rfl rfl ?_ (by omega) (by omega)
        obtain rfl := fin1 hx
        exact ⟨rfl, rfl⟩
      · refine mm_if_eq 105 dX7_isInRange_82 (by decide) (fun h => absurd h h7) (fun _ => ?_)
        refine mm_lload_n dX7_isInRange_85 rfl ?_
        refine mm_iload_n dX7_isInRange_86 rfl ?_
        refine b_if hx (fun h8 hx => ?_) (fun h8 hx => ?_)
        · refine mm_if_eq 94 dX7_isInRange_87 (by decide) (fun _ => ?_) (fun h => absurd h8 h)
          refine mm_ldc2 kL_X7_144 dX7_isInRange_94 ?_
          refine mm_fewer [none, none, none, none, none] (few_ok (bs := [false, false, false, false, false]) rfl) ?_
          exact e_X7_isInRange_97 hst hZ hn hx
        · refine mm_if_eq 94 dX7_isInRange_87 (by decide) (fun h => absurd h h8) (fun _ => ?_)
          refine mm_lconst (v := 0) dX7_isInRange_90 (by decide) ?_
          refine mm_goto 97 dX7_isInRange_91 (by decide) ?_
          refine mm_fewer [none, none, none, none, none] (few_ok (bs := [false, false, false, false, false]) rfl) ?_
          exact e_X7_isInRange_97 hst hZ hn hx
    · skip
      refine b_if hx (fun h10 hx => ?_) (fun h10 hx => ?_)
      · refine mm_tsIn 64 dX7_isInRange_14 (by rw [h10]; decide) (by rw [h10]; decide) (by rw [h10]; rfl) (by decide) ?_
        refine mm_iload_n dX7_isInRange_64 rfl ?_
        refine b_if hx (fun h11 hx => ?_) (fun h11 hx => ?_)
        · refine mm_if_eq 74 dX7_isInRange_65 (by decide) (fun _ => ?_) (fun h => absurd h11 h)
          refine mm_iconst (v := 1) dX7_isInRange_74 (by decide) ?_
          refine mm_goto 79 dX7_isInRange_75 (by decide) ?_
          refine mm_iret dX7_isInRange_79 rfl rfl ?_ (by omega) (by omega)
          obtain rfl := fin1 hx
          exact ⟨rfl, rfl⟩
        · refine mm_if_eq 74 dX7_isInRange_65 (by decide) (fun h => absurd h h11) (fun _ => ?_)
          refine mm_lload_n dX7_isInRange_68 rfl ?_
          refine mm_lconst (v := 0) dX7_isInRange_69 (by decide) ?_
          refine mm_lcmp dX7_isInRange_70 ?_
          refine b_if hx (fun h12 hx => ?_) (fun h12 hx => ?_)
          · refine mm_if_ne 78 dX7_isInRange_71 (by decide) (fun h => absurd (lg_eq.mpr h12) h) (fun _ => ?_)
            refine mm_iconst (v := 1) dX7_isInRange_74 (by decide) ?_
            refine mm_goto 79 dX7_isInRange_75 (by decide) ?_
            refine mm_iret dX7_isInRange_79 rfl rfl ?_ (by omega) (by omega)
            obtain rfl := fin1 hx
            exact ⟨rfl, rfl⟩
          · refine mm_if_ne 78 dX7_isInRange_71 (by decide) (fun _ => ?_) (fun h => absurd (lg_eq.mp h) h12)
            refine mm_iconst (v := 0) dX7_isInRange_78 (by decide) ?_
            refine mm_iret dX7_isInRange_79 rfl rfl ?_ (by omega) (by omega)
            obtain rfl := fin1 hx
            exact ⟨rfl, rfl⟩
      · skip
        refine b_if hx (fun h13 hx => ?_) (fun h13 hx => ?_)
        · refine mm_tsIn 130 dX7_isInRange_14 (by rw [h13]; decide) (by rw [h13]; decide) (by rw [h13]; rfl) (by decide) ?_
          refine mm_iload dX7_isInRange_130 rfl ?_
          refine b_if hx (fun h14 hx => ?_) (fun h14 hx => ?_)
          · refine mm_if_eq 157 dX7_isInRange_132 (by decide) (fun _ => ?_) (fun h => absurd h14 h)
            refine mm_iconst (v := 0) dX7_isInRange_157 (by decide) ?_
            refine mm_iret dX7_isInRange_158 rfl rfl ?_ (by omega) (by omega)
            obtain rfl := fin1 hx
            exact ⟨rfl, rfl⟩
          · refine mm_if_eq 157 dX7_isInRange_132 (by decide) (fun h => absurd h h14) (fun _ => ?_)
            refine mm_lload_n dX7_isInRange_135 rfl ?_
            refine mm_iload_n dX7_isInRange_136 rfl ?_
            refine b_if hx (fun h15 hx => ?_) (fun h15 hx => ?_)
            · refine mm_if_eq 146 dX7_isInRange_137 (by decide) (fun _ => ?_) (fun h => absurd h15 h)
              refine mm_ldc2 kL_X7_152 dX7_isInRange_146 ?_
              refine mm_fewer [none, none, none, none, none] (few_ok (bs := [false, false, false, false, false]) rfl) ?_
              exact e_X7_isInRange_149 hst hZ hn hx
            · refine mm_if_eq 146 dX7_isInRange_137 (by decide) (fun h => absurd h h15) (fun _ => ?_)
              refine mm_ldc2 kL_X7_150 dX7_isInRange_140 ?_
              refine mm_goto 149 dX7_isInRange_143 (by decide) ?_
              refine mm_fewer [none, none, none, none, none] (few_ok (bs := [false, false, false, false, false]) rfl) ?_
              exact e_X7_isInRange_149 hst hZ hn hx
        · skip
          refine b_if hx (fun h17 hx => ?_) (fun h17 hx => ?_)
          · refine mm_tsIn 107 dX7_isInRange_14 (by rw [h17]; decide) (by rw [h17]; decide) (by rw [h17]; rfl) (by decide) ?_
            refine mm_iload dX7_isInRange_107 rfl ?_
            refine b_if hx (fun h18 hx => ?_) (fun h18 hx => ?_)
            · refine mm_if_ne 124 dX7_isInRange_109 (by decide) (fun h => absurd h18 h) (fun _ => ?_)
              refine mm_iload_n dX7_isInRange_112 rfl ?_
              refine b_if hx (fun h19 hx => ?_) (fun h19 hx => ?_)
              · refine mm_if_eq 128 dX7_isInRange_113 (by decide) (fun _ => ?_) (fun h => absurd h19 h)
                refine mm_iconst (v := 0) dX7_isInRange_128 (by decide) ?_
                refine mm_iret dX7_isInRange_129 rfl rfl ?_ (by omega) (by omega)
                obtain rfl := fin1 hx
                exact ⟨rfl, rfl⟩
              · refine mm_if_eq 128 dX7_isInRange_113 (by decide) (fun h => absurd h h19) (fun _ => ?_)
                refine mm_lload_n dX7_isInRange_116 rfl ?_
                refine mm_ldc2 kL_X7_148 dX7_isInRange_117 ?_
                refine mm_lcmp dX7_isInRange_120 ?_
                refine b_if hx (fun h20 hx => ?_) (fun h20 hx => ?_)
                · refine mm_if_ne 128 dX7_isInRange_121 (by decide) (fun h => absurd (lg_eq.mpr h20) h) (fun _ => ?_)
                  refine mm_iconst (v := 1) dX7_isInRange_124 (by decide) ?_
                  refine mm_goto 129 dX7_isInRange_125 (by decide) ?_
                  refine mm_iret dX7_isInRange_129 rfl rfl ?_ (by omega) (by omega)
                  obtain rfl := fin1 hx
                  exact ⟨rfl, rfl⟩
                · refine mm_if_ne 128 dX7_isInRange_121 (by decide) (fun _ => ?_) (fun h => absurd (lg_eq.mp h) h20)
                  refine mm_iconst (v := 0) dX7_isInRange_128 (by decide) ?_
                  refine mm_iret dX7_isInRange_129 rfl rfl ?_ (by omega) (by omega)
                  obtain rfl := fin1 hx
                  exact ⟨rfl, rfl⟩
            · refine mm_if_ne 124 dX7_isInRange_109 (by decide) (fun _ => ?_) (fun h => absurd h h18)
              refine mm_iconst (v := 1) dX7_isInRange_124 (by decide) ?_
              refine mm_goto 129 dX7_isInRange_125 (by decide) ?_
              refine mm_iret dX7_isInRange_129 rfl rfl ?_ (by omega) (by omega)
              obtain rfl := fin1 hx
              exact ⟨rfl, rfl⟩
          · skip
            refine b_if hx (fun h21 hx => ?_) (fun h21 hx => ?_)
            · refine mm_tsIn 80 dX7_isInRange_14 (by rw [h21]; decide) (by rw [h21]; decide) (by rw [h21]; rfl) (by decide) ?_
              refine mm_iload dX7_isInRange_80 rfl ?_
              refine b_if hx (fun h22 hx => ?_) (fun h22 hx => ?_)
              · refine mm_if_eq 105 dX7_isInRange_82 (by decide) (fun _ => ?_) (fun h => absurd h22 h)
                refine mm_iconst (v := 0) dX7_isInRange_105 (by decide) ?_
                refine mm_iret dX7_isInRange_106 rfl rfl ?_ (by omega) (by omega)
                obtain rfl := fin1 hx
                exact ⟨rfl, rfl⟩
              · refine mm_if_eq 105 dX7_isInRange_82 (by decide) (fun h => absurd h h22) (fun _ => ?_)
                refine mm_lload_n dX7_isInRange_85 rfl ?_
                refine mm_iload_n dX7_isInRange_86 rfl ?_
                refine b_if hx (fun h23 hx => ?_) (fun h23 hx => ?_)
                · refine mm_if_eq 94 dX7_isInRange_87 (by decide) (fun _ => ?_) (fun h => absurd h23 h)
                  refine mm_ldc2 kL_X7_144 dX7_isInRange_94 ?_
                  refine mm_fewer [none, none, none, none, none] (few_ok (bs := [false, false, false, false, false]) rfl) ?_
                  exact e_X7_isInRange_97 hst hZ hn hx
                · refine mm_if_eq 94 dX7_isInRange_87 (by decide) (fun h => absurd h h23) (fun _ => ?_)
                  refine mm_lconst (v := 0) dX7_isInRange_90 (by decide) ?_
                  refine mm_goto 97 dX7_isInRange_91 (by decide) ?_
                  refine mm_fewer [none, none, none, none, none] (few_ok (bs := [false, false, false, false, false]) rfl) ?_
                  exact e_X7_isInRange_97 hst hZ hn hx
            · skip
              refine b_if hx (fun h24 hx => ?_) (fun h24 hx => ?_)
              · refine mm_tsIn 64 dX7_isInRange_14 (by rw [h24]; decide) (by rw [h24]; decide) (by rw [h24]; rfl) (by decide) ?_
                refine mm_iload_n dX7_isInRange_64 rfl ?_
                refine b_if hx (fun h25 hx => ?_) (fun h25 hx => ?_)
                · refine mm_if_eq 74 dX7_isInRange_65 (by decide) (fun _ => ?_) (fun h => absurd h25 h)
                  refine mm_iconst (v := 1) dX7_isInRange_74 (by decide) ?_
                  refine mm_goto 79 dX7_isInRange_75 (by decide) ?_
                  refine mm_iret dX7_isInRange_79 rfl rfl ?_ (by omega) (by omega)
                  obtain rfl := fin1 hx
                  exact ⟨rfl, rfl⟩
                · refine mm_if_eq 74 dX7_isInRange_65 (by decide) (fun h => absurd h h25) (fun _ => ?_)
                  refine mm_lload_n dX7_isInRange_68 rfl ?_
                  refine mm_lconst (v := 0) dX7_isInRange_69 (by decide) ?_
                  refine mm_lcmp dX7_isInRange_70 ?_
                  refine b_if hx (fun h26 hx => ?_) (fun h26 hx => ?_)
                  · refine mm_if_ne 78 dX7_isInRange_71 (by decide) (fun h => absurd (lg_eq.mpr h26) h) (fun _ => ?_)
                    refine mm_iconst (v := 1) dX7_isInRange_74 (by decide) ?_
                    refine mm_goto 79 dX7_isInRange_75 (by decide) ?_
                    refine mm_iret dX7_isInRange_79 rfl rfl ?_ (by omega) (by omega)
                    obtain rfl := fin1 hx
                    exact ⟨rfl, rfl⟩
                  · refine mm_if_ne 78 dX7_isInRange_71 (by decide) (fun _ => ?_) (fun h => absurd (lg_eq.mp h) h26)
                    refine mm_iconst (v := 0) dX7_isInRange_78 (by decide) ?_
                    refine mm_iret dX7_isInRange_79 rfl rfl ?_ (by omega) (by omega)
                    obtain rfl := fin1 hx
                    exact ⟨rfl, rfl⟩
              · skip
                refine b_if hx (fun h27 hx => ?_) (fun h27 hx => ?_)
                · refine mm_tsIn 130 dX7_isInRange_14 (by rw [h27]; decide) (by rw [h27]; decide) (by rw [h27]; rfl) (by decide) ?_
                  refine mm_iload dX7_isInRange_130 rfl ?_
                  refine b_if hx (fun h28 hx => ?_) (fun h28 hx => ?_)
                  · refine mm_if_eq 157 dX7_isInRange_132 (by decide) (fun _ => ?_) (fun h => absurd h28 h)
                    refine mm_iconst (v := 0) dX7_isInRange_157 (by decide) ?_
                    refine mm_iret dX7_isInRange_158 rfl rfl ?_ (by omega) (by omega)
                    obtain rfl := fin1 hx
                    exact ⟨rfl, rfl⟩
                  · refine mm_if_eq 157 dX7_isInRange_132 (by decide) (fun h => absurd h h28) (fun _ => ?_)
                    refine mm_lload_n dX7_isInRange_135 rfl ?_
                    refine mm_iload_n dX7_isInRange_136 rfl ?_
                    refine b_if hx (fun h29 hx => ?_) (fun h29 hx => ?_)
                    · refine mm_if_eq 146 dX7_isInRange_137 (by decide) (fun _ => ?_) (fun h => absurd h29 h)
                      refine mm_ldc2 kL_X7_152 dX7_isInRange_146 ?_
                      refine mm_fewer [none, none, none, none, none] (few_ok (bs := [false, false, false, false, false]) rfl) ?_
                      exact e_X7_isInRange_149 hst hZ hn hx
                    · refine mm_if_eq 146 dX7_isInRange_137 (by decide) (fun h => absurd h h29) (fun _ => ?_)
                      refine mm_ldc2 kL_X7_150 dX7_isInRange_140 ?_
                      refine mm_goto 149 dX7_isInRange_143 (by decide) ?_
                      refine mm_fewer [none, none, none, none, none] (few_ok (bs := [false, false, false, false, false]) rfl) ?_
                      exact e_X7_isInRange_149 hst hZ hn hx
                · skip
                  refine b_if hx (fun h30 hx => ?_) (fun h30 hx => ?_)
                  · refine mm_tsIn 107 dX7_isInRange_14 (by rw [h30]; decide) (by rw [h30]; decide) (by rw [h30]; rfl) (by decide) ?_
                    refine mm_iload dX7_isInRange_107 rfl ?_
                    refine b_if hx (fun h31 hx => ?_) (fun h31 hx => ?_)
                    · refine mm_if_ne 124 dX7_isInRange_109 (by decide) (fun h => absurd h31 h) (fun _ => ?_)
                      refine mm_iload_n dX7_isInRange_112 rfl ?_
                      refine b_if hx (fun h32 hx => ?_) (fun h32 hx => ?_)
                      · refine mm_if_eq 128 dX7_isInRange_113 (by decide) (fun _ => ?_) (fun h => absurd h32 h)
                        refine mm_iconst (v := 0) dX7_isInRange_128 (by decide) ?_
                        refine mm_iret dX7_isInRange_129 rfl rfl ?_ (by omega) (by omega)
                        obtain rfl := fin1 hx
                        exact ⟨rfl, rfl⟩
                      · refine mm_if_eq 128 dX7_isInRange_113 (by decide) (fun h => absurd h h32) (fun _ => ?_)
                        refine mm_lload_n dX7_isInRange_116 rfl ?_
                        refine mm_ldc2 kL_X7_148 dX7_isInRange_117 ?_
                        refine mm_lcmp dX7_isInRange_120 ?_
                        refine b_if hx (fun h33 hx => ?_) (fun h33 hx => ?_)
                        · refine mm_if_ne 128 dX7_isInRange_121 (by decide) (fun h => absurd (lg_eq.mpr h33) h) (fun _ => ?_)
                          refine mm_iconst (v := 1) dX7_isInRange_124 (by decide) ?_
                          refine mm_goto 129 dX7_isInRange_125 (by decide) ?_
                          refine mm_iret dX7_isInRange_129 rfl rfl ?_ (by omega) (by omega)
                          obtain rfl := fin1 hx
                          exact ⟨rfl, rfl⟩
                        · refine mm_if_ne 128 dX7_isInRange_121 (by decide) (fun _ => ?_) (fun h => absurd (lg_eq.mp h) h33)
                          refine mm_iconst (v := 0) dX7_isInRange_128 (by decide) ?_
                          refine mm_iret dX7_isInRange_129 rfl rfl ?_ (by omega) (by omega)
                          obtain rfl := fin1 hx
                          exact ⟨rfl, rfl⟩
                    · refine mm_if_ne 124 dX7_isInRange_109 (by decide) (fun _ => ?_) (fun h => absurd h h31)
                      refine mm_iconst (v := 1) dX7_isInRange_124 (by decide) ?_
                      refine mm_goto 129 dX7_isInRange_125 (by decide) ?_
                      refine mm_iret dX7_isInRange_129 rfl rfl ?_ (by omega) (by omega)
                      obtain rfl := fin1 hx
                      exact ⟨rfl, rfl⟩
                  · skip
                    refine mm_tsOut 130 dX7_isInRange_14 (ts_out_109 h2 h6 h10 h13 h17 h21 h24 h27 h30) (by decide) ?_
                    refine mm_iload dX7_isInRange_130 rfl ?_
                    refine b_if hx (fun h34 hx => ?_) (fun h34 hx => ?_)
                    · refine mm_if_eq 157 dX7_isInRange_132 (by decide) (fun _ => ?_) (fun h => absurd h34 h)
                      refine mm_iconst (v := 0) dX7_isInRange_157 (by decide) ?_
                      refine mm_iret dX7_isInRange_158 rfl rfl ?_ (by omega) (by omega)
                      obtain rfl := fin1 hx
                      exact ⟨rfl, rfl⟩
                    · refine mm_if_eq 157 dX7_isInRange_132 (by decide) (fun h => absurd h h34) (fun _ => ?_)
                      refine mm_lload_n dX7_isInRange_135 rfl ?_
                      refine mm_iload_n dX7_isInRange_136 rfl ?_
                      refine b_if hx (fun h35 hx => ?_) (fun h35 hx => ?_)
                      · refine mm_if_eq 146 dX7_isInRange_137 (by decide) (fun _ => ?_) (fun h => absurd h35 h)
                        refine mm_ldc2 kL_X7_152 dX7_isInRange_146 ?_
                        refine mm_fewer [none, none, none, none, none] (few_ok (bs := [false, false, false, false, false]) rfl) ?_
                        exact e_X7_isInRange_149 hst hZ hn hx
                      · refine mm_if_eq 146 dX7_isInRange_137 (by decide) (fun h => absurd h h35) (fun _ => ?_)
                        refine mm_ldc2 kL_X7_150 dX7_isInRange_140 ?_
                        refine mm_goto 149 dX7_isInRange_143 (by decide) ?_
                        refine mm_fewer [none, none, none, none, none] (few_ok (bs := [false, false, false, false, false]) rfl) ?_
                        exact e_X7_isInRange_149 hst hZ hn hx
set_option maxHeartbeats 4000000 in
set_option maxRecDepth 100000 in
theorem e_X7_isInRange {g : mm_G} {l : Launch} (hst : l.stackTraces = false) {Z : Nat → Nat → Option Nat} (hZ : HZ Z) {n : Nat} (hn : 1186 ≤ n) {z : Bool} {d : Nat} {p0 : Int32} {p1 : Int32} {p2 : Int64} {σ : SG} {r : Int32} (hx : x_X7_isInRange p0 p1 p2 σ = some r) : mm_Cm g l yX7_isInRange (.code yX7_isInRange cX7_isInRange 5 (some .boolean)) (d) 0 0 [.int p0, .int p1, .long p2] (mem Z σ, n, z) (fun v S' => v = some (.int r) ∧ S' = (mem Z σ, n, z)) := by
  refine mm_Cm_of hst (by decide) (Nat.le_of_ble_eq_true rfl) ?_
  show mm_V g l RX7 "isInRange" cX7_isInRange 5 (some .boolean) [] (d) 0 0 (mm_nt (fun v S' => v = some (.int r) ∧ S' = (mem Z σ, n, z))) 0 [some (.int p0), some (.int p1), some (.long p2), none, none] [] (mem Z σ, n, z) 0 0
  unfold x_X7_isInRange at hx
  refine mm_lload_n dX7_isInRange_0 rfl ?_
  refine mm_lconst (v := 0) dX7_isInRange_1 (by decide) ?_
  refine mm_lcmp dX7_isInRange_2 ?_
  refine b_if hx (fun h1 hx => ?_) (fun h1 hx => ?_)
  · refine mm_if_lt 10 dX7_isInRange_3 (by decide) (fun _ => ?_) (fun h => absurd (lg_lt.mpr h1) h)
    refine mm_iconst (v := 0) dX7_isInRange_10 (by decide) ?_
    exact e_X7_isInRange_11 hst hZ hn hx
  · refine mm_if_lt 10 dX7_isInRange_3 (by decide) (fun h => absurd (lg_lt.mp h) h1) (fun _ => ?_)
    refine mm_iconst (v := 1) dX7_isInRange_6 (by decide) ?_
    refine mm_goto 11 dX7_isInRange_7 (by decide) ?_
    exact e_X7_isInRange_11 hst hZ hn hx
set_option maxHeartbeats 4000000 in
set_option maxRecDepth 100000 in
theorem e_X7_readNumber_139 {g : mm_G} {l : Launch} (hst : l.stackTraces = false) {Z : Nat → Nat → Option Nat} (hZ : HZ Z) {n : Nat} (hn : 1186 ≤ n) {z : Bool} {d : Nat} {U : Nat} {a : Nat} (hs : sh a = 7) {k44 : Int64 → SG → Option (Int32 × SG)} {k164 : Int64 → SG → Option (Int32 × SG)} {v1_ : Int32} {v2_ : Int32} {v3_ : Int32} {v4_ : Int64} {v6_ : Int32} {σ : SG} {r : Int32} {σ' : SG} (hk44 : ∀ (v4_ : Int64) (σ8 : SG), k44 v4_ σ8 = some (r, σ') → mm_V g l RX7 "readNumber" cX7_readNumber 7 (some .boolean) [] (d + 1) 0 0 (mm_nt (fun v S' => v = some (.int r) ∧ S' = (mem Z σ', n, z))) 44 [some (.ref a), some (.int v1_), some (.int v2_), some (.int v3_), some (.long v4_), none, none] [] (mem Z σ8, n, z) 0 0) (hk164 : ∀ (v4_ : Int64) (σ8 : SG), k164 v4_ σ8 = some (r, σ') → mm_V g l RX7 "readNumber" cX7_readNumber 7 (some .boolean) [] (d + 1) 0 0 (mm_nt (fun v S' => v = some (.int r) ∧ S' = (mem Z σ', n, z))) 164 [some (.ref a), some (.int v1_), some (.int v2_), some (.int v3_), some (.long v4_), none, none] [] (mem Z σ8, n, z) 0 0) (hx : x_X7_readNumber_139 U a k44 k164 v1_ v2_ v3_ v4_ v6_ σ = some (r, σ')) : mm_V g l RX7 "readNumber" cX7_readNumber 7 (some .boolean) [] (d + 1) 0 0 (mm_nt (fun v S' => v = some (.int r) ∧ S' = (mem Z σ', n, z))) 139 [some (.ref a), some (.int v1_), some (.int v2_), some (.int v3_), some (.long v4_), none, some (.int v6_)] [] (mem Z σ, n, z) 0 0 := by
  unfold x_X7_readNumber_139 at hx
  refine mm_lload dX7_readNumber_139 rfl ?_
  refine mm_ldc2 kL_X7_138 dX7_readNumber_141 ?_
  refine mm_lmul dX7_readNumber_144 ?_
  refine mm_iload dX7_readNumber_145 rfl ?_
  refine mm_i2l dX7_readNumber_147 ?_
  refine mm_ladd dX7_readNumber_148 ?_
  refine mm_lstore [some (.ref a), some (.int v1_), some (.int v2_), some (.int v3_), some (.long ((v4_ * 10) + (Int32.toInt64 v6_))), none, some (.int v6_)] dX7_readNumber_149 (by decide) rfl ?_
  refine mm_aload_n dX7_readNumber_151 rfl rfl ?_
  refine mm_dup dX7_readNumber_152 rfl ?_
  refine s_getI (r := some a) (b := a) (ci := 7) (k := 4) in_X7 rfl (by decide) rfl kF_X7_26 dX7_readNumber_153 rfl hs (by decide) hn (by decide) rfl ?_
  refine mm_iconst (v := 1) dX7_readNumber_156 (by decide) ?_
  refine mm_iadd dX7_readNumber_157 ?_
  refine s_putI (v := (sI σ a 4) + 1) (r := some a) (b := a) (ci := 7) (k := 4) in_X7 rfl (by decide) rfl tyX7_ok nmX7 rfl kF_X7_26 dX7_readNumber_158 (mm_fit_int _) rfl hs (by decide) hn (by decide) rfl hx (fun σ20 hx => ?_)
  refine mm_goto 44 dX7_readNumber_161 (by decide) ?_
  refine mm_fewer [some (.ref a), some (.int v1_), some (.int v2_), some (.int v3_), some (.long ((v4_ * 10) + (Int32.toInt64 v6_))), none, none] (few_ok (bs := [true, true, true, true, true, false, false]) rfl) ?_
  exact hk44 _ _ hx
set_option maxHeartbeats 4000000 in
set_option maxRecDepth 100000 in
theorem e_X7_readNumber_L44 {g : mm_G} {l : Launch} (hst : l.stackTraces = false) {Z : Nat → Nat → Option Nat} (hZ : HZ Z) {n : Nat} (hn : 1186 ≤ n) {z : Bool} {d : Nat} {U : Nat} {a : Nat} (hs : sh a = 7) {k164 : Int64 → SG → Option (Int32 × SG)} {v1_ : Int32} {v2_ : Int32} {v3_ : Int32} {r : Int32} {σ' : SG} (hk164 : ∀ (v4_ : Int64) (σ8 : SG), k164 v4_ σ8 = some (r, σ') → mm_V g l RX7 "readNumber" cX7_readNumber 7 (some .boolean) [] (d + 1) 0 0 (mm_nt (fun v S' => v = some (.int r) ∧ S' = (mem Z σ', n, z))) 164 [some (.ref a), some (.int v1_), some (.int v2_), some (.int v3_), some (.long v4_), none, none] [] (mem Z σ8, n, z) 0 0) : ∀ (U1 : Nat) (v4_ : Int64) (σ : SG), x_X7_readNumber_L44 U a k164 v1_ v2_ v3_ U1 v4_ σ = some (r, σ') → mm_V g l RX7 "readNumber" cX7_readNumber 7 (some .boolean) [] (d + 1) 0 0 (mm_nt (fun v S' => v = some (.int r) ∧ S' = (mem Z σ', n, z))) 44 [some (.ref a), some (.int v1_), some (.int v2_), some (.int v3_), some (.long v4_), none, none] [] (mem Z σ, n, z) 0 0 := by
  intro U1
  induction U1 with
  | zero => intro v4_ σ hx; exact absurd hx (by simp [x_X7_readNumber_L44])
  | succ U1 ih =>
    intro v4_ σ hx
    rw [x_X7_readNumber_L44] at hx
    refine mm_aload_n dX7_readNumber_44 rfl rfl ?_
    refine s_getI (r := some a) (b := a) (ci := 7) (k := 4) in_X7 rfl (by decide) rfl kF_X7_26 dX7_readNumber_45 rfl hs (by decide) hn (by decide) rfl ?_
    refine mm_aload_n dX7_readNumber_48 rfl rfl ?_
    refine s_getS (q := 1) (r := some a) (b := a) (ci := 7) (k := 0) in_X7 rfl (by decide) rfl kF_X7_9 dX7_readNumber_49 rfl hs (by decide) hn (by decide) rfl rfl ?_
    obtain ⟨v6, hc5, hx⟩ := b1_some hx
    refine mm_callV3 (a := 1) (ci := 0) wM_X0_size kM_X7_58 wI_X0_size wS_X0_size dX7_readNumber_52 (e_X0_size hst hZ hn sa_1 hc5) (mem_obj sa_1 (by decide)) (sh_ltn sa_1 (by decide) hn) rfl rfl rfl (Nat.le_of_ble_eq_true rfl) (by omega) (by omega) (fun v9 S9 hq => ?_)
    obtain ⟨rfl, rfl⟩ := hq
    refine ⟨fun h => ⟨h, rfl⟩, ?_⟩
    refine b_if hx (fun h7 hx => ?_) (fun h7 hx => ?_)
    · refine mm_icmp_ge 164 dX7_readNumber_55 (by decide) (fun h => absurd h (Int32.not_le.mpr h7)) (fun _ => ?_)
      refine mm_aload_n dX7_readNumber_58 rfl rfl ?_
      refine s_getS (q := 1) (r := some a) (b := a) (ci := 7) (k := 0) in_X7 rfl (by decide) rfl kF_X7_9 dX7_readNumber_59 rfl hs (by decide) hn (by decide) rfl rfl ?_
      refine mm_aload_n dX7_readNumber_62 rfl rfl ?_
      refine s_getI (r := some a) (b := a) (ci := 7) (k := 4) in_X7 rfl (by decide) rfl kF_X7_26 dX7_readNumber_63 rfl hs (by decide) hn (by decide) rfl ?_
      obtain ⟨v9, hc8, hx⟩ := b1_some hx
      refine mm_callV3 (a := 1) (ci := 0) wM_X0_at kM_X7_50 wI_X0_at wS_X0_at dX7_readNumber_66 (e_X0_at hst hZ hn sa_1 hc8) (mem_obj sa_1 (by decide)) (sh_ltn sa_1 (by decide) hn) rfl rfl rfl (Nat.le_of_ble_eq_true rfl) (by omega) (by omega) (fun v9 S9 hq => ?_)
      obtain ⟨rfl, rfl⟩ := hq
      refine ⟨fun h => ⟨h, rfl⟩, ?_⟩
      refine mm_bipush (v := 48) dX7_readNumber_69 (by decide) ?_
      refine b_if hx (fun h10 hx => ?_) (fun h10 hx => ?_)
      · refine mm_icmp_lt 164 dX7_readNumber_71 (by decide) (fun _ => ?_) (fun h => absurd h10 h)
        exact hk164 _ _ hx
      · refine mm_icmp_lt 164 dX7_readNumber_71 (by decide) (fun h => absurd h h10) (fun _ => ?_)
        refine mm_aload_n dX7_readNumber_74 rfl rfl ?_
        refine s_getS (q := 1) (r := some a) (b := a) (ci := 7) (k := 0) in_X7 rfl (by decide) rfl kF_X7_9 dX7_readNumber_75 rfl hs (by decide) hn (by decide) rfl rfl ?_
        refine mm_aload_n dX7_readNumber_78 rfl rfl ?_
        refine s_getI (r := some a) (b := a) (ci := 7) (k := 4) in_X7 rfl (by decide) rfl kF_X7_26 dX7_readNumber_79 rfl hs (by decide) hn (by decide) rfl ?_
        obtain ⟨v12, hc11, hx⟩ := b1_some hx
        refine mm_callV3 (a := 1) (ci := 0) wM_X0_at kM_X7_50 wI_X0_at wS_X0_at dX7_readNumber_82 (e_X0_at hst hZ hn sa_1 hc11) (mem_obj sa_1 (by decide)) (sh_ltn sa_1 (by decide) hn) rfl rfl rfl (Nat.le_of_ble_eq_true rfl) (by omega) (by omega) (fun v9 S9 hq => ?_)
        obtain ⟨rfl, rfl⟩ := hq
        refine ⟨fun h => ⟨h, rfl⟩, ?_⟩
        refine mm_bipush (v := 57) dX7_readNumber_85 (by decide) ?_
        refine b_if hx (fun h13 hx => ?_) (fun h13 hx => ?_)
        · refine mm_icmp_gt 164 dX7_readNumber_87 (by decide) (fun _ => ?_) (fun h => absurd h13 h)
          exact hk164 _ _ hx
        · refine mm_icmp_gt 164 dX7_readNumber_87 (by decide) (fun h => absurd h h13) (fun _ => ?_)
          refine mm_aload_n dX7_readNumber_90 rfl rfl ?_
          refine s_getS (q := 1) (r := some a) (b := a) (ci := 7) (k := 0) in_X7 rfl (by decide) rfl kF_X7_9 dX7_readNumber_91 rfl hs (by decide) hn (by decide) rfl rfl ?_
          refine mm_aload_n dX7_readNumber_94 rfl rfl ?_
          refine s_getI (r := some a) (b := a) (ci := 7) (k := 4) in_X7 rfl (by decide) rfl kF_X7_26 dX7_readNumber_95 rfl hs (by decide) hn (by decide) rfl ?_
          obtain ⟨v15, hc14, hx⟩ := b1_some hx
          refine mm_callV3 (a := 1) (ci := 0) wM_X0_at kM_X7_50 wI_X0_at wS_X0_at dX7_readNumber_98 (e_X0_at hst hZ hn sa_1 hc14) (mem_obj sa_1 (by decide)) (sh_ltn sa_1 (by decide) hn) rfl rfl rfl (Nat.le_of_ble_eq_true rfl) (by omega) (by omega) (fun v9 S9 hq => ?_)
          obtain ⟨rfl, rfl⟩ := hq
          refine ⟨fun h => ⟨h, rfl⟩, ?_⟩
          refine mm_bipush (v := 48) dX7_readNumber_101 (by decide) ?_
          refine mm_isub dX7_readNumber_103 ?_
          refine mm_istore [some (.ref a), some (.int v1_), some (.int v2_), some (.int v3_), some (.long v4_), none, some (.int (v15 - 48))] dX7_readNumber_104 (by decide) rfl ?_
          refine mm_lload dX7_readNumber_106 rfl ?_
          refine mm_lconst (v := 0) dX7_readNumber_108 (by decide) ?_
          refine mm_lcmp dX7_readNumber_109 ?_
          refine b_if hx (fun h16 hx => ?_) (fun h16 hx => ?_)
          · refine mm_if_lt 137 dX7_readNumber_110 (by decide) (fun _ => ?_) (fun h => absurd (lg_lt.mpr h16) h)
            refine mm_iconst (v := 0) dX7_readNumber_137 (by decide) ?_
            refine mm_iret dX7_readNumber_138 rfl rfl ?_ (by omega) (by omega)
            obtain ⟨rfl, rfl⟩ := fin2 hx
            exact ⟨rfl, rfl⟩
          · refine mm_if_lt 137 dX7_readNumber_110 (by decide) (fun h => absurd (lg_lt.mp h) h16) (fun _ => ?_)
            refine mm_lload dX7_readNumber_113 rfl ?_
            refine mm_ldc2 kL_X7_136 dX7_readNumber_115 ?_
            refine mm_lcmp dX7_readNumber_118 ?_
            refine b_if hx (fun h17 hx => ?_) (fun h17 hx => ?_)
            · refine mm_if_gt 137 dX7_readNumber_119 (by decide) (fun _ => ?_) (fun h => absurd (lg_gt.mpr h17) h)
              refine mm_iconst (v := 0) dX7_readNumber_137 (by decide) ?_
              refine mm_iret dX7_readNumber_138 rfl rfl ?_ (by omega) (by omega)
              obtain ⟨rfl, rfl⟩ := fin2 hx
              exact ⟨rfl, rfl⟩
            · refine mm_if_gt 137 dX7_readNumber_119 (by decide) (fun h => absurd (lg_gt.mp h) h17) (fun _ => ?_)
              refine mm_lload dX7_readNumber_122 rfl ?_
              refine mm_ldc2 kL_X7_136 dX7_readNumber_124 ?_
              refine mm_lcmp dX7_readNumber_127 ?_
              refine b_if hx (fun h18 hx => ?_) (fun h18 hx => ?_)
              · refine mm_if_ne 139 dX7_readNumber_128 (by decide) (fun h => absurd (lg_eq.mpr h18) h) (fun _ => ?_)
                refine mm_iload dX7_readNumber_131 rfl ?_
                refine mm_iconst (v := 5) dX7_readNumber_133 (by decide) ?_
                refine b_if hx (fun h19 hx => ?_) (fun h19 hx => ?_)
                · refine mm_icmp_le 139 dX7_readNumber_134 (by decide) (fun h => absurd h (Int32.not_le.mpr h19)) (fun _ => ?_)
                  refine mm_iconst (v := 0) dX7_readNumber_137 (by decide) ?_
                  refine mm_iret dX7_readNumber_138 rfl rfl ?_ (by omega) (by omega)
                  obtain ⟨rfl, rfl⟩ := fin2 hx
                  exact ⟨rfl, rfl⟩
                · refine mm_icmp_le 139 dX7_readNumber_134 (by decide) (fun _ => ?_) (fun h => absurd (Int32.not_lt.mp h19) h)
                  exact e_X7_readNumber_139 hst hZ hn hs ih hk164 hx
              · refine mm_if_ne 139 dX7_readNumber_128 (by decide) (fun _ => ?_) (fun h => absurd (lg_eq.mp h) h18)
                exact e_X7_readNumber_139 hst hZ hn hs ih hk164 hx
    · refine mm_icmp_ge 164 dX7_readNumber_55 (by decide) (fun _ => ?_) (fun h => absurd (Int32.not_lt.mp h7) h)
      exact hk164 _ _ hx
set_option maxHeartbeats 4000000 in
set_option maxRecDepth 100000 in
theorem e_X7_readNumber_214 {g : mm_G} {l : Launch} (hst : l.stackTraces = false) {Z : Nat → Nat → Option Nat} (hZ : HZ Z) {n : Nat} (hn : 1186 ≤ n) {z : Bool} {d : Nat} {U : Nat} {a : Nat} (hs : sh a = 7) {s0_ : Int64} {σ : SG} {r : Int32} {σ' : SG} (hx : x_X7_readNumber_214 U a s0_ σ = some (r, σ')) : mm_V g l RX7 "readNumber" cX7_readNumber 7 (some .boolean) [] (d + 1) 0 0 (mm_nt (fun v S' => v = some (.int r) ∧ S' = (mem Z σ', n, z))) 214 [none, none, none, none, none, none, none] [.long s0_, .ref a] (mem Z σ, n, z) 0 0 := by
  unfold x_X7_readNumber_214 at hx
  refine s_putL (v := s0_) (r := some a) (b := a) (ci := 7) (k := 6) in_X7 rfl (by decide) rfl tyX7_ok nmX7 rfl kF_X7_122 dX7_readNumber_214 (mm_fit_long _) rfl hs (by decide) hn (by decide) rfl hx (fun σ33 hx => ?_)
  refine mm_iconst (v := 1) dX7_readNumber_217 (by decide) ?_
  refine mm_iret dX7_readNumber_218 rfl rfl ?_ (by omega) (by omega)
  obtain ⟨rfl, rfl⟩ := fin2 hx
  exact ⟨rfl, rfl⟩
set_option maxHeartbeats 4000000 in
set_option maxRecDepth 100000 in
theorem e_X7_readNumber_164 {g : mm_G} {l : Launch} (hst : l.stackTraces = false) {Z : Nat → Nat → Option Nat} (hZ : HZ Z) {n : Nat} (hn : 1186 ≤ n) {z : Bool} {d : Nat} {U : Nat} {a : Nat} (hs : sh a = 7) {v1_ : Int32} {v2_ : Int32} {v3_ : Int32} {v4_ : Int64} {σ : SG} {r : Int32} {σ' : SG} (hx : x_X7_readNumber_164 U a v1_ v2_ v3_ v4_ σ = some (r, σ')) : mm_V g l RX7 "readNumber" cX7_readNumber 7 (some .boolean) [] (d + 1) 0 0 (mm_nt (fun v S' => v = some (.int r) ∧ S' = (mem Z σ', n, z))) 164 [some (.ref a), some (.int v1_), some (.int v2_), some (.int v3_), some (.long v4_), none, none] [] (mem Z σ, n, z) 0 0 := by
  unfold x_X7_readNumber_164 at hx
  refine mm_aload_n dX7_readNumber_164 rfl rfl ?_
  refine s_getI (r := some a) (b := a) (ci := 7) (k := 4) in_X7 rfl (by decide) rfl kF_X7_26 dX7_readNumber_165 rfl hs (by decide) hn (by decide) rfl ?_
  refine mm_iload_n dX7_readNumber_168 rfl ?_
  refine b_if hx (fun h23 hx => ?_) (fun h23 hx => ?_)
  · refine mm_icmp_eq 199 dX7_readNumber_169 (by decide) (fun _ => ?_) (fun h => absurd h23 h)
    refine mm_iconst (v := 0) dX7_readNumber_199 (by decide) ?_
    refine mm_iret dX7_readNumber_200 rfl rfl ?_ (by omega) (by omega)
    obtain ⟨rfl, rfl⟩ := fin2 hx
    exact ⟨rfl, rfl⟩
  · refine mm_icmp_eq 199 dX7_readNumber_169 (by decide) (fun h => absurd h h23) (fun _ => ?_)
    refine mm_aload_n dX7_readNumber_172 rfl rfl ?_
    refine s_getS (q := 1) (r := some a) (b := a) (ci := 7) (k := 0) in_X7 rfl (by decide) rfl kF_X7_9 dX7_readNumber_173 rfl hs (by decide) hn (by decide) rfl rfl ?_
    refine mm_aload_n dX7_readNumber_176 rfl rfl ?_
    refine s_getI (r := some a) (b := a) (ci := 7) (k := 4) in_X7 rfl (by decide) rfl kF_X7_26 dX7_readNumber_177 rfl hs (by decide) hn (by decide) rfl ?_
    obtain ⟨v25, hc24, hx⟩ := b1_some hx
    refine mm_callV3 (a := 1) (ci := 0) wM_X0_at kM_X7_50 wI_X0_at wS_X0_at dX7_readNumber_180 (e_X0_at hst hZ hn sa_1 hc24) (mem_obj sa_1 (by decide)) (sh_ltn sa_1 (by decide) hn) rfl rfl rfl (Nat.le_of_ble_eq_true rfl) (by omega) (by omega) (fun v9 S9 hq => ?_)
    obtain ⟨rfl, rfl⟩ := hq
    refine ⟨fun h => ⟨h, rfl⟩, ?_⟩
    obtain ⟨v27, hc26, hx⟩ := b1_some hx
    refine mm_callSN wM_X11_isWordByte kM_X7_66 wT_X11_isWordByte dX7_readNumber_183 (e_X11_isWordByte hst hZ hn hc26) rfl rfl (Nat.le_of_ble_eq_true rfl) (by omega) (by omega) (fun v9 S9 hq => ?_)
    obtain ⟨rfl, rfl⟩ := hq
    refine ⟨fun h => ⟨h, rfl⟩, ?_⟩
    refine b_if hx (fun h28 hx => ?_) (fun h28 hx => ?_)
    · refine mm_if_ne 199 dX7_readNumber_186 (by decide) (fun h => absurd h28 h) (fun _ => ?_)
      refine mm_iload_n dX7_readNumber_189 rfl ?_
      refine mm_iload_n dX7_readNumber_190 rfl ?_
      refine mm_lload dX7_readNumber_191 rfl ?_
      obtain ⟨v30, hc29, hx⟩ := b1_some hx
      refine mm_callS wM_X7_isInRange kM_X7_140 wT_X7_isInRange dX7_readNumber_193 (e_X7_isInRange hst hZ hn hc29) rfl rfl (Nat.le_of_ble_eq_true rfl) (by omega) (by omega) (fun v9 S9 hq => ?_)
      obtain ⟨rfl, rfl⟩ := hq
      refine ⟨fun h => ⟨h, rfl⟩, ?_⟩
      refine b_if hx (fun h31 hx => ?_) (fun h31 hx => ?_)
      · refine mm_if_ne 201 dX7_readNumber_196 (by decide) (fun h => absurd h31 h) (fun _ => ?_)
        refine mm_iconst (v := 0) dX7_readNumber_199 (by decide) ?_
        refine mm_iret dX7_readNumber_200 rfl rfl ?_ (by omega) (by omega)
        obtain ⟨rfl, rfl⟩ := fin2 hx
        exact ⟨rfl, rfl⟩
      · refine mm_if_ne 201 dX7_readNumber_196 (by decide) (fun _ => ?_) (fun h => absurd h h31)
        refine mm_aload_n dX7_readNumber_201 rfl rfl ?_
        refine mm_iload_n dX7_readNumber_202 rfl ?_
        refine b_if hx (fun h32 hx => ?_) (fun h32 hx => ?_)
        · refine mm_if_eq 212 dX7_readNumber_203 (by decide) (fun _ => ?_) (fun h => absurd h32 h)
          refine mm_lload dX7_readNumber_212 rfl ?_
          refine mm_fewer [none, none, none, none, none, none, none] (few_ok (bs := [false, false, false, false, false, false, false]) rfl) ?_
          exact e_X7_readNumber_214 hst hZ hn hs hx
        · refine mm_if_eq 212 dX7_readNumber_203 (by decide) (fun h => absurd h h32) (fun _ => ?_)
          refine mm_lload dX7_readNumber_206 rfl ?_
          refine mm_lneg dX7_readNumber_208 ?_
          refine mm_goto 214 dX7_readNumber_209 (by decide) ?_
          refine mm_fewer [none, none, none, none, none, none, none] (few_ok (bs := [false, false, false, false, false, false, false]) rfl) ?_
          exact e_X7_readNumber_214 hst hZ hn hs hx
    · refine mm_if_ne 199 dX7_readNumber_186 (by decide) (fun _ => ?_) (fun h => absurd h h28)
      refine mm_iconst (v := 0) dX7_readNumber_199 (by decide) ?_
      refine mm_iret dX7_readNumber_200 rfl rfl ?_ (by omega) (by omega)
      obtain ⟨rfl, rfl⟩ := fin2 hx
      exact ⟨rfl, rfl⟩
set_option maxHeartbeats 4000000 in
set_option maxRecDepth 100000 in
theorem e_X7_readNumber_36 {g : mm_G} {l : Launch} (hst : l.stackTraces = false) {Z : Nat → Nat → Option Nat} (hZ : HZ Z) {n : Nat} (hn : 1186 ≤ n) {z : Bool} {d : Nat} {U : Nat} {a : Nat} (hs : sh a = 7) {v1_ : Int32} {v2_ : Int32} {σ : SG} {r : Int32} {σ' : SG} (hx : x_X7_readNumber_36 U a v1_ v2_ σ = some (r, σ')) : mm_V g l RX7 "readNumber" cX7_readNumber 7 (some .boolean) [] (d + 1) 0 0 (mm_nt (fun v S' => v = some (.int r) ∧ S' = (mem Z σ', n, z))) 36 [some (.ref a), some (.int v1_), some (.int v2_), none, none, none, none] [] (mem Z σ, n, z) 0 0 := by
  unfold x_X7_readNumber_36 at hx
  refine mm_aload_n dX7_readNumber_36 rfl rfl ?_
  refine s_getI (r := some a) (b := a) (ci := 7) (k := 4) in_X7 rfl (by decide) rfl kF_X7_26 dX7_readNumber_37 rfl hs (by decide) hn (by decide) rfl ?_
  refine mm_istore_n [some (.ref a), some (.int v1_), some (.int v2_), some (.int (sI σ a 4)), none, none, none] dX7_readNumber_40 (by decide) rfl ?_
  refine mm_lconst (v := 0) dX7_readNumber_41 (by decide) ?_
  refine mm_lstore [some (.ref a), some (.int v1_), some (.int v2_), some (.int (sI σ a 4)), some (.long 0), none, none] dX7_readNumber_42 (by decide) rfl ?_
  refine e_X7_readNumber_L44 hst hZ hn hs ?_ _ _ _ hx
  · intro w21 σ22 hx
    exact e_X7_readNumber_164 hst hZ hn hs hx
set_option maxHeartbeats 4000000 in
set_option maxRecDepth 100000 in
theorem e_X7_readNumber_21 {g : mm_G} {l : Launch} (hst : l.stackTraces = false) {Z : Nat → Nat → Option Nat} (hZ : HZ Z) {n : Nat} (hn : 1186 ≤ n) {z : Bool} {d : Nat} {U : Nat} {a : Nat} (hs : sh a = 7) {v1_ : Int32} {s0_ : Int32} {σ : SG} {r : Int32} {σ' : SG} (hx : x_X7_readNumber_21 U a v1_ s0_ σ = some (r, σ')) : mm_V g l RX7 "readNumber" cX7_readNumber 7 (some .boolean) [] (d + 1) 0 0 (mm_nt (fun v S' => v = some (.int r) ∧ S' = (mem Z σ', n, z))) 21 [some (.ref a), some (.int v1_), none, none, none, none, none] [.int s0_] (mem Z σ, n, z) 0 0 := by
  unfold x_X7_readNumber_21 at hx
  refine mm_istore_n [some (.ref a), some (.int v1_), some (.int s0_), none, none, none, none] dX7_readNumber_21 (by decide) rfl ?_
  refine mm_iload_n dX7_readNumber_22 rfl ?_
  refine b_if hx (fun h4 hx => ?_) (fun h4 hx => ?_)
  · refine mm_if_eq 36 dX7_readNumber_23 (by decide) (fun _ => ?_) (fun h => absurd h4 h)
    exact e_X7_readNumber_36 hst hZ hn hs hx
  · refine mm_if_eq 36 dX7_readNumber_23 (by decide) (fun h => absurd h h4) (fun _ => ?_)
    refine mm_aload_n dX7_readNumber_26 rfl rfl ?_
    refine mm_dup dX7_readNumber_27 rfl ?_
    refine s_getI (r := some a) (b := a) (ci := 7) (k := 4) in_X7 rfl (by decide) rfl kF_X7_26 dX7_readNumber_28 rfl hs (by decide) hn (by decide) rfl ?_
    refine mm_iconst (v := 1) dX7_readNumber_31 (by decide) ?_
    refine mm_iadd dX7_readNumber_32 ?_
    refine s_putI (v := (sI σ a 4) + 1) (r := some a) (b := a) (ci := 7) (k := 4) in_X7 rfl (by decide) rfl tyX7_ok nmX7 rfl kF_X7_26 dX7_readNumber_33 (mm_fit_int _) rfl hs (by decide) hn (by decide) rfl hx (fun σ34 hx => ?_)
    exact e_X7_readNumber_36 hst hZ hn hs hx
set_option maxHeartbeats 4000000 in
set_option maxRecDepth 100000 in
theorem e_X7_readNumber {g : mm_G} {l : Launch} (hst : l.stackTraces = false) {Z : Nat → Nat → Option Nat} (hZ : HZ Z) {n : Nat} (hn : 1186 ≤ n) {z : Bool} {d : Nat} {U : Nat} {a : Nat} (hs : sh a = 7) {p0 : Int32} {σ : SG} {r : Int32} {σ' : SG} (hx : x_X7_readNumber U a p0 σ = some (r, σ')) : mm_Cm g l yX7_readNumber (.code yX7_readNumber cX7_readNumber 7 (some .boolean)) (d + 1) 0 0 [.ref a, .int p0] (mem Z σ, n, z) (fun v S' => v = some (.int r) ∧ S' = (mem Z σ', n, z)) := by
  refine mm_Cm_of hst (by decide) (Nat.le_of_ble_eq_true rfl) ?_
  show mm_V g l RX7 "readNumber" cX7_readNumber 7 (some .boolean) [] (d + 1) 0 0 (mm_nt (fun v S' => v = some (.int r) ∧ S' = (mem Z σ', n, z))) 0 [some (.ref a), some (.int p0), none, none, none, none, none] [] (mem Z σ, n, z) 0 0
  unfold x_X7_readNumber at hx
  refine mm_aload_n dX7_readNumber_0 rfl rfl ?_
  refine s_getS (q := 1) (r := some a) (b := a) (ci := 7) (k := 0) in_X7 rfl (by decide) rfl kF_X7_9 dX7_readNumber_1 rfl hs (by decide) hn (by decide) rfl rfl ?_
  refine mm_aload_n dX7_readNumber_4 rfl rfl ?_
  refine s_getI (r := some a) (b := a) (ci := 7) (k := 4) in_X7 rfl (by decide) rfl kF_X7_26 dX7_readNumber_5 rfl hs (by decide) hn (by decide) rfl ?_
  obtain ⟨v2, hc1, hx⟩ := b1_some hx
  refine mm_callV3 (a := 1) (ci := 0) wM_X0_at kM_X7_50 wI_X0_at wS_X0_at dX7_readNumber_8 (e_X0_at hst hZ hn sa_1 hc1) (mem_obj sa_1 (by decide)) (sh_ltn sa_1 (by decide) hn) rfl rfl rfl (Nat.le_of_ble_eq_true rfl) (by omega) (by omega) (fun v9 S9 hq => ?_)
  obtain ⟨rfl, rfl⟩ := hq
  refine ⟨fun h => ⟨h, rfl⟩, ?_⟩
  refine mm_bipush (v := 45) dX7_readNumber_11 (by decide) ?_
  refine b_if hx (fun h3 hx => ?_) (fun h3 hx => ?_)
  · refine mm_icmp_ne 20 dX7_readNumber_13 (by decide) (fun h => absurd h3 h) (fun _ => ?_)
    refine mm_iconst (v := 1) dX7_readNumber_16 (by decide) ?_
    refine mm_goto 21 dX7_readNumber_17 (by decide) ?_
    exact e_X7_readNumber_21 hst hZ hn hs hx
  · refine mm_icmp_ne 20 dX7_readNumber_13 (by decide) (fun _ => ?_) (fun h => absurd h h3)
    refine mm_iconst (v := 0) dX7_readNumber_20 (by decide) ?_
    exact e_X7_readNumber_21 hst hZ hn hs hx
set_option maxHeartbeats 4000000 in
set_option maxRecDepth 100000 in
theorem e_X7_readValue_84 {g : mm_G} {l : Launch} (hst : l.stackTraces = false) {Z : Nat → Nat → Option Nat} (hZ : HZ Z) {n : Nat} (hn : 1186 ≤ n) {z : Bool} {d : Nat} {U : Nat} {a : Nat} (hs : sh a = 7) {v1_ : Option Nat} {v3_ : Int32} {σ : SG} {r : Int32} {σ' : SG} (hx : x_X7_readValue_84 U a v1_ v3_ σ = some (r, σ')) : mm_V g l RX7 "readValue" cX7_readValue 4 (some .boolean) [] (d + 6) 0 0 (mm_nt (fun v S' => v = some (.int r) ∧ S' = (mem Z σ', n, z))) 84 [some (.ref a), some (va_rf v1_), none, some (.int v3_)] [] (mem Z σ, n, z) 0 0 := by
  unfold x_X7_readValue_84 at hx
  refine mm_aload_n dX7_readValue_84 rfl (isr_rf _) ?_
  refine mm_aload_n dX7_readValue_85 rfl rfl ?_
  refine s_getL (r := some a) (b := a) (ci := 7) (k := 6) in_X7 rfl (by decide) rfl kF_X7_122 dX7_readValue_86 rfl hs (by decide) hn (by decide) rfl ?_
  obtain ⟨q15, hr16, hs17, hx⟩ := ck_some hx
  refine s_putLN (v := sL σ a 6) (r := v1_) (b := q15) (ci := 4) (k := 4) in_X4 rfl (by decide) rfl tyX4_ok nmX4 rfl kF_X7_126 dX7_readValue_89 (mm_fit_long _) hr16 hs17 (by decide) hn (by decide) rfl hx (fun σ18 hx => ?_)
  refine mm_iload_n dX7_readValue_92 rfl ?_
  obtain ⟨hz19, hx⟩ := zb_some hx
  refine mm_iret dX7_readValue_93 rfl (zb_nar hz19) ?_ (by omega) (by omega)
  obtain ⟨rfl, rfl⟩ := fin2 hx
  exact ⟨rfl, rfl⟩
set_option maxHeartbeats 4000000 in
set_option maxRecDepth 100000 in
theorem e_X7_readValue_75 {g : mm_G} {l : Launch} (hst : l.stackTraces = false) {Z : Nat → Nat → Option Nat} (hZ : HZ Z) {n : Nat} (hn : 1186 ≤ n) {z : Bool} {d : Nat} {U : Nat} {a : Nat} (hs : sh a = 7) {v1_ : Option Nat} {v2_ : Option Nat} {σ : SG} {r : Int32} {σ' : SG} (hx : x_X7_readValue_75 U a v1_ v2_ σ = some (r, σ')) : mm_V g l RX7 "readValue" cX7_readValue 4 (some .boolean) [] (d + 6) 0 0 (mm_nt (fun v S' => v = some (.int r) ∧ S' = (mem Z σ', n, z))) 75 [some (.ref a), some (va_rf v1_), some (va_rf v2_), none] [] (mem Z σ, n, z) 0 0 := by
  unfold x_X7_readValue_75 at hx
  refine mm_aload_n dX7_readValue_75 rfl rfl ?_
  refine mm_aload_n dX7_readValue_76 rfl (isr_rf _) ?_
  obtain ⟨q26, hr27, hs28, hx⟩ := ck_some hx
  refine s_getIN (r := v2_) (b := q26) (ci := 3) (k := 8) in_X3 rfl (by decide) rfl kF_X7_86 dX7_readValue_77 hr27 hs28 (by decide) hn (by decide) rfl ?_
  obtain ⟨v30, σ31, hc29, hx⟩ := b2_some hx
  refine mm_callV3 (a := a) (ci := 7) wM_X7_readNumber kM_X7_119 wI_X7_readNumber wS_X7_readNumber dX7_readValue_80 (e_X7_readNumber hst hZ hn hs hc29) (mem_obj hs (by decide)) (sh_ltn hs (by decide) hn) rfl rfl rfl (Nat.le_of_ble_eq_true rfl) (by omega) (by omega) (fun v9 S9 hq => ?_)
  obtain ⟨rfl, rfl⟩ := hq
  refine ⟨fun h => ⟨h, rfl⟩, ?_⟩
  refine mm_istore_n [some (.ref a), some (va_rf v1_), some (va_rf v2_), some (.int v30)] dX7_readValue_83 (by decide) ((st1_o (r := v2_) rfl).trans rfl) ?_
  refine mm_fewer [some (.ref a), some (va_rf v1_), none, some (.int v30)] (few_ok (bs := [true, true, false, true]) rfl) ?_
  exact e_X7_readValue_84 hst hZ hn hs hx
set_option maxHeartbeats 4000000 in
set_option maxRecDepth 100000 in
theorem e_X7_readValue {g : mm_G} {l : Launch} (hst : l.stackTraces = false) {Z : Nat → Nat → Option Nat} (hZ : HZ Z) {n : Nat} (hn : 1186 ≤ n) {z : Bool} {d : Nat} {U : Nat} {a : Nat} (hs : sh a = 7) {p0 : Option Nat} {p1 : Option Nat} {σ : SG} {r : Int32} {σ' : SG} (hx : x_X7_readValue U a p0 p1 σ = some (r, σ')) : mm_Cm g l yX7_readValue (.code yX7_readValue cX7_readValue 4 (some .boolean)) (d + 6) 0 0 [.ref a, va_rf p0, va_rf p1] (mem Z σ, n, z) (fun v S' => v = some (.int r) ∧ S' = (mem Z σ', n, z)) := by
  refine mm_Cm_of hst (by decide) (by cases p0 <;> cases p1 <;>  exact Nat.le_of_ble_eq_true rfl) ?_
  rw [show mm_ent [.ref a, va_rf p0, va_rf p1] 4 = [some (.ref a), some (va_rf p0), some (va_rf p1), none] from by cases p0 <;> cases p1 <;>  rfl]
  show mm_V g l RX7 "readValue" cX7_readValue 4 (some .boolean) [] (d + 6) 0 0 (mm_nt (fun v S' => v = some (.int r) ∧ S' = (mem Z σ', n, z))) 0 [some (.ref a), some (va_rf p0), some (va_rf p1), none] [] (mem Z σ, n, z) 0 0
  unfold x_X7_readValue at hx
  refine mm_aload_n dX7_readValue_0 rfl (isr_rf _) ?_
  obtain ⟨q1, hr2, hs3, hx⟩ := ck_some hx
  refine s_getIN (r := p1) (b := q1) (ci := 3) (k := 8) in_X3 rfl (by decide) rfl kF_X7_86 dX7_readValue_1 hr2 hs3 (by decide) hn (by decide) rfl ?_
  obtain ⟨v5, hc4, hx⟩ := b1_some hx
  refine mm_callSN wM_X11_isNumeric kM_X7_101 wT_X11_isNumeric dX7_readValue_4 (e_X11_isNumeric hst hZ hn hc4) rfl rfl (Nat.le_of_ble_eq_true rfl) (by omega) (by omega) (fun v9 S9 hq => ?_)
  obtain ⟨rfl, rfl⟩ := hq
  refine ⟨fun h => ⟨h, rfl⟩, ?_⟩
  refine b_if hx (fun h6 hx => ?_) (fun h6 hx => ?_)
  · refine mm_if_ne 20 dX7_readValue_7 (by decide) (fun h => absurd h6 h) (fun _ => ?_)
    refine mm_aload_n dX7_readValue_10 rfl rfl ?_
    refine mm_aload_n dX7_readValue_11 rfl (isr_rf _) ?_
    refine mm_aload_n dX7_readValue_12 rfl (isr_rf _) ?_
    refine s_getIN (r := p1) (b := q1) (ci := 3) (k := 8) in_X3 rfl (by decide) rfl kF_X7_86 dX7_readValue_13 hr2 hs3 (by decide) hn (by decide) rfl ?_
    obtain ⟨v8, σ9, hc7, hx⟩ := b2_some hx
    refine mm_callV3 (a := a) (ci := 7) wM_X7_readText kM_X7_104 wI_X7_readText wS_X7_readText dX7_readValue_16 (e_X7_readText hst hZ hn hs hc7) (mem_obj hs (by decide)) (sh_ltn hs (by decide) hn) rfl rfl rfl (Nat.le_of_ble_eq_true rfl) (by omega) (by omega) (fun v9 S9 hq => ?_)
    obtain ⟨rfl, rfl⟩ := hq
    refine ⟨fun h => ⟨h, rfl⟩, ?_⟩
    obtain ⟨hz10, hx⟩ := zb_some hx
    refine mm_iret dX7_readValue_19 rfl (zb_nar hz10) ?_ (by omega) (by omega)
    obtain ⟨rfl, rfl⟩ := fin2 hx
    exact ⟨rfl, rfl⟩
  · refine mm_if_ne 20 dX7_readValue_7 (by decide) (fun _ => ?_) (fun h => absurd h h6)
    refine mm_aload_n dX7_readValue_20 rfl (isr_rf _) ?_
    refine s_getIN (r := p1) (b := q1) (ci := 3) (k := 8) in_X3 rfl (by decide) rfl kF_X7_86 dX7_readValue_21 hr2 hs3 (by decide) hn (by decide) rfl ?_
    refine mm_bipush (v := 10) dX7_readValue_24 (by decide) ?_
    refine b_if hx (fun h11 hx => ?_) (fun h11 hx => ?_)
    · refine mm_icmp_ne 37 dX7_readValue_26 (by decide) (fun h => absurd h11 h) (fun _ => ?_)
      refine mm_aload_n dX7_readValue_29 rfl rfl ?_
      obtain ⟨v13, σ14, hc12, hx⟩ := b2_some hx
      refine mm_callV3 (a := a) (ci := 7) wM_X7_readBool kM_X7_108 wI_X7_readBool wS_X7_readBool dX7_readValue_30 (e_X7_readBool hst hZ hn hs hc12) (mem_obj hs (by decide)) (sh_ltn hs (by decide) hn) rfl rfl rfl (Nat.le_of_ble_eq_true rfl) (by omega) (by omega) (fun v9 S9 hq => ?_)
      obtain ⟨rfl, rfl⟩ := hq
      refine ⟨fun h => ⟨h, rfl⟩, ?_⟩
      refine mm_istore_n [some (.ref a), some (va_rf p0), some (va_rf p1), some (.int v13)] dX7_readValue_33 (by decide) ((st1_o (r := p1) rfl).trans rfl) ?_
      refine mm_goto 84 dX7_readValue_34 (by decide) ?_
      refine mm_fewer [some (.ref a), some (va_rf p0), none, some (.int v13)] (few_ok (bs := [true, true, false, true]) rfl) ?_
      exact e_X7_readValue_84 hst hZ hn hs hx
    · refine mm_icmp_ne 37 dX7_readValue_26 (by decide) (fun _ => ?_) (fun h => absurd h h11)
      refine mm_aload_n dX7_readValue_37 rfl (isr_rf _) ?_
      refine s_getIN (r := p1) (b := q1) (ci := 3) (k := 8) in_X3 rfl (by decide) rfl kF_X7_86 dX7_readValue_38 hr2 hs3 (by decide) hn (by decide) rfl ?_
      refine mm_bipush (v := 14) dX7_readValue_41 (by decide) ?_
      refine b_if hx (fun h20 hx => ?_) (fun h20 hx => ?_)
      · refine mm_icmp_ne 75 dX7_readValue_43 (by decide) (fun h => absurd h20 h) (fun _ => ?_)
        refine mm_aload_n dX7_readValue_46 rfl rfl ?_
        refine s_getS (q := 1) (r := some a) (b := a) (ci := 7) (k := 0) in_X7 rfl (by decide) rfl kF_X7_9 dX7_readValue_47 rfl hs (by decide) hn (by decide) rfl rfl ?_
        refine mm_aload_n dX7_readValue_50 rfl rfl ?_
        refine s_getI (r := some a) (b := a) (ci := 7) (k := 4) in_X7 rfl (by decide) rfl kF_X7_26 dX7_readValue_51 rfl hs (by decide) hn (by decide) rfl ?_
        obtain ⟨v22, hc21, hx⟩ := b1_some hx
        refine mm_callV3 (a := 1) (ci := 0) wM_X0_at kM_X7_50 wI_X0_at wS_X0_at dX7_readValue_54 (e_X0_at hst hZ hn sa_1 hc21) (mem_obj sa_1 (by decide)) (sh_ltn sa_1 (by decide) hn) rfl rfl rfl (Nat.le_of_ble_eq_true rfl) (by omega) (by omega) (fun v9 S9 hq => ?_)
        obtain ⟨rfl, rfl⟩ := hq
        refine ⟨fun h => ⟨h, rfl⟩, ?_⟩
        obtain ⟨v24, hc23, hx⟩ := b1_some hx
        refine mm_callSN wM_X11_isLetter kM_X7_112 wT_X11_isLetter dX7_readValue_57 (e_X11_isLetter hst hZ hn hc23) rfl rfl (Nat.le_of_ble_eq_true rfl) (by omega) (by omega) (fun v9 S9 hq => ?_)
        obtain ⟨rfl, rfl⟩ := hq
        refine ⟨fun h => ⟨h, rfl⟩, ?_⟩
        refine b_if hx (fun h25 hx => ?_) (fun h25 hx => ?_)
        · refine mm_if_eq 75 dX7_readValue_60 (by decide) (fun _ => ?_) (fun h => absurd h25 h)
          exact e_X7_readValue_75 hst hZ hn hs hx
        · refine mm_if_eq 75 dX7_readValue_60 (by decide) (fun h => absurd h h25) (fun _ => ?_)
          refine mm_aload_n dX7_readValue_63 rfl rfl ?_
          refine mm_aload_n dX7_readValue_64 rfl (isr_rf _) ?_
          refine s_getPN (r := p1) (b := q1) (ci := 3) (k := 10) in_X3 rfl (by decide) rfl kF_X7_95 dX7_readValue_65 hr2 hs3 (by decide) hn (by decide) rfl ?_
          obtain ⟨v33, σ34, hc32, hx⟩ := b2_some hx
          refine mm_callV3 (a := a) (ci := 7) wM_X7_readEnumName kM_X7_115 wI_X7_readEnumName wS_X7_readEnumName dX7_readValue_68 (e_X7_readEnumName hst hZ hn hs hc32) (mem_obj hs (by decide)) (sh_ltn hs (by decide) hn) rfl rfl rfl (Nat.le_of_ble_eq_true rfl) (by omega) (by omega) (fun v9 S9 hq => ?_)
          obtain ⟨rfl, rfl⟩ := hq
          refine ⟨fun h => ⟨h, rfl⟩, ?_⟩
          refine mm_istore_n [some (.ref a), some (va_rf p0), some (va_rf p1), some (.int v33)] dX7_readValue_71 (by decide) ((st1_o (r := p1) rfl).trans rfl) ?_
          refine mm_goto 84 dX7_readValue_72 (by decide) ?_
          refine mm_fewer [some (.ref a), some (va_rf p0), none, some (.int v33)] (few_ok (bs := [true, true, false, true]) rfl) ?_
          exact e_X7_readValue_84 hst hZ hn hs hx
      · refine mm_icmp_ne 75 dX7_readValue_43 (by decide) (fun _ => ?_) (fun h => absurd h h20)
        exact e_X7_readValue_75 hst hZ hn hs hx
set_option maxHeartbeats 4000000 in
set_option maxRecDepth 100000 in
theorem e_X7_readField_99 {g : mm_G} {l : Launch} (hst : l.stackTraces = false) {Z : Nat → Nat → Option Nat} (hZ : HZ Z) {n : Nat} (hn : 1186 ≤ n) {z : Bool} {d : Nat} {U : Nat} {rc : Option Nat → Option Nat → Int32 → SG → Option (Int32 × SG)} {a : Nat} (hs : sh a = 7) (hrc : ∀ (y0 : Option Nat) (y1 : Option Nat) (y2 : Int32) (σ : SG) (r : Int32) (σ' : SG), rc y0 y1 y2 σ = some (r, σ') → mm_Cm g l yX7_readMessage (.code yX7_readMessage cX7_readMessage 6 (some .boolean)) (d + 14) 0 0 [.ref a, va_rf y0, va_rf y1, .int y2] (mem Z σ, n, z) (fun v S' => v = some (.int r) ∧ S' = (mem Z σ', n, z))) {v1_ : Option Nat} {v3_ : Int32} {v5_ : Option Nat} {s0_ : Int32} {s1_ : Int32} {σ : SG} {r : Int32} {σ' : SG} (hx : x_X7_readField_99 U rc a v1_ v3_ v5_ s0_ s1_ σ = some (r, σ')) : mm_V g l RX7 "readField" cX7_readField 7 (some .boolean) [] (d + 15) 0 0 (mm_nt (fun v S' => v = some (.int r) ∧ S' = (mem Z σ', n, z))) 99 [some (.ref a), some (va_rf v1_), none, some (.int v3_), none, some (va_rf v5_), none] [.int s0_, .int s1_] (mem Z σ, n, z) 0 0 := by
  unfold x_X7_readField_99 at hx
  refine b_if hx (fun h16 hx => ?_) (fun h16 hx => ?_)
  · refine mm_icmp_eq 104 dX7_readField_99 (by decide) (fun _ => ?_) (fun h => absurd h16 h)
    refine mm_aload_n dX7_readField_104 rfl rfl ?_
    refine mm_dup dX7_readField_105 rfl ?_
    refine s_getI (r := some a) (b := a) (ci := 7) (k := 4) in_X7 rfl (by decide) rfl kF_X7_26 dX7_readField_106 rfl hs (by decide) hn (by decide) rfl ?_
    refine mm_iconst (v := 1) dX7_readField_109 (by decide) ?_
    refine mm_iadd dX7_readField_110 ?_
    refine s_putI (v := (sI σ a 4) + 1) (r := some a) (b := a) (ci := 7) (k := 4) in_X7 rfl (by decide) rfl tyX7_ok nmX7 rfl kF_X7_26 dX7_readField_111 (mm_fit_int _) rfl hs (by decide) hn (by decide) rfl hx (fun σ17 hx => ?_)
    refine mm_aload_n dX7_readField_114 rfl rfl ?_
    refine s_getS (q := 389) (r := some a) (b := a) (ci := 7) (k := 1) in_X7 rfl (by decide) rfl kF_X7_15 dX7_readField_115 rfl hs (by decide) hn (by decide) rfl rfl ?_
    refine mm_aload_n dX7_readField_118 rfl (isr_rf _) ?_
    refine mm_aload dX7_readField_119 rfl (isr_rf _) ?_
    obtain ⟨v19, σ20, hc18, hx⟩ := b2_some hx
    refine mm_callV3 (a := 389) (ci := 8) wM_X8_put kM_X7_91 wI_X8_put wS_X8_put dX7_readField_121 (e_X8_put hst hZ hn sa_389 hc18) (mem_obj sa_389 (by decide)) (sh_ltn sa_389 (by decide) hn) rfl rfl rfl (Nat.le_of_ble_eq_true rfl) (by omega) (by omega) (fun v9 S9 hq => ?_)
    obtain ⟨rfl, rfl⟩ := hq
    refine ⟨fun h => ⟨h, rfl⟩, ?_⟩
    refine mm_astore [some (.ref a), some (va_rf v1_), none, some (.int v3_), none, some (va_rf v5_), some (va_rf v19)] dX7_readField_124 (by decide) (isr_rf _) ((st1_o (r := v5_) rfl).trans rfl) ?_
    refine mm_aload dX7_readField_126 rfl (isr_rf _) ?_
    refine b_if hx (fun h21 hx => ?_) (fun h21 hx => ?_)
    · refine mm_ifnonnull (r := v19) 133 dX7_readField_128 (by decide) (fun h => absurd h21 h) (fun _ => ?_)
      refine mm_iconst (v := 0) dX7_readField_131 (by decide) ?_
      refine mm_iret dX7_readField_132 rfl rfl ?_ (by omega) (by omega)
      obtain ⟨rfl, rfl⟩ := fin2 hx
      exact ⟨rfl, rfl⟩
    · refine mm_ifnonnull (r := v19) 133 dX7_readField_128 (by decide) (fun _ => ?_) (fun h => absurd h h21)
      refine mm_aload dX7_readField_133 rfl (isr_rf _) ?_
      obtain ⟨q22, hr23, hs24, hx⟩ := ck_some hx
      refine s_getIN (r := v5_) (b := q22) (ci := 3) (k := 8) in_X3 rfl (by decide) rfl kF_X7_86 dX7_readField_135 hr23 hs24 (by decide) hn (by decide) rfl ?_
      refine mm_bipush (v := 13) dX7_readField_138 (by decide) ?_
      refine b_if hx (fun h25 hx => ?_) (fun h25 hx => ?_)
      · refine mm_icmp_ne 158 dX7_readField_140 (by decide) (fun h => absurd h25 h) (fun _ => ?_)
        refine mm_aload_n dX7_readField_143 rfl rfl ?_
        refine mm_aload dX7_readField_144 rfl (isr_rf _) ?_
        refine mm_aload dX7_readField_146 rfl (isr_rf _) ?_
        refine s_getPN (r := v5_) (b := q22) (ci := 3) (k := 10) in_X3 rfl (by decide) rfl kF_X7_95 dX7_readField_148 hr23 hs24 (by decide) hn (by decide) rfl ?_
        refine mm_iload_n dX7_readField_151 rfl ?_
        refine mm_iconst (v := 1) dX7_readField_152 (by decide) ?_
        refine mm_iadd dX7_readField_153 ?_
        obtain ⟨v27, σ28, hc26, hx⟩ := b2_some hx
        refine mm_callV3 (a := a) (ci := 7) wM_X7_readMessage kM_X7_43 wI_X7_readMessage wS_X7_readMessage dX7_readField_154 (hrc _ _ _ _ _ _ hc26) (mem_obj hs (by decide)) (sh_ltn hs (by decide) hn) rfl rfl rfl (Nat.le_of_ble_eq_true rfl) (by omega) (by omega) (fun v9 S9 hq => ?_)
        obtain ⟨rfl, rfl⟩ := hq
        refine ⟨fun h => ⟨h, rfl⟩, ?_⟩
        obtain ⟨hz29, hx⟩ := zb_some hx
        refine mm_iret dX7_readField_157 rfl (zb_nar hz29) ?_ (by omega) (by omega)
        obtain ⟨rfl, rfl⟩ := fin2 hx
        exact ⟨rfl, rfl⟩
      · refine mm_icmp_ne 158 dX7_readField_140 (by decide) (fun _ => ?_) (fun h => absurd h h25)
        refine mm_aload_n dX7_readField_158 rfl rfl ?_
        obtain ⟨σ31, hc30, hx⟩ := b1_some hx
        refine mm_callV3 (a := a) (ci := 7) wM_X7_skipBlanks kM_X7_47 wI_X7_skipBlanks wS_X7_skipBlanks dX7_readField_159 (e_X7_skipBlanks hst hZ hn hs hc30) (mem_obj hs (by decide)) (sh_ltn hs (by decide) hn) rfl rfl rfl (Nat.le_of_ble_eq_true rfl) (by omega) (by omega) (fun v9 S9 hq => ?_)
        obtain ⟨rfl, rfl⟩ := hq
        refine ⟨fun h => ⟨h, rfl⟩, ?_⟩
        refine mm_aload_n dX7_readField_162 rfl rfl ?_
        refine mm_aload dX7_readField_163 rfl (isr_rf _) ?_
        refine mm_aload dX7_readField_165 rfl (isr_rf _) ?_
        obtain ⟨v33, σ34, hc32, hx⟩ := b2_some hx
        refine mm_callV3 (a := a) (ci := 7) wM_X7_readValue kM_X7_98 wI_X7_readValue wS_X7_readValue dX7_readField_167 (e_X7_readValue hst hZ hn hs hc32) (mem_obj hs (by decide)) (sh_ltn hs (by decide) hn) rfl rfl rfl (Nat.le_of_ble_eq_true rfl) (by omega) (by omega) (fun v9 S9 hq => ?_)
        obtain ⟨rfl, rfl⟩ := hq
        refine ⟨fun h => ⟨h, rfl⟩, ?_⟩
        obtain ⟨hz35, hx⟩ := zb_some hx
        refine mm_iret dX7_readField_170 rfl (zb_nar hz35) ?_ (by omega) (by omega)
        obtain ⟨rfl, rfl⟩ := fin2 hx
        exact ⟨rfl, rfl⟩
  · refine mm_icmp_eq 104 dX7_readField_99 (by decide) (fun h => absurd h h16) (fun _ => ?_)
    refine mm_iconst (v := 0) dX7_readField_102 (by decide) ?_
    refine mm_iret dX7_readField_103 rfl rfl ?_ (by omega) (by omega)
    obtain ⟨rfl, rfl⟩ := fin2 hx
    exact ⟨rfl, rfl⟩
set_option maxHeartbeats 4000000 in
set_option maxRecDepth 100000 in
theorem e_X7_readField_45 {g : mm_G} {l : Launch} (hst : l.stackTraces = false) {Z : Nat → Nat → Option Nat} (hZ : HZ Z) {n : Nat} (hn : 1186 ≤ n) {z : Bool} {d : Nat} {U : Nat} {rc : Option Nat → Option Nat → Int32 → SG → Option (Int32 × SG)} {a : Nat} (hs : sh a = 7) (hrc : ∀ (y0 : Option Nat) (y1 : Option Nat) (y2 : Int32) (σ : SG) (r : Int32) (σ' : SG), rc y0 y1 y2 σ = some (r, σ') → mm_Cm g l yX7_readMessage (.code yX7_readMessage cX7_readMessage 6 (some .boolean)) (d + 14) 0 0 [.ref a, va_rf y0, va_rf y1, .int y2] (mem Z σ, n, z) (fun v S' => v = some (.int r) ∧ S' = (mem Z σ', n, z))) {v1_ : Option Nat} {v3_ : Int32} {s0_ : Option Nat} {σ : SG} {r : Int32} {σ' : SG} (hx : x_X7_readField_45 U rc a v1_ v3_ s0_ σ = some (r, σ')) : mm_V g l RX7 "readField" cX7_readField 7 (some .boolean) [] (d + 15) 0 0 (mm_nt (fun v S' => v = some (.int r) ∧ S' = (mem Z σ', n, z))) 45 [some (.ref a), some (va_rf v1_), none, some (.int v3_), none, none, none] [va_rf s0_] (mem Z σ, n, z) 0 0 := by
  unfold x_X7_readField_45 at hx
  refine mm_astore [some (.ref a), some (va_rf v1_), none, some (.int v3_), none, some (va_rf s0_), none] dX7_readField_45 (by decide) (isr_rf _) rfl ?_
  refine mm_aload dX7_readField_47 rfl (isr_rf _) ?_
  refine b_if hx (fun h4 hx => ?_) (fun h4 hx => ?_)
  · refine mm_ifnull (r := s0_) 65 dX7_readField_49 (by decide) (fun _ => ?_) (fun h => absurd h4 h)
    refine mm_iconst (v := 0) dX7_readField_65 (by decide) ?_
    refine mm_iret dX7_readField_66 rfl rfl ?_ (by omega) (by omega)
    obtain ⟨rfl, rfl⟩ := fin2 hx
    exact ⟨rfl, rfl⟩
  · refine mm_ifnull (r := s0_) 65 dX7_readField_49 (by decide) (fun h => absurd h h4) (fun _ => ?_)
    refine mm_aload_n dX7_readField_52 rfl rfl ?_
    refine s_getS (q := 389) (r := some a) (b := a) (ci := 7) (k := 1) in_X7 rfl (by decide) rfl kF_X7_15 dX7_readField_53 rfl hs (by decide) hn (by decide) rfl rfl ?_
    refine mm_aload_n dX7_readField_56 rfl (isr_rf _) ?_
    refine mm_aload dX7_readField_57 rfl (isr_rf _) ?_
    obtain ⟨v6, hc5, hx⟩ := b1_some hx
    refine mm_callV3 (a := 389) (ci := 8) wM_X8_isTaken kM_X7_82 wI_X8_isTaken wS_X8_isTaken dX7_readField_59 (e_X8_isTaken hst hZ hn sa_389 hc5) (mem_obj sa_389 (by decide)) (sh_ltn sa_389 (by decide) hn) rfl rfl rfl (Nat.le_of_ble_eq_true rfl) (by omega) (by omega) (fun v9 S9 hq => ?_)
    obtain ⟨rfl, rfl⟩ := hq
    refine ⟨fun h => ⟨h, rfl⟩, ?_⟩
    refine b_if hx (fun h7 hx => ?_) (fun h7 hx => ?_)
    · refine mm_if_eq 67 dX7_readField_62 (by decide) (fun _ => ?_) (fun h => absurd h7 h)
      refine mm_aload_n dX7_readField_67 rfl rfl ?_
      obtain ⟨σ9, hc8, hx⟩ := b1_some hx
      refine mm_callV3 (a := a) (ci := 7) wM_X7_skipBlanks kM_X7_47 wI_X7_skipBlanks wS_X7_skipBlanks dX7_readField_68 (e_X7_skipBlanks hst hZ hn hs hc8) (mem_obj hs (by decide)) (sh_ltn hs (by decide) hn) rfl rfl rfl (Nat.le_of_ble_eq_true rfl) (by omega) (by omega) (fun v9 S9 hq => ?_)
      obtain ⟨rfl, rfl⟩ := hq
      refine ⟨fun h => ⟨h, rfl⟩, ?_⟩
      refine mm_aload_n dX7_readField_71 rfl rfl ?_
      refine s_getS (q := 1) (r := some a) (b := a) (ci := 7) (k := 0) in_X7 rfl (by decide) rfl kF_X7_9 dX7_readField_72 rfl hs (by decide) hn (by decide) rfl rfl ?_
      refine mm_aload_n dX7_readField_75 rfl rfl ?_
      refine s_getI (r := some a) (b := a) (ci := 7) (k := 4) in_X7 rfl (by decide) rfl kF_X7_26 dX7_readField_76 rfl hs (by decide) hn (by decide) rfl ?_
      obtain ⟨v11, hc10, hx⟩ := b1_some hx
      refine mm_callV3 (a := 1) (ci := 0) wM_X0_at kM_X7_50 wI_X0_at wS_X0_at dX7_readField_79 (e_X0_at hst hZ hn sa_1 hc10) (mem_obj sa_1 (by decide)) (sh_ltn sa_1 (by decide) hn) rfl rfl rfl (Nat.le_of_ble_eq_true rfl) (by omega) (by omega) (fun v9 S9 hq => ?_)
      obtain ⟨rfl, rfl⟩ := hq
      refine ⟨fun h => ⟨h, rfl⟩, ?_⟩
      refine mm_aload dX7_readField_82 rfl (isr_rf _) ?_
      obtain ⟨q12, hr13, hs14, hx⟩ := ck_some hx
      refine s_getIN (r := s0_) (b := q12) (ci := 3) (k := 8) in_X3 rfl (by decide) rfl kF_X7_86 dX7_readField_84 hr13 hs14 (by decide) hn (by decide) rfl ?_
      refine mm_bipush (v := 13) dX7_readField_87 (by decide) ?_
      refine b_if hx (fun h15 hx => ?_) (fun h15 hx => ?_)
      · refine mm_icmp_ne 97 dX7_readField_89 (by decide) (fun h => absurd h15 h) (fun _ => ?_)
        refine mm_bipush (v := 123) dX7_readField_92 (by decide) ?_
        refine mm_goto 99 dX7_readField_94 (by decide) ?_
        exact e_X7_readField_99 hst hZ hn hs hrc hx
      · refine mm_icmp_ne 97 dX7_readField_89 (by decide) (fun _ => ?_) (fun h => absurd h h15)
        refine mm_bipush (v := 58) dX7_readField_97 (by decide) ?_
        exact e_X7_readField_99 hst hZ hn hs hrc hx
    · refine mm_if_eq 67 dX7_readField_62 (by decide) (fun h => absurd h h7) (fun _ => ?_)
      refine mm_iconst (v := 0) dX7_readField_65 (by decide) ?_
      refine mm_iret dX7_readField_66 rfl rfl ?_ (by omega) (by omega)
      obtain ⟨rfl, rfl⟩ := fin2 hx
      exact ⟨rfl, rfl⟩
set_option maxHeartbeats 4000000 in
set_option maxRecDepth 100000 in
theorem e_X7_readField {g : mm_G} {l : Launch} (hst : l.stackTraces = false) {Z : Nat → Nat → Option Nat} (hZ : HZ Z) {n : Nat} (hn : 1186 ≤ n) {z : Bool} {d : Nat} {U : Nat} {rc : Option Nat → Option Nat → Int32 → SG → Option (Int32 × SG)} {a : Nat} (hs : sh a = 7) (hrc : ∀ (y0 : Option Nat) (y1 : Option Nat) (y2 : Int32) (σ : SG) (r : Int32) (σ' : SG), rc y0 y1 y2 σ = some (r, σ') → mm_Cm g l yX7_readMessage (.code yX7_readMessage cX7_readMessage 6 (some .boolean)) (d + 14) 0 0 [.ref a, va_rf y0, va_rf y1, .int y2] (mem Z σ, n, z) (fun v S' => v = some (.int r) ∧ S' = (mem Z σ', n, z))) {p0 : Option Nat} {p1 : Option Nat} {p2 : Int32} {σ : SG} {r : Int32} {σ' : SG} (hx : x_X7_readField U rc a p0 p1 p2 σ = some (r, σ')) : mm_Cm g l yX7_readField (.code yX7_readField cX7_readField 7 (some .boolean)) (d + 15) 0 0 [.ref a, va_rf p0, va_rf p1, .int p2] (mem Z σ, n, z) (fun v S' => v = some (.int r) ∧ S' = (mem Z σ', n, z)) := by
  refine mm_Cm_of hst (by decide) (by cases p0 <;> cases p1 <;>  exact Nat.le_of_ble_eq_true rfl) ?_
  rw [show mm_ent [.ref a, va_rf p0, va_rf p1, .int p2] 7 = [some (.ref a), some (va_rf p0), some (va_rf p1), some (.int p2), none, none, none] from by cases p0 <;> cases p1 <;>  rfl]
  show mm_V g l RX7 "readField" cX7_readField 7 (some .boolean) [] (d + 15) 0 0 (mm_nt (fun v S' => v = some (.int r) ∧ S' = (mem Z σ', n, z))) 0 [some (.ref a), some (va_rf p0), some (va_rf p1), some (.int p2), none, none, none] [] (mem Z σ, n, z) 0 0
  unfold x_X7_readField at hx
  refine mm_aload_n dX7_readField_0 rfl rfl ?_
  refine s_getI (r := some a) (b := a) (ci := 7) (k := 4) in_X7 rfl (by decide) rfl kF_X7_26 dX7_readField_1 rfl hs (by decide) hn (by decide) rfl ?_
  refine mm_istore [some (.ref a), some (va_rf p0), some (va_rf p1), some (.int p2), some (.int (sI σ a 4)), none, none] dX7_readField_4 (by decide) rfl ?_
  refine mm_aload_n dX7_readField_6 rfl rfl ?_
  obtain ⟨σ2, hc1, hx⟩ := b1_some hx
  refine mm_callV3 (a := a) (ci := 7) wM_X7_skipWord kM_X7_69 wI_X7_skipWord wS_X7_skipWord dX7_readField_7 (e_X7_skipWord hst hZ hn hs hc1) (mem_obj hs (by decide)) (sh_ltn hs (by decide) hn) rfl rfl rfl (Nat.le_of_ble_eq_true rfl) (by omega) (by omega) (fun v9 S9 hq => ?_)
  obtain ⟨rfl, rfl⟩ := hq
  refine ⟨fun h => ⟨h, rfl⟩, ?_⟩
  refine mm_aload_n dX7_readField_10 rfl rfl ?_
  refine s_getS (q := 389) (r := some a) (b := a) (ci := 7) (k := 1) in_X7 rfl (by decide) rfl kF_X7_15 dX7_readField_11 rfl hs (by decide) hn (by decide) rfl rfl ?_
  refine s_getPN (r := some 389) (b := 389) (ci := 8) (k := 4) in_X8 rfl (by decide) rfl kF_X7_72 dX7_readField_14 rfl sa_389 (by decide) hn (by decide) rfl ?_
  refine b_if hx (fun h3 hx => ?_) (fun h3 hx => ?_)
  · refine mm_ifnonnull (r := sP σ2 389 4) 24 dX7_readField_17 (by decide) (fun h => absurd h3 h) (fun _ => ?_)
    refine mm_null dX7_readField_20 ?_
    refine mm_goto 45 dX7_readField_21 (by decide) ?_
    refine mm_fewer [some (.ref a), some (va_rf p0), none, some (.int p2), none, none, none] (few_ok (bs := [true, true, false, true, false, false, false]) rfl) ?_
    exact e_X7_readField_45 hst hZ hn hs hrc hx
  · refine mm_ifnonnull (r := sP σ2 389 4) 24 dX7_readField_17 (by decide) (fun _ => ?_) (fun h => absurd h h3)
    refine mm_aload_n dX7_readField_24 rfl rfl ?_
    refine s_getS (q := 389) (r := some a) (b := a) (ci := 7) (k := 1) in_X7 rfl (by decide) rfl kF_X7_15 dX7_readField_25 rfl hs (by decide) hn (by decide) rfl rfl ?_
    refine s_getPN (r := some 389) (b := 389) (ci := 8) (k := 4) in_X8 rfl (by decide) rfl kF_X7_72 dX7_readField_28 rfl sa_389 (by decide) hn (by decide) rfl ?_
    refine mm_aload_n dX7_readField_31 rfl (isr_rf _) ?_
    refine mm_aload_n dX7_readField_32 rfl rfl ?_
    refine s_getS (q := 1) (r := some a) (b := a) (ci := 7) (k := 0) in_X7 rfl (by decide) rfl kF_X7_9 dX7_readField_33 rfl hs (by decide) hn (by decide) rfl rfl ?_
    refine mm_iload dX7_readField_36 rfl ?_
    refine mm_aload_n dX7_readField_38 rfl rfl ?_
    refine s_getI (r := some a) (b := a) (ci := 7) (k := 4) in_X7 rfl (by decide) rfl kF_X7_26 dX7_readField_39 rfl hs (by decide) hn (by decide) rfl ?_
    obtain ⟨q36, hr37, hs38, hx⟩ := ck_some hx
    obtain ⟨v40, hc39, hx⟩ := b1_some hx
    refine mm_callV3 (a := q36) (ci := 6) wM_X6_memberCalled kM_X7_76 wI_X6_memberCalled wS_X6_memberCalled dX7_readField_42 (e_X6_memberCalled hst hZ hn hs38 hc39) (mem_obj hs38 (by decide)) (sh_ltn hs38 (by decide) hn) rfl rfl (by rw [hr37]; rfl) (Nat.le_of_ble_eq_true rfl) (by omega) (by omega) (fun v9 S9 hq => ?_)
    obtain ⟨rfl, rfl⟩ := hq
    refine ⟨fun h => ⟨h, rfl⟩, ?_⟩
    refine mm_fewer [some (.ref a), some (va_rf p0), none, some (.int p2), none, none, none] (few_ok (bs := [true, true, false, true, false, false, false]) rfl) ?_
    exact e_X7_readField_45 hst hZ hn hs hrc hx
set_option maxHeartbeats 4000000 in
set_option maxRecDepth 100000 in
theorem e_X7_readMessage_L17 {g : mm_G} {l : Launch} (hst : l.stackTraces = false) {Z : Nat → Nat → Option Nat} (hZ : HZ Z) {n : Nat} (hn : 1186 ≤ n) {z : Bool} {d : Nat} {U : Nat} {rc : Option Nat → Option Nat → Int32 → SG → Option (Int32 × SG)} {a : Nat} (hs : sh a = 7) (hrc : ∀ (y0 : Option Nat) (y1 : Option Nat) (y2 : Int32) (σ : SG) (r : Int32) (σ' : SG), rc y0 y1 y2 σ = some (r, σ') → mm_Cm g l yX7_readMessage (.code yX7_readMessage cX7_readMessage 6 (some .boolean)) (d + 14) 0 0 [.ref a, va_rf y0, va_rf y1, .int y2] (mem Z σ, n, z) (fun v S' => v = some (.int r) ∧ S' = (mem Z σ', n, z))) {k47 : SG → Option (Int32 × SG)} {k65 : SG → Option (Int32 × SG)} {v1_ : Option Nat} {v2_ : Option Nat} {v3_ : Int32} {r : Int32} {σ' : SG} (hk47 : ∀ (σ8 : SG), k47 σ8 = some (r, σ') → mm_V g l RX7 "readMessage" cX7_readMessage 6 (some .boolean) [] (d + 16) 0 0 (mm_nt (fun v S' => v = some (.int r) ∧ S' = (mem Z σ', n, z))) 47 [none, none, none, some (.int v3_), none, none] [] (mem Z σ8, n, z) 0 0) (hk65 : ∀ (σ8 : SG), k65 σ8 = some (r, σ') → mm_V g l RX7 "readMessage" cX7_readMessage 6 (some .boolean) [] (d + 16) 0 0 (mm_nt (fun v S' => v = some (.int r) ∧ S' = (mem Z σ', n, z))) 65 [some (.ref a), none, none, some (.int v3_), none, none] [] (mem Z σ8, n, z) 0 0) : ∀ (U1 : Nat) (v4_ : Int32) (σ : SG), x_X7_readMessage_L17 U rc a k47 k65 v1_ v2_ v3_ U1 v4_ σ = some (r, σ') → mm_V g l RX7 "readMessage" cX7_readMessage 6 (some .boolean) [] (d + 16) 0 0 (mm_nt (fun v S' => v = some (.int r) ∧ S' = (mem Z σ', n, z))) 17 [some (.ref a), some (va_rf v1_), some (va_rf v2_), some (.int v3_), some (.int v4_), none] [] (mem Z σ, n, z) 0 0 := by
  intro U1
  induction U1 with
  | zero => intro v4_ σ hx; exact absurd hx (by simp [x_X7_readMessage_L17])
  | succ U1 ih =>
    intro v4_ σ hx
    rw [x_X7_readMessage_L17] at hx
    refine mm_iload dX7_readMessage_17 rfl ?_
    refine mm_sipush (v := 700) dX7_readMessage_19 (by decide) ?_
    refine b_if hx (fun h3 hx => ?_) (fun h3 hx => ?_)
    · refine mm_icmp_gt 104 dX7_readMessage_22 (by decide) (fun _ => ?_) (fun h => absurd h3 h)
      refine mm_iconst (v := 0) dX7_readMessage_104 (by decide) ?_
      refine mm_iret dX7_readMessage_105 rfl rfl ?_ (by omega) (by omega)
      obtain ⟨rfl, rfl⟩ := fin2 hx
      exact ⟨rfl, rfl⟩
    · refine mm_icmp_gt 104 dX7_readMessage_22 (by decide) (fun h => absurd h h3) (fun _ => ?_)
      refine mm_aload_n dX7_readMessage_25 rfl rfl ?_
      obtain ⟨σ5, hc4, hx⟩ := b1_some hx
      refine mm_callV3 (a := a) (ci := 7) wM_X7_skipBlanks kM_X7_47 wI_X7_skipBlanks wS_X7_skipBlanks dX7_readMessage_26 (e_X7_skipBlanks hst hZ hn hs hc4) (mem_obj hs (by decide)) (sh_ltn hs (by decide) hn) rfl rfl rfl (Nat.le_of_ble_eq_true rfl) (by omega) (by omega) (fun v9 S9 hq => ?_)
      obtain ⟨rfl, rfl⟩ := hq
      refine ⟨fun h => ⟨h, rfl⟩, ?_⟩
      refine mm_aload_n dX7_readMessage_29 rfl rfl ?_
      refine s_getS (q := 1) (r := some a) (b := a) (ci := 7) (k := 0) in_X7 rfl (by decide) rfl kF_X7_9 dX7_readMessage_30 rfl hs (by decide) hn (by decide) rfl rfl ?_
      refine mm_aload_n dX7_readMessage_33 rfl rfl ?_
      refine s_getI (r := some a) (b := a) (ci := 7) (k := 4) in_X7 rfl (by decide) rfl kF_X7_26 dX7_readMessage_34 rfl hs (by decide) hn (by decide) rfl ?_
      obtain ⟨v7, hc6, hx⟩ := b1_some hx
      refine mm_callV3 (a := 1) (ci := 0) wM_X0_at kM_X7_50 wI_X0_at wS_X0_at dX7_readMessage_37 (e_X0_at hst hZ hn sa_1 hc6) (mem_obj sa_1 (by decide)) (sh_ltn sa_1 (by decide) hn) rfl rfl rfl (Nat.le_of_ble_eq_true rfl) (by omega) (by omega) (fun v9 S9 hq => ?_)
      obtain ⟨rfl, rfl⟩ := hq
      refine ⟨fun h => ⟨h, rfl⟩, ?_⟩
      refine mm_istore [some (.ref a), some (va_rf v1_), some (va_rf v2_), some (.int v3_), some (.int v4_), some (.int v7)] dX7_readMessage_40 (by decide) rfl ?_
      refine mm_iload dX7_readMessage_42 rfl ?_
      refine b_if hx (fun h8 hx => ?_) (fun h8 hx => ?_)
      · refine mm_if_ge 58 dX7_readMessage_44 (by decide) (fun h => absurd h (Int32.not_le.mpr h8)) (fun _ => ?_)
        refine mm_fewer [none, none, none, some (.int v3_), none, none] (few_ok (bs := [false, false, false, true, false, false]) rfl) ?_
        exact hk47  _ hx
      · refine mm_if_ge 58 dX7_readMessage_44 (by decide) (fun _ => ?_) (fun h => absurd (Int32.not_lt.mp h8) h)
        refine mm_iload dX7_readMessage_58 rfl ?_
        refine mm_bipush (v := 125) dX7_readMessage_60 (by decide) ?_
        refine b_if hx (fun h9 hx => ?_) (fun h9 hx => ?_)
        · refine mm_icmp_ne 86 dX7_readMessage_62 (by decide) (fun h => absurd h9 h) (fun _ => ?_)
          refine mm_fewer [some (.ref a), none, none, some (.int v3_), none, none] (few_ok (bs := [true, false, false, true, false, false]) rfl) ?_
          exact hk65  _ hx
        · refine mm_icmp_ne 86 dX7_readMessage_62 (by decide) (fun _ => ?_) (fun h => absurd h h9)
          refine mm_aload_n dX7_readMessage_86 rfl rfl ?_
          refine mm_aload_n dX7_readMessage_87 rfl (isr_rf _) ?_
          refine mm_aload_n dX7_readMessage_88 rfl (isr_rf _) ?_
          refine mm_iload_n dX7_readMessage_89 rfl ?_
          obtain ⟨v11, σ12, hc10, hx⟩ := b2_some hx
          refine mm_callV3 (a := a) (ci := 7) wM_X7_readField kM_X7_55 wI_X7_readField wS_X7_readField dX7_readMessage_90 (e_X7_readField hst hZ hn hs hrc hc10) (mem_obj hs (by decide)) (sh_ltn hs (by decide) hn) rfl rfl rfl (Nat.le_of_ble_eq_true rfl) (by omega) (by omega) (fun v9 S9 hq => ?_)
          obtain ⟨rfl, rfl⟩ := hq
          refine ⟨fun h => ⟨h, rfl⟩, ?_⟩
          refine b_if hx (fun h13 hx => ?_) (fun h13 hx => ?_)
          · refine mm_if_ne 98 dX7_readMessage_93 (by decide) (fun h => absurd h13 h) (fun _ => ?_)
            refine mm_iconst (v := 0) dX7_readMessage_96 (by decide) ?_
            refine mm_iret dX7_readMessage_97 rfl rfl ?_ (by omega) (by omega)
            obtain ⟨rfl, rfl⟩ := fin2 hx
            exact ⟨rfl, rfl⟩
          · refine mm_if_ne 98 dX7_readMessage_93 (by decide) (fun _ => ?_) (fun h => absurd h h13)
            refine mm_iinc (v := v4_ + 1) [some (.ref a), some (va_rf v1_), some (va_rf v2_), some (.int v3_), some (.int (v4_ + 1)), some (.int v7)] dX7_readMessage_98 rfl rfl (by decide) rfl ?_
            refine mm_goto 17 dX7_readMessage_101 (by decide) ?_
            refine mm_fewer [some (.ref a), some (va_rf v1_), some (va_rf v2_), some (.int v3_), some (.int (v4_ + 1)), none] (few_ok (bs := [true, true, true, true, true, false]) rfl) ?_
            exact ih _ _ hx
set_option maxHeartbeats 4000000 in
set_option maxRecDepth 100000 in
theorem e_X7_readMessage_b {g : mm_G} {l : Launch} (hst : l.stackTraces = false) {Z : Nat → Nat → Option Nat} (hZ : HZ Z) {n : Nat} (hn : 1186 ≤ n) {z : Bool} {d : Nat} {U : Nat} {rc : Option Nat → Option Nat → Int32 → SG → Option (Int32 × SG)} {a : Nat} (hs : sh a = 7) (hrc : ∀ (y0 : Option Nat) (y1 : Option Nat) (y2 : Int32) (σ : SG) (r : Int32) (σ' : SG), rc y0 y1 y2 σ = some (r, σ') → mm_Cm g l yX7_readMessage (.code yX7_readMessage cX7_readMessage 6 (some .boolean)) (d + 14) 0 0 [.ref a, va_rf y0, va_rf y1, .int y2] (mem Z σ, n, z) (fun v S' => v = some (.int r) ∧ S' = (mem Z σ', n, z))) {p0 : Option Nat} {p1 : Option Nat} {p2 : Int32} {σ : SG} {r : Int32} {σ' : SG} (hx : x_X7_readMessage_b U rc a p0 p1 p2 σ = some (r, σ')) : mm_Cm g l yX7_readMessage (.code yX7_readMessage cX7_readMessage 6 (some .boolean)) (d + 16) 0 0 [.ref a, va_rf p0, va_rf p1, .int p2] (mem Z σ, n, z) (fun v S' => v = some (.int r) ∧ S' = (mem Z σ', n, z)) := by
  refine mm_Cm_of hst (by decide) (by cases p0 <;> cases p1 <;>  exact Nat.le_of_ble_eq_true rfl) ?_
  rw [show mm_ent [.ref a, va_rf p0, va_rf p1, .int p2] 6 = [some (.ref a), some (va_rf p0), some (va_rf p1), some (.int p2), none, none] from by cases p0 <;> cases p1 <;>  rfl]
  show mm_V g l RX7 "readMessage" cX7_readMessage 6 (some .boolean) [] (d + 16) 0 0 (mm_nt (fun v S' => v = some (.int r) ∧ S' = (mem Z σ', n, z))) 0 [some (.ref a), some (va_rf p0), some (va_rf p1), some (.int p2), none, none] [] (mem Z σ, n, z) 0 0
  unfold x_X7_readMessage_b at hx
  refine mm_aload_n dX7_readMessage_0 rfl (isr_rf _) ?_
  refine b_if hx (fun h1 hx => ?_) (fun h1 hx => ?_)
  · refine mm_ifnull (r := p1) 12 dX7_readMessage_1 (by decide) (fun _ => ?_) (fun h => absurd h1 h)
    refine mm_iconst (v := 0) dX7_readMessage_12 (by decide) ?_
    refine mm_iret dX7_readMessage_13 rfl rfl ?_ (by omega) (by omega)
    obtain ⟨rfl, rfl⟩ := fin2 hx
    exact ⟨rfl, rfl⟩
  · refine mm_ifnull (r := p1) 12 dX7_readMessage_1 (by decide) (fun h => absurd h h1) (fun _ => ?_)
    refine mm_iload_n dX7_readMessage_4 rfl ?_
    refine mm_aload_n dX7_readMessage_5 rfl rfl ?_
    refine s_getI (r := some a) (b := a) (ci := 7) (k := 5) in_X7 rfl (by decide) rfl kF_X7_30 dX7_readMessage_6 rfl hs (by decide) hn (by decide) rfl ?_
    refine b_if hx (fun h2 hx => ?_) (fun h2 hx => ?_)
    · refine mm_icmp_le 14 dX7_readMessage_9 (by decide) (fun h => absurd h (Int32.not_le.mpr h2)) (fun _ => ?_)
      refine mm_iconst (v := 0) dX7_readMessage_12 (by decide) ?_
      refine mm_iret dX7_readMessage_13 rfl rfl ?_ (by omega) (by omega)
      obtain ⟨rfl, rfl⟩ := fin2 hx
      exact ⟨rfl, rfl⟩
    · refine mm_icmp_le 14 dX7_readMessage_9 (by decide) (fun _ => ?_) (fun h => absurd (Int32.not_lt.mp h2) h)
      refine mm_iconst (v := 0) dX7_readMessage_14 (by decide) ?_
      refine mm_istore [some (.ref a), some (va_rf p0), some (va_rf p1), some (.int p2), some (.int 0), none] dX7_readMessage_15 (by decide) rfl ?_
      refine e_X7_readMessage_L17 hst hZ hn hs hrc ?_ ?_ _ _ _ hx
      · intro  σ14 hx
        refine mm_iload_n dX7_readMessage_47 rfl ?_
        refine mm_iconst (v := 1) dX7_readMessage_48 (by decide) ?_
        refine b_if hx (fun h15 hx => ?_) (fun h15 hx => ?_)
        · refine mm_icmp_ne 56 dX7_readMessage_49 (by decide) (fun h => absurd h15 h) (fun _ => ?_)
          refine mm_iconst (v := 1) dX7_readMessage_52 (by decide) ?_
          refine mm_goto 57 dX7_readMessage_53 (by decide) ?_
          refine mm_iret dX7_readMessage_57 rfl rfl ?_ (by omega) (by omega)
          obtain ⟨rfl, rfl⟩ := fin2 hx
          exact ⟨rfl, rfl⟩
        · refine mm_icmp_ne 56 dX7_readMessage_49 (by decide) (fun _ => ?_) (fun h => absurd h h15)
          refine mm_iconst (v := 0) dX7_readMessage_56 (by decide) ?_
          refine mm_iret dX7_readMessage_57 rfl rfl ?_ (by omega) (by omega)
          obtain ⟨rfl, rfl⟩ := fin2 hx
          exact ⟨rfl, rfl⟩
      · intro  σ16 hx
        refine mm_aload_n dX7_readMessage_65 rfl rfl ?_
        refine mm_dup dX7_readMessage_66 rfl ?_
        refine s_getI (r := some a) (b := a) (ci := 7) (k := 4) in_X7 rfl (by decide) rfl kF_X7_26 dX7_readMessage_67 rfl hs (by decide) hn (by decide) rfl ?_
        refine mm_iconst (v := 1) dX7_readMessage_70 (by decide) ?_
        refine mm_iadd dX7_readMessage_71 ?_
        refine s_putI (v := (sI σ16 a 4) + 1) (r := some a) (b := a) (ci := 7) (k := 4) in_X7 rfl (by decide) rfl tyX7_ok nmX7 rfl kF_X7_26 dX7_readMessage_72 (mm_fit_int _) rfl hs (by decide) hn (by decide) rfl hx (fun σ17 hx => ?_)
        refine mm_iload_n dX7_readMessage_75 rfl ?_
        refine mm_iconst (v := 1) dX7_readMessage_76 (by decide) ?_
        refine b_if hx (fun h18 hx => ?_) (fun h18 hx => ?_)
        · refine mm_icmp_le 84 dX7_readMessage_77 (by decide) (fun h => absurd h (Int32.not_le.mpr h18)) (fun _ => ?_)
          refine mm_iconst (v := 1) dX7_readMessage_80 (by decide) ?_
          refine mm_goto 85 dX7_readMessage_81 (by decide) ?_
          refine mm_iret dX7_readMessage_85 rfl rfl ?_ (by omega) (by omega)
          obtain ⟨rfl, rfl⟩ := fin2 hx
          exact ⟨rfl, rfl⟩
        · refine mm_icmp_le 84 dX7_readMessage_77 (by decide) (fun _ => ?_) (fun h => absurd (Int32.not_lt.mp h18) h)
          refine mm_iconst (v := 0) dX7_readMessage_84 (by decide) ?_
          refine mm_iret dX7_readMessage_85 rfl rfl ?_ (by omega) (by omega)
          obtain ⟨rfl, rfl⟩ := fin2 hx
          exact ⟨rfl, rfl⟩
set_option maxHeartbeats 4000000 in
set_option maxRecDepth 100000 in
theorem e_X7_readMessage_D {g : mm_G} {l : Launch} (hst : l.stackTraces = false) {Z : Nat → Nat → Option Nat} (hZ : HZ Z) {n : Nat} (hn : 1186 ≤ n) {z : Bool} {d : Nat} {U : Nat} {a : Nat} (hs : sh a = 7) : ∀ (D : Nat) (p0 : Option Nat) (p1 : Option Nat) (p2 : Int32) (σ : SG) (r : Int32) (σ' : SG), x_X7_readMessage U a D p0 p1 p2 σ = some (r, σ') → mm_Cm g l yX7_readMessage (.code yX7_readMessage cX7_readMessage 6 (some .boolean)) (d + 2 * D + 14) 0 0 [.ref a, va_rf p0, va_rf p1, .int p2] (mem Z σ, n, z) (fun v S' => v = some (.int r) ∧ S' = (mem Z σ', n, z)) := by
  intro D
  induction D with
  | zero => intro p0 p1 p2 σ r σ' hx; exact absurd hx (by simp [x_X7_readMessage])
  | succ D ih =>
    intro p0 p1 p2 σ r σ' hx
    rw [x_X7_readMessage] at hx
    have h := e_X7_readMessage_b (d := d + 2 * D) hst hZ hn hs (fun y0 y1 y2 y3 y4 y5 hx => ih y0 y1 y2 y3 y4 y5 hx) hx
    rw [show d + 2 * (D + 1) + 14 = d + 2 * D + 16 by omega]
    exact h
set_option maxHeartbeats 4000000 in
set_option maxRecDepth 100000 in
theorem e_X7_readMessage {g : mm_G} {l : Launch} (hst : l.stackTraces = false) {Z : Nat → Nat → Option Nat} (hZ : HZ Z) {n : Nat} (hn : 1186 ≤ n) {z : Bool} {d : Nat} {U : Nat} {a : Nat} (hs : sh a = 7) {p0 : Option Nat} {p1 : Option Nat} {p2 : Int32} {σ : SG} {r : Int32} {σ' : SG} (hx : x_X7_readMessage U a 24 p0 p1 p2 σ = some (r, σ')) : mm_Cm g l yX7_readMessage (.code yX7_readMessage cX7_readMessage 6 (some .boolean)) (d + 62) 0 0 [.ref a, va_rf p0, va_rf p1, .int p2] (mem Z σ, n, z) (fun v S' => v = some (.int r) ∧ S' = (mem Z σ', n, z)) := e_X7_readMessage_D (d := d) hst hZ hn hs 24 _ _ _ _ _ _ hx
set_option maxHeartbeats 4000000 in
set_option maxRecDepth 100000 in
theorem e_X7_read {g : mm_G} {l : Launch} (hst : l.stackTraces = false) {Z : Nat → Nat → Option Nat} (hZ : HZ Z) {n : Nat} (hn : 1186 ≤ n) {z : Bool} {d : Nat} {U : Nat} {a : Nat} (hs : sh a = 7) {p0 : Int32} {σ : SG} {r : Int32} {σ' : SG} (hx : x_X7_read U a p0 σ = some (r, σ')) : mm_Cm g l yX7_read (.code yX7_read cX7_read 2 (some .boolean)) (d + 63) 0 0 [.ref a, .int p0] (mem Z σ, n, z) (fun v S' => v = some (.int r) ∧ S' = (mem Z σ', n, z)) := by
  refine mm_Cm_of hst (by decide) (Nat.le_of_ble_eq_true rfl) ?_
  show mm_V g l RX7 "read" cX7_read 2 (some .boolean) [] (d + 63) 0 0 (mm_nt (fun v S' => v = some (.int r) ∧ S' = (mem Z σ', n, z))) 0 [some (.ref a), some (.int p0)] [] (mem Z σ, n, z) 0 0
  unfold x_X7_read at hx
  refine mm_aload_n dX7_read_0 rfl rfl ?_
  refine mm_iconst (v := 0) dX7_read_1 (by decide) ?_
  refine s_putI (v := 0) (r := some a) (b := a) (ci := 7) (k := 4) in_X7 rfl (by decide) rfl tyX7_ok nmX7 rfl kF_X7_26 dX7_read_2 (mm_fit_int _) rfl hs (by decide) hn (by decide) rfl hx (fun σ1 hx => ?_)
  refine mm_aload_n dX7_read_5 rfl rfl ?_
  refine mm_iload_n dX7_read_6 rfl ?_
  refine s_putI (v := p0) (r := some a) (b := a) (ci := 7) (k := 5) in_X7 rfl (by decide) rfl tyX7_ok nmX7 rfl kF_X7_30 dX7_read_7 (mm_fit_int _) rfl hs (by decide) hn (by decide) rfl hx (fun σ2 hx => ?_)
  refine mm_aload_n dX7_read_10 rfl rfl ?_
  refine mm_aload_n dX7_read_11 rfl rfl ?_
  refine s_getS (q := 389) (r := some a) (b := a) (ci := 7) (k := 1) in_X7 rfl (by decide) rfl kF_X7_15 dX7_read_12 rfl hs (by decide) hn (by decide) rfl rfl ?_
  refine s_getSN (q := 1091) (r := some 389) (b := 389) (ci := 8) (k := 1) in_X8 rfl (by decide) rfl kF_X7_33 dX7_read_15 rfl sa_389 (by decide) hn (by decide) rfl rfl ?_
  refine mm_aload_n dX7_read_18 rfl rfl ?_
  refine s_getS (q := 389) (r := some a) (b := a) (ci := 7) (k := 1) in_X7 rfl (by decide) rfl kF_X7_15 dX7_read_19 rfl hs (by decide) hn (by decide) rfl rfl ?_
  refine s_getPN (r := some 389) (b := 389) (ci := 8) (k := 5) in_X8 rfl (by decide) rfl kF_X7_39 dX7_read_22 rfl sa_389 (by decide) hn (by decide) rfl ?_
  refine mm_iconst (v := 1) dX7_read_25 (by decide) ?_
  obtain ⟨v4, σ5, hc3, hx⟩ := b2_some hx
  refine mm_callV3 (a := a) (ci := 7) wM_X7_readMessage kM_X7_43 wI_X7_readMessage wS_X7_readMessage dX7_read_26 (e_X7_readMessage hst hZ hn hs hc3) (mem_obj hs (by decide)) (sh_ltn hs (by decide) hn) rfl rfl rfl (Nat.le_of_ble_eq_true rfl) (by omega) (by omega) (fun v9 S9 hq => ?_)
  obtain ⟨rfl, rfl⟩ := hq
  refine ⟨fun h => ⟨h, rfl⟩, ?_⟩
  obtain ⟨hz6, hx⟩ := zb_some hx
  refine mm_iret dX7_read_29 rfl (zb_nar hz6) ?_ (by omega) (by omega)
  obtain ⟨rfl, rfl⟩ := fin2 hx
  exact ⟨rfl, rfl⟩
set_option maxHeartbeats 4000000 in
set_option maxRecDepth 100000 in
theorem e_X11_parse_27 {g : mm_G} {l : Launch} (hst : l.stackTraces = false) {Z : Nat → Nat → Option Nat} (hZ : HZ Z) {n : Nat} (hn : 1186 ≤ n) {d : Nat} {U : Nat} {a : Nat} (hs : sh a = 11) {s0_ : Int32} {σ : SG} {r : mm_R} {σ' : SG} (hx : x_X11_parse_27 U a s0_ σ = some (r, σ')) : mm_V g l RX11 "parse" cX11_parse 4 (some .int) [] (d + 64) 1 6 (fun r9 S' => r9 = r ∧ S' = (mem Z σ', n, true)) 27 [none, none, none, none] [.int s0_, .ref a] (mem Z σ, n, true) 0 0 := by
  unfold x_X11_parse_27 at hx
  obtain ⟨hc5, hr6⟩ := tcI_some hx
  refine mm_callX3 (st := []) (a := a) (ci := 11) wM_X11_settle kM_X11_170 wI_X11_settle wS_X11_settle dX11_parse_27 (e_X11_settle hst hZ hn hs hc5) (mem_obj hs (by decide)) (sh_ltn hs (by decide) hn) rfl rfl rfl (Nat.le_of_ble_eq_true rfl) (by omega) (by omega) (fun v9 S9 hq => ?_) rfl (fun E9 S9 hq => ?_)
  · rcases hr6 with ⟨x9, rfl⟩ | ⟨E8, rfl⟩
    · obtain ⟨g1, rfl⟩ := hq
      cases g1
      refine ⟨fun h => (by cases h), ?_⟩
      refine mm_iret dX11_parse_30 rfl rfl ?_ (by omega) (by omega)
      exact ⟨rfl, rfl⟩
    · cases hq.1
  · obtain ⟨g1, rfl⟩ := hq
    rcases hr6 with ⟨x9, rfl⟩ | ⟨E8, rfl⟩
    · cases g1
    · cases g1; exact ⟨rfl, rfl⟩
set_option maxHeartbeats 4000000 in
set_option maxRecDepth 100000 in
theorem e_X11_parse_26 {g : mm_G} {l : Launch} (hst : l.stackTraces = false) {Z : Nat → Nat → Option Nat} (hZ : HZ Z) {n : Nat} (hn : 1186 ≤ n) {d : Nat} {U : Nat} {a : Nat} (hs : sh a = 11) {σ : SG} {r : mm_R} {σ' : SG} (hx : x_X11_parse_26 U a σ = some (r, σ')) : mm_V g l RX11 "parse" cX11_parse 4 (some .int) [] (d + 64) 1 6 (fun r9 S' => r9 = r ∧ S' = (mem Z σ', n, true)) 26 [none, none, none, none] [.ref a] (mem Z σ, n, true) 0 0 := by
  unfold x_X11_parse_26 at hx
  refine mm_iconst (v := 0) dX11_parse_26 (by decide) ?_
  exact e_X11_parse_27 hst hZ hn hs hx
set_option maxHeartbeats 4000000 in
set_option maxRecDepth 100000 in
theorem e_X11_parse {g : mm_G} {l : Launch} (hst : l.stackTraces = false) {Z : Nat → Nat → Option Nat} (hZ : HZ Z) {n : Nat} (hn : 1186 ≤ n) {d : Nat} {U : Nat} {a : Nat} (hs : sh a = 11) {p0 : Int32} {p1 : Int32} {p2 : Int32} {σ : SG} {r : mm_R} {σ' : SG} (hx : x_X11_parse U a p0 p1 p2 σ = some (r, σ')) : mm_Ct g l yX11_parse (.code yX11_parse cX11_parse 4 (some .int)) (d + 64) 1 6 [.ref a, .int p0, .int p1, .int p2] (mem Z σ, n, true) (fun r9 S' => r9 = r ∧ S' = (mem Z σ', n, true)) := by
  refine mm_Ct_of hst (by decide) (Nat.le_of_ble_eq_true rfl) ?_
  show mm_V g l RX11 "parse" cX11_parse 4 (some .int) [] (d + 64) 1 6 (fun r9 S' => r9 = r ∧ S' = (mem Z σ', n, true)) 0 [some (.ref a), some (.int p0), some (.int p1), some (.int p2)] [] (mem Z σ, n, true) 0 0
  unfold x_X11_parse at hx
  refine mm_aload_n dX11_parse_0 rfl rfl ?_
  refine mm_aload_n dX11_parse_1 rfl rfl ?_
  refine mm_iload_n dX11_parse_2 rfl ?_
  refine mm_iload_n dX11_parse_3 rfl ?_
  refine mm_iload_n dX11_parse_4 rfl ?_
  obtain ⟨v2, σ3, hc1, hx⟩ := b2_some hx
  refine mm_callV3 (a := a) (ci := 11) wM_X11_opens kM_X11_162 wI_X11_opens wS_X11_opens dX11_parse_5 (e_X11_opens hst hZ hn hs hc1) (mem_obj hs (by decide)) (sh_ltn hs (by decide) hn) rfl rfl rfl (Nat.le_of_ble_eq_true rfl) (by omega) (by omega) (fun v9 S9 hq => ?_)
  obtain ⟨rfl, rfl⟩ := hq
  refine ⟨fun h => ⟨h, rfl⟩, ?_⟩
  refine b_if hx (fun h4 hx => ?_) (fun h4 hx => ?_)
  · refine mm_if_eq 26 dX11_parse_8 (by decide) (fun _ => ?_) (fun h => absurd h4 h)
    refine mm_fewer [none, none, none, none] (few_ok (bs := [false, false, false, false]) rfl) ?_
    exact e_X11_parse_26 hst hZ hn hs hx
  · refine mm_if_eq 26 dX11_parse_8 (by decide) (fun h => absurd h h4) (fun _ => ?_)
    refine mm_aload_n dX11_parse_11 rfl rfl ?_
    refine s_getS (q := 1095) (r := some a) (b := a) (ci := 11) (k := 6) in_X11 rfl (by decide) rfl kF_X11_50 dX11_parse_12 rfl hs (by decide) hn (by decide) rfl rfl ?_
    refine mm_iload_n dX11_parse_15 rfl ?_
    obtain ⟨v8, σ9, hc7, hx⟩ := b2_some hx
    refine mm_callV3 (a := 1095) (ci := 7) wM_X7_read kM_X11_174 wI_X7_read wS_X7_read dX11_parse_16 (e_X7_read hst hZ hn sa_1095 hc7) (mem_obj sa_1095 (by decide)) (sh_ltn sa_1095 (by decide) hn) rfl rfl rfl (Nat.le_of_ble_eq_true rfl) (by omega) (by omega) (fun v9 S9 hq => ?_)
    obtain ⟨rfl, rfl⟩ := hq
    refine ⟨fun h => ⟨h, rfl⟩, ?_⟩
    refine b_if hx (fun h10 hx => ?_) (fun h10 hx => ?_)
    · refine mm_if_eq 26 dX11_parse_19 (by decide) (fun _ => ?_) (fun h => absurd h10 h)
      refine mm_fewer [none, none, none, none] (few_ok (bs := [false, false, false, false]) rfl) ?_
      exact e_X11_parse_26 hst hZ hn hs hx
    · refine mm_if_eq 26 dX11_parse_19 (by decide) (fun h => absurd h h10) (fun _ => ?_)
      refine mm_iconst (v := 1) dX11_parse_22 (by decide) ?_
      refine mm_goto 27 dX11_parse_23 (by decide) ?_
      refine mm_fewer [none, none, none, none] (few_ok (bs := [false, false, false, false]) rfl) ?_
      exact e_X11_parse_27 hst hZ hn hs hx
set_option maxHeartbeats 4000000 in
set_option maxRecDepth 100000 in
theorem e_X11_place {g : mm_G} {l : Launch} (hst : l.stackTraces = false) {Z : Nat → Nat → Option Nat} (hZ : HZ Z) {n : Nat} (hn : 1186 ≤ n) {z : Bool} {d : Nat} {a : Nat} (hs : sh a = 11) {σ : SG} {r : Int32} (hx : x_X11_place a σ = some r) : mm_Cm g l yX11_place (.code yX11_place cX11_place 1 (some .int)) (d) 0 0 [.ref a] (mem Z σ, n, z) (fun v S' => v = some (.int r) ∧ S' = (mem Z σ, n, z)) := by
  refine mm_Cm_of hst (by decide) (Nat.le_of_ble_eq_true rfl) ?_
  show mm_V g l RX11 "place" cX11_place 1 (some .int) [] (d) 0 0 (mm_nt (fun v S' => v = some (.int r) ∧ S' = (mem Z σ, n, z))) 0 [some (.ref a)] [] (mem Z σ, n, z) 0 0
  unfold x_X11_place at hx
  refine mm_aload_n dX11_place_0 rfl rfl ?_
  refine s_getI (r := some a) (b := a) (ci := 11) (k := 8) in_X11 rfl (by decide) rfl kF_X11_63 dX11_place_1 rfl hs (by decide) hn (by decide) rfl ?_
  refine mm_iret dX11_place_4 rfl rfl ?_ (by omega) (by omega)
  obtain rfl := fin1 hx
  exact ⟨rfl, rfl⟩
set_option maxHeartbeats 4000000 in
set_option maxRecDepth 100000 in
theorem e_X7_writeIndent_L2 {g : mm_G} {l : Launch} (hst : l.stackTraces = false) {Z : Nat → Nat → Option Nat} (hZ : HZ Z) {n : Nat} (hn : 1186 ≤ n) {z : Bool} {d : Nat} {U : Nat} {a : Nat} (hs : sh a = 7) {v1_ : Int32} {σ' : SG} : ∀ (U1 : Nat) (v2_ : Int32) (σ : SG), x_X7_writeIndent_L2 U a v1_ U1 v2_ σ = some σ' → mm_V g l RX7 "writeIndent" cX7_writeIndent 3 none [] (d + 5) 0 0 (mm_nt (fun v S' => v = none ∧ S' = (mem Z σ', n, z))) 2 [some (.ref a), some (.int v1_), some (.int v2_)] [] (mem Z σ, n, z) 0 0 := by
  intro U1
  induction U1 with
  | zero => intro v2_ σ hx; exact absurd hx (by simp [x_X7_writeIndent_L2])
  | succ U1 ih =>
    intro v2_ σ hx
    rw [x_X7_writeIndent_L2] at hx
    refine mm_iload_n dX7_writeIndent_2 rfl ?_
    refine mm_iload_n dX7_writeIndent_3 rfl ?_
    refine b_if hx (fun h1 hx => ?_) (fun h1 hx => ?_)
    · refine mm_icmp_ge 22 dX7_writeIndent_4 (by decide) (fun h => absurd h (Int32.not_le.mpr h1)) (fun _ => ?_)
      refine mm_aload_n dX7_writeIndent_7 rfl rfl ?_
      refine s_getS (q := 3) (r := some a) (b := a) (ci := 7) (k := 2) in_X7 rfl (by decide) rfl kF_X7_19 dX7_writeIndent_8 rfl hs (by decide) hn (by decide) rfl rfl ?_
      refine mm_ldcS (k := 14) rfl dX7_writeIndent_11 ?_
      obtain ⟨σ3, hc2, hx⟩ := b1_some hx
      refine mm_callV3 (a := 3) (ci := 0) wM_X0_addText kM_X7_226 wI_X0_addText wS_X0_addText dX7_writeIndent_13 (e_X0_addText hst hZ hn sa_3 (by first | assumption | decide) hc2) (mem_obj sa_3 (by decide)) (sh_ltn sa_3 (by decide) hn) rfl rfl rfl (Nat.le_of_ble_eq_true rfl) (by omega) (by omega) (fun v9 S9 hq => ?_)
      obtain ⟨rfl, rfl⟩ := hq
      refine ⟨fun h => ⟨h, rfl⟩, ?_⟩
      refine mm_iinc (v := v2_ + 1) [some (.ref a), some (.int v1_), some (.int (v2_ + 1))] dX7_writeIndent_16 rfl rfl (by decide) rfl ?_
      refine mm_goto 2 dX7_writeIndent_19 (by decide) ?_
      exact ih _ _ hx
    · refine mm_icmp_ge 22 dX7_writeIndent_4 (by decide) (fun _ => ?_) (fun h => absurd (Int32.not_lt.mp h1) h)
      refine mm_vret dX7_writeIndent_22 rfl ?_ (by omega) (by omega)
      obtain rfl := fin1 hx
      exact ⟨rfl, rfl⟩
set_option maxHeartbeats 4000000 in
set_option maxRecDepth 100000 in
theorem e_X7_writeIndent {g : mm_G} {l : Launch} (hst : l.stackTraces = false) {Z : Nat → Nat → Option Nat} (hZ : HZ Z) {n : Nat} (hn : 1186 ≤ n) {z : Bool} {d : Nat} {U : Nat} {a : Nat} (hs : sh a = 7) {p0 : Int32} {σ : SG} {σ' : SG} (hx : x_X7_writeIndent U a p0 σ = some σ') : mm_Cm g l yX7_writeIndent (.code yX7_writeIndent cX7_writeIndent 3 none) (d + 5) 0 0 [.ref a, .int p0] (mem Z σ, n, z) (fun v S' => v = none ∧ S' = (mem Z σ', n, z)) := by
  refine mm_Cm_of hst (by decide) (Nat.le_of_ble_eq_true rfl) ?_
  show mm_V g l RX7 "writeIndent" cX7_writeIndent 3 none [] (d + 5) 0 0 (mm_nt (fun v S' => v = none ∧ S' = (mem Z σ', n, z))) 0 [some (.ref a), some (.int p0), none] [] (mem Z σ, n, z) 0 0
  unfold x_X7_writeIndent at hx
  refine mm_iconst (v := 1) dX7_writeIndent_0 (by decide) ?_
  refine mm_istore_n [some (.ref a), some (.int p0), some (.int 1)] dX7_writeIndent_1 (by decide) rfl ?_
  refine e_X7_writeIndent_L2 hst hZ hn hs _ _ _ hx
set_option maxHeartbeats 4000000 in
set_option maxRecDepth 100000 in
theorem e_X7_writeDecimal_44 {g : mm_G} {l : Launch} (hst : l.stackTraces = false) {Z : Nat → Nat → Option Nat} (hZ : HZ Z) {n : Nat} (hn : 1186 ≤ n) {z : Bool} {d : Nat} {U : Nat} {a : Nat} (hs : sh a = 7) {k5 : Int64 → Int32 → SG → Option (SG)} {k63 : Int32 → SG → Option (SG)} {v5_ : Int32} {v6_ : Int64} {σ : SG} {σ' : SG} (hk5 : ∀ (v3_ : Int64) (v5_ : Int32) (σ8 : SG), k5 v3_ v5_ σ8 = some σ' → mm_V g l RX7 "writeDecimal" cX7_writeDecimal 8 none [] (d + 1) 0 0 (mm_nt (fun v S' => v = none ∧ S' = (mem Z σ', n, z))) 5 [some (.ref a), none, none, some (.long v3_), none, some (.int v5_), none, none] [] (mem Z σ8, n, z) 0 0) (hk63 : ∀ (v5_ : Int32) (σ8 : SG), k63 v5_ σ8 = some σ' → mm_V g l RX7 "writeDecimal" cX7_writeDecimal 8 none [] (d + 1) 0 0 (mm_nt (fun v S' => v = none ∧ S' = (mem Z σ', n, z))) 63 [some (.ref a), none, none, none, none, some (.int v5_), none, none] [] (mem Z σ8, n, z) 0 0) (hx : x_X7_writeDecimal_44 U a k5 k63 v5_ v6_ σ = some σ') : mm_V g l RX7 "writeDecimal" cX7_writeDecimal 8 none [] (d + 1) 0 0 (mm_nt (fun v S' => v = none ∧ S' = (mem Z σ', n, z))) 44 [some (.ref a), none, none, none, none, some (.int v5_), some (.long v6_), none] [] (mem Z σ, n, z) 0 0 := by
  unfold x_X7_writeDecimal_44 at hx
  refine mm_lload dX7_writeDecimal_44 rfl ?_
  refine mm_lstore_n [some (.ref a), none, none, some (.long v6_), none, some (.int v5_), some (.long v6_), none] dX7_writeDecimal_46 (by decide) rfl ?_
  refine mm_lload_n dX7_writeDecimal_47 rfl ?_
  refine mm_lconst (v := 0) dX7_writeDecimal_48 (by decide) ?_
  refine mm_lcmp dX7_writeDecimal_49 ?_
  refine b_if hx (fun h8 hx => ?_) (fun h8 hx => ?_)
  · refine mm_if_eq 63 dX7_writeDecimal_50 (by decide) (fun _ => ?_) (fun h => absurd (lg_eq.mpr h8) h)
    refine mm_fewer [some (.ref a), none, none, none, none, some (.int v5_), none, none] (few_ok (bs := [true, false, false, false, false, true, false, false]) rfl) ?_
    exact hk63 _ _ hx
  · refine mm_if_eq 63 dX7_writeDecimal_50 (by decide) (fun h => absurd (lg_eq.mp h) h8) (fun _ => ?_)
    refine mm_iload dX7_writeDecimal_53 rfl ?_
    refine mm_aload_n dX7_writeDecimal_55 rfl rfl ?_
    refine s_getS (q := 1096) (r := some a) (b := a) (ci := 7) (k := 3) in_X7 rfl (by decide) rfl kF_X7_22 dX7_writeDecimal_56 rfl hs (by decide) hn (by decide) rfl rfl ?_
    refine s_alen (a := 1096) (t := 2) (N := 20) (v := 20) (fun _ => rfl) sa_1096 (by decide) hn na_1096 rfl dX7_writeDecimal_59 ?_
    refine b_if hx (fun h9 hx => ?_) (fun h9 hx => ?_)
    · refine mm_icmp_lt 5 dX7_writeDecimal_60 (by decide) (fun _ => ?_) (fun h => absurd h9 h)
      refine mm_fewer [some (.ref a), none, none, some (.long v6_), none, some (.int v5_), none, none] (few_ok (bs := [true, false, false, true, false, true, false, false]) rfl) ?_
      exact hk5 _ _ _ hx
    · refine mm_icmp_lt 5 dX7_writeDecimal_60 (by decide) (fun h => absurd h h9) (fun _ => ?_)
      refine mm_fewer [some (.ref a), none, none, none, none, some (.int v5_), none, none] (few_ok (bs := [true, false, false, false, false, true, false, false]) rfl) ?_
      exact hk63 _ _ hx
set_option maxHeartbeats 4000000 in
set_option maxRecDepth 100000 in
theorem e_X7_writeDecimal_L5 {g : mm_G} {l : Launch} (hst : l.stackTraces = false) {Z : Nat → Nat → Option Nat} (hZ : HZ Z) {n : Nat} (hn : 1186 ≤ n) {z : Bool} {d : Nat} {U : Nat} {a : Nat} (hs : sh a = 7) {k63 : Int32 → SG → Option (SG)} {σ' : SG} (hk63 : ∀ (v5_ : Int32) (σ8 : SG), k63 v5_ σ8 = some σ' → mm_V g l RX7 "writeDecimal" cX7_writeDecimal 8 none [] (d + 1) 0 0 (mm_nt (fun v S' => v = none ∧ S' = (mem Z σ', n, z))) 63 [some (.ref a), none, none, none, none, some (.int v5_), none, none] [] (mem Z σ8, n, z) 0 0) : ∀ (U1 : Nat) (v3_ : Int64) (v5_ : Int32) (σ : SG), x_X7_writeDecimal_L5 U a k63 U1 v3_ v5_ σ = some σ' → mm_V g l RX7 "writeDecimal" cX7_writeDecimal 8 none [] (d + 1) 0 0 (mm_nt (fun v S' => v = none ∧ S' = (mem Z σ', n, z))) 5 [some (.ref a), none, none, some (.long v3_), none, some (.int v5_), none, none] [] (mem Z σ, n, z) 0 0 := by
  intro U1
  induction U1 with
  | zero => intro v3_ v5_ σ hx; exact absurd hx (by simp [x_X7_writeDecimal_L5])
  | succ U1 ih =>
    intro v3_ v5_ σ hx
    rw [x_X7_writeDecimal_L5] at hx
    refine mm_lload_n dX7_writeDecimal_5 rfl ?_
    refine mm_iconst (v := 1) dX7_writeDecimal_6 (by decide) ?_
    refine mm_lushr dX7_writeDecimal_7 ?_
    refine mm_ldc2 kL_X7_256 dX7_writeDecimal_8 ?_
    refine mm_ldiv dX7_writeDecimal_11 (by decide) ?_
    refine mm_lstore [some (.ref a), none, none, some (.long v3_), none, some (.int v5_), some (.long ((lush v3_ 1) / 5)), none] dX7_writeDecimal_12 (by decide) rfl ?_
    refine mm_iload dX7_writeDecimal_14 rfl ?_
    refine mm_aload_n dX7_writeDecimal_16 rfl rfl ?_
    refine s_getS (q := 1096) (r := some a) (b := a) (ci := 7) (k := 3) in_X7 rfl (by decide) rfl kF_X7_22 dX7_writeDecimal_17 rfl hs (by decide) hn (by decide) rfl rfl ?_
    refine s_alen (a := 1096) (t := 2) (N := 20) (v := 20) (fun _ => rfl) sa_1096 (by decide) hn na_1096 rfl dX7_writeDecimal_20 ?_
    refine b_if hx (fun h2 hx => ?_) (fun h2 hx => ?_)
    · refine mm_icmp_ge 44 dX7_writeDecimal_21 (by decide) (fun h => absurd h (Int32.not_le.mpr h2)) (fun _ => ?_)
      refine mm_aload_n dX7_writeDecimal_24 rfl rfl ?_
      refine s_getS (q := 1096) (r := some a) (b := a) (ci := 7) (k := 3) in_X7 rfl (by decide) rfl kF_X7_22 dX7_writeDecimal_25 rfl hs (by decide) hn (by decide) rfl rfl ?_
      refine mm_iload dX7_writeDecimal_28 rfl ?_
      refine mm_lload_n dX7_writeDecimal_30 rfl ?_
      refine mm_lload dX7_writeDecimal_31 rfl ?_
      refine mm_ldc2 kL_X7_138 dX7_writeDecimal_33 ?_
      refine mm_lmul dX7_writeDecimal_36 ?_
      refine mm_lsub dX7_writeDecimal_37 ?_
      refine mm_l2i dX7_writeDecimal_38 ?_
      refine mm_i2b dX7_writeDecimal_39 ?_
      obtain ⟨j3, hj4, hb5, hl6, hx⟩ := ix_some hx
      refine s_bast (a := 1096) (v := i2b (Int64.toInt32 (v3_ - (((lush v3_ 1) / 5) * 10)))) sa_1096 hn hj4 hb5 na_1096 dX7_writeDecimal_40 hx (fun σ7 hx => ?_)
      refine mm_iinc (v := v5_ + 1) [some (.ref a), none, none, some (.long v3_), none, some (.int (v5_ + 1)), some (.long ((lush v3_ 1) / 5)), none] dX7_writeDecimal_41 rfl rfl (by decide) rfl ?_
      refine mm_fewer [some (.ref a), none, none, none, none, some (.int (v5_ + 1)), some (.long ((lush v3_ 1) / 5)), none] (few_ok (bs := [true, false, false, false, false, true, true, false]) rfl) ?_
      exact e_X7_writeDecimal_44 hst hZ hn hs ih hk63 hx
    · refine mm_icmp_ge 44 dX7_writeDecimal_21 (by decide) (fun _ => ?_) (fun h => absurd (Int32.not_lt.mp h2) h)
      refine mm_fewer [some (.ref a), none, none, none, none, some (.int v5_), some (.long ((lush v3_ 1) / 5)), none] (few_ok (bs := [true, false, false, false, false, true, true, false]) rfl) ?_
      exact e_X7_writeDecimal_44 hst hZ hn hs ih hk63 hx
set_option maxHeartbeats 4000000 in
set_option maxRecDepth 100000 in
theorem e_X7_writeDecimal_L69 {g : mm_G} {l : Launch} (hst : l.stackTraces = false) {Z : Nat → Nat → Option Nat} (hZ : HZ Z) {n : Nat} (hn : 1186 ≤ n) {z : Bool} {d : Nat} {U : Nat} {a : Nat} (hs : sh a = 7) {σ' : SG} : ∀ (U1 : Nat) (v6_ : Int32) (σ : SG), x_X7_writeDecimal_L69 U a U1 v6_ σ = some σ' → mm_V g l RX7 "writeDecimal" cX7_writeDecimal 8 none [] (d + 1) 0 0 (mm_nt (fun v S' => v = none ∧ S' = (mem Z σ', n, z))) 69 [some (.ref a), none, none, none, none, none, some (.int v6_), none] [] (mem Z σ, n, z) 0 0 := by
  intro U1
  induction U1 with
  | zero => intro v6_ σ hx; exact absurd hx (by simp [x_X7_writeDecimal_L69])
  | succ U1 ih =>
    intro v6_ σ hx
    rw [x_X7_writeDecimal_L69] at hx
    refine mm_iload dX7_writeDecimal_69 rfl ?_
    refine b_if hx (fun h12 hx => ?_) (fun h12 hx => ?_)
    · refine mm_if_lt 107 dX7_writeDecimal_71 (by decide) (fun _ => ?_) (fun h => absurd h12 h)
      refine mm_vret dX7_writeDecimal_107 rfl ?_ (by omega) (by omega)
      obtain rfl := fin1 hx
      exact ⟨rfl, rfl⟩
    · refine mm_if_lt 107 dX7_writeDecimal_71 (by decide) (fun h => absurd h h12) (fun _ => ?_)
      refine mm_iload dX7_writeDecimal_74 rfl ?_
      refine mm_aload_n dX7_writeDecimal_76 rfl rfl ?_
      refine s_getS (q := 1096) (r := some a) (b := a) (ci := 7) (k := 3) in_X7 rfl (by decide) rfl kF_X7_22 dX7_writeDecimal_77 rfl hs (by decide) hn (by decide) rfl rfl ?_
      refine s_alen (a := 1096) (t := 2) (N := 20) (v := 20) (fun _ => rfl) sa_1096 (by decide) hn na_1096 rfl dX7_writeDecimal_80 ?_
      refine b_if hx (fun h13 hx => ?_) (fun h13 hx => ?_)
      · refine mm_icmp_ge 107 dX7_writeDecimal_81 (by decide) (fun h => absurd h (Int32.not_le.mpr h13)) (fun _ => ?_)
        refine mm_aload_n dX7_writeDecimal_84 rfl rfl ?_
        refine s_getS (q := 3) (r := some a) (b := a) (ci := 7) (k := 2) in_X7 rfl (by decide) rfl kF_X7_19 dX7_writeDecimal_85 rfl hs (by decide) hn (by decide) rfl rfl ?_
        refine mm_bipush (v := 48) dX7_writeDecimal_88 (by decide) ?_
        refine mm_aload_n dX7_writeDecimal_90 rfl rfl ?_
        refine s_getS (q := 1096) (r := some a) (b := a) (ci := 7) (k := 3) in_X7 rfl (by decide) rfl kF_X7_22 dX7_writeDecimal_91 rfl hs (by decide) hn (by decide) rfl rfl ?_
        refine mm_iload dX7_writeDecimal_94 rfl ?_
        obtain ⟨j14, hj15, hb16, hl17, hx⟩ := ix_some hx
        refine s_bald (a := 1096) sa_1096 hn hj15 hb16 na_1096 dX7_writeDecimal_96 ?_
        refine mm_iadd dX7_writeDecimal_97 ?_
        obtain ⟨σ19, hc18, hx⟩ := b1_some hx
        refine mm_callV3 (a := 3) (ci := 0) wM_X0_add kM_X7_163 wI_X0_add wS_X0_add dX7_writeDecimal_98 (e_X0_add hst hZ hn sa_3 hc18) (mem_obj sa_3 (by decide)) (sh_ltn sa_3 (by decide) hn) rfl rfl rfl (Nat.le_of_ble_eq_true rfl) (by omega) (by omega) (fun v9 S9 hq => ?_)
        obtain ⟨rfl, rfl⟩ := hq
        refine ⟨fun h => ⟨h, rfl⟩, ?_⟩
        refine mm_iinc (v := v6_ - 1) [some (.ref a), none, none, none, none, none, some (.int (v6_ - 1)), none] dX7_writeDecimal_101 rfl (iincM1 _) (by decide) rfl ?_
        refine mm_goto 69 dX7_writeDecimal_104 (by decide) ?_
        exact ih _ _ hx
      · refine mm_icmp_ge 107 dX7_writeDecimal_81 (by decide) (fun _ => ?_) (fun h => absurd (Int32.not_lt.mp h13) h)
        refine mm_vret dX7_writeDecimal_107 rfl ?_ (by omega) (by omega)
        obtain rfl := fin1 hx
        exact ⟨rfl, rfl⟩
set_option maxHeartbeats 4000000 in
set_option maxRecDepth 100000 in
theorem e_X7_writeDecimal_63 {g : mm_G} {l : Launch} (hst : l.stackTraces = false) {Z : Nat → Nat → Option Nat} (hZ : HZ Z) {n : Nat} (hn : 1186 ≤ n) {z : Bool} {d : Nat} {U : Nat} {a : Nat} (hs : sh a = 7) {v5_ : Int32} {σ : SG} {σ' : SG} (hx : x_X7_writeDecimal_63 U a v5_ σ = some σ') : mm_V g l RX7 "writeDecimal" cX7_writeDecimal 8 none [] (d + 1) 0 0 (mm_nt (fun v S' => v = none ∧ S' = (mem Z σ', n, z))) 63 [some (.ref a), none, none, none, none, some (.int v5_), none, none] [] (mem Z σ, n, z) 0 0 := by
  unfold x_X7_writeDecimal_63 at hx
  refine mm_iload dX7_writeDecimal_63 rfl ?_
  refine mm_iconst (v := 1) dX7_writeDecimal_65 (by decide) ?_
  refine mm_isub dX7_writeDecimal_66 ?_
  refine mm_istore [some (.ref a), none, none, none, none, some (.int v5_), some (.int (v5_ - 1)), none] dX7_writeDecimal_67 (by decide) rfl ?_
  refine mm_fewer [some (.ref a), none, none, none, none, none, some (.int (v5_ - 1)), none] (few_ok (bs := [true, false, false, false, false, false, true, false]) rfl) ?_
  refine e_X7_writeDecimal_L69 hst hZ hn hs _ _ _ hx
set_option maxHeartbeats 4000000 in
set_option maxRecDepth 100000 in
theorem e_X7_writeDecimal {g : mm_G} {l : Launch} (hst : l.stackTraces = false) {Z : Nat → Nat → Option Nat} (hZ : HZ Z) {n : Nat} (hn : 1186 ≤ n) {z : Bool} {d : Nat} {U : Nat} {a : Nat} (hs : sh a = 7) {p0 : Int64} {σ : SG} {σ' : SG} (hx : x_X7_writeDecimal U a p0 σ = some σ') : mm_Cm g l yX7_writeDecimal (.code yX7_writeDecimal cX7_writeDecimal 8 none) (d + 1) 0 0 [.ref a, .long p0] (mem Z σ, n, z) (fun v S' => v = none ∧ S' = (mem Z σ', n, z)) := by
  refine mm_Cm_of hst (by decide) (Nat.le_of_ble_eq_true rfl) ?_
  show mm_V g l RX7 "writeDecimal" cX7_writeDecimal 8 none [] (d + 1) 0 0 (mm_nt (fun v S' => v = none ∧ S' = (mem Z σ', n, z))) 0 [some (.ref a), some (.long p0), none, none, none, none, none, none] [] (mem Z σ, n, z) 0 0
  unfold x_X7_writeDecimal at hx
  refine mm_lload_n dX7_writeDecimal_0 rfl ?_
  refine mm_lstore_n [some (.ref a), some (.long p0), none, some (.long p0), none, none, none, none] dX7_writeDecimal_1 (by decide) rfl ?_
  refine mm_iconst (v := 0) dX7_writeDecimal_2 (by decide) ?_
  refine mm_istore [some (.ref a), some (.long p0), none, some (.long p0), none, some (.int 0), none, none] dX7_writeDecimal_3 (by decide) rfl ?_
  refine mm_fewer [some (.ref a), none, none, some (.long p0), none, some (.int 0), none, none] (few_ok (bs := [true, false, false, true, false, true, false, false]) rfl) ?_
  refine e_X7_writeDecimal_L5 hst hZ hn hs ?_ _ _ _ _ hx
  · intro w10 σ11 hx
    exact e_X7_writeDecimal_63 hst hZ hn hs hx
set_option maxHeartbeats 4000000 in
set_option maxRecDepth 100000 in
theorem e_X7_writeNumber_83 {g : mm_G} {l : Launch} (hst : l.stackTraces = false) {Z : Nat → Nat → Option Nat} (hZ : HZ Z) {n : Nat} (hn : 1186 ≤ n) {z : Bool} {d : Nat} {U : Nat} {a : Nat} (hs : sh a = 7) {s0_ : Nat} (hk9 : s0_ < 24) {σ : SG} {σ' : SG} (hx : x_X7_writeNumber_83 U a s0_ σ = some σ') : mm_V g l RX7 "writeNumber" cX7_writeNumber 6 none [] (d + 5) 0 0 (mm_nt (fun v S' => v = none ∧ S' = (mem Z σ', n, z))) 83 [none, none, none, none, none, none] [.retAddr (s0_ + 1), .ref 3] (mem Z σ, n, z) 0 0 := by
  unfold x_X7_writeNumber_83 at hx
  obtain ⟨σ13, hc12, hx⟩ := b1_some hx
  refine mm_callV3 (a := 3) (ci := 0) wM_X0_addText kM_X7_226 wI_X0_addText wS_X0_addText dX7_writeNumber_83 (e_X0_addText hst hZ hn sa_3 (by first | assumption | decide) hc12) (mem_obj sa_3 (by decide)) (sh_ltn sa_3 (by decide) hn) rfl rfl rfl (Nat.le_of_ble_eq_true rfl) (by omega) (by omega) (fun v9 S9 hq => ?_)
  obtain ⟨rfl, rfl⟩ := hq
  refine ⟨fun h => ⟨h, rfl⟩, ?_⟩
  refine mm_goto 135 dX7_writeNumber_86 (by decide) ?_
  refine mm_vret dX7_writeNumber_135 rfl ?_ (by omega) (by omega)
  obtain rfl := fin1 hx
  exact ⟨rfl, rfl⟩
set_option maxHeartbeats 4000000 in
set_option maxRecDepth 100000 in
theorem e_X7_writeNumber_130 {g : mm_G} {l : Launch} (hst : l.stackTraces = false) {Z : Nat → Nat → Option Nat} (hZ : HZ Z) {n : Nat} (hn : 1186 ≤ n) {z : Bool} {d : Nat} {U : Nat} {a : Nat} (hs : sh a = 7) {v2_ : Int64} {σ : SG} {σ' : SG} (hx : x_X7_writeNumber_130 U a v2_ σ = some σ') : mm_V g l RX7 "writeNumber" cX7_writeNumber 6 none [] (d + 5) 0 0 (mm_nt (fun v S' => v = none ∧ S' = (mem Z σ', n, z))) 130 [some (.ref a), none, some (.long v2_), none, none, none] [] (mem Z σ, n, z) 0 0 := by
  unfold x_X7_writeNumber_130 at hx
  refine mm_aload_n dX7_writeNumber_130 rfl rfl ?_
  refine mm_lload_n dX7_writeNumber_131 rfl ?_
  obtain ⟨σ17, hc16, hx⟩ := b1_some hx
  refine mm_callV3 (a := a) (ci := 7) wM_X7_writeDecimal kM_X7_252 wI_X7_writeDecimal wS_X7_writeDecimal dX7_writeNumber_132 (e_X7_writeDecimal hst hZ hn hs hc16) (mem_obj hs (by decide)) (sh_ltn hs (by decide) hn) rfl rfl rfl (Nat.le_of_ble_eq_true rfl) (by omega) (by omega) (fun v9 S9 hq => ?_)
  obtain ⟨rfl, rfl⟩ := hq
  refine ⟨fun h => ⟨h, rfl⟩, ?_⟩
  refine mm_vret dX7_writeNumber_135 rfl ?_ (by omega) (by omega)
  obtain rfl := fin1 hx
  exact ⟨rfl, rfl⟩
set_option maxHeartbeats 4000000 in
set_option maxRecDepth 100000 in
theorem e_X7_writeNumber_28 {g : mm_G} {l : Launch} (hst : l.stackTraces = false) {Z : Nat → Nat → Option Nat} (hZ : HZ Z) {n : Nat} (hn : 1186 ≤ n) {z : Bool} {d : Nat} {U : Nat} {a : Nat} (hs : sh a = 7) {v1_ : Option Nat} {v2_ : Int64} {v4_ : Option Nat} {s0_ : Option Nat} {σ : SG} {σ' : SG} (hx : x_X7_writeNumber_28 U a v1_ v2_ v4_ s0_ σ = some σ') : mm_V g l RX7 "writeNumber" cX7_writeNumber 6 none [] (d + 5) 0 0 (mm_nt (fun v S' => v = none ∧ S' = (mem Z σ', n, z))) 28 [some (.ref a), some (va_rf v1_), some (.long v2_), none, some (va_rf v4_), none] [va_rf s0_] (mem Z σ, n, z) 0 0 := by
  unfold x_X7_writeNumber_28 at hx
  refine mm_astore [some (.ref a), some (va_rf v1_), some (.long v2_), none, some (va_rf v4_), some (va_rf s0_)] dX7_writeNumber_28 (by decide) (isr_rf _) ((st1_o (r := v4_) rfl).trans rfl) ?_
  refine mm_aload dX7_writeNumber_30 rfl (isr_rf _) ?_
  refine b_if hx (fun h6 hx => ?_) (fun h6 hx => ?_)
  · refine mm_ifnull (r := s0_) 57 dX7_writeNumber_32 (by decide) (fun _ => ?_) (fun h => absurd h6 h)
    refine mm_aload_n dX7_writeNumber_57 rfl (isr_rf _) ?_
    obtain ⟨q7, hr8, hs9, hx⟩ := ck_some hx
    refine s_getIN (r := v1_) (b := q7) (ci := 3) (k := 8) in_X3 rfl (by decide) rfl kF_X7_86 dX7_writeNumber_58 hr8 hs9 (by decide) hn (by decide) rfl ?_
    refine mm_bipush (v := 10) dX7_writeNumber_61 (by decide) ?_
    refine b_if hx (fun h10 hx => ?_) (fun h10 hx => ?_)
    · refine mm_icmp_ne 89 dX7_writeNumber_63 (by decide) (fun h => absurd h10 h) (fun _ => ?_)
      refine mm_aload_n dX7_writeNumber_66 rfl rfl ?_
      refine s_getS (q := 3) (r := some a) (b := a) (ci := 7) (k := 2) in_X7 rfl (by decide) rfl kF_X7_19 dX7_writeNumber_67 rfl hs (by decide) hn (by decide) rfl rfl ?_
      refine mm_lload_n dX7_writeNumber_70 rfl ?_
      refine mm_lconst (v := 0) dX7_writeNumber_71 (by decide) ?_
      refine mm_lcmp dX7_writeNumber_72 ?_
      refine b_if hx (fun h11 hx => ?_) (fun h11 hx => ?_)
      · refine mm_if_eq 81 dX7_writeNumber_73 (by decide) (fun _ => ?_) (fun h => absurd (lg_eq.mpr h11) h)
        refine mm_ldcS (k := 19) rfl dX7_writeNumber_81 ?_
        refine mm_fewer [none, none, none, none, none, none] (few_ok (bs := [false, false, false, false, false, false]) rfl) ?_
        exact e_X7_writeNumber_83 hst hZ hn hs (by first | assumption | decide) hx
      · refine mm_if_eq 81 dX7_writeNumber_73 (by decide) (fun h => absurd (lg_eq.mp h) h11) (fun _ => ?_)
        refine mm_ldcS (k := 18) rfl dX7_writeNumber_76 ?_
        refine mm_goto 83 dX7_writeNumber_78 (by decide) ?_
        refine mm_fewer [none, none, none, none, none, none] (few_ok (bs := [false, false, false, false, false, false]) rfl) ?_
        exact e_X7_writeNumber_83 hst hZ hn hs (by first | assumption | decide) hx
    · refine mm_icmp_ne 89 dX7_writeNumber_63 (by decide) (fun _ => ?_) (fun h => absurd h h10)
      refine mm_lload_n dX7_writeNumber_89 rfl ?_
      refine mm_lconst (v := 0) dX7_writeNumber_90 (by decide) ?_
      refine mm_lcmp dX7_writeNumber_91 ?_
      refine b_if hx (fun h14 hx => ?_) (fun h14 hx => ?_)
      · refine mm_if_ge 130 dX7_writeNumber_92 (by decide) (fun h => absurd (lg_ge.mp h) (Int64.not_le.mpr h14)) (fun _ => ?_)
        refine mm_aload_n dX7_writeNumber_95 rfl (isr_rf _) ?_
        refine s_getIN (r := v1_) (b := q7) (ci := 3) (k := 8) in_X3 rfl (by decide) rfl kF_X7_86 dX7_writeNumber_96 hr8 hs9 (by decide) hn (by decide) rfl ?_
        refine mm_iconst (v := 3) dX7_writeNumber_99 (by decide) ?_
        refine b_if hx (fun h15 hx => ?_) (fun h15 hx => ?_)
        · refine mm_icmp_eq 130 dX7_writeNumber_100 (by decide) (fun _ => ?_) (fun h => absurd h15 h)
          refine mm_fewer [some (.ref a), none, some (.long v2_), none, none, none] (few_ok (bs := [true, false, true, false, false, false]) rfl) ?_
          exact e_X7_writeNumber_130 hst hZ hn hs hx
        · refine mm_icmp_eq 130 dX7_writeNumber_100 (by decide) (fun h => absurd h h15) (fun _ => ?_)
          refine mm_aload_n dX7_writeNumber_103 rfl (isr_rf _) ?_
          refine s_getIN (r := v1_) (b := q7) (ci := 3) (k := 8) in_X3 rfl (by decide) rfl kF_X7_86 dX7_writeNumber_104 hr8 hs9 (by decide) hn (by decide) rfl ?_
          refine mm_bipush (v := 7) dX7_writeNumber_107 (by decide) ?_
          refine b_if hx (fun h18 hx => ?_) (fun h18 hx => ?_)
          · refine mm_icmp_eq 130 dX7_writeNumber_109 (by decide) (fun _ => ?_) (fun h => absurd h18 h)
            refine mm_fewer [some (.ref a), none, some (.long v2_), none, none, none] (few_ok (bs := [true, false, true, false, false, false]) rfl) ?_
            exact e_X7_writeNumber_130 hst hZ hn hs hx
          · refine mm_icmp_eq 130 dX7_writeNumber_109 (by decide) (fun h => absurd h h18) (fun _ => ?_)
            refine mm_aload_n dX7_writeNumber_112 rfl rfl ?_
            refine s_getS (q := 3) (r := some a) (b := a) (ci := 7) (k := 2) in_X7 rfl (by decide) rfl kF_X7_19 dX7_writeNumber_113 rfl hs (by decide) hn (by decide) rfl rfl ?_
            refine mm_bipush (v := 45) dX7_writeNumber_116 (by decide) ?_
            obtain ⟨σ20, hc19, hx⟩ := b1_some hx
            refine mm_callV3 (a := 3) (ci := 0) wM_X0_add kM_X7_163 wI_X0_add wS_X0_add dX7_writeNumber_118 (e_X0_add hst hZ hn sa_3 hc19) (mem_obj sa_3 (by decide)) (sh_ltn sa_3 (by decide) hn) rfl rfl rfl (Nat.le_of_ble_eq_true rfl) (by omega) (by omega) (fun v9 S9 hq => ?_)
            obtain ⟨rfl, rfl⟩ := hq
            refine ⟨fun h => ⟨h, rfl⟩, ?_⟩
            refine mm_aload_n dX7_writeNumber_121 rfl rfl ?_
            refine mm_lload_n dX7_writeNumber_122 rfl ?_
            refine mm_lneg dX7_writeNumber_123 ?_
            obtain ⟨σ22, hc21, hx⟩ := b1_some hx
            refine mm_callV3 (a := a) (ci := 7) wM_X7_writeDecimal kM_X7_252 wI_X7_writeDecimal wS_X7_writeDecimal dX7_writeNumber_124 (e_X7_writeDecimal hst hZ hn hs hc21) (mem_obj hs (by decide)) (sh_ltn hs (by decide) hn) rfl rfl rfl (Nat.le_of_ble_eq_true rfl) (by omega) (by omega) (fun v9 S9 hq => ?_)
            obtain ⟨rfl, rfl⟩ := hq
            refine ⟨fun h => ⟨h, rfl⟩, ?_⟩
            refine mm_goto 135 dX7_writeNumber_127 (by decide) ?_
            refine mm_vret dX7_writeNumber_135 rfl ?_ (by omega) (by omega)
            obtain rfl := fin1 hx
            exact ⟨rfl, rfl⟩
      · refine mm_if_ge 130 dX7_writeNumber_92 (by decide) (fun _ => ?_) (fun h => absurd (lg_ge.mpr (Int64.not_lt.mp h14)) h)
        refine mm_fewer [some (.ref a), none, some (.long v2_), none, none, none] (few_ok (bs := [true, false, true, false, false, false]) rfl) ?_
        exact e_X7_writeNumber_130 hst hZ hn hs hx
  · refine mm_ifnull (r := s0_) 57 dX7_writeNumber_32 (by decide) (fun h => absurd h h6) (fun _ => ?_)
    refine mm_aload_n dX7_writeNumber_35 rfl rfl ?_
    refine s_getS (q := 3) (r := some a) (b := a) (ci := 7) (k := 2) in_X7 rfl (by decide) rfl kF_X7_19 dX7_writeNumber_36 rfl hs (by decide) hn (by decide) rfl rfl ?_
    refine mm_aload dX7_writeNumber_39 rfl (isr_rf _) ?_
    refine mm_aload dX7_writeNumber_41 rfl (isr_rf _) ?_
    obtain ⟨q23, hr24, hs25, hx⟩ := ck_some hx
    refine s_getIN (r := s0_) (b := q23) (ci := 3) (k := 4) in_X3 rfl (by decide) rfl kF_X7_214 dX7_writeNumber_43 hr24 hs25 (by decide) hn (by decide) rfl ?_
    refine mm_aload dX7_writeNumber_46 rfl (isr_rf _) ?_
    refine s_getIN (r := s0_) (b := q23) (ci := 3) (k := 5) in_X3 rfl (by decide) rfl kF_X7_217 dX7_writeNumber_48 hr24 hs25 (by decide) hn (by decide) rfl ?_
    obtain ⟨σ27, hc26, hx⟩ := b1_some hx
    refine mm_callV3 (a := 3) (ci := 0) wM_X0_addAll kM_X7_220 wI_X0_addAll wS_X0_addAll dX7_writeNumber_51 (e_X0_addAll hst hZ hn sa_3 hc26) (mem_obj sa_3 (by decide)) (sh_ltn sa_3 (by decide) hn) rfl rfl rfl (Nat.le_of_ble_eq_true rfl) (by omega) (by omega) (fun v9 S9 hq => ?_)
    obtain ⟨rfl, rfl⟩ := hq
    refine ⟨fun h => ⟨h, rfl⟩, ?_⟩
    refine mm_goto 135 dX7_writeNumber_54 (by decide) ?_
    refine mm_vret dX7_writeNumber_135 rfl ?_ (by omega) (by omega)
    obtain rfl := fin1 hx
    exact ⟨rfl, rfl⟩
set_option maxHeartbeats 4000000 in
set_option maxRecDepth 100000 in
theorem e_X7_writeNumber_27 {g : mm_G} {l : Launch} (hst : l.stackTraces = false) {Z : Nat → Nat → Option Nat} (hZ : HZ Z) {n : Nat} (hn : 1186 ≤ n) {z : Bool} {d : Nat} {U : Nat} {a : Nat} (hs : sh a = 7) {v1_ : Option Nat} {v2_ : Int64} {v4_ : Option Nat} {σ : SG} {σ' : SG} (hx : x_X7_writeNumber_27 U a v1_ v2_ v4_ σ = some σ') : mm_V g l RX7 "writeNumber" cX7_writeNumber 6 none [] (d + 5) 0 0 (mm_nt (fun v S' => v = none ∧ S' = (mem Z σ', n, z))) 27 [some (.ref a), some (va_rf v1_), some (.long v2_), none, some (va_rf v4_), none] [] (mem Z σ, n, z) 0 0 := by
  unfold x_X7_writeNumber_27 at hx
  refine mm_null dX7_writeNumber_27 ?_
  exact e_X7_writeNumber_28 hst hZ hn hs hx
set_option maxHeartbeats 4000000 in
set_option maxRecDepth 100000 in
theorem e_X7_writeNumber {g : mm_G} {l : Launch} (hst : l.stackTraces = false) {Z : Nat → Nat → Option Nat} (hZ : HZ Z) {n : Nat} (hn : 1186 ≤ n) {z : Bool} {d : Nat} {U : Nat} {a : Nat} (hs : sh a = 7) {p0 : Option Nat} {p1 : Int64} {p2 : Option Nat} {σ : SG} {σ' : SG} (hx : x_X7_writeNumber U a p0 p1 p2 σ = some σ') : mm_Cm g l yX7_writeNumber (.code yX7_writeNumber cX7_writeNumber 6 none) (d + 5) 0 0 [.ref a, va_rf p0, .long p1, va_rf p2] (mem Z σ, n, z) (fun v S' => v = none ∧ S' = (mem Z σ', n, z)) := by
  refine mm_Cm_of hst (by decide) (by cases p0 <;> cases p2 <;>  exact Nat.le_of_ble_eq_true rfl) ?_
  rw [show mm_ent [.ref a, va_rf p0, .long p1, va_rf p2] 6 = [some (.ref a), some (va_rf p0), some (.long p1), none, some (va_rf p2), none] from by cases p0 <;> cases p2 <;>  rfl]
  show mm_V g l RX7 "writeNumber" cX7_writeNumber 6 none [] (d + 5) 0 0 (mm_nt (fun v S' => v = none ∧ S' = (mem Z σ', n, z))) 0 [some (.ref a), some (va_rf p0), some (.long p1), none, some (va_rf p2), none] [] (mem Z σ, n, z) 0 0
  unfold x_X7_writeNumber at hx
  refine mm_aload_n dX7_writeNumber_0 rfl (isr_rf _) ?_
  obtain ⟨q1, hr2, hs3, hx⟩ := ck_some hx
  refine s_getIN (r := p0) (b := q1) (ci := 3) (k := 8) in_X3 rfl (by decide) rfl kF_X7_86 dX7_writeNumber_1 hr2 hs3 (by decide) hn (by decide) rfl ?_
  refine mm_bipush (v := 14) dX7_writeNumber_4 (by decide) ?_
  refine b_if hx (fun h4 hx => ?_) (fun h4 hx => ?_)
  · refine mm_icmp_ne 27 dX7_writeNumber_6 (by decide) (fun h => absurd h4 h) (fun _ => ?_)
    refine mm_aload_n dX7_writeNumber_9 rfl (isr_rf _) ?_
    refine s_getPN (r := p0) (b := q1) (ci := 3) (k := 10) in_X3 rfl (by decide) rfl kF_X7_95 dX7_writeNumber_10 hr2 hs3 (by decide) hn (by decide) rfl ?_
    refine b_if hx (fun h5 hx => ?_) (fun h5 hx => ?_)
    · refine mm_ifnull (r := sP σ q1 10) 27 dX7_writeNumber_13 (by decide) (fun _ => ?_) (fun h => absurd h5 h)
      exact e_X7_writeNumber_27 hst hZ hn hs hx
    · refine mm_ifnull (r := sP σ q1 10) 27 dX7_writeNumber_13 (by decide) (fun h => absurd h h5) (fun _ => ?_)
      refine mm_aload_n dX7_writeNumber_16 rfl (isr_rf _) ?_
      refine s_getPN (r := p0) (b := q1) (ci := 3) (k := 10) in_X3 rfl (by decide) rfl kF_X7_95 dX7_writeNumber_17 hr2 hs3 (by decide) hn (by decide) rfl ?_
      refine mm_lload_n dX7_writeNumber_20 rfl ?_
      obtain ⟨q28, hr29, hs30, hx⟩ := ck_some hx
      obtain ⟨v32, hc31, hx⟩ := b1_some hx
      refine mm_callV3 (a := q28) (ci := 3) wM_X3_memberNumbered kM_X7_244 wI_X3_memberNumbered wS_X3_memberNumbered dX7_writeNumber_21 (e_X3_memberNumbered hst hZ hn hs30 hc31) (mem_obj hs30 (by decide)) (sh_ltn hs30 (by decide) hn) rfl rfl (by rw [hr29]; rfl) (Nat.le_of_ble_eq_true rfl) (by omega) (by omega) (fun v9 S9 hq => ?_)
      obtain ⟨rfl, rfl⟩ := hq
      refine ⟨fun h => ⟨h, rfl⟩, ?_⟩
      refine mm_goto 28 dX7_writeNumber_24 (by decide) ?_
      exact e_X7_writeNumber_28 hst hZ hn hs hx
  · refine mm_icmp_ne 27 dX7_writeNumber_6 (by decide) (fun _ => ?_) (fun h => absurd h h4)
    exact e_X7_writeNumber_27 hst hZ hn hs hx
set_option maxHeartbeats 4000000 in
set_option maxRecDepth 100000 in
theorem e_X7_writeTextByte_L2 {g : mm_G} {l : Launch} (hst : l.stackTraces = false) {Z : Nat → Nat → Option Nat} (hZ : HZ Z) {n : Nat} (hn : 1186 ≤ n) {z : Bool} {d : Nat} {U : Nat} {a : Nat} (hs : sh a = 7) {k35 : Int32 → Option (SG)} {k64 : Option (SG)} {v1_ : Int32} {σ : SG} {σ' : SG} (hk35 : ∀ (v2_ : Int32), k35 v2_ = some σ' → mm_V g l RX7 "writeTextByte" cX7_writeTextByte 3 none [] (d + 4) 0 0 (mm_nt (fun v S' => v = none ∧ S' = (mem Z σ', n, z))) 35 [some (.ref a), none, some (.int v2_)] [] (mem Z σ, n, z) 0 0) (hk64 : k64 = some σ' → mm_V g l RX7 "writeTextByte" cX7_writeTextByte 3 none [] (d + 4) 0 0 (mm_nt (fun v S' => v = none ∧ S' = (mem Z σ', n, z))) 64 [some (.ref a), some (.int v1_), none] [] (mem Z σ, n, z) 0 0) : ∀ (U1 : Nat) (v2_ : Int32), x_X7_writeTextByte_L2 U a k35 k64 v1_ σ U1 v2_ = some σ' → mm_V g l RX7 "writeTextByte" cX7_writeTextByte 3 none [] (d + 4) 0 0 (mm_nt (fun v S' => v = none ∧ S' = (mem Z σ', n, z))) 2 [some (.ref a), some (.int v1_), some (.int v2_)] [] (mem Z σ, n, z) 0 0 := by
  intro U1
  induction U1 with
  | zero => intro v2_ hx; exact absurd hx (by simp [x_X7_writeTextByte_L2])
  | succ U1 ih =>
    intro v2_ hx
    rw [x_X7_writeTextByte_L2] at hx
    refine mm_iload_n dX7_writeTextByte_2 rfl ?_
    refine mm_iconst (v := 5) dX7_writeTextByte_3 (by decide) ?_
    refine b_if hx (fun h1 hx => ?_) (fun h1 hx => ?_)
    · refine mm_icmp_ge 64 dX7_writeTextByte_4 (by decide) (fun h => absurd h (Int32.not_le.mpr h1)) (fun _ => ?_)
      refine mm_iload_n dX7_writeTextByte_7 rfl ?_
      refine mm_ldcS (k := 11) rfl dX7_writeTextByte_8 ?_
      refine mm_strlen (by first | assumption | decide) kX_X7_176 (Nat.le_of_ble_eq_true rfl) (by omega) (by omega) dX7_writeTextByte_10 ?_
      refine b_if hx (fun h2 hx => ?_) (fun h2 hx => ?_)
      · refine mm_icmp_ge 64 dX7_writeTextByte_13 (by decide) (fun h => absurd h (Int32.not_le.mpr h2)) (fun _ => ?_)
        refine mm_iload_n dX7_writeTextByte_16 rfl ?_
        refine mm_ldcS (k := 10) rfl dX7_writeTextByte_17 ?_
        refine mm_strlen (by first | assumption | decide) kX_X7_176 (Nat.le_of_ble_eq_true rfl) (by omega) (by omega) dX7_writeTextByte_19 ?_
        refine b_if hx (fun h3 hx => ?_) (fun h3 hx => ?_)
        · refine mm_icmp_ge 64 dX7_writeTextByte_22 (by decide) (fun h => absurd h (Int32.not_le.mpr h3)) (fun _ => ?_)
          refine mm_ldcS (k := 11) rfl dX7_writeTextByte_25 ?_
          refine mm_iload_n dX7_writeTextByte_27 rfl ?_
          obtain ⟨j4, hj5, hb6, hl7, hx⟩ := ix_some hx
          refine mm_strchr (by first | assumption | decide) kX_X7_183 (Nat.le_of_ble_eq_true rfl) (by omega) (by omega) hj5 hb6 dX7_writeTextByte_28 ?_
          refine mm_iload_n dX7_writeTextByte_31 rfl ?_
          refine b_if hx (fun h8 hx => ?_) (fun h8 hx => ?_)
          · refine mm_icmp_ne 58 dX7_writeTextByte_32 (by decide) (fun h => absurd h8 h) (fun _ => ?_)
            refine mm_fewer [some (.ref a), none, some (.int v2_)] (few_ok (bs := [true, false, true]) rfl) ?_
            exact hk35 _ hx
          · refine mm_icmp_ne 58 dX7_writeTextByte_32 (by decide) (fun _ => ?_) (fun h => absurd h h8)
            refine mm_iinc (v := v2_ + 1) [some (.ref a), some (.int v1_), some (.int (v2_ + 1))] dX7_writeTextByte_58 rfl rfl (by decide) rfl ?_
            refine mm_goto 2 dX7_writeTextByte_61 (by decide) ?_
            exact ih _ hx
        · refine mm_icmp_ge 64 dX7_writeTextByte_22 (by decide) (fun _ => ?_) (fun h => absurd (Int32.not_lt.mp h3) h)
          refine mm_fewer [some (.ref a), some (.int v1_), none] (few_ok (bs := [true, true, false]) rfl) ?_
          exact hk64  hx
      · refine mm_icmp_ge 64 dX7_writeTextByte_13 (by decide) (fun _ => ?_) (fun h => absurd (Int32.not_lt.mp h2) h)
        refine mm_fewer [some (.ref a), some (.int v1_), none] (few_ok (bs := [true, true, false]) rfl) ?_
        exact hk64  hx
    · refine mm_icmp_ge 64 dX7_writeTextByte_4 (by decide) (fun _ => ?_) (fun h => absurd (Int32.not_lt.mp h1) h)
      refine mm_fewer [some (.ref a), some (.int v1_), none] (few_ok (bs := [true, true, false]) rfl) ?_
      exact hk64  hx
set_option maxHeartbeats 4000000 in
set_option maxRecDepth 100000 in
theorem e_X7_writeTextByte_85 {g : mm_G} {l : Launch} (hst : l.stackTraces = false) {Z : Nat → Nat → Option Nat} (hZ : HZ Z) {n : Nat} (hn : 1186 ≤ n) {z : Bool} {d : Nat} {U : Nat} {a : Nat} (hs : sh a = 7) {v1_ : Int32} {σ : SG} {σ' : SG} (hx : x_X7_writeTextByte_85 U a v1_ σ = some σ') : mm_V g l RX7 "writeTextByte" cX7_writeTextByte 3 none [] (d + 4) 0 0 (mm_nt (fun v S' => v = none ∧ S' = (mem Z σ', n, z))) 85 [some (.ref a), some (.int v1_), none] [] (mem Z σ, n, z) 0 0 := by
  unfold x_X7_writeTextByte_85 at hx
  refine mm_aload_n dX7_writeTextByte_85 rfl rfl ?_
  refine s_getS (q := 3) (r := some a) (b := a) (ci := 7) (k := 2) in_X7 rfl (by decide) rfl kF_X7_19 dX7_writeTextByte_86 rfl hs (by decide) hn (by decide) rfl rfl ?_
  refine mm_bipush (v := 92) dX7_writeTextByte_89 (by decide) ?_
  obtain ⟨σ20, hc19, hx⟩ := b1_some hx
  refine mm_callV3 (a := 3) (ci := 0) wM_X0_add kM_X7_163 wI_X0_add wS_X0_add dX7_writeTextByte_91 (e_X0_add hst hZ hn sa_3 hc19) (mem_obj sa_3 (by decide)) (sh_ltn sa_3 (by decide) hn) rfl rfl rfl (Nat.le_of_ble_eq_true rfl) (by omega) (by omega) (fun v9 S9 hq => ?_)
  obtain ⟨rfl, rfl⟩ := hq
  refine ⟨fun h => ⟨h, rfl⟩, ?_⟩
  refine mm_aload_n dX7_writeTextByte_94 rfl rfl ?_
  refine s_getS (q := 3) (r := some a) (b := a) (ci := 7) (k := 2) in_X7 rfl (by decide) rfl kF_X7_19 dX7_writeTextByte_95 rfl hs (by decide) hn (by decide) rfl rfl ?_
  refine mm_bipush (v := 48) dX7_writeTextByte_98 (by decide) ?_
  refine mm_iload_n dX7_writeTextByte_100 rfl ?_
  refine mm_bipush (v := 6) dX7_writeTextByte_101 (by decide) ?_
  refine mm_iushr dX7_writeTextByte_103 ?_
  refine mm_bipush (v := 7) dX7_writeTextByte_104 (by decide) ?_
  refine mm_iand dX7_writeTextByte_106 ?_
  refine mm_iadd dX7_writeTextByte_107 ?_
  obtain ⟨σ22, hc21, hx⟩ := b1_some hx
  refine mm_callV3 (a := 3) (ci := 0) wM_X0_add kM_X7_163 wI_X0_add wS_X0_add dX7_writeTextByte_108 (e_X0_add hst hZ hn sa_3 hc21) (mem_obj sa_3 (by decide)) (sh_ltn sa_3 (by decide) hn) rfl rfl rfl (Nat.le_of_ble_eq_true rfl) (by omega) (by omega) (fun v9 S9 hq => ?_)
  obtain ⟨rfl, rfl⟩ := hq
  refine ⟨fun h => ⟨h, rfl⟩, ?_⟩
  refine mm_aload_n dX7_writeTextByte_111 rfl rfl ?_
  refine s_getS (q := 3) (r := some a) (b := a) (ci := 7) (k := 2) in_X7 rfl (by decide) rfl kF_X7_19 dX7_writeTextByte_112 rfl hs (by decide) hn (by decide) rfl rfl ?_
  refine mm_bipush (v := 48) dX7_writeTextByte_115 (by decide) ?_
  refine mm_iload_n dX7_writeTextByte_117 rfl ?_
  refine mm_iconst (v := 3) dX7_writeTextByte_118 (by decide) ?_
  refine mm_iushr dX7_writeTextByte_119 ?_
  refine mm_bipush (v := 7) dX7_writeTextByte_120 (by decide) ?_
  refine mm_iand dX7_writeTextByte_122 ?_
  refine mm_iadd dX7_writeTextByte_123 ?_
  obtain ⟨σ24, hc23, hx⟩ := b1_some hx
  refine mm_callV3 (a := 3) (ci := 0) wM_X0_add kM_X7_163 wI_X0_add wS_X0_add dX7_writeTextByte_124 (e_X0_add hst hZ hn sa_3 hc23) (mem_obj sa_3 (by decide)) (sh_ltn sa_3 (by decide) hn) rfl rfl rfl (Nat.le_of_ble_eq_true rfl) (by omega) (by omega) (fun v9 S9 hq => ?_)
  obtain ⟨rfl, rfl⟩ := hq
  refine ⟨fun h => ⟨h, rfl⟩, ?_⟩
  refine mm_aload_n dX7_writeTextByte_127 rfl rfl ?_
  refine s_getS (q := 3) (r := some a) (b := a) (ci := 7) (k := 2) in_X7 rfl (by decide) rfl kF_X7_19 dX7_writeTextByte_128 rfl hs (by decide) hn (by decide) rfl rfl ?_
  refine mm_bipush (v := 48) dX7_writeTextByte_131 (by decide) ?_
  refine mm_iload_n dX7_writeTextByte_133 rfl ?_
  refine mm_bipush (v := 7) dX7_writeTextByte_134 (by decide) ?_
  refine mm_iand dX7_writeTextByte_136 ?_
  refine mm_iadd dX7_writeTextByte_137 ?_
  obtain ⟨σ26, hc25, hx⟩ := b1_some hx
  refine mm_callV3 (a := 3) (ci := 0) wM_X0_add kM_X7_163 wI_X0_add wS_X0_add dX7_writeTextByte_138 (e_X0_add hst hZ hn sa_3 hc25) (mem_obj sa_3 (by decide)) (sh_ltn sa_3 (by decide) hn) rfl rfl rfl (Nat.le_of_ble_eq_true rfl) (by omega) (by omega) (fun v9 S9 hq => ?_)
  obtain ⟨rfl, rfl⟩ := hq
  refine ⟨fun h => ⟨h, rfl⟩, ?_⟩
  refine mm_vret dX7_writeTextByte_141 rfl ?_ (by omega) (by omega)
  obtain rfl := fin1 hx
  exact ⟨rfl, rfl⟩
set_option maxHeartbeats 4000000 in
set_option maxRecDepth 100000 in
theorem e_X7_writeTextByte_64 {g : mm_G} {l : Launch} (hst : l.stackTraces = false) {Z : Nat → Nat → Option Nat} (hZ : HZ Z) {n : Nat} (hn : 1186 ≤ n) {z : Bool} {d : Nat} {U : Nat} {a : Nat} (hs : sh a = 7) {v1_ : Int32} {σ : SG} {σ' : SG} (hx : x_X7_writeTextByte_64 U a v1_ σ = some σ') : mm_V g l RX7 "writeTextByte" cX7_writeTextByte 3 none [] (d + 4) 0 0 (mm_nt (fun v S' => v = none ∧ S' = (mem Z σ', n, z))) 64 [some (.ref a), some (.int v1_), none] [] (mem Z σ, n, z) 0 0 := by
  unfold x_X7_writeTextByte_64 at hx
  refine mm_iload_n dX7_writeTextByte_64 rfl ?_
  refine mm_bipush (v := 32) dX7_writeTextByte_65 (by decide) ?_
  refine b_if hx (fun h18 hx => ?_) (fun h18 hx => ?_)
  · refine mm_icmp_lt 85 dX7_writeTextByte_67 (by decide) (fun _ => ?_) (fun h => absurd h18 h)
    exact e_X7_writeTextByte_85 hst hZ hn hs hx
  · refine mm_icmp_lt 85 dX7_writeTextByte_67 (by decide) (fun h => absurd h h18) (fun _ => ?_)
    refine mm_iload_n dX7_writeTextByte_70 rfl ?_
    refine mm_bipush (v := 126) dX7_writeTextByte_71 (by decide) ?_
    refine b_if hx (fun h27 hx => ?_) (fun h27 hx => ?_)
    · refine mm_icmp_gt 85 dX7_writeTextByte_73 (by decide) (fun _ => ?_) (fun h => absurd h27 h)
      exact e_X7_writeTextByte_85 hst hZ hn hs hx
    · refine mm_icmp_gt 85 dX7_writeTextByte_73 (by decide) (fun h => absurd h h27) (fun _ => ?_)
      refine mm_aload_n dX7_writeTextByte_76 rfl rfl ?_
      refine s_getS (q := 3) (r := some a) (b := a) (ci := 7) (k := 2) in_X7 rfl (by decide) rfl kF_X7_19 dX7_writeTextByte_77 rfl hs (by decide) hn (by decide) rfl rfl ?_
      refine mm_iload_n dX7_writeTextByte_80 rfl ?_
      obtain ⟨σ29, hc28, hx⟩ := b1_some hx
      refine mm_callV3 (a := 3) (ci := 0) wM_X0_add kM_X7_163 wI_X0_add wS_X0_add dX7_writeTextByte_81 (e_X0_add hst hZ hn sa_3 hc28) (mem_obj sa_3 (by decide)) (sh_ltn sa_3 (by decide) hn) rfl rfl rfl (Nat.le_of_ble_eq_true rfl) (by omega) (by omega) (fun v9 S9 hq => ?_)
      obtain ⟨rfl, rfl⟩ := hq
      refine ⟨fun h => ⟨h, rfl⟩, ?_⟩
      refine mm_vret dX7_writeTextByte_84 rfl ?_ (by omega) (by omega)
      obtain rfl := fin1 hx
      exact ⟨rfl, rfl⟩
set_option maxHeartbeats 4000000 in
set_option maxRecDepth 100000 in
theorem e_X7_writeTextByte {g : mm_G} {l : Launch} (hst : l.stackTraces = false) {Z : Nat → Nat → Option Nat} (hZ : HZ Z) {n : Nat} (hn : 1186 ≤ n) {z : Bool} {d : Nat} {U : Nat} {a : Nat} (hs : sh a = 7) {p0 : Int32} {σ : SG} {σ' : SG} (hx : x_X7_writeTextByte U a p0 σ = some σ') : mm_Cm g l yX7_writeTextByte (.code yX7_writeTextByte cX7_writeTextByte 3 none) (d + 4) 0 0 [.ref a, .int p0] (mem Z σ, n, z) (fun v S' => v = none ∧ S' = (mem Z σ', n, z)) := by
  refine mm_Cm_of hst (by decide) (Nat.le_of_ble_eq_true rfl) ?_
  show mm_V g l RX7 "writeTextByte" cX7_writeTextByte 3 none [] (d + 4) 0 0 (mm_nt (fun v S' => v = none ∧ S' = (mem Z σ', n, z))) 0 [some (.ref a), some (.int p0), none] [] (mem Z σ, n, z) 0 0
  unfold x_X7_writeTextByte at hx
  refine mm_iconst (v := 0) dX7_writeTextByte_0 (by decide) ?_
  refine mm_istore_n [some (.ref a), some (.int p0), some (.int 0)] dX7_writeTextByte_1 (by decide) rfl ?_
  refine e_X7_writeTextByte_L2 hst hZ hn hs ?_ ?_ _ _ hx
  · intro w9 hx
    refine mm_aload_n dX7_writeTextByte_35 rfl rfl ?_
    refine s_getS (q := 3) (r := some a) (b := a) (ci := 7) (k := 2) in_X7 rfl (by decide) rfl kF_X7_19 dX7_writeTextByte_36 rfl hs (by decide) hn (by decide) rfl rfl ?_
    refine mm_bipush (v := 92) dX7_writeTextByte_39 (by decide) ?_
    obtain ⟨σ11, hc10, hx⟩ := b1_some hx
    refine mm_callV3 (a := 3) (ci := 0) wM_X0_add kM_X7_163 wI_X0_add wS_X0_add dX7_writeTextByte_41 (e_X0_add hst hZ hn sa_3 hc10) (mem_obj sa_3 (by decide)) (sh_ltn sa_3 (by decide) hn) rfl rfl rfl (Nat.le_of_ble_eq_true rfl) (by omega) (by omega) (fun v9 S9 hq => ?_)
    obtain ⟨rfl, rfl⟩ := hq
    refine ⟨fun h => ⟨h, rfl⟩, ?_⟩
    refine mm_aload_n dX7_writeTextByte_44 rfl rfl ?_
    refine s_getS (q := 3) (r := some a) (b := a) (ci := 7) (k := 2) in_X7 rfl (by decide) rfl kF_X7_19 dX7_writeTextByte_45 rfl hs (by decide) hn (by decide) rfl rfl ?_
    refine mm_ldcS (k := 10) rfl dX7_writeTextByte_48 ?_
    refine mm_iload_n dX7_writeTextByte_50 rfl ?_
    obtain ⟨j12, hj13, hb14, hl15, hx⟩ := ix_some hx
    refine mm_strchr (by first | assumption | decide) kX_X7_183 (Nat.le_of_ble_eq_true rfl) (by omega) (by omega) hj13 hb14 dX7_writeTextByte_51 ?_
    obtain ⟨σ17, hc16, hx⟩ := b1_some hx
    refine mm_callV3 (a := 3) (ci := 0) wM_X0_add kM_X7_163 wI_X0_add wS_X0_add dX7_writeTextByte_54 (e_X0_add hst hZ hn sa_3 hc16) (mem_obj sa_3 (by decide)) (sh_ltn sa_3 (by decide) hn) rfl rfl rfl (Nat.le_of_ble_eq_true rfl) (by omega) (by omega) (fun v9 S9 hq => ?_)
    obtain ⟨rfl, rfl⟩ := hq
    refine ⟨fun h => ⟨h, rfl⟩, ?_⟩
    refine mm_vret dX7_writeTextByte_57 rfl ?_ (by omega) (by omega)
    obtain rfl := fin1 hx
    exact ⟨rfl, rfl⟩
  · intro  hx
    exact e_X7_writeTextByte_64 hst hZ hn hs hx
set_option maxHeartbeats 4000000 in
set_option maxRecDepth 100000 in
theorem e_X7_writeText_L14 {g : mm_G} {l : Launch} (hst : l.stackTraces = false) {Z : Nat → Nat → Option Nat} (hZ : HZ Z) {n : Nat} (hn : 1186 ≤ n) {z : Bool} {d : Nat} {U : Nat} {a : Nat} (hs : sh a = 7) {k43 : SG → Option (SG)} {v1_ : Option Nat} {σ' : SG} (hk43 : ∀ (σ8 : SG), k43 σ8 = some σ' → mm_V g l RX7 "writeText" cX7_writeText 3 none [] (d + 5) 0 0 (mm_nt (fun v S' => v = none ∧ S' = (mem Z σ', n, z))) 43 [some (.ref a), none, none] [] (mem Z σ8, n, z) 0 0) : ∀ (U1 : Nat) (v2_ : Int32) (σ : SG), x_X7_writeText_L14 U a k43 v1_ U1 v2_ σ = some σ' → mm_V g l RX7 "writeText" cX7_writeText 3 none [] (d + 5) 0 0 (mm_nt (fun v S' => v = none ∧ S' = (mem Z σ', n, z))) 14 [some (.ref a), some (va_rf v1_), some (.int v2_)] [] (mem Z σ, n, z) 0 0 := by
  intro U1
  induction U1 with
  | zero => intro v2_ σ hx; exact absurd hx (by simp [x_X7_writeText_L14])
  | succ U1 ih =>
    intro v2_ σ hx
    rw [x_X7_writeText_L14] at hx
    refine mm_iload_n dX7_writeText_14 rfl ?_
    refine mm_aload_n dX7_writeText_15 rfl (isr_rf _) ?_
    obtain ⟨q6, hr7, hs8, hx⟩ := ck_some hx
    refine s_getIN (r := v1_) (b := q6) (ci := 4) (k := 6) in_X4 rfl (by decide) rfl kF_X7_167 dX7_writeText_16 hr7 hs8 (by decide) hn (by decide) rfl ?_
    refine b_if hx (fun h9 hx => ?_) (fun h9 hx => ?_)
    · refine mm_icmp_ge 43 dX7_writeText_19 (by decide) (fun h => absurd h (Int32.not_le.mpr h9)) (fun _ => ?_)
      refine mm_aload_n dX7_writeText_22 rfl rfl ?_
      refine mm_aload_n dX7_writeText_23 rfl rfl ?_
      refine s_getS (q := 389) (r := some a) (b := a) (ci := 7) (k := 1) in_X7 rfl (by decide) rfl kF_X7_15 dX7_writeText_24 rfl hs (by decide) hn (by decide) rfl rfl ?_
      refine s_getSN (q := 1092) (r := some 389) (b := 389) (ci := 8) (k := 2) in_X8 rfl (by decide) rfl kF_X7_154 dX7_writeText_27 rfl sa_389 (by decide) hn (by decide) rfl rfl ?_
      refine mm_iload_n dX7_writeText_30 rfl ?_
      obtain ⟨v11, hc10, hx⟩ := b1_some hx
      refine mm_callV3 (a := 1092) (ci := 0) wM_X0_at kM_X7_50 wI_X0_at wS_X0_at dX7_writeText_31 (e_X0_at hst hZ hn sa_1092 hc10) (mem_obj sa_1092 (by decide)) (sh_ltn sa_1092 (by decide) hn) rfl rfl rfl (Nat.le_of_ble_eq_true rfl) (by omega) (by omega) (fun v9 S9 hq => ?_)
      obtain ⟨rfl, rfl⟩ := hq
      refine ⟨fun h => ⟨h, rfl⟩, ?_⟩
      obtain ⟨σ13, hc12, hx⟩ := b1_some hx
      refine mm_callV3 (a := a) (ci := 7) wM_X7_writeTextByte kM_X7_258 wI_X7_writeTextByte wS_X7_writeTextByte dX7_writeText_34 (e_X7_writeTextByte hst hZ hn hs hc12) (mem_obj hs (by decide)) (sh_ltn hs (by decide) hn) rfl rfl rfl (Nat.le_of_ble_eq_true rfl) (by omega) (by omega) (fun v9 S9 hq => ?_)
      obtain ⟨rfl, rfl⟩ := hq
      refine ⟨fun h => ⟨h, rfl⟩, ?_⟩
      refine mm_iinc (v := v2_ + 1) [some (.ref a), some (va_rf v1_), some (.int (v2_ + 1))] dX7_writeText_37 rfl rfl (by decide) ((st1_o (r := v1_) rfl).trans rfl) ?_
      refine mm_goto 14 dX7_writeText_40 (by decide) ?_
      exact ih _ _ hx
    · refine mm_icmp_ge 43 dX7_writeText_19 (by decide) (fun _ => ?_) (fun h => absurd (Int32.not_lt.mp h9) h)
      refine mm_fewer [some (.ref a), none, none] (few_ok (bs := [true, false, false]) rfl) ?_
      exact hk43  _ hx
set_option maxHeartbeats 4000000 in
set_option maxRecDepth 100000 in
theorem e_X7_writeText {g : mm_G} {l : Launch} (hst : l.stackTraces = false) {Z : Nat → Nat → Option Nat} (hZ : HZ Z) {n : Nat} (hn : 1186 ≤ n) {z : Bool} {d : Nat} {U : Nat} {a : Nat} (hs : sh a = 7) {p0 : Option Nat} {σ : SG} {σ' : SG} (hx : x_X7_writeText U a p0 σ = some σ') : mm_Cm g l yX7_writeText (.code yX7_writeText cX7_writeText 3 none) (d + 5) 0 0 [.ref a, va_rf p0] (mem Z σ, n, z) (fun v S' => v = none ∧ S' = (mem Z σ', n, z)) := by
  refine mm_Cm_of hst (by decide) (by cases p0 <;>  exact Nat.le_of_ble_eq_true rfl) ?_
  rw [show mm_ent [.ref a, va_rf p0] 3 = [some (.ref a), some (va_rf p0), none] from by cases p0 <;>  rfl]
  show mm_V g l RX7 "writeText" cX7_writeText 3 none [] (d + 5) 0 0 (mm_nt (fun v S' => v = none ∧ S' = (mem Z σ', n, z))) 0 [some (.ref a), some (va_rf p0), none] [] (mem Z σ, n, z) 0 0
  unfold x_X7_writeText at hx
  refine mm_aload_n dX7_writeText_0 rfl rfl ?_
  refine s_getS (q := 3) (r := some a) (b := a) (ci := 7) (k := 2) in_X7 rfl (by decide) rfl kF_X7_19 dX7_writeText_1 rfl hs (by decide) hn (by decide) rfl rfl ?_
  refine mm_bipush (v := 34) dX7_writeText_4 (by decide) ?_
  obtain ⟨σ2, hc1, hx⟩ := b1_some hx
  refine mm_callV3 (a := 3) (ci := 0) wM_X0_add kM_X7_163 wI_X0_add wS_X0_add dX7_writeText_6 (e_X0_add hst hZ hn sa_3 hc1) (mem_obj sa_3 (by decide)) (sh_ltn sa_3 (by decide) hn) rfl rfl rfl (Nat.le_of_ble_eq_true rfl) (by omega) (by omega) (fun v9 S9 hq => ?_)
  obtain ⟨rfl, rfl⟩ := hq
  refine ⟨fun h => ⟨h, rfl⟩, ?_⟩
  refine mm_aload_n dX7_writeText_9 rfl (isr_rf _) ?_
  obtain ⟨q3, hr4, hs5, hx⟩ := ck_some hx
  refine s_getIN (r := p0) (b := q3) (ci := 4) (k := 5) in_X4 rfl (by decide) rfl kF_X7_157 dX7_writeText_10 hr4 hs5 (by decide) hn (by decide) rfl ?_
  refine mm_istore_n [some (.ref a), some (va_rf p0), some (.int (sI σ2 q3 5))] dX7_writeText_13 (by decide) ((st1_o (r := p0) rfl).trans rfl) ?_
  refine e_X7_writeText_L14 hst hZ hn hs ?_ _ _ _ hx
  · intro  σ14 hx
    refine mm_aload_n dX7_writeText_43 rfl rfl ?_
    refine s_getS (q := 3) (r := some a) (b := a) (ci := 7) (k := 2) in_X7 rfl (by decide) rfl kF_X7_19 dX7_writeText_44 rfl hs (by decide) hn (by decide) rfl rfl ?_
    refine mm_bipush (v := 34) dX7_writeText_47 (by decide) ?_
    obtain ⟨σ16, hc15, hx⟩ := b1_some hx
    refine mm_callV3 (a := 3) (ci := 0) wM_X0_add kM_X7_163 wI_X0_add wS_X0_add dX7_writeText_49 (e_X0_add hst hZ hn sa_3 hc15) (mem_obj sa_3 (by decide)) (sh_ltn sa_3 (by decide) hn) rfl rfl rfl (Nat.le_of_ble_eq_true rfl) (by omega) (by omega) (fun v9 S9 hq => ?_)
    obtain ⟨rfl, rfl⟩ := hq
    refine ⟨fun h => ⟨h, rfl⟩, ?_⟩
    refine mm_vret dX7_writeText_52 rfl ?_ (by omega) (by omega)
    obtain rfl := fin1 hx
    exact ⟨rfl, rfl⟩
set_option maxHeartbeats 4000000 in
set_option maxRecDepth 100000 in
theorem e_X7_writeField_103 {g : mm_G} {l : Launch} (hst : l.stackTraces = false) {Z : Nat → Nat → Option Nat} (hZ : HZ Z) {n : Nat} (hn : 1186 ≤ n) {z : Bool} {d : Nat} {U : Nat} {rc : Option Nat → Option Nat → Int32 → SG → Option (SG)} {a : Nat} (hs : sh a = 7) (hrc : ∀ (y0 : Option Nat) (y1 : Option Nat) (y2 : Int32) (σ : SG) (σ' : SG), rc y0 y1 y2 σ = some σ' → mm_Cm g l yX7_writeMessage (.code yX7_writeMessage cX7_writeMessage 5 none) (d + 14) 0 0 [.ref a, va_rf y0, va_rf y1, .int y2] (mem Z σ, n, z) (fun v S' => v = none ∧ S' = (mem Z σ', n, z))) {σ : SG} {σ' : SG} (hx : x_X7_writeField_103 U rc a σ = some σ') : mm_V g l RX7 "writeField" cX7_writeField 5 none [] (d + 15) 0 0 (mm_nt (fun v S' => v = none ∧ S' = (mem Z σ', n, z))) 103 [some (.ref a), none, none, none, none] [] (mem Z σ, n, z) 0 0 := by
  unfold x_X7_writeField_103 at hx
  refine mm_aload_n dX7_writeField_103 rfl rfl ?_
  refine s_getS (q := 3) (r := some a) (b := a) (ci := 7) (k := 2) in_X7 rfl (by decide) rfl kF_X7_19 dX7_writeField_104 rfl hs (by decide) hn (by decide) rfl rfl ?_
  refine mm_bipush (v := 10) dX7_writeField_107 (by decide) ?_
  obtain ⟨σ25, hc24, hx⟩ := b1_some hx
  refine mm_callV3 (a := 3) (ci := 0) wM_X0_add kM_X7_163 wI_X0_add wS_X0_add dX7_writeField_109 (e_X0_add hst hZ hn sa_3 hc24) (mem_obj sa_3 (by decide)) (sh_ltn sa_3 (by decide) hn) rfl rfl rfl (Nat.le_of_ble_eq_true rfl) (by omega) (by omega) (fun v9 S9 hq => ?_)
  obtain ⟨rfl, rfl⟩ := hq
  refine ⟨fun h => ⟨h, rfl⟩, ?_⟩
  refine mm_vret dX7_writeField_112 rfl ?_ (by omega) (by omega)
  obtain rfl := fin1 hx
  exact ⟨rfl, rfl⟩
set_option maxHeartbeats 4000000 in
set_option maxRecDepth 100000 in
theorem e_X7_writeField {g : mm_G} {l : Launch} (hst : l.stackTraces = false) {Z : Nat → Nat → Option Nat} (hZ : HZ Z) {n : Nat} (hn : 1186 ≤ n) {z : Bool} {d : Nat} {U : Nat} {rc : Option Nat → Option Nat → Int32 → SG → Option (SG)} {a : Nat} (hs : sh a = 7) (hrc : ∀ (y0 : Option Nat) (y1 : Option Nat) (y2 : Int32) (σ : SG) (σ' : SG), rc y0 y1 y2 σ = some σ' → mm_Cm g l yX7_writeMessage (.code yX7_writeMessage cX7_writeMessage 5 none) (d + 14) 0 0 [.ref a, va_rf y0, va_rf y1, .int y2] (mem Z σ, n, z) (fun v S' => v = none ∧ S' = (mem Z σ', n, z))) {p0 : Option Nat} {p1 : Option Nat} {p2 : Option Nat} {p3 : Int32} {σ : SG} {σ' : SG} (hx : x_X7_writeField U rc a p0 p1 p2 p3 σ = some σ') : mm_Cm g l yX7_writeField (.code yX7_writeField cX7_writeField 5 none) (d + 15) 0 0 [.ref a, va_rf p0, va_rf p1, va_rf p2, .int p3] (mem Z σ, n, z) (fun v S' => v = none ∧ S' = (mem Z σ', n, z)) := by
  refine mm_Cm_of hst (by decide) (by cases p0 <;> cases p1 <;> cases p2 <;>  exact Nat.le_of_ble_eq_true rfl) ?_
  rw [show mm_ent [.ref a, va_rf p0, va_rf p1, va_rf p2, .int p3] 5 = [some (.ref a), some (va_rf p0), some (va_rf p1), some (va_rf p2), some (.int p3)] from by cases p0 <;> cases p1 <;> cases p2 <;>  rfl]
  show mm_V g l RX7 "writeField" cX7_writeField 5 none [] (d + 15) 0 0 (mm_nt (fun v S' => v = none ∧ S' = (mem Z σ', n, z))) 0 [some (.ref a), some (va_rf p0), some (va_rf p1), some (va_rf p2), some (.int p3)] [] (mem Z σ, n, z) 0 0
  unfold x_X7_writeField at hx
  refine mm_aload_n dX7_writeField_0 rfl rfl ?_
  refine mm_iload dX7_writeField_1 rfl ?_
  obtain ⟨σ2, hc1, hx⟩ := b1_some hx
  refine mm_callV3 (a := a) (ci := 7) wM_X7_writeIndent kM_X7_211 wI_X7_writeIndent wS_X7_writeIndent dX7_writeField_3 (e_X7_writeIndent hst hZ hn hs hc1) (mem_obj hs (by decide)) (sh_ltn hs (by decide) hn) rfl rfl rfl (Nat.le_of_ble_eq_true rfl) (by omega) (by omega) (fun v9 S9 hq => ?_)
  obtain ⟨rfl, rfl⟩ := hq
  refine ⟨fun h => ⟨h, rfl⟩, ?_⟩
  refine mm_aload_n dX7_writeField_6 rfl rfl ?_
  refine s_getS (q := 3) (r := some a) (b := a) (ci := 7) (k := 2) in_X7 rfl (by decide) rfl kF_X7_19 dX7_writeField_7 rfl hs (by decide) hn (by decide) rfl rfl ?_
  refine mm_aload_n dX7_writeField_10 rfl (isr_rf _) ?_
  refine mm_aload_n dX7_writeField_11 rfl (isr_rf _) ?_
  obtain ⟨q3, hr4, hs5, hx⟩ := ck_some hx
  refine s_getIN (r := p1) (b := q3) (ci := 3) (k := 4) in_X3 rfl (by decide) rfl kF_X7_214 dX7_writeField_12 hr4 hs5 (by decide) hn (by decide) rfl ?_
  refine mm_aload_n dX7_writeField_15 rfl (isr_rf _) ?_
  refine s_getIN (r := p1) (b := q3) (ci := 3) (k := 5) in_X3 rfl (by decide) rfl kF_X7_217 dX7_writeField_16 hr4 hs5 (by decide) hn (by decide) rfl ?_
  obtain ⟨σ7, hc6, hx⟩ := b1_some hx
  refine mm_callV3 (a := 3) (ci := 0) wM_X0_addAll kM_X7_220 wI_X0_addAll wS_X0_addAll dX7_writeField_19 (e_X0_addAll hst hZ hn sa_3 hc6) (mem_obj sa_3 (by decide)) (sh_ltn sa_3 (by decide) hn) rfl rfl rfl (Nat.le_of_ble_eq_true rfl) (by omega) (by omega) (fun v9 S9 hq => ?_)
  obtain ⟨rfl, rfl⟩ := hq
  refine ⟨fun h => ⟨h, rfl⟩, ?_⟩
  refine mm_aload_n dX7_writeField_22 rfl (isr_rf _) ?_
  refine s_getIN (r := p1) (b := q3) (ci := 3) (k := 8) in_X3 rfl (by decide) rfl kF_X7_86 dX7_writeField_23 hr4 hs5 (by decide) hn (by decide) rfl ?_
  refine mm_bipush (v := 13) dX7_writeField_26 (by decide) ?_
  refine b_if hx (fun h8 hx => ?_) (fun h8 hx => ?_)
  · refine mm_icmp_ne 66 dX7_writeField_28 (by decide) (fun h => absurd h8 h) (fun _ => ?_)
    refine mm_aload_n dX7_writeField_31 rfl rfl ?_
    refine s_getS (q := 3) (r := some a) (b := a) (ci := 7) (k := 2) in_X7 rfl (by decide) rfl kF_X7_19 dX7_writeField_32 rfl hs (by decide) hn (by decide) rfl rfl ?_
    refine mm_ldcS (k := 15) rfl dX7_writeField_35 ?_
    obtain ⟨σ10, hc9, hx⟩ := b1_some hx
    refine mm_callV3 (a := 3) (ci := 0) wM_X0_addText kM_X7_226 wI_X0_addText wS_X0_addText dX7_writeField_37 (e_X0_addText hst hZ hn sa_3 (by first | assumption | decide) hc9) (mem_obj sa_3 (by decide)) (sh_ltn sa_3 (by decide) hn) rfl rfl rfl (Nat.le_of_ble_eq_true rfl) (by omega) (by omega) (fun v9 S9 hq => ?_)
    obtain ⟨rfl, rfl⟩ := hq
    refine ⟨fun h => ⟨h, rfl⟩, ?_⟩
    refine mm_aload_n dX7_writeField_40 rfl rfl ?_
    refine mm_aload_n dX7_writeField_41 rfl (isr_rf _) ?_
    refine mm_aload_n dX7_writeField_42 rfl (isr_rf _) ?_
    refine mm_iload dX7_writeField_43 rfl ?_
    refine mm_iconst (v := 1) dX7_writeField_45 (by decide) ?_
    refine mm_iadd dX7_writeField_46 ?_
    obtain ⟨σ12, hc11, hx⟩ := b1_some hx
    refine mm_callV3 (a := a) (ci := 7) wM_X7_writeMessage kM_X7_191 wI_X7_writeMessage wS_X7_writeMessage dX7_writeField_47 (hrc _ _ _ _ _ hc11) (mem_obj hs (by decide)) (sh_ltn hs (by decide) hn) rfl rfl rfl (Nat.le_of_ble_eq_true rfl) (by omega) (by omega) (fun v9 S9 hq => ?_)
    obtain ⟨rfl, rfl⟩ := hq
    refine ⟨fun h => ⟨h, rfl⟩, ?_⟩
    refine mm_aload_n dX7_writeField_50 rfl rfl ?_
    refine mm_iload dX7_writeField_51 rfl ?_
    obtain ⟨σ14, hc13, hx⟩ := b1_some hx
    refine mm_callV3 (a := a) (ci := 7) wM_X7_writeIndent kM_X7_211 wI_X7_writeIndent wS_X7_writeIndent dX7_writeField_53 (e_X7_writeIndent hst hZ hn hs hc13) (mem_obj hs (by decide)) (sh_ltn hs (by decide) hn) rfl rfl rfl (Nat.le_of_ble_eq_true rfl) (by omega) (by omega) (fun v9 S9 hq => ?_)
    obtain ⟨rfl, rfl⟩ := hq
    refine ⟨fun h => ⟨h, rfl⟩, ?_⟩
    refine mm_aload_n dX7_writeField_56 rfl rfl ?_
    refine s_getS (q := 3) (r := some a) (b := a) (ci := 7) (k := 2) in_X7 rfl (by decide) rfl kF_X7_19 dX7_writeField_57 rfl hs (by decide) hn (by decide) rfl rfl ?_
    refine mm_ldcS (k := 16) rfl dX7_writeField_60 ?_
    obtain ⟨σ16, hc15, hx⟩ := b1_some hx
    refine mm_callV3 (a := 3) (ci := 0) wM_X0_addText kM_X7_226 wI_X0_addText wS_X0_addText dX7_writeField_62 (e_X0_addText hst hZ hn sa_3 (by first | assumption | decide) hc15) (mem_obj sa_3 (by decide)) (sh_ltn sa_3 (by decide) hn) rfl rfl rfl (Nat.le_of_ble_eq_true rfl) (by omega) (by omega) (fun v9 S9 hq => ?_)
    obtain ⟨rfl, rfl⟩ := hq
    refine ⟨fun h => ⟨h, rfl⟩, ?_⟩
    refine mm_vret dX7_writeField_65 rfl ?_ (by omega) (by omega)
    obtain rfl := fin1 hx
    exact ⟨rfl, rfl⟩
  · refine mm_icmp_ne 66 dX7_writeField_28 (by decide) (fun _ => ?_) (fun h => absurd h h8)
    refine mm_aload_n dX7_writeField_66 rfl rfl ?_
    refine s_getS (q := 3) (r := some a) (b := a) (ci := 7) (k := 2) in_X7 rfl (by decide) rfl kF_X7_19 dX7_writeField_67 rfl hs (by decide) hn (by decide) rfl rfl ?_
    refine mm_ldcS (k := 17) rfl dX7_writeField_70 ?_
    obtain ⟨σ18, hc17, hx⟩ := b1_some hx
    refine mm_callV3 (a := 3) (ci := 0) wM_X0_addText kM_X7_226 wI_X0_addText wS_X0_addText dX7_writeField_72 (e_X0_addText hst hZ hn sa_3 (by first | assumption | decide) hc17) (mem_obj sa_3 (by decide)) (sh_ltn sa_3 (by decide) hn) rfl rfl rfl (Nat.le_of_ble_eq_true rfl) (by omega) (by omega) (fun v9 S9 hq => ?_)
    obtain ⟨rfl, rfl⟩ := hq
    refine ⟨fun h => ⟨h, rfl⟩, ?_⟩
    refine mm_aload_n dX7_writeField_75 rfl (isr_rf _) ?_
    refine s_getIN (r := p1) (b := q3) (ci := 3) (k := 8) in_X3 rfl (by decide) rfl kF_X7_86 dX7_writeField_76 hr4 hs5 (by decide) hn (by decide) rfl ?_
    obtain ⟨v20, hc19, hx⟩ := b1_some hx
    refine mm_callSN wM_X11_isNumeric kM_X7_101 wT_X11_isNumeric dX7_writeField_79 (e_X11_isNumeric hst hZ hn hc19) rfl rfl (Nat.le_of_ble_eq_true rfl) (by omega) (by omega) (fun v9 S9 hq => ?_)
    obtain ⟨rfl, rfl⟩ := hq
    refine ⟨fun h => ⟨h, rfl⟩, ?_⟩
    refine b_if hx (fun h21 hx => ?_) (fun h21 hx => ?_)
    · refine mm_if_eq 98 dX7_writeField_82 (by decide) (fun _ => ?_) (fun h => absurd h21 h)
      refine mm_aload_n dX7_writeField_98 rfl rfl ?_
      refine mm_aload_n dX7_writeField_99 rfl (isr_rf _) ?_
      obtain ⟨σ23, hc22, hx⟩ := b1_some hx
      refine mm_callV3 (a := a) (ci := 7) wM_X7_writeText kM_X7_238 wI_X7_writeText wS_X7_writeText dX7_writeField_100 (e_X7_writeText hst hZ hn hs hc22) (mem_obj hs (by decide)) (sh_ltn hs (by decide) hn) rfl rfl rfl (Nat.le_of_ble_eq_true rfl) (by omega) (by omega) (fun v9 S9 hq => ?_)
      obtain ⟨rfl, rfl⟩ := hq
      refine ⟨fun h => ⟨h, rfl⟩, ?_⟩
      refine mm_fewer [some (.ref a), none, none, none, none] (few_ok (bs := [true, false, false, false, false]) rfl) ?_
      exact e_X7_writeField_103 hst hZ hn hs hrc hx
    · refine mm_if_eq 98 dX7_writeField_82 (by decide) (fun h => absurd h h21) (fun _ => ?_)
      refine mm_aload_n dX7_writeField_85 rfl rfl ?_
      refine mm_aload_n dX7_writeField_86 rfl (isr_rf _) ?_
      refine mm_aload_n dX7_writeField_87 rfl (isr_rf _) ?_
      obtain ⟨q26, hr27, hs28, hx⟩ := ck_some hx
      refine s_getLN (r := p0) (b := q26) (ci := 4) (k := 4) in_X4 rfl (by decide) rfl kF_X7_126 dX7_writeField_88 hr27 hs28 (by decide) hn (by decide) rfl ?_
      refine mm_aload_n dX7_writeField_91 rfl (isr_rf _) ?_
      obtain ⟨σ30, hc29, hx⟩ := b1_some hx
      refine mm_callV3 (a := a) (ci := 7) wM_X7_writeNumber kM_X7_234 wI_X7_writeNumber wS_X7_writeNumber dX7_writeField_92 (e_X7_writeNumber hst hZ hn hs hc29) (mem_obj hs (by decide)) (sh_ltn hs (by decide) hn) rfl rfl rfl (Nat.le_of_ble_eq_true rfl) (by omega) (by omega) (fun v9 S9 hq => ?_)
      obtain ⟨rfl, rfl⟩ := hq
      refine ⟨fun h => ⟨h, rfl⟩, ?_⟩
      refine mm_goto 103 dX7_writeField_95 (by decide) ?_
      refine mm_fewer [some (.ref a), none, none, none, none] (few_ok (bs := [true, false, false, false, false]) rfl) ?_
      exact e_X7_writeField_103 hst hZ hn hs hrc hx
set_option maxHeartbeats 4000000 in
set_option maxRecDepth 100000 in
theorem e_X7_writeMessage_46 {g : mm_G} {l : Launch} (hst : l.stackTraces = false) {Z : Nat → Nat → Option Nat} (hZ : HZ Z) {n : Nat} (hn : 1186 ≤ n) {z : Bool} {d : Nat} {U : Nat} {rc : Option Nat → Option Nat → Int32 → SG → Option (SG)} {a : Nat} (hs : sh a = 7) (hrc : ∀ (y0 : Option Nat) (y1 : Option Nat) (y2 : Int32) (σ : SG) (σ' : SG), rc y0 y1 y2 σ = some σ' → mm_Cm g l yX7_writeMessage (.code yX7_writeMessage cX7_writeMessage 5 none) (d + 14) 0 0 [.ref a, va_rf y0, va_rf y1, .int y2] (mem Z σ, n, z) (fun v S' => v = none ∧ S' = (mem Z σ', n, z))) {k6 : Option Nat → SG → Option (SG)} {v2_ : Option Nat} {v3_ : Int32} {v4_ : Option Nat} {σ : SG} {σ' : SG} (hk6 : ∀ (v4_ : Option Nat) (σ8 : SG), k6 v4_ σ8 = some σ' → mm_V g l RX7 "writeMessage" cX7_writeMessage 5 none [] (d + 16) 0 0 (mm_nt (fun v S' => v = none ∧ S' = (mem Z σ', n, z))) 6 [some (.ref a), none, some (va_rf v2_), some (.int v3_), some (va_rf v4_)] [] (mem Z σ8, n, z) 0 0) (hx : x_X7_writeMessage_46 U rc a k6 v2_ v3_ v4_ σ = some σ') : mm_V g l RX7 "writeMessage" cX7_writeMessage 5 none [] (d + 16) 0 0 (mm_nt (fun v S' => v = none ∧ S' = (mem Z σ', n, z))) 46 [some (.ref a), none, some (va_rf v2_), some (.int v3_), some (va_rf v4_)] [] (mem Z σ, n, z) 0 0 := by
  unfold x_X7_writeMessage_46 at hx
  refine mm_aload dX7_writeMessage_46 rfl (isr_rf _) ?_
  obtain ⟨q10, hr11, hs12, hx⟩ := ck_some hx
  refine s_getPN (r := v4_) (b := q10) (ci := 4) (k := 1) in_X4 rfl (by decide) rfl kF_X7_208 dX7_writeMessage_48 hr11 hs12 (by decide) hn (by decide) rfl ?_
  refine mm_astore [some (.ref a), none, some (va_rf v2_), some (.int v3_), some (va_rf (sP σ q10 1))] dX7_writeMessage_51 (by decide) (isr_rf _) rfl ?_
  refine mm_goto 6 dX7_writeMessage_53 (by decide) ?_
  exact hk6 _ _ hx
set_option maxHeartbeats 4000000 in
set_option maxRecDepth 100000 in
theorem e_X7_writeMessage_L6 {g : mm_G} {l : Launch} (hst : l.stackTraces = false) {Z : Nat → Nat → Option Nat} (hZ : HZ Z) {n : Nat} (hn : 1186 ≤ n) {z : Bool} {d : Nat} {U : Nat} {rc : Option Nat → Option Nat → Int32 → SG → Option (SG)} {a : Nat} (hs : sh a = 7) (hrc : ∀ (y0 : Option Nat) (y1 : Option Nat) (y2 : Int32) (σ : SG) (σ' : SG), rc y0 y1 y2 σ = some σ' → mm_Cm g l yX7_writeMessage (.code yX7_writeMessage cX7_writeMessage 5 none) (d + 14) 0 0 [.ref a, va_rf y0, va_rf y1, .int y2] (mem Z σ, n, z) (fun v S' => v = none ∧ S' = (mem Z σ', n, z))) {v2_ : Option Nat} {v3_ : Int32} {σ' : SG} : ∀ (U1 : Nat) (v4_ : Option Nat) (σ : SG), x_X7_writeMessage_L6 U rc a v2_ v3_ U1 v4_ σ = some σ' → mm_V g l RX7 "writeMessage" cX7_writeMessage 5 none [] (d + 16) 0 0 (mm_nt (fun v S' => v = none ∧ S' = (mem Z σ', n, z))) 6 [some (.ref a), none, some (va_rf v2_), some (.int v3_), some (va_rf v4_)] [] (mem Z σ, n, z) 0 0 := by
  intro U1
  induction U1 with
  | zero => intro v4_ σ hx; exact absurd hx (by simp [x_X7_writeMessage_L6])
  | succ U1 ih =>
    intro v4_ σ hx
    rw [x_X7_writeMessage_L6] at hx
    refine mm_aload dX7_writeMessage_6 rfl (isr_rf _) ?_
    refine b_if hx (fun h4 hx => ?_) (fun h4 hx => ?_)
    · refine mm_ifnull (r := v4_) 56 dX7_writeMessage_8 (by decide) (fun _ => ?_) (fun h => absurd h4 h)
      refine mm_vret dX7_writeMessage_56 rfl ?_ (by omega) (by omega)
      obtain rfl := fin1 hx
      exact ⟨rfl, rfl⟩
    · refine mm_ifnull (r := v4_) 56 dX7_writeMessage_8 (by decide) (fun h => absurd h h4) (fun _ => ?_)
      refine mm_iload_n dX7_writeMessage_11 rfl ?_
      refine mm_bipush (v := 20) dX7_writeMessage_12 (by decide) ?_
      refine b_if hx (fun h5 hx => ?_) (fun h5 hx => ?_)
      · refine mm_icmp_gt 56 dX7_writeMessage_14 (by decide) (fun _ => ?_) (fun h => absurd h5 h)
        refine mm_vret dX7_writeMessage_56 rfl ?_ (by omega) (by omega)
        obtain rfl := fin1 hx
        exact ⟨rfl, rfl⟩
      · refine mm_icmp_gt 56 dX7_writeMessage_14 (by decide) (fun h => absurd h h5) (fun _ => ?_)
        refine mm_aload dX7_writeMessage_17 rfl (isr_rf _) ?_
        obtain ⟨q6, hr7, hs8, hx⟩ := ck_some hx
        refine s_getPN (r := v4_) (b := q6) (ci := 4) (k := 0) in_X4 rfl (by decide) rfl kF_X7_198 dX7_writeMessage_19 hr7 hs8 (by decide) hn (by decide) rfl ?_
        refine b_if hx (fun h9 hx => ?_) (fun h9 hx => ?_)
        · refine mm_ifnull (r := sP σ q6 0) 46 dX7_writeMessage_22 (by decide) (fun _ => ?_) (fun h => absurd h9 h)
          exact e_X7_writeMessage_46 hst hZ hn hs hrc ih hx
        · refine mm_ifnull (r := sP σ q6 0) 46 dX7_writeMessage_22 (by decide) (fun h => absurd h h9) (fun _ => ?_)
          refine mm_aload dX7_writeMessage_25 rfl (isr_rf _) ?_
          obtain ⟨v14, hc13, hx⟩ := b1_some hx
          refine mm_callV3 (a := q6) (ci := 4) wM_X4_isNothing kM_X7_201 wI_X4_isNothing wS_X4_isNothing dX7_writeMessage_27 (e_X4_isNothing hst hZ hn hs8 hc13) (mem_obj hs8 (by decide)) (sh_ltn hs8 (by decide) hn) rfl rfl (by rw [hr7]; rfl) (Nat.le_of_ble_eq_true rfl) (by omega) (by omega) (fun v9 S9 hq => ?_)
          obtain ⟨rfl, rfl⟩ := hq
          refine ⟨fun h => ⟨h, rfl⟩, ?_⟩
          refine b_if hx (fun h15 hx => ?_) (fun h15 hx => ?_)
          · refine mm_if_ne 46 dX7_writeMessage_30 (by decide) (fun h => absurd h15 h) (fun _ => ?_)
            refine mm_aload_n dX7_writeMessage_33 rfl rfl ?_
            refine mm_aload dX7_writeMessage_34 rfl (isr_rf _) ?_
            refine mm_aload dX7_writeMessage_36 rfl (isr_rf _) ?_
            refine s_getPN (r := v4_) (b := q6) (ci := 4) (k := 0) in_X4 rfl (by decide) rfl kF_X7_198 dX7_writeMessage_38 hr7 hs8 (by decide) hn (by decide) rfl ?_
            refine mm_aload_n dX7_writeMessage_41 rfl (isr_rf _) ?_
            refine mm_iload_n dX7_writeMessage_42 rfl ?_
            obtain ⟨σ17, hc16, hx⟩ := b1_some hx
            refine mm_callV3 (a := a) (ci := 7) wM_X7_writeField kM_X7_204 wI_X7_writeField wS_X7_writeField dX7_writeMessage_43 (e_X7_writeField hst hZ hn hs hrc hc16) (mem_obj hs (by decide)) (sh_ltn hs (by decide) hn) rfl rfl rfl (Nat.le_of_ble_eq_true rfl) (by omega) (by omega) (fun v9 S9 hq => ?_)
            obtain ⟨rfl, rfl⟩ := hq
            refine ⟨fun h => ⟨h, rfl⟩, ?_⟩
            exact e_X7_writeMessage_46 hst hZ hn hs hrc ih hx
          · refine mm_if_ne 46 dX7_writeMessage_30 (by decide) (fun _ => ?_) (fun h => absurd h h15)
            exact e_X7_writeMessage_46 hst hZ hn hs hrc ih hx
set_option maxHeartbeats 4000000 in
set_option maxRecDepth 100000 in
theorem e_X7_writeMessage_b {g : mm_G} {l : Launch} (hst : l.stackTraces = false) {Z : Nat → Nat → Option Nat} (hZ : HZ Z) {n : Nat} (hn : 1186 ≤ n) {z : Bool} {d : Nat} {U : Nat} {rc : Option Nat → Option Nat → Int32 → SG → Option (SG)} {a : Nat} (hs : sh a = 7) (hrc : ∀ (y0 : Option Nat) (y1 : Option Nat) (y2 : Int32) (σ : SG) (σ' : SG), rc y0 y1 y2 σ = some σ' → mm_Cm g l yX7_writeMessage (.code yX7_writeMessage cX7_writeMessage 5 none) (d + 14) 0 0 [.ref a, va_rf y0, va_rf y1, .int y2] (mem Z σ, n, z) (fun v S' => v = none ∧ S' = (mem Z σ', n, z))) {p0 : Option Nat} {p1 : Option Nat} {p2 : Int32} {σ : SG} {σ' : SG} (hx : x_X7_writeMessage_b U rc a p0 p1 p2 σ = some σ') : mm_Cm g l yX7_writeMessage (.code yX7_writeMessage cX7_writeMessage 5 none) (d + 16) 0 0 [.ref a, va_rf p0, va_rf p1, .int p2] (mem Z σ, n, z) (fun v S' => v = none ∧ S' = (mem Z σ', n, z)) := by
  refine mm_Cm_of hst (by decide) (by cases p0 <;> cases p1 <;>  exact Nat.le_of_ble_eq_true rfl) ?_
  rw [show mm_ent [.ref a, va_rf p0, va_rf p1, .int p2] 5 = [some (.ref a), some (va_rf p0), some (va_rf p1), some (.int p2), none] from by cases p0 <;> cases p1 <;>  rfl]
  show mm_V g l RX7 "writeMessage" cX7_writeMessage 5 none [] (d + 16) 0 0 (mm_nt (fun v S' => v = none ∧ S' = (mem Z σ', n, z))) 0 [some (.ref a), some (va_rf p0), some (va_rf p1), some (.int p2), none] [] (mem Z σ, n, z) 0 0
  unfold x_X7_writeMessage_b at hx
  refine mm_aload_n dX7_writeMessage_0 rfl (isr_rf _) ?_
  obtain ⟨q1, hr2, hs3, hx⟩ := ck_some hx
  refine s_getPN (r := p0) (b := q1) (ci := 4) (k := 2) in_X4 rfl (by decide) rfl kF_X7_195 dX7_writeMessage_1 hr2 hs3 (by decide) hn (by decide) rfl ?_
  refine mm_astore [some (.ref a), some (va_rf p0), some (va_rf p1), some (.int p2), some (va_rf (sP σ q1 2))] dX7_writeMessage_4 (by decide) (isr_rf _) rfl ?_
  refine mm_fewer [some (.ref a), none, some (va_rf p1), some (.int p2), some (va_rf (sP σ q1 2))] (few_ok (bs := [true, false, true, true, true]) rfl) ?_
  refine e_X7_writeMessage_L6 hst hZ hn hs hrc _ _ _ hx
set_option maxHeartbeats 4000000 in
set_option maxRecDepth 100000 in
theorem e_X7_writeMessage_D {g : mm_G} {l : Launch} (hst : l.stackTraces = false) {Z : Nat → Nat → Option Nat} (hZ : HZ Z) {n : Nat} (hn : 1186 ≤ n) {z : Bool} {d : Nat} {U : Nat} {a : Nat} (hs : sh a = 7) : ∀ (D : Nat) (p0 : Option Nat) (p1 : Option Nat) (p2 : Int32) (σ : SG) (σ' : SG), x_X7_writeMessage U a D p0 p1 p2 σ = some σ' → mm_Cm g l yX7_writeMessage (.code yX7_writeMessage cX7_writeMessage 5 none) (d + 2 * D + 14) 0 0 [.ref a, va_rf p0, va_rf p1, .int p2] (mem Z σ, n, z) (fun v S' => v = none ∧ S' = (mem Z σ', n, z)) := by
  intro D
  induction D with
  | zero => intro p0 p1 p2 σ σ' hx; exact absurd hx (by simp [x_X7_writeMessage])
  | succ D ih =>
    intro p0 p1 p2 σ σ' hx
    rw [x_X7_writeMessage] at hx
    have h := e_X7_writeMessage_b (d := d + 2 * D) hst hZ hn hs (fun y0 y1 y2 y3 y4 hx => ih y0 y1 y2 y3 y4 hx) hx
    rw [show d + 2 * (D + 1) + 14 = d + 2 * D + 16 by omega]
    exact h
set_option maxHeartbeats 4000000 in
set_option maxRecDepth 100000 in
theorem e_X7_writeMessage {g : mm_G} {l : Launch} (hst : l.stackTraces = false) {Z : Nat → Nat → Option Nat} (hZ : HZ Z) {n : Nat} (hn : 1186 ≤ n) {z : Bool} {d : Nat} {U : Nat} {a : Nat} (hs : sh a = 7) {p0 : Option Nat} {p1 : Option Nat} {p2 : Int32} {σ : SG} {σ' : SG} (hx : x_X7_writeMessage U a 24 p0 p1 p2 σ = some σ') : mm_Cm g l yX7_writeMessage (.code yX7_writeMessage cX7_writeMessage 5 none) (d + 62) 0 0 [.ref a, va_rf p0, va_rf p1, .int p2] (mem Z σ, n, z) (fun v S' => v = none ∧ S' = (mem Z σ', n, z)) := e_X7_writeMessage_D (d := d) hst hZ hn hs 24 _ _ _ _ _ hx
set_option maxHeartbeats 4000000 in
set_option maxRecDepth 100000 in
theorem e_X7_write {g : mm_G} {l : Launch} (hst : l.stackTraces = false) {Z : Nat → Nat → Option Nat} (hZ : HZ Z) {n : Nat} (hn : 1186 ≤ n) {z : Bool} {d : Nat} {U : Nat} {a : Nat} (hs : sh a = 7) {σ : SG} {σ' : SG} (hx : x_X7_write U a σ = some σ') : mm_Cm g l yX7_write (.code yX7_write cX7_write 1 none) (d + 63) 0 0 [.ref a] (mem Z σ, n, z) (fun v S' => v = none ∧ S' = (mem Z σ', n, z)) := by
  refine mm_Cm_of hst (by decide) (Nat.le_of_ble_eq_true rfl) ?_
  show mm_V g l RX7 "write" cX7_write 1 none [] (d + 63) 0 0 (mm_nt (fun v S' => v = none ∧ S' = (mem Z σ', n, z))) 0 [some (.ref a)] [] (mem Z σ, n, z) 0 0
  unfold x_X7_write at hx
  refine mm_aload_n dX7_write_0 rfl rfl ?_
  refine s_getS (q := 389) (r := some a) (b := a) (ci := 7) (k := 1) in_X7 rfl (by decide) rfl kF_X7_15 dX7_write_1 rfl hs (by decide) hn (by decide) rfl rfl ?_
  refine s_getPN (r := some 389) (b := 389) (ci := 8) (k := 4) in_X8 rfl (by decide) rfl kF_X7_72 dX7_write_4 rfl sa_389 (by decide) hn (by decide) rfl ?_
  refine b_if hx (fun h1 hx => ?_) (fun h1 hx => ?_)
  · refine mm_ifnull (r := sP σ 389 4) 32 dX7_write_7 (by decide) (fun _ => ?_) (fun h => absurd h1 h)
    refine mm_vret dX7_write_32 rfl ?_ (by omega) (by omega)
    obtain rfl := fin1 hx
    exact ⟨rfl, rfl⟩
  · refine mm_ifnull (r := sP σ 389 4) 32 dX7_write_7 (by decide) (fun h => absurd h h1) (fun _ => ?_)
    refine mm_aload_n dX7_write_10 rfl rfl ?_
    refine mm_aload_n dX7_write_11 rfl rfl ?_
    refine s_getS (q := 389) (r := some a) (b := a) (ci := 7) (k := 1) in_X7 rfl (by decide) rfl kF_X7_15 dX7_write_12 rfl hs (by decide) hn (by decide) rfl rfl ?_
    refine s_getSN (q := 1091) (r := some 389) (b := 389) (ci := 8) (k := 1) in_X8 rfl (by decide) rfl kF_X7_33 dX7_write_15 rfl sa_389 (by decide) hn (by decide) rfl rfl ?_
    refine mm_aload_n dX7_write_18 rfl rfl ?_
    refine s_getS (q := 389) (r := some a) (b := a) (ci := 7) (k := 1) in_X7 rfl (by decide) rfl kF_X7_15 dX7_write_19 rfl hs (by decide) hn (by decide) rfl rfl ?_
    refine s_getPN (r := some 389) (b := 389) (ci := 8) (k := 4) in_X8 rfl (by decide) rfl kF_X7_72 dX7_write_22 rfl sa_389 (by decide) hn (by decide) rfl ?_
    obtain ⟨q2, hr3, hs4, hx⟩ := ck_some hx
    obtain ⟨v6, hc5, hx⟩ := b1_some hx
    refine mm_callV3 (a := q2) (ci := 6) wM_X6_text kM_X7_187 wI_X6_text wS_X6_text dX7_write_25 (e_X6_text hst hZ hn hs4 hc5) (mem_obj hs4 (by decide)) (sh_ltn hs4 (by decide) hn) rfl rfl (by rw [hr3]; rfl) (Nat.le_of_ble_eq_true rfl) (by omega) (by omega) (fun v9 S9 hq => ?_)
    obtain ⟨rfl, rfl⟩ := hq
    refine ⟨fun h => ⟨h, rfl⟩, ?_⟩
    refine mm_iconst (v := 1) dX7_write_28 (by decide) ?_
    obtain ⟨σ8, hc7, hx⟩ := b1_some hx
    refine mm_callV3 (a := a) (ci := 7) wM_X7_writeMessage kM_X7_191 wI_X7_writeMessage wS_X7_writeMessage dX7_write_29 (e_X7_writeMessage hst hZ hn hs hc7) (mem_obj hs (by decide)) (sh_ltn hs (by decide) hn) rfl rfl rfl (Nat.le_of_ble_eq_true rfl) (by omega) (by omega) (fun v9 S9 hq => ?_)
    obtain ⟨rfl, rfl⟩ := hq
    refine ⟨fun h => ⟨h, rfl⟩, ?_⟩
    refine mm_vret dX7_write_32 rfl ?_ (by omega) (by omega)
    obtain rfl := fin1 hx
    exact ⟨rfl, rfl⟩
set_option maxHeartbeats 4000000 in
set_option maxRecDepth 100000 in
theorem e_X11_print {g : mm_G} {l : Launch} (hst : l.stackTraces = false) {Z : Nat → Nat → Option Nat} (hZ : HZ Z) {n : Nat} (hn : 1186 ≤ n) {d : Nat} {U : Nat} {a : Nat} (hs : sh a = 11) {σ : SG} {r : mm_R} {σ' : SG} (hx : x_X11_print U a σ = some (r, σ')) : mm_Ct g l yX11_print (.code yX11_print cX11_print 1 (some .int)) (d + 64) 1 6 [.ref a] (mem Z σ, n, true) (fun r9 S' => r9 = r ∧ S' = (mem Z σ', n, true)) := by
  refine mm_Ct_of hst (by decide) (Nat.le_of_ble_eq_true rfl) ?_
  show mm_V g l RX11 "print" cX11_print 1 (some .int) [] (d + 64) 1 6 (fun r9 S' => r9 = r ∧ S' = (mem Z σ', n, true)) 0 [some (.ref a)] [] (mem Z σ, n, true) 0 0
  unfold x_X11_print at hx
  refine mm_aload_n dX11_print_0 rfl rfl ?_
  refine s_getS (q := 3) (r := some a) (b := a) (ci := 11) (k := 1) in_X11 rfl (by decide) rfl kF_X11_18 dX11_print_1 rfl hs (by decide) hn (by decide) rfl rfl ?_
  obtain ⟨σ2, hc1, hx⟩ := b1_some hx
  refine mm_callV3 (a := 3) (ci := 0) wM_X0_clear kM_X11_99 wI_X0_clear wS_X0_clear dX11_print_4 (e_X0_clear hst hZ hn sa_3 hc1) (mem_obj sa_3 (by decide)) (sh_ltn sa_3 (by decide) hn) rfl rfl rfl (Nat.le_of_ble_eq_true rfl) (by omega) (by omega) (fun v9 S9 hq => ?_)
  obtain ⟨rfl, rfl⟩ := hq
  refine ⟨fun h => ⟨h, rfl⟩, ?_⟩
  refine mm_aload_n dX11_print_7 rfl rfl ?_
  refine s_getS (q := 389) (r := some a) (b := a) (ci := 11) (k := 4) in_X11 rfl (by decide) rfl kF_X11_34 dX11_print_8 rfl hs (by decide) hn (by decide) rfl rfl ?_
  obtain ⟨v4, hc3, hx⟩ := b1_some hx
  refine mm_callV3 (a := 389) (ci := 8) wM_X8_isThere kM_X11_175 wI_X8_isThere wS_X8_isThere dX11_print_11 (e_X8_isThere hst hZ hn sa_389 hc3) (mem_obj sa_389 (by decide)) (sh_ltn sa_389 (by decide) hn) rfl rfl rfl (Nat.le_of_ble_eq_true rfl) (by omega) (by omega) (fun v9 S9 hq => ?_)
  obtain ⟨rfl, rfl⟩ := hq
  refine ⟨fun h => ⟨h, rfl⟩, ?_⟩
  refine b_if hx (fun h5 hx => ?_) (fun h5 hx => ?_)
  · refine mm_if_ne 27 dX11_print_14 (by decide) (fun h => absurd h5 h) (fun _ => ?_)
    refine mm_throw (k := 13) (text := "there is no value") (by decide) kC_X11_78 wj_IllegalStateException rfl at_82 rfl dX11_print_17 dX11_print_20 dX11_print_21 dX11_print_23 dX11_print_26 (Nat.le_of_ble_eq_true rfl) (by omega) (by omega) ?_
    obtain ⟨rfl, rfl⟩ := fin2 hx
    exact ⟨rfl, rfl⟩
  · refine mm_if_ne 27 dX11_print_14 (by decide) (fun _ => ?_) (fun h => absurd h h5)
    refine mm_aload_n dX11_print_27 rfl rfl ?_
    refine s_getS (q := 1095) (r := some a) (b := a) (ci := 11) (k := 6) in_X11 rfl (by decide) rfl kF_X11_50 dX11_print_28 rfl hs (by decide) hn (by decide) rfl rfl ?_
    obtain ⟨σ7, hc6, hx⟩ := b1_some hx
    refine mm_callV3 (a := 1095) (ci := 7) wM_X7_write kM_X11_184 wI_X7_write wS_X7_write dX11_print_31 (e_X7_write hst hZ hn sa_1095 hc6) (mem_obj sa_1095 (by decide)) (sh_ltn sa_1095 (by decide) hn) rfl rfl rfl (Nat.le_of_ble_eq_true rfl) (by omega) (by omega) (fun v9 S9 hq => ?_)
    obtain ⟨rfl, rfl⟩ := hq
    refine ⟨fun h => ⟨h, rfl⟩, ?_⟩
    refine mm_aload_n dX11_print_34 rfl rfl ?_
    refine s_getS (q := 3) (r := some a) (b := a) (ci := 11) (k := 1) in_X11 rfl (by decide) rfl kF_X11_18 dX11_print_35 rfl hs (by decide) hn (by decide) rfl rfl ?_
    obtain ⟨v9, hc8, hx⟩ := b1_some hx
    refine mm_callV3 (a := 3) (ci := 0) wM_X0_isSpilt kM_X11_185 wI_X0_isSpilt wS_X0_isSpilt dX11_print_38 (e_X0_isSpilt hst hZ hn sa_3 hc8) (mem_obj sa_3 (by decide)) (sh_ltn sa_3 (by decide) hn) rfl rfl rfl (Nat.le_of_ble_eq_true rfl) (by omega) (by omega) (fun v9 S9 hq => ?_)
    obtain ⟨rfl, rfl⟩ := hq
    refine ⟨fun h => ⟨h, rfl⟩, ?_⟩
    refine b_if hx (fun h10 hx => ?_) (fun h10 hx => ?_)
    · refine mm_if_eq 61 dX11_print_41 (by decide) (fun _ => ?_) (fun h => absurd h10 h)
      refine mm_aload_n dX11_print_61 rfl rfl ?_
      refine s_getS (q := 3) (r := some a) (b := a) (ci := 11) (k := 1) in_X11 rfl (by decide) rfl kF_X11_18 dX11_print_62 rfl hs (by decide) hn (by decide) rfl rfl ?_
      obtain ⟨v12, hc11, hx⟩ := b1_some hx
      refine mm_callV3 (a := 3) (ci := 0) wM_X0_size kM_X11_74 wI_X0_size wS_X0_size dX11_print_65 (e_X0_size hst hZ hn sa_3 hc11) (mem_obj sa_3 (by decide)) (sh_ltn sa_3 (by decide) hn) rfl rfl rfl (Nat.le_of_ble_eq_true rfl) (by omega) (by omega) (fun v9 S9 hq => ?_)
      obtain ⟨rfl, rfl⟩ := hq
      refine ⟨fun h => ⟨h, rfl⟩, ?_⟩
      refine mm_iret dX11_print_68 rfl rfl ?_ (by omega) (by omega)
      obtain ⟨rfl, rfl⟩ := fin2 hx
      exact ⟨rfl, rfl⟩
    · refine mm_if_eq 61 dX11_print_41 (by decide) (fun h => absurd h h10) (fun _ => ?_)
      refine mm_aload_n dX11_print_44 rfl rfl ?_
      refine s_getS (q := 3) (r := some a) (b := a) (ci := 11) (k := 1) in_X11 rfl (by decide) rfl kF_X11_18 dX11_print_45 rfl hs (by decide) hn (by decide) rfl rfl ?_
      obtain ⟨σ14, hc13, hx⟩ := b1_some hx
      refine mm_callV3 (a := 3) (ci := 0) wM_X0_clear kM_X11_99 wI_X0_clear wS_X0_clear dX11_print_48 (e_X0_clear hst hZ hn sa_3 hc13) (mem_obj sa_3 (by decide)) (sh_ltn sa_3 (by decide) hn) rfl rfl rfl (Nat.le_of_ble_eq_true rfl) (by omega) (by omega) (fun v9 S9 hq => ?_)
      obtain ⟨rfl, rfl⟩ := hq
      refine ⟨fun h => ⟨h, rfl⟩, ?_⟩
      refine mm_throw (k := 20) (text := "the text is too long") (by decide) kC_X11_188 wj_UnsupportedOperationException rfl at_192 rfl dX11_print_51 dX11_print_54 dX11_print_55 dX11_print_57 dX11_print_60 (Nat.le_of_ble_eq_true rfl) (by omega) (by omega) ?_
      obtain ⟨rfl, rfl⟩ := fin2 hx
      exact ⟨rfl, rfl⟩
set_option maxHeartbeats 4000000 in
set_option maxRecDepth 100000 in
theorem e_X11_turn {g : mm_G} {l : Launch} (hst : l.stackTraces = false) {Z : Nat → Nat → Option Nat} (hZ : HZ Z) {n : Nat} (hn : 1186 ≤ n) {d : Nat} {U : Nat} {a : Nat} (hs : sh a = 11) {σ : SG} {r : mm_R} {σ' : SG} (hx : x_X11_turn U a σ = some (r, σ')) : mm_Ct g l yX11_turn (.code yX11_turn cX11_turn 1 (some .int)) (d + 2) 1 6 [.ref a] (mem Z σ, n, true) (fun r9 S' => r9 = r ∧ S' = (mem Z σ', n, true)) := by
  refine mm_Ct_of hst (by decide) (Nat.le_of_ble_eq_true rfl) ?_
  show mm_V g l RX11 "turn" cX11_turn 1 (some .int) [] (d + 2) 1 6 (fun r9 S' => r9 = r ∧ S' = (mem Z σ', n, true)) 0 [some (.ref a)] [] (mem Z σ, n, true) 0 0
  unfold x_X11_turn at hx
  refine mm_aload_n dX11_turn_0 rfl rfl ?_
  refine s_getS (q := 3) (r := some a) (b := a) (ci := 11) (k := 1) in_X11 rfl (by decide) rfl kF_X11_18 dX11_turn_1 rfl hs (by decide) hn (by decide) rfl rfl ?_
  obtain ⟨v2, hc1, hx⟩ := b1_some hx
  refine mm_callV3 (a := 3) (ci := 0) wM_X0_size kM_X11_74 wI_X0_size wS_X0_size dX11_turn_4 (e_X0_size hst hZ hn sa_3 hc1) (mem_obj sa_3 (by decide)) (sh_ltn sa_3 (by decide) hn) rfl rfl rfl (Nat.le_of_ble_eq_true rfl) (by omega) (by omega) (fun v9 S9 hq => ?_)
  obtain ⟨rfl, rfl⟩ := hq
  refine ⟨fun h => ⟨h, rfl⟩, ?_⟩
  refine mm_sipush (v := 700) dX11_turn_7 (by decide) ?_
  refine b_if hx (fun h3 hx => ?_) (fun h3 hx => ?_)
  · refine mm_icmp_le 23 dX11_turn_10 (by decide) (fun h => absurd h (Int32.not_le.mpr h3)) (fun _ => ?_)
    refine mm_throw (k := 23) (text := "too long for the tape") (by decide) kC_X11_78 wj_IllegalStateException rfl at_82 rfl dX11_turn_13 dX11_turn_16 dX11_turn_17 dX11_turn_19 dX11_turn_22 (Nat.le_of_ble_eq_true rfl) (by omega) (by omega) ?_
    obtain ⟨rfl, rfl⟩ := fin2 hx
    exact ⟨rfl, rfl⟩
  · refine mm_icmp_le 23 dX11_turn_10 (by decide) (fun _ => ?_) (fun h => absurd (Int32.not_lt.mp h3) h)
    refine mm_aload_n dX11_turn_23 rfl rfl ?_
    refine s_getS (q := 1) (r := some a) (b := a) (ci := 11) (k := 0) in_X11 rfl (by decide) rfl kF_X11_14 dX11_turn_24 rfl hs (by decide) hn (by decide) rfl rfl ?_
    obtain ⟨σ5, hc4, hx⟩ := b1_some hx
    refine mm_callV3 (a := 1) (ci := 0) wM_X0_clear kM_X11_99 wI_X0_clear wS_X0_clear dX11_turn_27 (e_X0_clear hst hZ hn sa_1 hc4) (mem_obj sa_1 (by decide)) (sh_ltn sa_1 (by decide) hn) rfl rfl rfl (Nat.le_of_ble_eq_true rfl) (by omega) (by omega) (fun v9 S9 hq => ?_)
    obtain ⟨rfl, rfl⟩ := hq
    refine ⟨fun h => ⟨h, rfl⟩, ?_⟩
    refine mm_aload_n dX11_turn_30 rfl rfl ?_
    refine s_getS (q := 1) (r := some a) (b := a) (ci := 11) (k := 0) in_X11 rfl (by decide) rfl kF_X11_14 dX11_turn_31 rfl hs (by decide) hn (by decide) rfl rfl ?_
    refine mm_aload_n dX11_turn_34 rfl rfl ?_
    refine s_getS (q := 3) (r := some a) (b := a) (ci := 11) (k := 1) in_X11 rfl (by decide) rfl kF_X11_18 dX11_turn_35 rfl hs (by decide) hn (by decide) rfl rfl ?_
    refine mm_iconst (v := 0) dX11_turn_38 (by decide) ?_
    refine mm_aload_n dX11_turn_39 rfl rfl ?_
    refine s_getS (q := 3) (r := some a) (b := a) (ci := 11) (k := 1) in_X11 rfl (by decide) rfl kF_X11_18 dX11_turn_40 rfl hs (by decide) hn (by decide) rfl rfl ?_
    obtain ⟨v7, hc6, hx⟩ := b1_some hx
    refine mm_callV3 (a := 3) (ci := 0) wM_X0_size kM_X11_74 wI_X0_size wS_X0_size dX11_turn_43 (e_X0_size hst hZ hn sa_3 hc6) (mem_obj sa_3 (by decide)) (sh_ltn sa_3 (by decide) hn) rfl rfl rfl (Nat.le_of_ble_eq_true rfl) (by omega) (by omega) (fun v9 S9 hq => ?_)
    obtain ⟨rfl, rfl⟩ := hq
    refine ⟨fun h => ⟨h, rfl⟩, ?_⟩
    obtain ⟨σ9, hc8, hx⟩ := b1_some hx
    refine mm_callV3 (a := 1) (ci := 0) wM_X0_addAll kM_X11_218 wI_X0_addAll wS_X0_addAll dX11_turn_46 (e_X0_addAll hst hZ hn sa_1 hc8) (mem_obj sa_1 (by decide)) (sh_ltn sa_1 (by decide) hn) rfl rfl rfl (Nat.le_of_ble_eq_true rfl) (by omega) (by omega) (fun v9 S9 hq => ?_)
    obtain ⟨rfl, rfl⟩ := hq
    refine ⟨fun h => ⟨h, rfl⟩, ?_⟩
    refine mm_aload_n dX11_turn_49 rfl rfl ?_
    refine s_getS (q := 1) (r := some a) (b := a) (ci := 11) (k := 0) in_X11 rfl (by decide) rfl kF_X11_14 dX11_turn_50 rfl hs (by decide) hn (by decide) rfl rfl ?_
    obtain ⟨v11, hc10, hx⟩ := b1_some hx
    refine mm_callV3 (a := 1) (ci := 0) wM_X0_size kM_X11_74 wI_X0_size wS_X0_size dX11_turn_53 (e_X0_size hst hZ hn sa_1 hc10) (mem_obj sa_1 (by decide)) (sh_ltn sa_1 (by decide) hn) rfl rfl rfl (Nat.le_of_ble_eq_true rfl) (by omega) (by omega) (fun v9 S9 hq => ?_)
    obtain ⟨rfl, rfl⟩ := hq
    refine ⟨fun h => ⟨h, rfl⟩, ?_⟩
    refine mm_iret dX11_turn_56 rfl rfl ?_ (by omega) (by omega)
    obtain ⟨rfl, rfl⟩ := fin2 hx
    exact ⟨rfl, rfl⟩
